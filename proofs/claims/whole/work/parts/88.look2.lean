/-! PURE: what is looked at: word, order, told; the text -/
def wl : List Int32 := [109, 105, 115, 115, 105, 110, 103, 0, 115, 104, 97, 114, 101, 100, 0, 0, 97, 108, 111, 110, 101, 0, 0, 0, 99, 104, 97, 110, 103, 101, 100, 0, 98, 117, 102, 102, 101, 114, 101, 100]
/-- the letters of the words -/
def Wl (y : sw_St) : Prop := ∀ j, j < 40 → y 20 j = wl.getD j 0
theorem ge0 {v : Int32} (h : -1 ≤ v) (h1 : v ≠ -1) : ¬ v < 0 := by
  intro q
  have q1 := Int32.lt_iff_toInt_lt.mp q
  have q2 := Int32.le_iff_toInt_le.mp h
  have q3 : v.toInt ≠ (-1 : Int32).toInt := fun z => h1 (Int32.toInt_inj.mp z)
  have e1 : (-1 : Int32).toInt = -1 := by decide
  have e2 : (0 : Int32).toInt = 0 := by decide
  omega
theorem w_end {y : sw_St} {k w n : Nat} (hw : Wl y) (h1 : sw_isS k = true) (h2 : sw_sn k = n) (hn : n ≤ 8) (hw5 : w < 5) (h3 : ∀ i, i < n → sw_sc k (nI i) = wl.getD (8 * w + i) 0) {v : Int32} (hv : -1 ≤ v) : Eqv (sw_ck (sw_isS k) (if v = (-1) then (some (sw_sl k)) else (if v < (sw_sl k) then (sw_ck (sw_in v (sw_sn k)) (some (sw_sc k v))) else (some (-4))))) (f_X7_word__93 y v (nI w) (nI n)) := by
  unfold f_X7_word__93 sw_sl
  rw [ck_t h1, h2]
  by_cases v1 : v = -1
  · subst v1
    rw [if_pos rfl, if_neg (show ¬ (0 : Int32) ≤ -1 by decide)]
    exact ⟨_, rfl, rfl⟩
  · obtain ⟨i, hi, rfl⟩ := nI_of (ge0 hv v1)
    rw [if_neg v1, if_pos (nI_pos' hi)]
    by_cases q : i < n
    · rw [if_pos (nI_lt q (by omega)), if_neg (nI_ge q (by omega)), show (8 : Int32) = nI 8 from rfl, pn_mul, nI_add]
      simp (disch := omega) only [ck_tt, pn_in, pn_ix]
      rw [h3 i q, hw _ (by omega)]
      exact ⟨_, rfl, rfl⟩
    · rw [if_neg (nI_nlt (by omega) (by omega)), if_pos (nI_le (by omega) (by omega))]
      exact ⟨_, rfl, rfl⟩
theorem e_word {b : Nat} {s : Sx} {x y : sw_St} (h : RX s x) (hm : RM s y) (hI : Inv b s) (hWl : Wl y) (a l v : Int32) : Eqv (f_X6_word x a l v) (f_X7_word_ y a l v) := by
  obtain ⟨hC, hC2, hC4⟩ := hI.1.1
  unfold f_X6_word f_X7_word_
  rw [x_core h hC hC2 hC4, m_isCore hm hC hC2 hC4, x_line, m_isLine]
  simp only [bd_s]
  by_cases hc : okC s a
  · by_cases hl : okL l
    · by_cases hv : -1 ≤ v
      · simp only [if_pos hc, if_pos hl, if_pos hv, if_neg n10]
        obtain ⟨c, hcC, rfl⟩ := okC_ex hC hC4 hc
        obtain ⟨l, hl8, rfl⟩ := okL_ex hl
        have hc4 : c < 4 := by omega
        have hcx := h.2.2.1 c hc4
        have hrow := hm.2.2.1 c hc4
        have hbm := hm.2.2.2.1 c hc4
        unfold f_X0_nameOf f_X7_word__46 f_X7_word__52 f_X7_word__65
        simp (disch := omega) only [ck_tt, pn_in, pn_ix]
        rw [show 8 + 9 * c + 1 + 1 = 10 + 9 * c by omega, hcx.1 l hl8, m_howOf _ hc4 hrow, bd_s]
        have h123 := hw_123 (l := nI l) hI hc4
        unfold hw at h123
        rcases h123 with q | q | q | q
        · rw [q, if_neg (show ¬ (0 : Int32) = 1 by decide), if_neg (show ¬ (0 : Int32) = 2 by decide), if_neg (show ¬ (0 : Int32) = 3 by decide), if_pos (show (0 : Int32) = 0 from rfl)]
          rcases x_backOf (q := 8 + 9 * c) (nI l) hc4 rfl (fun i hi => h.2.2.2.2.1 c i hc4 hi) (buf_sl hI hc4) with ⟨e, he, i, hi, z1, z2, ef⟩ | ⟨hno, ef⟩
          · have hx : ∃ k, ixf (gBuf s c) 0 (nI l) = some k := by
              cases hx : ixf (gBuf s c) 0 (nI l) with
              | none => exact absurd z1 (ixf_none hx e he)
              | some k => exact ⟨k, rfl⟩
            obtain ⟨k, hk⟩ := hx
            have hkl := (ixf_some hk).choose_spec.2.2
            have hb2 := hbm.2.1
            rw [ef, m_ba1 hc4 hbm hk]
            simp only [bd_s]
            rw [if_neg (show ¬ 15 + 9 * c + i = 0 by omega), if_neg (show ¬ nI (2 * c + k) = -4 from pn_neg (by omega))]
            simp only [bd_s]
            rw [if_neg (show ¬ (4 : Int32) = 0 by decide), if_neg (show ¬ (4 : Int32) = 3 by decide), if_neg (show ¬ (4 : Int32) = 1 by decide), if_neg (show ¬ (4 : Int32) = 2 by decide)]
            exact w_end (w := 4) (n := 8) hWl (by decide) (by decide) (by decide) (by decide) (by decide) hv
          · have hx : ixf (gBuf s c) 0 (nI l) = none := by
              cases hx : ixf (gBuf s c) 0 (nI l) with
              | none => rfl
              | some k =>
                obtain ⟨e, g1, g2, g3⟩ := ixf_some hx
                exact absurd g2 (hno e (List.mem_of_getElem? g1))
            rw [ef, m_ba0 hc4 hbm hx]
            simp only [bd_s, if_true]
            exact w_end (w := 0) (n := 7) hWl (by decide) (by decide) (by decide) (by decide) (by decide) hv
        · rw [q, if_pos (show (1 : Int32) = 1 from rfl)]
          simp only [bd_s]
          rw [if_neg (show ¬ (1 : Int32) = 0 by decide), if_neg (show ¬ (1 : Int32) = 0 by decide), if_neg (show ¬ (1 : Int32) = 3 by decide), if_pos trivial]
          exact w_end (w := 1) (n := 6) hWl (by decide) (by decide) (by decide) (by decide) (by decide) hv
        · rw [q, if_neg (show ¬ (2 : Int32) = 1 by decide), if_pos (show (2 : Int32) = 2 from rfl)]
          simp only [bd_s]
          rw [if_neg (show ¬ (2 : Int32) = 0 by decide), if_neg (show ¬ (2 : Int32) = 0 by decide), if_neg (show ¬ (2 : Int32) = 3 by decide), if_neg (show ¬ (2 : Int32) = 1 by decide), if_pos trivial]
          exact w_end (w := 2) (n := 5) hWl (by decide) (by decide) (by decide) (by decide) (by decide) hv
        · rw [q, if_neg (show ¬ (3 : Int32) = 1 by decide), if_neg (show ¬ (3 : Int32) = 2 by decide), if_pos (show (3 : Int32) = 3 from rfl)]
          simp only [bd_s]
          rw [if_neg (show ¬ (3 : Int32) = 0 by decide), if_neg (show ¬ (3 : Int32) = 0 by decide), if_pos trivial]
          exact w_end (w := 3) (n := 7) hWl (by decide) (by decide) (by decide) (by decide) (by decide) hv
      · simp only [if_pos hc, if_pos hl, if_neg hv, if_neg n10]
        exact ⟨_, rfl, rfl⟩
    · simp only [if_pos hc, if_neg hl, if_neg n10, if_true]
      exact ⟨_, rfl, rfl⟩
  · simp only [if_neg hc, if_true]
    exact ⟨_, rfl, rfl⟩
-- the order
theorem x_size {s : Sx} {x : sw_St} (h : RX s x) : x 6 2 = nI (min (tN s) 16) := h.2.2.2.2.2.2.1
theorem x_nextAt {s : Sx} {x : sw_St} (h : RX s x) : x 6 3 = nI (tN s % 16) := h.2.2.2.2.2.2.2.1
theorem m_lastMany {s : Sx} {y : sw_St} {T : Nat} (h : RM s y) (hT : gSc s 6 = nI T) (hb : T < 2 ^ 30) : f_X7_lastMany y = some (nI (min T 16)) := by
  unfold f_X7_lastMany
  rw [h.1.2.2.2.2.2.2.1, hT, show (16 : Int32) = nI 16 from rfl]
  by_cases q : 16 ≤ T
  · rw [if_pos (nI_le q (by omega)), Nat.min_eq_right (by omega)]
  · rw [if_neg (nI_ge (by omega) (by omega)), Nat.min_eq_left (by omega)]
theorem pn_div4 {a : Nat} (ha : a < 2 ^ 31) : nI a / 4 = nI (a / 4) := pk_div (d := 4) ha (by omega) (by omega)
theorem e_order {b : Nat} {s : Sx} {x y : sw_St} (h : RX s x) (hm : RM s y) (hI : Inv b s) (hb : b < 2 ^ 30) (v : Int32) : Eqv (f_X6_order x v) (f_X7_order y v) := by
  obtain ⟨hT, hTb, hL⟩ := hI.1.2.2.2.1
  have hT30 : tN s < 2 ^ 30 := by omega
  have hxs := x_size h
  have hxn := x_nextAt h
  have hml := m_lastMany hm hT hT30
  have hlog := h.2.2.2.2.2.2.2.2
  have hord := hm.2.2.2.2.2.2.2.2
  generalize tN s = T at *
  have hll : f_X3_lineLength x = some (nI (4 * min T 16 - 1)) := by
    unfold f_X3_lineLength
    rw [hxs]
    by_cases z : T = 0
    · rw [z]; rfl
    · rw [if_neg (nI_ne0 (by omega) (by omega)), show (4 : Int32) = nI 4 from rfl, pn_mul, nl_1, pn_sub (by omega), Nat.mul_comm]
  have hmm : ∀ o, ((f_X7_lastMany y).bind fun r1 => (if r1 = 0 then (f_X7_order_26 y v 0) else ((f_X7_lastMany y).bind fun r2 => (f_X7_order_26 y v ((4 * r2) - 1))))) = o ↔ f_X7_order_26 y v (nI (4 * min T 16 - 1)) = o := fun o => by
    rw [hml, bd_s, bd_s]
    by_cases z : T = 0
    · rw [z]; exact Iff.rfl
    · rw [if_neg (nI_ne0 (by omega) (by omega)), mu4, nl_1, pn_sub (by omega)]
  unfold f_X6_order f_X7_order
  rw [(hmm _).mpr rfl, hll, bd_s]
  by_cases hv : -1 ≤ v
  · rw [if_pos hv, if_pos hv]
    unfold f_X7_order_26 f_X7_order_36
    by_cases v1 : v = -1
    · subst v1
      rw [if_pos rfl, if_pos (show (-1 : Int32) < 0 by decide), if_neg (show ¬ (0 : Int32) ≤ -1 by decide)]
      exact ⟨_, rfl, rfl⟩
    · have v0 := ge0 hv v1
      obtain ⟨i, hi, rfl⟩ := nI_of v0
      rw [if_neg v1, if_neg v0]
      by_cases q : i < 4 * min T 16 - 1
      · rw [if_neg (nI_ge q (by omega)), if_pos (nI_lt q (by omega))]
        unfold f_X3_letterAt
        rw [hxs, hxn, show (4 : Int32) = nI 4 from rfl, pn_rem hi (by omega) (by omega), show (3 : Int32) = nI 3 from rfl]
        by_cases z3 : i % 4 = 3
        · rw [if_pos (by rw [z3]), if_pos (by rw [z3]), bd_s]
          exact ⟨_, rfl, rfl⟩
        · have n3 : ¬ nI (i % 4) = nI 3 := fun z => z3 ((nI_eq (by omega) (by omega)).mp z)
          rw [if_neg n3, if_neg n3, pk_div hi (by omega) (by omega), show (16 : Int32) = nI 16 from rfl, nI_add, pn_sub (by omega), nI_add, pn_rem (by omega) (by omega) (by omega), show (16 + T % 16 - min T 16 + i / 4) % 16 = (T - min T 16 + i / 4) % 16 by omega, pn_mul, pn_mul, nI_add, nI_add]
          simp (disch := omega) only [ck_tt, pn_in, pn_ix, bd_s]
          have hlt : i / 4 < (gOrd s).length := by rw [hL]; omega
          have hg := getE_t hlt
          have e1 := hlog (i / 4) _ hg (i % 4) (by omega)
          have e2 := hord (i / 4) _ hg (i % 4) (by omega)
          rw [hL] at e1
          rw [Nat.zero_add] at e2
          exact eqv_of (congrArg some e1) (congrArg some e2)
      · rw [if_pos (nI_le (by omega) (by omega)), if_neg (nI_nlt (by omega) (by omega)), if_pos (nI_pos' hi)]
        exact ⟨_, rfl, rfl⟩
  · rw [if_neg hv, if_neg hv]
    exact ⟨_, rfl, rfl⟩
theorem cn_shift {P Q : Nat → Bool} : ∀ (m k k' : Nat), (∀ i, i < m → P (k + i) = Q (k' + i)) → cn P m k = cn Q m k'
  | 0, _, _, _ => rfl
  | m + 1, k, k', h => by
    have h0 := h 0 (by omega)
    rw [Nat.add_zero, Nat.add_zero] at h0
    rw [cn, cn, h0, cn_shift m (k + 1) (k' + 1) (fun i hi => by
      have := h (i + 1) (by omega)
      rw [show k + 1 + i = k + (i + 1) by omega, show k' + 1 + i = k' + (i + 1) by omega]
      exact this)]
theorem cn_app {P : Nat → Bool} : ∀ (a b k : Nat), cn P (a + b) k = cn P a k + cn P b (k + a)
  | 0, b, k => by rw [Nat.zero_add, Nat.add_zero]; show _ = 0 + _; omega
  | a + 1, b, k => by
    rw [show a + 1 + b = (a + b) + 1 by omega, cn, cn, cn_app a b (k + 1), show k + 1 + a = k + (a + 1) by omega]
    omega
theorem cn_rot {P Q : Nat → Bool} {t : Nat} (ht : t < 16) (h : ∀ i, i < 16 → P ((t + i) % 16) = Q i) : cn P 16 0 = cn Q 16 0 := by
  have e1 := cn_app (P := P) t (16 - t) 0
  have e2 := cn_app (P := Q) (16 - t) t 0
  rw [show t + (16 - t) = 16 by omega] at e1
  rw [show 16 - t + t = 16 by omega] at e2
  have e3 : cn P (16 - t) (0 + t) = cn Q (16 - t) 0 := cn_shift _ _ _ (fun i hi => by
    have := h i (by omega)
    rw [Nat.mod_eq_of_lt (by omega)] at this
    rw [Nat.zero_add, Nat.zero_add]
    exact this)
  have e4 : cn P t 0 = cn Q t (0 + (16 - t)) := cn_shift _ _ _ (fun i hi => by
    have := h (16 - t + i) (by omega)
    rw [show t + (16 - t + i) = i + 16 by omega, Nat.add_mod_right, Nat.mod_eq_of_lt (by omega)] at this
    rw [Nat.zero_add, Nat.zero_add]
    exact this)
  omega
def ft (w v : Int32) : Bool := decide (w = 42) || decide (w = v)
theorem x_fits (x : sw_St) (w v : Int32) : f_X3_fits x w v = some (if ft w v = true then 1 else 0) := by
  unfold f_X3_fits ft
  by_cases z : w = 42
  · simp [z]
  · by_cases z2 : w = v
    · simp [z2]
    · simp [z, z2]
theorem m_fits (x : sw_St) (w v : Int32) : f_X7_fits x w v = some (if ft w v = true then 1 else 0) := by
  unfold f_X7_fits ft
  by_cases z : w = 42
  · simp [z]
  · by_cases z2 : w = v
    · simp [z2]
    · simp [z, z2]
theorem x_letter (x : sw_St) (a : Int32) : f_X6_isLetter x a = some (if 32 ≤ a.toInt ∧ a.toInt ≤ 126 then 1 else 0) := by
  have e : (32 : Int32).toInt = 32 ∧ (126 : Int32).toInt = 126 := by decide
  unfold f_X6_isLetter
  rw [x_within, bd_s, ck_t (b01 _ _), e.1, e.2]
def pf (a k l u v w : Int32) : Bool := ft a u && (ft k v && ft l w)
theorem x_told {b : Nat} {s : Sx} {x : sw_St} (h : RX s x) (hI : Inv b s) (hb : b < 2 ^ 30) (a k l : Int32) : f_X3_matches x a k l = some (nI (cn (fun i => pf a k l (x 7 (i * 3)) (x 7 (i * 3 + 1)) (x 7 (i * 3 + 2))) (min (tN s) 16) 0)) := by
  obtain ⟨hT, hTb, hL⟩ := hI.1.2.2.2.1
  have hxs := x_size h
  have := lp_cnt (F := fun n c i => f_X3_matches_6 x n a k l c i) (N := min (tN s) 16) (P := fun i => pf a k l (x 7 (i * 3)) (x 7 (i * 3 + 1)) (x 7 (i * 3 + 2))) (fun n c => by
      rw [f_X3_matches_6]
      dsimp only
      rw [hxs, if_pos (nI_le (Nat.le_refl _) (by omega))]) (fun n c i hi => by
      rw [f_X3_matches_6]
      dsimp only
      rw [hxs, if_neg (nI_ge hi (by omega)), show (3 : Int32) = nI 3 from rfl, pn_mul, nI_1, ad2, nI_1, nI_1]
      simp (disch := omega) only [ck_tt, pn_in, pn_ix, x_fits, bd_s, pf]
      by_cases z1 : ft a (x 7 (i * 3)) = true <;> by_cases z2 : ft k (x 7 (i * 3 + 1)) = true <;> by_cases z3 : ft l (x 7 (i * 3 + 2)) = true <;> simp [z1, z2, z3]) sw_fuel 0 0 (Nat.zero_le _) (by unfold sw_fuel; omega)
  unfold f_X3_matches
  rw [Nat.zero_add, Nat.sub_zero] at this
  exact this
theorem m_told {b : Nat} {s : Sx} {y : sw_St} (hm : RM s y) (hI : Inv b s) (hb : b < 2 ^ 30) (a k l : Int32) : f_X7_told_50 y sw_fuel a k l 0 0 = some (nI (cn (fun i => pf a k l (y 17 (3 * i)) (y 17 (3 * i + 1)) (y 17 (3 * i + 2))) (min (tN s) 16) 0)) := by
  obtain ⟨hT, hTb, hL⟩ := hI.1.2.2.2.1
  have hxs := m_lastMany hm hT (by omega)
  have := lp_cnt (F := fun n c i => f_X7_told_50 y n a k l c i) (N := min (tN s) 16) (P := fun i => pf a k l (y 17 (3 * i)) (y 17 (3 * i + 1)) (y 17 (3 * i + 2))) (fun n c => by
      rw [f_X7_told_50]
      dsimp only
      rw [hxs, bd_s, if_pos (nI_le (Nat.le_refl _) (by omega))]) (fun n c i hi => by
      rw [f_X7_told_50]
      unfold f_X7_told_117 f_X7_told_118
      dsimp only
      rw [hxs, bd_s, if_neg (nI_ge hi (by omega)), mu3, nI_1, ad2, nI_1, nI_1, show nI c + 0 = nI c from nI_add c 0]
      simp (disch := omega) only [ck_tt, pn_in, pn_ix, m_fits, bd_s, pf]
      by_cases z1 : ft a (y 17 (3 * i)) = true <;> by_cases z2 : ft k (y 17 (3 * i + 1)) = true <;> by_cases z3 : ft l (y 17 (3 * i + 2)) = true <;> simp [z1, z2, z3]) sw_fuel 0 0 (Nat.zero_le _) (by unfold sw_fuel; omega)
  rw [Nat.zero_add, Nat.sub_zero] at this
  exact this
theorem e_told {b : Nat} {s : Sx} {x y : sw_St} (h : RX s x) (hm : RM s y) (hI : Inv b s) (hb : b < 2 ^ 30) (a k l : Int32) : Eqv (f_X6_told x a k l) (f_X7_told y a k l) := by
  have e : (32 : Int64).toInt = 32 ∧ (126 : Int64).toInt = 126 := by decide
  unfold f_X6_told f_X7_told
  rw [x_letter, x_letter, x_letter, m_in, m_in, m_in, e.1, e.2]
  simp only [bd_s]
  by_cases z1 : 32 ≤ a.toInt ∧ a.toInt ≤ 126
  · by_cases z2 : 32 ≤ k.toInt ∧ k.toInt ≤ 126
    · by_cases z3 : 32 ≤ l.toInt ∧ l.toInt ≤ 126
      · simp only [if_pos z1, if_pos z2, if_pos z3, if_neg n10]
        rw [x_told h hI hb, m_told hm hI hb, bd_s]
        obtain ⟨hT, hTb, hL⟩ := hI.1.2.2.2.1
        have hlog := h.2.2.2.2.2.2.2.2
        have hord := hm.2.2.2.2.2.2.2.2
        generalize tN s = T at *
        have key : ∀ i, i < min T 16 → ∀ f, f < 3 → x 7 ((T - min T 16 + i) % 16 * 3 + f) = y 17 (3 * i + f) := fun i hi f hf => by
          have hg := getE_t (show i < (gOrd s).length by rw [hL]; exact hi)
          have e1 := hlog i _ hg f hf
          have e2 := hord i _ hg f hf
          rw [hL] at e1
          rw [Nat.zero_add] at e2
          rw [e1, e2]
        have key2 : ∀ i, i < min T 16 → pf a k l (x 7 ((T - min T 16 + i) % 16 * 3)) (x 7 ((T - min T 16 + i) % 16 * 3 + 1)) (x 7 ((T - min T 16 + i) % 16 * 3 + 2)) = pf a k l (y 17 (3 * i)) (y 17 (3 * i + 1)) (y 17 (3 * i + 2)) := fun i hi => by
          have k0 := key i hi 0 (by omega)
          rw [Nat.add_zero, Nat.add_zero] at k0
          rw [k0, key i hi 1 (by omega), key i hi 2 (by omega)]
        refine eqv_of rfl ?_
        congr 2
        by_cases q : T < 16
        · have em : min T 16 = T := Nat.min_eq_left (by omega)
          rw [em] at key2 ⊢
          refine cn_congr _ _ (fun i _ hi => ?_)
          have := key2 i (by omega)
          rw [Nat.sub_self, Nat.zero_add, Nat.mod_eq_of_lt (by omega)] at this
          exact this.symm
        · have em : min T 16 = 16 := Nat.min_eq_right (by omega)
          rw [em] at key2 ⊢
          refine (cn_rot (t := (T - 16) % 16) (Nat.mod_lt _ (by omega)) (fun i hi => ?_)).symm
          have := key2 i hi
          have e3 : ((T - 16) % 16 + i) % 16 = (T - 16 + i) % 16 := by omega
          rw [e3]
          exact this
      · simp only [if_pos z1, if_pos z2, if_neg z3, if_neg n10, if_true]
        exact ⟨_, rfl, rfl⟩
    · simp only [if_pos z1, if_neg z2, if_neg n10, if_true]
      exact ⟨_, rfl, rfl⟩
  · simp only [if_neg z1, if_true]
    exact ⟨_, rfl, rfl⟩
