/-! PURE: the start, the text -/
def s0 (y : sw_St) (c k f l : Int32) : Sx := (fun j => mk [c, k, f, l] j, fun _ => 0, fun _ => [], fun _ => [], fun d => mk [0, y 12 d, y 13 d, y 14 d, -4], [], [], [])
theorem nil_no {i : Nat} {e : E} (h : ([] : List E)[i]? = some e) : False := by simp at h
theorem nm {e : E} (h : e ∈ ([] : List E)) : False := by cases h
theorem mk_far {c k f l : Int32} (d : Nat) : mk [c, k, f, l] (20 + d) = 0 := by
  unfold mk
  rw [List.getD_eq_getElem?_getD, List.getElem?_eq_none (by simp only [List.length_cons, List.length_nil]; omega)]
  rfl
theorem m_begin2 {y : sw_St} {c : Int32} : wp (f_X7_begin_106 sw_fuel y c 0) (fun r => r.1 = c ∧ (∀ o, o < 4 → r.2 3 o = 0 ∧ r.2 7 o = 0 ∧ r.2 10 o = -4 ∧ r.2 11 o = 0) ∧ (r.2 1 18 = 0 ∧ r.2 1 20 = 0 ∧ r.2 1 21 = 0 ∧ r.2 1 23 = 0 ∧ r.2 1 25 = 0 ∧ r.2 1 26 = 0 ∧ r.2 1 27 = 0 ∧ r.2 1 28 = 0) ∧ (∀ j, j < 5 → r.2 1 j = y 1 j) ∧ (∀ a, a ≠ 1 → a ≠ 3 → a ≠ 7 → a ≠ 10 → a ≠ 11 → r.2 a = y a)) := by
  refine lp_fold (F := fun n (z : sw_St) k => f_X7_begin_106 n z c k) (N := 4) (J := fun k z => (∀ o, o < k → z 3 o = 0 ∧ z 7 o = 0 ∧ z 10 o = -4 ∧ z 11 o = 0) ∧ (∀ a, a ≠ 3 → a ≠ 7 → a ≠ 10 → a ≠ 11 → z a = y a)) (fun n z hJ => ?_) (fun n k z hk hJ => ?_) sw_fuel 0 y (Nat.zero_le _) (by unfold sw_fuel; omega) ⟨fun o ho => by omega, fun _ _ _ _ _ => rfl⟩
  · rw [f_X7_begin_106]
    dsimp only
    rw [if_pos (by decide)]
    simp only [sw_pt]
    refine wp_some ⟨rfl, fun o ho => ?_, ?_, fun j hj => ?_, fun a h1 h3 h7 h10 h11 => ?_⟩
    · simp only [up_ne (show (3 : Nat) ≠ 1 by decide), up_ne (show (7 : Nat) ≠ 1 by decide), up_ne (show (10 : Nat) ≠ 1 by decide), up_ne (show (11 : Nat) ≠ 1 by decide)]
      exact hJ.1 o ho
    · simp [sw_up]
    · dsimp only
      rw [up_nj (by omega), up_nj (by omega), up_nj (by omega), up_nj (by omega), up_nj (by omega), up_nj (by omega), up_nj (by omega), up_nj (by omega), hJ.2 1 (by omega) (by omega) (by omega) (by omega)]
    · simp only [up_ne h1]
      exact hJ.2 a h3 h7 h10 h11
  · refine ⟨sw_up (sw_up (sw_up (sw_up z 3 k 0) 7 k 0) 10 k (-4)) 11 k 0, ?_, fun o ho => ?_, fun a h3 h7 h10 h11 => ?_⟩
    · rw [f_X7_begin_106]
      dsimp only
      rw [if_neg (ge4 hk), ck_t (pn_in (by omega) (by omega)), pn_ix (by omega), nI_1]
      rfl
    · simp only [up_at]
      by_cases e : o = k
      · subst e
        simp
      · have := hJ.1 o (by omega)
        simp [e, this]
    · rw [up_ne h11, up_ne h10, up_ne h7, up_ne h3]
      exact hJ.2 a h3 h7 h10 h11
theorem m_begin1 {y : sw_St} {c : Int32} : wp (f_X7_begin_82 sw_fuel y c 0) (fun r => (r.1 = c ∧ (∀ o, o < 4 → r.2 3 o = 0 ∧ r.2 7 o = 0 ∧ r.2 10 o = -4 ∧ r.2 11 o = 0) ∧ (r.2 1 18 = 0 ∧ r.2 1 20 = 0 ∧ r.2 1 21 = 0 ∧ r.2 1 23 = 0 ∧ r.2 1 25 = 0 ∧ r.2 1 26 = 0 ∧ r.2 1 27 = 0 ∧ r.2 1 28 = 0) ∧ (∀ j, j < 5 → r.2 1 j = y 1 j) ∧ (∀ a, a ≠ 1 → a ≠ 2 → a ≠ 3 → a ≠ 7 → a ≠ 10 → a ≠ 11 → r.2 a = y a)) ∧ ∀ l, l < 8 → r.2 2 l = 0) := by
  refine lp_fold (F := fun n (z : sw_St) k => f_X7_begin_82 n z c k) (N := 8) (J := fun k z => (∀ o, o < k → z 2 o = 0) ∧ (∀ a, a ≠ 2 → z a = y a)) (fun n z hJ => ?_) (fun n k z hk hJ => ?_) sw_fuel 0 y (Nat.zero_le _) (by unfold sw_fuel; omega) ⟨fun o ho => by omega, fun _ _ => rfl⟩
  · rw [f_X7_begin_82]
    dsimp only
    rw [if_pos (by decide)]
    refine wp_mono m_begin2 (fun r hr => ?_)
    obtain ⟨r1, r2, r3, r4, r5⟩ := hr
    refine ⟨⟨r1, r2, r3, fun j hj => ?_, fun a h1 h2 h3 h7 h10 h11 => ?_⟩, fun l hl => ?_⟩
    · rw [r4 j hj, hJ.2 1 (by decide)]
    · rw [r5 a h1 h3 h7 h10 h11, hJ.2 a h2]
    · rw [r5 2 (by decide) (by decide) (by decide) (by decide) (by decide)]
      exact hJ.1 l hl
  · refine ⟨sw_up z 2 k 0, ?_, fun o ho => ?_, fun a h2 => ?_⟩
    · rw [f_X7_begin_82]
      dsimp only
      rw [if_neg (ge8 hk), ck_t (pn_in (by omega) (by omega)), pn_ix (by omega), nI_1]
      rfl
    · simp only [up_at]
      by_cases e : o = k
      · subst e
        simp
      · have := hJ.1 o (by omega)
        simp [e, this]
    · rw [up_ne h2]
      exact hJ.2 a h2
abbrev okB (c k f l : Int32) : Prop := (2 ≤ c.toInt ∧ c.toInt ≤ 4) ∧ (1 ≤ k.toInt ∧ k.toInt ≤ 4) ∧ (1 ≤ f.toInt ∧ f.toInt ≤ 9) ∧ (1 ≤ l.toInt ∧ l.toInt ≤ 9)
theorem m_begin {y : sw_St} (c k f l : Int32) : wp (f_X7_begin y c k f l) (fun r => if okB c k f l then r.1 = c ∧ RM (s0 y c k f l) r.2 else r.1 = -1 ∧ r.2 = y) := by
  have e4 : (1 : Int64).toInt = 1 ∧ (2 : Int64).toInt = 2 ∧ (4 : Int64).toInt = 4 ∧ (9 : Int64).toInt = 9 := by decide
  unfold f_X7_begin
  rw [m_in, m_in, m_in, m_in, e4.1, e4.2.1, e4.2.2.1, e4.2.2.2]
  simp only [bd_s]
  by_cases z1 : 2 ≤ c.toInt ∧ c.toInt ≤ 4
  · by_cases z2 : 1 ≤ k.toInt ∧ k.toInt ≤ 4
    · by_cases z3 : 1 ≤ f.toInt ∧ f.toInt ≤ 9
      · by_cases z4 : 1 ≤ l.toInt ∧ l.toInt ≤ 9
        · simp only [if_pos z1, if_pos z2, if_pos z3, if_pos z4, if_neg n10, if_pos (show okB c k f l from ⟨z1, z2, z3, z4⟩), sw_pt]
          refine wp_mono m_begin1 (fun r hr => ?_)
          obtain ⟨⟨r1, r2, r3, r4, r5⟩, r6⟩ := hr
          obtain ⟨q18, q20, q21, q23, q25, q26, q27, q28⟩ := r3
          refine ⟨r1, ⟨?_, fun l hl => r6 l hl, fun d hd => ⟨(r2 d hd).1, Nat.zero_le _, fun i e hi => (nil_no hi).elim⟩, fun d hd => ⟨(r2 d hd).2.1, Nat.zero_le _, fun i e hi => (nil_no hi).elim⟩, fun d hd => ?_, ⟨q18, Nat.zero_le _, fun i e hi => (nil_no hi).elim⟩, ⟨q21, Nat.zero_le _, fun i e hi => (nil_no hi).elim⟩, ⟨Nat.zero_le _, fun i e hi => (nil_no hi).elim⟩⟩⟩
          · refine ⟨?_, ?_, ?_, ?_, ?_, q20, q23, q25, q26, q27, q28⟩
            · rw [r4 0 (by omega)]; simp [sw_up]; rfl
            · rw [r4 1 (by omega)]; simp [sw_up]; rfl
            · rw [r4 2 (by omega)]; simp [sw_up]; rfl
            · rw [r4 3 (by omega)]; simp [sw_up]; rfl
            · rw [r4 4 (by omega)]; simp [sw_up]; rfl
          · refine ⟨(r2 d hd).2.2.2, ?_, ?_, ?_, (r2 d hd).2.2.1⟩
            · rw [r5 12 (by decide) (by decide) (by decide) (by decide) (by decide) (by decide)]
              simp only [up_ne (show (12 : Nat) ≠ 1 by decide)]
              rfl
            · rw [r5 13 (by decide) (by decide) (by decide) (by decide) (by decide) (by decide)]
              simp only [up_ne (show (13 : Nat) ≠ 1 by decide)]
              rfl
            · rw [r5 14 (by decide) (by decide) (by decide) (by decide) (by decide) (by decide)]
              simp only [up_ne (show (14 : Nat) ≠ 1 by decide)]
              rfl
        · simp only [if_pos z1, if_pos z2, if_pos z3, if_neg z4, if_neg n10, if_true, if_neg (show ¬ okB c k f l from fun z => z4 z.2.2.2)]
          exact wp_some ⟨rfl, rfl⟩
      · simp only [if_pos z1, if_pos z2, if_neg z3, if_neg n10, if_true, if_neg (show ¬ okB c k f l from fun z => z3 z.2.2.1)]
        exact wp_some ⟨rfl, rfl⟩
    · simp only [if_pos z1, if_neg z2, if_neg n10, if_true, if_neg (show ¬ okB c k f l from fun z => z2 z.2.1)]
      exact wp_some ⟨rfl, rfl⟩
  · simp only [if_neg z1, if_true, if_neg (show ¬ okB c k f l from fun z => z1 z.1)]
    exact wp_some ⟨rfl, rfl⟩
/-- a cache is emptied -/
theorem x_clear1 {x : sw_St} {c q : Nat} (hc : c < 4) (hq : q = 9 + 9 * c) : wp (f_X1_clear x q) (fun z => (∀ l, l < 8 → z (10 + 9 * c) l = 0) ∧ z (9 + 9 * c) 3 = 0 ∧ ∀ a, (a < 9 + 9 * c ∨ 12 + 9 * c < a) → z a = x a) := by
  refine lp_fold (F := fun n (z : sw_St) k => f_X1_clear_2 n z q k) (N := 8) (J := fun k z => (∀ l, l < k → z (10 + 9 * c) l = 0) ∧ ∀ a, (a < 9 + 9 * c ∨ 12 + 9 * c < a) → z a = x a) (fun n z hJ => ?_) (fun n k z hk hJ => ?_) sw_fuel 0 x (Nat.zero_le _) (by unfold sw_fuel; omega) ⟨fun o ho => by omega, fun _ _ => rfl⟩
  · rw [f_X1_clear_2]
    dsimp only
    rw [if_pos (by decide), ck_t (isK_c hc hq)]
    simp only [sw_pt]
    refine wp_some ⟨fun l hl => ?_, ?_, fun a ha => ?_⟩
    · rw [up_ne (by omega)]
      exact hJ.1 l hl
    · rw [hq, up_eq]
    · rw [up_ne (by omega)]
      exact hJ.2 a ha
  · refine ⟨sw_up (sw_up (sw_up z (q + 1) k 0) (q + 2) k 0) (q + 3) k 0, ?_, fun o ho => ?_, fun a ha => ?_⟩
    · rw [f_X1_clear_2]
      dsimp only
      rw [if_neg (ge8 hk), ck_t (isK_c hc hq), ck_t (pn_in (by omega) (by omega)), pn_ix (by omega), nI_1]
      rfl
    · rw [up_ne (by omega), up_ne (by omega)]
      by_cases e : o = k
      · rw [e, show 10 + 9 * c = q + 1 by omega, up_eq]
      · rw [show 10 + 9 * c = q + 1 by omega, up_nj e, show q + 1 = 10 + 9 * c by omega]
        exact hJ.1 o (by omega)
    · rw [up_ne (by omega), up_ne (by omega), up_ne (by omega)]
      exact hJ.2 a ha
def Clr (z : sw_St) (c : Nat) : Prop := (∀ l, l < 8 → z (10 + 9 * c) l = 0) ∧ z (9 + 9 * c) 3 = 0 ∧ z (14 + 9 * c) 1 = 0 ∧ z (15 + 9 * c) 1 = 0 ∧ z (16 + 9 * c) 1 = 0 ∧ z (8 + 9 * c) 3 = -4
theorem x_clear2 {x : sw_St} {c q : Nat} (hc : c < 4) (hq : q = 8 + 9 * c) : wp (f_X2_clear x q) (fun z => Clr z c ∧ (∀ r, r < 3 → z (14 + 9 * c + r) 0 = x (14 + 9 * c + r) 0) ∧ ∀ a, (a < 8 + 9 * c ∨ 16 + 9 * c < a) → z a = x a) := by
  unfold f_X2_clear
  rw [ck_t (isC_c hc hq)]
  refine wp_bindM (x_clear1 hc (by omega)) (fun x1 h1 => ?_)
  obtain ⟨g1, g2, g3⟩ := h1
  simp only [sw_pt]
  refine lp_fold (F := fun n (z : sw_St) k => f_X2_clear_17 n z q k) (N := 2) (J := fun k z => (∀ i, i < k → z (15 + 9 * c + i) 1 = 0) ∧ z (14 + 9 * c) 1 = 0 ∧ (∀ r, r < 3 → z (14 + 9 * c + r) 0 = x (14 + 9 * c + r) 0) ∧ ∀ a, (a < 14 + 9 * c ∨ 16 + 9 * c < a) → z a = x1 a) (fun n z hJ => ?_) (fun n k z hk hJ => ?_) sw_fuel 0 _ (Nat.zero_le _) (by unfold sw_fuel; omega) ⟨fun o ho => by omega, ?_, fun r hr => ?_, fun a ha => ?_⟩
  · rw [f_X2_clear_17]
    dsimp only
    rw [if_pos (by decide), ck_t (isC_c hc hq)]
    simp only [sw_pt]
    obtain ⟨j1, j2, j3, j4⟩ := hJ
    refine wp_some ⟨⟨fun l hl => ?_, ?_, ?_, ?_, ?_, ?_⟩, fun r hr => ?_, fun a ha => ?_⟩
    · rw [up_ne (by omega), j4 _ (by omega)]
      exact g1 l hl
    · rw [up_ne (by omega), j4 _ (by omega)]
      exact g2
    · rw [up_ne (by omega)]
      exact j2
    · rw [up_ne (by omega)]
      exact j1 0 (by omega)
    · rw [up_ne (by omega)]
      rw [show 16 + 9 * c = 15 + 9 * c + 1 by omega]
      exact j1 1 (by omega)
    · rw [hq, up_eq]
    · rw [up_ne (by omega)]
      exact j3 r hr
    · rw [up_ne (by omega), j4 _ (by omega)]
      exact g3 a (by omega)
  · obtain ⟨j1, j2, j3, j4⟩ := hJ
    refine ⟨sw_up z (15 + 9 * c + k) 1 0, ?_, fun o ho => ?_, ?_, fun r hr => ?_, fun a ha => ?_⟩
    · rw [f_X2_clear_17]
      dsimp only
      rw [if_neg (ge2 hk), ck_t (isC_c hc hq), ck_t (pn_in (by omega) (by omega)), pn_ix (by omega), nI_1, show q + 7 + k = 15 + 9 * c + k by omega]
      rfl
    · by_cases e : o = k
      · rw [e, up_eq]
      · rw [up_ne (by omega)]
        exact j1 o (by omega)
    · rw [up_ne (by omega)]
      exact j2
    · by_cases e : r = 1 + k
      · rw [show 14 + 9 * c + r = 15 + 9 * c + k by omega, up_nj (by decide), show 15 + 9 * c + k = 14 + 9 * c + r by omega]
        exact j3 r hr
      · rw [up_ne (by omega)]
        exact j3 r hr
    · rw [up_ne (by omega)]
      exact j4 a ha
  · rw [show q + 6 = 14 + 9 * c by omega, up_eq]
  · by_cases e : r = 0
    · rw [show q + 6 = 14 + 9 * c + r by omega, up_nj (by decide), g3 _ (by omega)]
    · rw [up_ne (by omega), g3 _ (by omega)]
  · rw [up_ne (by omega)]
theorem x_reset3 {x : sw_St} : wp (f_X0_reset_86 sw_fuel x 0) (fun z => (∀ l, l < 8 → z 5 l = 0) ∧ ∀ a, a ≠ 5 → z a = x a) := by
  refine lp_fold (F := fun n (z : sw_St) k => f_X0_reset_86 n z k) (N := 8) (J := fun k z => (∀ l, l < k → z 5 l = 0) ∧ ∀ a, a ≠ 5 → z a = x a) (fun n z hJ => ?_) (fun n k z hk hJ => ?_) sw_fuel 0 x (Nat.zero_le _) (by unfold sw_fuel; omega) ⟨fun o ho => by omega, fun _ _ => rfl⟩
  · rw [f_X0_reset_86]
    dsimp only
    rw [if_pos (by decide)]
    exact wp_some hJ
  · refine ⟨sw_up z 5 k 0, ?_, fun o ho => ?_, fun a ha => ?_⟩
    · rw [f_X0_reset_86]
      dsimp only
      rw [if_neg (ge8 hk), ck_t (pn_in (by omega) (by omega)), pn_ix (by omega), nI_1]
      rfl
    · by_cases e : o = k
      · rw [e, up_eq]
      · rw [up_nj e]
        exact hJ.1 o (by omega)
    · rw [up_ne ha]
      exact hJ.2 a ha
/-- whose the requests are -/
def Own (x : sw_St) : Prop := ∀ c r, c < 4 → r < 3 → x (14 + 9 * c + r) 0 = nI c
theorem x_reset2 {x : sw_St} (ho : Own x) : wp (f_X0_reset_61 sw_fuel x 0) (fun z => (∀ l, l < 8 → z 5 l = 0) ∧ (∀ c, c < 4 → Clr z c) ∧ Own z ∧ ∀ a, a ≠ 5 → (a < 8 ∨ 43 < a) → z a = x a) := by
  refine lp_fold (F := fun n (z : sw_St) k => f_X0_reset_61 n z k) (N := 4) (J := fun k z => (∀ c, c < k → Clr z c) ∧ Own z ∧ ∀ a, (a < 8 ∨ 43 < a) → z a = x a) (fun n z hJ => ?_) (fun n k z hk hJ => ?_) sw_fuel 0 x (Nat.zero_le _) (by unfold sw_fuel; omega) ⟨fun o ho => by omega, ho, fun _ _ => rfl⟩
  · rw [f_X0_reset_61]
    dsimp only
    rw [if_pos (by decide)]
    obtain ⟨j1, j2, j3⟩ := hJ
    refine wp_mono x_reset3 (fun w hw => ⟨hw.1, fun c hc => ?_, fun c r hc hr => ?_, fun a h5 ha => ?_⟩)
    · obtain ⟨k1, k2, k3, k4, k5, k6⟩ := j1 c hc
      refine ⟨fun l hl => ?_, ?_, ?_, ?_, ?_, ?_⟩
      · rw [hw.2 _ (by omega)]; exact k1 l hl
      · rw [hw.2 _ (by omega)]; exact k2
      · rw [hw.2 _ (by omega)]; exact k3
      · rw [hw.2 _ (by omega)]; exact k4
      · rw [hw.2 _ (by omega)]; exact k5
      · rw [hw.2 _ (by omega)]; exact k6
    · rw [hw.2 _ (by omega)]
      exact j2 c r hc hr
    · rw [hw.2 _ h5]
      exact j3 a ha
  · obtain ⟨j1, j2, j3⟩ := hJ
    obtain ⟨w, ew, w1, w2, w3⟩ := x_clear2 (x := z) hk (q := 8 + 9 * k) rfl
    refine ⟨w, ?_, fun c hc => ?_, fun c r hc hr => ?_, fun a ha => ?_⟩
    · rw [f_X0_reset_61]
      dsimp only
      rw [if_neg (ge4 hk), ck_t (pn_in (by omega) (by omega)), pn_ix (by omega), nI_1, ew]
      rfl
    · by_cases e : c = k
      · rw [e]; exact w1
      · obtain ⟨k1, k2, k3, k4, k5, k6⟩ := j1 c (by omega)
        refine ⟨fun l hl => ?_, ?_, ?_, ?_, ?_, ?_⟩
        · rw [w3 _ (by omega)]; exact k1 l hl
        · rw [w3 _ (by omega)]; exact k2
        · rw [w3 _ (by omega)]; exact k3
        · rw [w3 _ (by omega)]; exact k4
        · rw [w3 _ (by omega)]; exact k5
        · rw [w3 _ (by omega)]; exact k6
    · by_cases e : c = k
      · rw [e, w2 r hr]; exact j2 k r hk hr
      · rw [w3 _ (by omega)]
        exact j2 c r hc hr
    · rw [w3 _ (by omega)]
      exact j3 a ha
theorem x_clear3 (x : sw_St) : f_X3_clear x = some (sw_up (sw_up (sw_up x 6 1 0) 6 2 0) 6 3 0) := rfl
theorem x_reset {x y : sw_St} (c k f l : Int32) (ho : Own x) : wp (f_X0_reset x c k f l) (RX (s0 y c k f l)) := by
  unfold f_X0_reset
  simp only [sw_pt]
  rw [x_clear3, bd_s]
  refine wp_mono (x_reset2 (fun c r hc hr => ?_)) (fun z hz => ?_)
  · simp only [up_ne (show 14 + 9 * c + r ≠ 2 by omega), up_ne (show 14 + 9 * c + r ≠ 6 by omega)]
    exact ho c r hc hr
  · obtain ⟨z1, z2, z3, z4⟩ := hz
    have eT : tN (s0 y c k f l) = 0 := show sw_ix (0 : Int32) = 0 by decide
    refine ⟨?_, fun l hl => z1 l hl, fun d hd => ?_, fun d hd => ?_, fun d i hd hi => ?_, fun d hd => (z2 d hd).2.2.2.2.2, ?_, ?_, fun i e hi => (nil_no hi).elim⟩
    · unfold scX
      rw [z4 2 (by decide) (by decide), z4 6 (by decide) (by decide)]
      simp [sw_up]
      exact ⟨rfl, rfl, rfl, rfl, rfl, rfl, rfl, rfl, rfl, rfl, rfl⟩
    · refine ⟨fun l hl => (z2 d hd).1 l hl, fun e he => (nm he).elim, ?_⟩
      rw [(z2 d hd).2.1]
      exact (mk_far d).symm
    · exact ⟨z3 d 0 hd (by omega), fun a ha => (nm ha).elim, fun a ha => (nm ha).elim, fun _ _ => (z2 d hd).2.2.1, fun q => absurd rfl q⟩
    · refine ⟨?_, fun a ha => (nm ha).elim, fun a ha => (nm ha).elim, fun _ => ?_⟩
      · have := z3 d (1 + i) hd (by omega)
        rw [show 15 + 9 * d + i = 14 + 9 * d + (1 + i) by omega]
        exact this
      · have hc := z2 d hd
        rcases (show i = 0 ∨ i = 1 by omega) with rfl | rfl
        · exact hc.2.2.2.1
        · rw [show 15 + 9 * d + 1 = 16 + 9 * d by omega]
          exact hc.2.2.2.2.1
    · rw [z4 6 (by decide) (by decide), up_nj (by decide), up_eq, eT]
      decide
    · rw [z4 6 (by decide) (by decide), up_eq, eT]
      decide
theorem RX_own {s : Sx} {x : sw_St} (h : RX s x) : Own x := fun c r hc hr => by
  rcases (show r = 0 ∨ r = 1 + 0 ∨ r = 1 + 1 by omega) with rfl | rfl | rfl
  · exact (h.2.2.2.1 c hc).1
  · rw [show 14 + 9 * c + (1 + 0) = 15 + 9 * c + 0 by omega]
    exact (h.2.2.2.2.1 c 0 hc (by omega)).1
  · rw [show 14 + 9 * c + (1 + 1) = 15 + 9 * c + 1 by omega]
    exact (h.2.2.2.2.1 c 1 hc (by omega)).1
theorem Inv_s0 {b : Nat} {y : sw_St} {c k f l : Int32} (hc : 2 ≤ c.toInt ∧ c.toInt ≤ 4) (hk : 1 ≤ k.toInt ∧ k.toInt ≤ 4) : Inv b (s0 y c k f l) := by
  obtain ⟨C, hC, rfl⟩ := ok_ex (a := c) (n := 5) ⟨by omega, by omega⟩ (by omega)
  obtain ⟨K, hK, rfl⟩ := ok_ex (a := k) (n := 5) ⟨by omega, by omega⟩ (by omega)
  rw [nI_toInt (by omega)] at hc hk
  have eC : cN (s0 y (nI C) (nI K) f l) = C := pn_ix (i := C) (by omega)
  have eK : kN (s0 y (nI C) (nI K) f l) = K := pn_ix (i := K) (by omega)
  have u0 : ∀ d, d < 4 → gSc (s0 y (nI C) (nI K) f l) (20 + d) = 0 := fun d _ => by
    exact mk_far d
  have i0 : sw_ix (0 : Int32) = 0 := by decide
  refine ⟨⟨⟨?_, ?_, ?_⟩, ⟨?_, ?_, ?_⟩, ⟨rfl, Nat.zero_le _⟩, ⟨rfl, Nat.zero_le _, rfl⟩, fun d hd => ?_⟩, fun d hd => ⟨⟨fun e he => (nm he).elim, List.Pairwise.nil, List.Pairwise.nil, Nat.zero_le _⟩, fun _ => rfl⟩, fun d hd => ⟨⟨fun e he => (nm he).elim, List.Pairwise.nil, List.Pairwise.nil, List.Pairwise.nil, Nat.zero_le _⟩, fun _ => rfl⟩, ⟨fun e he => (nm he).elim, List.Pairwise.nil, List.Pairwise.nil⟩, ⟨fun e he => (nm he).elim, List.Pairwise.nil, List.Pairwise.nil, List.Pairwise.nil⟩, fun d hd => Or.inl rfl, fun d d' l hd hd' _ q => absurd rfl q, fun d d' hd hd' e he => (nm he).elim, fun d d' hd hd' _ e he => (nm he).elim, fun e he => (nm he).elim, fun e he => (nm he).elim⟩
  · rw [eC]; rfl
  · rw [eC]; omega
  · rw [eC]; omega
  · rw [eK]; rfl
  · rw [eK]; omega
  · rw [eK]; omega
  · unfold uN
    rw [u0 d hd, i0]
    exact ⟨rfl, Nat.zero_le _⟩
theorem x_begin {x y : sw_St} (c k f l : Int32) (ho : Own x) : wp (f_X6_begin x c k f l) (fun r => if okB c k f l then r.1 = c ∧ RX (s0 y c k f l) r.2 else r.1 = -1 ∧ r.2 = x) := by
  have e4 : (1 : Int32).toInt = 1 ∧ (2 : Int32).toInt = 2 ∧ (4 : Int32).toInt = 4 ∧ (9 : Int32).toInt = 9 := by decide
  unfold f_X6_begin f_X6_begin_43 f_X6_begin_44
  rw [x_within, x_within, x_within, x_within, e4.1, e4.2.1, e4.2.2.1, e4.2.2.2]
  simp only [bd_s]
  by_cases z1 : 2 ≤ c.toInt ∧ c.toInt ≤ 4
  · by_cases z2 : 1 ≤ k.toInt ∧ k.toInt ≤ 4
    · by_cases z3 : 1 ≤ f.toInt ∧ f.toInt ≤ 9
      · by_cases z4 : 1 ≤ l.toInt ∧ l.toInt ≤ 9
        · simp only [if_pos z1, if_pos z2, if_pos z3, if_pos z4, if_neg n10, if_pos (show okB c k f l from ⟨z1, z2, z3, z4⟩)]
          exact wp_bindM (x_reset (y := y) c k f l ho) (fun z hz => wp_some ⟨rfl, hz⟩)
        · simp only [if_pos z1, if_pos z2, if_pos z3, if_neg z4, if_neg n10, if_true, if_neg (show ¬ okB c k f l from fun z => z4 z.2.2.2)]
          exact wp_some ⟨rfl, rfl⟩
      · simp only [if_pos z1, if_pos z2, if_neg z3, if_neg n10, if_true, if_neg (show ¬ okB c k f l from fun z => z3 z.2.2.1)]
        exact wp_some ⟨rfl, rfl⟩
    · simp only [if_pos z1, if_neg z2, if_neg n10, if_true, if_neg (show ¬ okB c k f l from fun z => z2 z.2.1)]
      exact wp_some ⟨rfl, rfl⟩
  · simp only [if_neg z1, if_true, if_neg (show ¬ okB c k f l from fun z => z1 z.1)]
    exact wp_some ⟨rfl, rfl⟩
