/-! PURE: what is looked at: truth, core -/
theorem x_true3 {b : Nat} {s : Sx} {x : sw_St} {l : Nat} (h : RX s x) (hI : Inv b s) (hl : l < 8) : f_X0_trueValue_72 x sw_fuel (nI l) 0 = some (match bfr s (nI l) with | some d => valR (gBuf s d) (nI l) | none => gMem s l) := by
  have hC4 := hI.1.1.2.2
  have h4 : x 2 4 = nI (cN s) := by rw [← hI.1.1.1]; exact h.1.1
  have := lp_fst (F := fun n k => f_X0_trueValue_72 x n (nI l) k) (N := cN s) (P := fun d => (ixf (gBuf s d) 0 (nI l)).isSome) (G := fun d => some (valR (gBuf s d) (nI l))) (D := some (gMem s l)) (fun n => by
      rw [f_X0_trueValue_72]
      dsimp only
      rw [h4, if_pos (nI_le (Nat.le_refl _) (by omega))]
      simp (disch := omega) only [ck_tt, pn_in, pn_ix]
      exact congrArg some (h.2.1 l hl)) (fun n k hk hP => by
      rw [f_X0_trueValue_72]
      dsimp only
      rw [h4, if_neg (nI_ge hk (by omega))]
      simp (disch := omega) only [ck_tt, pn_in, pn_ix]
      have hk4 : k < 4 := by omega
      obtain ⟨⟨b1, b2, b3, b4, b5⟩, b6⟩ := hI.2.2.1 k hk4
      rcases x_backOf (q := 8 + 9 * k) (nI l) hk4 rfl (fun i hi => h.2.2.2.2.1 k i hk4 hi) (buf_sl hI hk4) with ⟨e, he, i, hi, z1, z2, ef⟩ | ⟨hno, ef⟩
      · rw [ef, bd_s, if_neg (show ¬ 15 + 9 * k + i = 0 by omega), ck_t (isQ_c hk4 (r := 1 + i) (by omega) (by omega)), ((h.2.2.2.2.1 k i hk4 hi).2.1 e he z2).2.2.2.1, ← val_mem _ b2 he, z1]
      · exfalso
        cases hx : ixf (gBuf s k) 0 (nI l) with
        | none => rw [hx] at hP; cases hP
        | some j =>
          obtain ⟨e, g1, g2, g3⟩ := ixf_some hx
          exact hno e (List.mem_of_getElem? g1) g2) (fun n k hk hP => by
      rw [f_X0_trueValue_72]
      dsimp only
      rw [h4, if_neg (nI_ge hk (by omega)), nI_1]
      simp (disch := omega) only [ck_tt, pn_in, pn_ix]
      have hk4 : k < 4 := by omega
      rcases x_backOf (q := 8 + 9 * k) (nI l) hk4 rfl (fun i hi => h.2.2.2.2.1 k i hk4 hi) (buf_sl hI hk4) with ⟨e, he, i, hi, z1, z2, ef⟩ | ⟨hno, ef⟩
      · exfalso
        cases hx : ixf (gBuf s k) 0 (nI l) with
        | none => exact ixf_none hx e he z1
        | some j => rw [hx] at hP; cases hP
      · rw [ef, bd_s, if_pos rfl]) (by omega)
  refine Eq.trans this ?_
  unfold bfr
  cases fst1 (fun d => (ixf (gBuf s d) 0 (nI l)).isSome) (cN s) with
  | none => rfl
  | some d => rfl
theorem ge2_sole {b : Nat} {s : Sx} {d : Nat} {l : Int32} (hI : Inv b s) (hd : d < 4) : (¬ howR (gRow s d) l < 2) ↔ (howR (gRow s d) l = 2 ∨ howR (gRow s d) l = 3) := by
  have h123 := hw_123 (l := l) hI hd
  unfold hw at h123
  rcases h123 with q | q | q | q <;> rw [q] <;> decide
theorem x_true2 {b : Nat} {s : Sx} {x : sw_St} {l : Nat} (h : RX s x) (hI : Inv b s) (hl : l < 8) : f_X0_trueValue_25 x sw_fuel (nI l) 0 = some (match oth s (-4) (nI l) 2 with | some d => valR (gRow s d) (nI l) | none => match bfr s (nI l) with | some d => valR (gBuf s d) (nI l) | none => gMem s l) := by
  have hC4 := hI.1.1.2.2
  have h4 : x 2 4 = nI (cN s) := by rw [← hI.1.1.1]; exact h.1.1
  have hP : ∀ d, d < cN s → ((decide (nI d ≠ -4) && !decide (howR (gRow s d) (nI l) < 2)) = true ↔ (howR (gRow s d) (nI l) = 2 ∨ howR (gRow s d) (nI l) = 3)) := fun d hd => by
    rw [← ge2_sole hI (by omega)]
    have := pn_neg (n := d) (by omega)
    simp [this]
  have := lp_fst (F := fun n k => f_X0_trueValue_25 x n (nI l) k) (N := cN s) (P := fun d => decide (nI d ≠ -4) && !decide (howR (gRow s d) (nI l) < 2)) (G := fun d => some (valR (gRow s d) (nI l))) (D := f_X0_trueValue_72 x sw_fuel (nI l) 0) (fun n => by
      rw [f_X0_trueValue_25]
      dsimp only
      rw [h4, if_pos (nI_le (Nat.le_refl _) (by omega))]) (fun n k hk hq => by
      rw [f_X0_trueValue_25]
      dsimp only
      rw [h4, if_neg (nI_ge hk (by omega))]
      simp (disch := omega) only [ck_tt, pn_in, pn_ix]
      have hk4 : k < 4 := by omega
      have hcx := h.2.2.1 k hk4
      have hz := (hP k hk).mp hq
      rw [x_sole hk4 (by omega) hl, bd_s, hcx.1 l hl, if_pos hz, if_neg n10]
      have hne : howR (gRow s k) (nI l) ≠ 0 := by
        rcases hz with z | z <;> rw [z] <;> decide
      obtain ⟨e, he, e0⟩ := how_in hne
      rw [show 8 + 9 * k + 1 + 2 = 11 + 9 * k by omega, (hcx.2.1 e he l hl e0).1, ← val_mem _ (pw0 hI hk4) he, e0]) (fun n k hk hq => by
      rw [f_X0_trueValue_25]
      dsimp only
      rw [h4, if_neg (nI_ge hk (by omega)), nI_1]
      simp (disch := omega) only [ck_tt, pn_in, pn_ix]
      have hk4 : k < 4 := by omega
      have hcx := h.2.2.1 k hk4
      have hz : ¬ (howR (gRow s k) (nI l) = 2 ∨ howR (gRow s k) (nI l) = 3) := fun z => by
        have := (hP k hk).mpr z
        rw [this] at hq
        cases hq
      rw [x_sole hk4 (by omega) hl, bd_s, hcx.1 l hl, if_neg hz, if_pos rfl]) (by omega)
  refine Eq.trans this ?_
  unfold oth
  cases fst1 (fun d => decide (nI d ≠ -4) && !decide (howR (gRow s d) (nI l) < 2)) (cN s) with
  | none => exact x_true3 h hI hl
  | some d => rfl
theorem m_true2 {b : Nat} {s : Sx} {y : sw_St} {l : Nat} (h : RM s y) (hI : Inv b s) (hl : l < 8) : ((f_X7_otherThat y (-4) (nI l) 2).bind fun r1 => ((f_X7_bufferThat y (nI l)).bind fun r2 => (if r1 = (-4) then (if r2 = (-4) then (sw_ck (sw_in (nI l) 8) (some (y 2 (sw_ix (nI l))))) else ((f_X7_backAt y r2 (nI l)).bind fun r4 => (sw_ck (sw_in r4 8) (some (y 9 (sw_ix r4)))))) else ((f_X7_at y r1 (nI l)).bind fun r6 => (sw_ck (sw_in r6 16) (some (y 5 (sw_ix r6)))))))) = some (match oth s (-4) (nI l) 2 with | some d => valR (gRow s d) (nI l) | none => match bfr s (nI l) with | some d => valR (gBuf s d) (nI l) | none => gMem s l) := by
  have hN := Inv_Nums hI
  have hC4 := hI.1.1.2.2
  rw [m_other _ _ _ h hN, m_bfr _ h hN, bd_s, bd_s]
  cases ho : oth s (-4) (nI l) 2 with
  | some d =>
    obtain ⟨hd, hp, -⟩ := fst1_s ho
    have hd4 : d < 4 := by have : d < cN s := hd; omega
    have hnl : ¬ howR (gRow s d) (nI l) < 2 := by simp only [Bool.and_eq_true, Bool.not_eq_true', decide_eq_false_iff_not] at hp; exact hp.2
    obtain ⟨i, hi⟩ := hw_ex hnl (by decide)
    obtain ⟨e, g1, g2, g3⟩ := ixf_some hi
    have hr := h.2.2.1 d hd4
    have hr2 := hr.2.1
    show (if nI d = -4 then _ else _) = _
    rw [if_neg (pn_neg (by omega))]
    show (f_X7_at y (nI d) (nI l)).bind _ = _
    rw [m_at1 hd4 hr hi, bd_s]
    simp (disch := omega) only [ck_tt, pn_in, pn_ix]
    rw [(hr.2.2 i e g1).2.1]
    unfold valR
    rw [hi]
    dsimp only
    rw [getE_s g1]
  | none =>
    show (if (-4 : Int32) = -4 then _ else _) = _
    rw [if_pos rfl]
    cases hb : bfr s (nI l) with
    | some d =>
      obtain ⟨hd, hp, -⟩ := fst1_s hb
      have hd4 : d < 4 := by have : d < cN s := hd; omega
      have hr := h.2.2.2.1 d hd4
      have hr2 := hr.2.1
      obtain ⟨i, hi⟩ : ∃ i, ixf (gBuf s d) 0 (nI l) = some i := by
        cases hx : ixf (gBuf s d) 0 (nI l) with
        | none => rw [hx] at hp; cases hp
        | some i => exact ⟨i, rfl⟩
      obtain ⟨e, g1, g2, g3⟩ := ixf_some hi
      show (if nI d = -4 then _ else _) = _
      rw [if_neg (pn_neg (by omega))]
      show (f_X7_backAt y (nI d) (nI l)).bind _ = _
      rw [m_ba1 hd4 hr hi, bd_s]
      simp (disch := omega) only [ck_tt, pn_in, pn_ix]
      rw [(hr.2.2 i e g1).2]
      unfold valR
      rw [hi]
      dsimp only
      rw [getE_s g1]
    | none =>
      show (if (-4 : Int32) = -4 then _ else _) = _
      rw [if_pos rfl]
      simp (disch := omega) only [ck_tt, pn_in, pn_ix]
      exact congrArg some (h.2.1 l hl)
theorem opn_fld {s : Sx} {y : sw_St} (h : RM s y) {k : Nat} (hk : k < (gOpn s).length) (f : Nat) (hf : f < 7) : y 16 (7 * k + f) = getE (gOpn s) k f := by
  have := h.2.2.2.2.2.2.1.2.2 k _ (getE_t hk) f hf
  rw [Nat.zero_add] at this
  exact this
theorem e_truth {b : Nat} {s : Sx} {x y : sw_St} (h : RX s x) (hm : RM s y) (hI : Inv b s) (a : Int32) : Eqv (f_X6_truth x a) (f_X7_truth y a) := by
  have hC4 := hI.1.1.2.2
  unfold f_X6_truth f_X7_truth
  rw [x_line, m_isLine, bd_s, bd_s]
  by_cases hl : okL a
  · obtain ⟨l, hl8, rfl⟩ := okL_ex hl
    simp only [if_pos hl, if_neg n10]
    have hon := hm.2.2.2.2.2.2.1
    have hol := hon.2.1
    have hM := lp_fst (F := fun n k => f_X7_truth_11 y n (nI l) k) (N := (gOpn s).length) (P := fun k => decide (getE (gOpn s) k 2 = nI l) && decide (getE (gOpn s) k 0 = 1)) (G := fun k => some (gOp s (sw_ix (getE (gOpn s) k 1)) 2)) (D := some (match oth s (-4) (nI l) 2 with | some d => valR (gRow s d) (nI l) | none => match bfr s (nI l) with | some d => valR (gBuf s d) (nI l) | none => gMem s l)) (fun n => by
        rw [f_X7_truth_11]
        dsimp only
        rw [hon.1, if_pos (nI_le (Nat.le_refl _) (by omega))]
        exact m_true2 hm hI hl8) (fun n k hk hP => by
        simp only [Bool.and_eq_true, decide_eq_true_eq] at hP
        obtain ⟨c, _, _, q1, q2, _⟩ := hI.2.2.2.2.1.1 _ (List.mem_of_getElem? (getE_t hk))
        rw [f_X7_truth_11]
        dsimp only
        rw [hon.1, if_neg (nI_ge hk (by omega)), mu7, ad2, nI_1]
        simp (disch := omega) only [ck_tt, pn_in, pn_ix]
        have f0 := opn_fld hm hk 0 (by omega)
        rw [Nat.add_zero] at f0
        rw [opn_fld hm hk 2 (by omega), f0, opn_fld hm hk 1 (by omega), if_pos hP.1, if_pos hP.2, q2]
        simp (disch := omega) only [ck_tt, pn_in, pn_ix]
        exact congrArg some (hm.2.2.2.2.1 c (by omega)).2.2.1) (fun n k hk hP => by
        rw [f_X7_truth_11]
        dsimp only
        rw [hon.1, if_neg (nI_ge hk (by omega)), mu7, ad2, nI_1, nI_1]
        simp (disch := omega) only [ck_tt, pn_in, pn_ix]
        have f0 := opn_fld hm hk 0 (by omega)
        rw [Nat.add_zero] at f0
        rw [opn_fld hm hk 2 (by omega), f0]
        by_cases z1 : getE (gOpn s) k 2 = nI l
        · have z2 : ¬ getE (gOpn s) k 0 = 1 := fun z2 => by simp [z1, z2] at hP
          rw [if_pos z1, if_neg z2]
        · rw [if_neg z1]) (by omega)
    have hM2 : f_X7_truth_11 y sw_fuel (nI l) 0 = _ := hM
    rw [hM2]
    unfold f_X0_trueValue
    rcases x_openOf (nI l) h hI with ⟨o, ho, c, hc, z1, z2, e⟩ | ⟨hno, e⟩
    · have hc4 : c < 4 := by omega
      have hro := req_opn h ho hc4 z1
      obtain ⟨c', _, _, q1, q2, _, _, _, _, qk, _, qop, _⟩ := hI.2.2.2.2.1.1 o ho
      have ecc : c' = c := by rw [z1] at q2; exact ((nI_eq (by omega) (by omega)).mp q2).symm
      subst ecc
      rw [e, bd_s, if_neg (show ¬ 14 + 9 * c' = 0 by omega), ck_t (isQ_c hc4 (r := 0) (by omega) (by omega)), hro.2.2.1]
      obtain ⟨j, hj⟩ := List.getElem?_of_mem ho
      have hjl := (List.getElem?_eq_some_iff.mp hj).1
      have uni : ∀ k, k < (gOpn s).length → getE (gOpn s) k 2 = nI l → getE (gOpn s) k = o := fun k hk z => pw_inj _ hI.2.2.2.2.1.2.2.1 (List.mem_of_getElem? (getE_t hk)) ho (by rw [z, z2])
      by_cases k1 : o 0 = 1
      · rw [if_pos k1, bd_s]
        have hop2 : gOp s c' 0 = 2 := by rw [qop, if_neg (by rw [k1]; decide)]
        have hx4 := ((h.2.2.2.1 c' hc4).2.2.2.2 (by rw [hop2]; decide)).2 hop2
        cases hf : fst1 (fun k => decide (getE (gOpn s) k 2 = nI l) && decide (getE (gOpn s) k 0 = 1)) (gOpn s).length with
        | none =>
          have := fst1_n hf j hjl
          rw [getE_s hj] at this
          simp [z2, k1] at this
        | some k =>
          obtain ⟨p1, p2, -⟩ := fst1_s hf
          simp only [Bool.and_eq_true, decide_eq_true_eq] at p2
          dsimp only
          rw [uni k p1 p2.1, z1, pn_ix (by omega)]
          exact eqv_of (congrArg some hx4) rfl
      · rw [if_neg k1]
        cases hf : fst1 (fun k => decide (getE (gOpn s) k 2 = nI l) && decide (getE (gOpn s) k 0 = 1)) (gOpn s).length with
        | none =>
          rw [x_true2 h hI hl8, bd_s]
          exact ⟨_, rfl, rfl⟩
        | some k =>
          obtain ⟨p1, p2, -⟩ := fst1_s hf
          simp only [Bool.and_eq_true, decide_eq_true_eq] at p2
          rw [uni k p1 p2.1] at p2
          exact absurd p2.2 k1
    · rw [e, bd_s, if_pos rfl]
      cases hf : fst1 (fun k => decide (getE (gOpn s) k 2 = nI l) && decide (getE (gOpn s) k 0 = 1)) (gOpn s).length with
      | none =>
        rw [x_true2 h hI hl8, bd_s]
        exact ⟨_, rfl, rfl⟩
      | some k =>
        obtain ⟨p1, p2, -⟩ := fst1_s hf
        simp only [Bool.and_eq_true, decide_eq_true_eq] at p2
        exact absurd p2.1 (hno _ (List.mem_of_getElem? (getE_t p1)))
  · simp only [if_neg hl, if_true]
    exact ⟨_, rfl, rfl⟩
theorem ask_fld {s : Sx} {y : sw_St} (h : RM s y) {k : Nat} (hk : k < (gAsk s).length) (f : Nat) (hf : f < 5) : y 15 (5 * k + f) = getE (gAsk s) k f := by
  have := h.2.2.2.2.2.1.2.2 k _ (getE_t hk) f hf
  rw [Nat.zero_add] at this
  exact this
theorem m_askOf {b : Nat} {s : Sx} {y : sw_St} (h : RM s y) (hI : Inv b s) (c : Int32) : f_X7_askOf y c = some (nIo (fst1 (fun i => decide (getE (gAsk s) i 0 ≠ 3) && decide (getE (gAsk s) i 1 = c)) (gAsk s).length)) := by
  have hal := ask_len hI.2.2.2.1 hI.1.1.2.2
  have h18 := h.2.2.2.2.2.1.1
  have := lp_fst (F := fun n k => f_X7_askOf_2 y n c k) (N := (gAsk s).length) (P := fun i => decide (getE (gAsk s) i 0 ≠ 3) && decide (getE (gAsk s) i 1 = c)) (G := fun i => some (nI i)) (D := some (-4)) (fun n => by
      rw [f_X7_askOf_2]
      dsimp only
      rw [h18, if_pos (nI_le (Nat.le_refl _) (by omega))]) (fun n k hk hP => by
      simp only [Bool.and_eq_true, decide_eq_true_eq] at hP
      rw [f_X7_askOf_2]
      dsimp only
      have f0 := ask_fld h hk 0 (by omega)
      rw [Nat.add_zero] at f0
      rw [h18, if_neg (nI_ge hk (by omega)), mu5]
      simp (disch := omega) only [ck_tt, pn_in, pn_ix, nI_1]
      rw [f0, ask_fld h hk 1 (by omega), if_neg hP.1, if_pos hP.2]) (fun n k hk hP => by
      rw [f_X7_askOf_2]
      dsimp only
      have f0 := ask_fld h hk 0 (by omega)
      rw [Nat.add_zero] at f0
      rw [h18, if_neg (nI_ge hk (by omega)), mu5]
      simp (disch := omega) only [ck_tt, pn_in, pn_ix, nI_1]
      rw [f0, ask_fld h hk 1 (by omega)]
      by_cases z : getE (gAsk s) k 0 = 3
      · rw [if_pos z]
      · have z2 : ¬ getE (gAsk s) k 1 = c := fun z2 => by simp [z, z2] at hP
        rw [if_neg z, if_neg z2]) (by omega)
  refine Eq.trans this ?_
  cases fst1 (fun i => decide (getE (gAsk s) i 0 ≠ 3) && decide (getE (gAsk s) i 1 = c)) (gAsk s).length <;> rfl
theorem m_openOf {s : Sx} {y : sw_St} (h : RM s y) (c : Int32) : f_X7_openOf y c = some (nIo (fst1 (fun i => decide (getE (gOpn s) i 1 = c)) (gOpn s).length)) := by
  have hol := h.2.2.2.2.2.2.1.2.1
  have h21 := h.2.2.2.2.2.2.1.1
  have := lp_fst (F := fun n k => f_X7_openOf_2 y n c k) (N := (gOpn s).length) (P := fun i => decide (getE (gOpn s) i 1 = c)) (G := fun i => some (nI i)) (D := some (-4)) (fun n => by
      rw [f_X7_openOf_2]
      dsimp only
      rw [h21, if_pos (nI_le (Nat.le_refl _) (by omega))]) (fun n k hk hP => by
      simp only [decide_eq_true_eq] at hP
      rw [f_X7_openOf_2]
      dsimp only
      rw [h21, if_neg (nI_ge hk (by omega)), mu7, nI_1]
      simp (disch := omega) only [ck_tt, pn_in, pn_ix]
      rw [opn_fld h hk 1 (by omega), if_pos hP]) (fun n k hk hP => by
      simp only [decide_eq_false_iff_not] at hP
      rw [f_X7_openOf_2]
      dsimp only
      rw [h21, if_neg (nI_ge hk (by omega)), mu7, nI_1, nI_1]
      simp (disch := omega) only [ck_tt, pn_in, pn_ix]
      rw [opn_fld h hk 1 (by omega), if_neg hP]) (by omega)
  refine Eq.trans this ?_
  cases fst1 (fun i => decide (getE (gOpn s) i 1 = c)) (gOpn s).length <;> rfl
/-- an asking that is no way back is its core's -/
theorem ask_own {b : Nat} {s : Sx} (hI : Inv b s) {a : E} (ha : a ∈ gAsk s) {c : Nat} (hc : c < 4) : (a 0 ≠ 3 ∧ a 1 = nI c) ↔ a 5 = nI (3 * c) := by
  obtain ⟨c', l, p, q1, q2, q3, q4, q5, q6, q7⟩ := hI.2.2.2.1.1 a ha
  have hC4 := hI.1.1.2.2
  constructor
  · intro ⟨z1, z2⟩
    rw [z2, nI_eq (by omega) (by omega)] at q2
    subst q2
    rcases q7 with ⟨w, _⟩ | ⟨_, w, _⟩
    · exact absurd w z1
    · exact w
  · intro z
    rcases q7 with ⟨w0, e, _, i, hi, _, _, _, w⟩ | ⟨w0, w, _⟩
    · rw [z, nI_eq (by omega) (by omega)] at w
      omega
    · rw [z, nI_eq (by omega) (by omega)] at w
      refine ⟨?_, by rw [q2]; congr 1; omega⟩
      rcases w0 with w0 | w0 | w0 <;> rw [w0] <;> decide
theorem e_core {b : Nat} {s : Sx} {x y : sw_St} (h : RX s x) (hm : RM s y) (hI : Inv b s) (a w : Int32) : Eqv (f_X6_core x a w) (f_X7_core y a w) := by
  obtain ⟨hC, hC2, hC4⟩ := hI.1.1
  have e02 : (0 : Int32).toInt = 0 ∧ (5 : Int32).toInt = 5 ∧ (0 : Int64).toInt = 0 ∧ (5 : Int64).toInt = 5 := by decide
  unfold f_X6_core f_X7_core
  rw [x_core h hC hC2 hC4, m_isCore hm hC hC2 hC4, x_within, m_in, e02.1, e02.2.1, e02.2.2.1, e02.2.2.2]
  simp only [bd_s]
  by_cases hc : okC s a
  · by_cases hw : 0 ≤ w.toInt ∧ w.toInt ≤ 5
    · simp only [if_pos hc, if_pos hw, if_neg n10]
      obtain ⟨c, hcC, rfl⟩ := okC_ex hC hC4 hc
      obtain ⟨k, hk, rfl⟩ := ok_ex (a := w) (n := 6) ⟨hw.1, by omega⟩ (by omega)
      have hc4 : c < 4 := by omega
      have hox := h.2.2.2.1 c hc4
      have hom := hm.2.2.2.2.1 c hc4
      have hst := op_st0 h hI hc4
      simp (disch := omega) only [ck_tt, pn_in, pn_ix]
      rw [show 8 + 9 * c + 6 = 14 + 9 * c by omega, hom.1, hom.2.1, hom.2.2.2.1, hom.2.2.2.2, h.2.2.2.2.2.1 c hc4, h.1.2.2.2.2.1, hm.1.2.2.2.2.1]
      by_cases z0 : gOp s c 0 = 0
      · rw [if_pos (hst.mpr z0), if_pos z0, z0]
        rcases (show k = 0 ∨ k = 1 ∨ k = 2 ∨ k = 3 ∨ k = 4 ∨ k = 5 by omega) with rfl | rfl | rfl | rfl | rfl | rfl <;> exact ⟨_, rfl, rfl⟩
      · rw [if_neg (fun z => z0 (hst.mp z)), if_neg z0]
        have hx5 := (hox.2.2.2.2 z0).1
        rcases hI.2.2.2.2.2.1 c hc4 with q | ⟨q1, q2, q3⟩
        · exact absurd q z0
        · rw [m_askOf hm hI, hx5]
          rcases q3 with ⟨e, he, e5⟩ | ⟨e, he, e1⟩
          · obtain ⟨x1, x2, x3, x6, x7⟩ := hox.2.1 e he e5
            have hown := (ask_own hI he hc4).mpr e5
            obtain ⟨c', l, p, _, p2, _, _, _, _, p7⟩ := hI.2.2.2.1.1 e he
            have ecc : c' = c := by rw [hown.2] at p2; exact ((nI_eq (by omega) (by omega)).mp p2).symm
            subst ecc
            have p7' : gOp s c' 0 = (if e 0 = 0 then 1 else 2) ∧ gOp s c' 1 = e 2 := by
              rcases p7 with ⟨z, _⟩ | ⟨_, _, z1, z2⟩
              · exact absurd z hown.1
              · exact ⟨z1, z2⟩
            rw [x1, x2, x3, x7, p7'.1, p7'.2]
            cases hf : fst1 (fun i => decide (getE (gAsk s) i 0 ≠ 3) && decide (getE (gAsk s) i 1 = nI c')) (gAsk s).length with
            | none =>
              obtain ⟨j, hj⟩ := List.getElem?_of_mem he
              have := fst1_n hf j (List.getElem?_eq_some_iff.mp hj).1
              rw [getE_s hj] at this
              simp [hown.1, hown.2] at this
            | some i =>
              obtain ⟨r1, r2, -⟩ := fst1_s hf
              simp only [Bool.and_eq_true, decide_eq_true_eq] at r2
              have hmem := List.mem_of_getElem? (getE_t r1)
              have ei : getE (gAsk s) i = e := pw_inj _ hI.2.2.2.1.2.2 hmem he (by rw [(ask_own hI hmem hc4).mp r2, e5])
              have hal := ask_len hI.2.2.2.1 hC4
              have f4 := ask_fld hm r1 4 (by omega)
              rw [ei] at f4
              simp only [bd_s, nIo]
              rw [if_neg (show ¬ nI i = -4 from pn_neg (by omega)), if_neg (show ¬ nI i = -4 from pn_neg (by omega)), mu5, ad4]
              simp (disch := omega) only [ck_tt, pn_in, pn_ix]
              rw [f4]
              rcases (show k = 0 ∨ k = 1 ∨ k = 2 ∨ k = 3 ∨ k = 4 ∨ k = 5 by omega) with rfl | rfl | rfl | rfl | rfl | rfl
              · exact ⟨_, rfl, rfl⟩
              · by_cases z : e 0 = 0
                · rw [if_pos z, if_pos z]; exact ⟨_, rfl, rfl⟩
                · rw [if_neg z, if_neg z]; exact ⟨_, rfl, rfl⟩
              · exact ⟨_, rfl, rfl⟩
              · exact ⟨_, rfl, rfl⟩
              · exact ⟨_, rfl, rfl⟩
              · exact ⟨_, rfl, rfl⟩
          · obtain ⟨x1, x2, x3, x9, x10, x7, x8, x4⟩ := hox.2.2.1 e he e1
            obtain ⟨c', l, p, p1, p2, _, _, _, _, _, _, pop, pop1, pno⟩ := hI.2.2.2.2.1.1 e he
            have ecc : c' = c := by rw [e1] at p2; exact ((nI_eq (by omega) (by omega)).mp p2).symm
            subst ecc
            rw [x1, x2, x3, x7, pop, pop1]
            have hfn : fst1 (fun i => decide (getE (gAsk s) i 0 ≠ 3) && decide (getE (gAsk s) i 1 = nI c')) (gAsk s).length = none := by
              cases hf : fst1 (fun i => decide (getE (gAsk s) i 0 ≠ 3) && decide (getE (gAsk s) i 1 = nI c')) (gAsk s).length with
              | none => rfl
              | some i =>
                obtain ⟨r1, r2, -⟩ := fst1_s hf
                simp only [Bool.and_eq_true, decide_eq_true_eq] at r2
                have hmem := List.mem_of_getElem? (getE_t r1)
                exact absurd ((ask_own hI hmem hc4).mp r2) (pno _ hmem)
            rw [hfn, m_openOf hm]
            cases hf : fst1 (fun i => decide (getE (gOpn s) i 1 = nI c')) (gOpn s).length with
            | none =>
              obtain ⟨j, hj⟩ := List.getElem?_of_mem he
              have := fst1_n hf j (List.getElem?_eq_some_iff.mp hj).1
              rw [getE_s hj] at this
              simp [e1] at this
            | some i =>
              obtain ⟨r1, r2, -⟩ := fst1_s hf
              simp only [decide_eq_true_eq] at r2
              have hmem := List.mem_of_getElem? (getE_t r1)
              have ei : getE (gOpn s) i = e := pw_inj _ hI.2.2.2.2.1.2.1 hmem he (by rw [r2, e1])
              have hol := opn_len hI
              have f6 := opn_fld hm r1 6 (by omega)
              rw [ei] at f6
              simp only [bd_s, nIo, if_true]
              rw [mu7, ad6]
              simp (disch := omega) only [ck_tt, pn_in, pn_ix]
              rw [f6]
              rcases (show k = 0 ∨ k = 1 ∨ k = 2 ∨ k = 3 ∨ k = 4 ∨ k = 5 by omega) with rfl | rfl | rfl | rfl | rfl | rfl
              · exact ⟨_, rfl, rfl⟩
              · by_cases z : e 0 = 0
                · rw [if_pos z, if_pos z]; exact ⟨_, rfl, rfl⟩
                · rw [if_neg z, if_neg z]; exact ⟨_, rfl, rfl⟩
              · exact ⟨_, rfl, rfl⟩
              · exact ⟨_, rfl, rfl⟩
              · exact ⟨_, rfl, rfl⟩
              · exact ⟨_, rfl, rfl⟩
    · simp only [if_pos hc, if_neg hw, if_neg n10, if_true]
      exact ⟨_, rfl, rfl⟩
  · simp only [if_neg hc, if_true]
    exact ⟨_, rfl, rfl⟩
