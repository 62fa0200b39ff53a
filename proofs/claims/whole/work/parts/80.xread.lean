/-! PURE: a read is put into the order, in the class -/
/-- one that waited is open -/
theorem RX_swap {S : Sx} {x x0 : sw_St} {c : Nat} {e : E} (h : RX S x0) (ho : Off (14 + 9 * c) x x0) (hc : c < 4) (hno : ∀ o ∈ gOpn S, o 1 ≠ nI c) (e1 : e 1 = nI c) (f0 : x (14 + 9 * c) 0 = nI c) (f1 : x (14 + 9 * c) 1 = 2) (f2 : x (14 + 9 * c) 2 = e 0) (f3 : x (14 + 9 * c) 3 = e 2) (f9 : x (14 + 9 * c) 9 = e 3) (f10 : x (14 + 9 * c) 10 = e 4) (f7 : x (14 + 9 * c) 7 = e 6) (f8 : x (14 + 9 * c) 8 = e 7) (f4 : e 0 = 0 → x (14 + 9 * c) 4 = e 5) (f5 : gOp S c 0 ≠ 0 → x (14 + 9 * c) 5 = gOp S c 3 ∧ (gOp S c 0 = 2 → x (14 + 9 * c) 4 = gOp S c 2)) : RX (wOpn (wAsk S (rmv 5 (nI (3 * c)) (gAsk S))) (gOpn S ++ [e])) x := by
  refine RX_req h (fun a ha => ho a ?_) rfl rfl rfl rfl (fun _ _ => rfl) (fun d hd => ?_) (fun d j hd hj => ?_)
  · have := ha c 0 hc (by omega)
    omega
  · show opX x d (rmv 5 (nI (3 * c)) (gAsk S)) (gOpn S ++ [e]) (gOp S d)
    by_cases ed : d = c
    · subst ed
      refine ⟨f0, fun a ha z => absurd z (mem_rmv.mp ha).2, fun a ha z => ?_, fun _ z => ?_, f5⟩
      · rcases mem_push.mp ha with ha | rfl
        · exact absurd z (hno a ha)
        · exact ⟨f1, f2, f3, f9, f10, f7, f8, f4⟩
      · exact absurd e1 (z e (mem_push.mpr (Or.inr rfl)))
    · refine opX_k (h.2.2.2.1 d hd) (ho _ (by omega)) (fun a z => ?_) (fun a z => ?_) ⟨rfl, rfl, rfl⟩
      · constructor
        · intro ha
          exact (mem_rmv.mp ha).1
        · intro ha
          refine mem_rmv.mpr ⟨ha, fun y => ?_⟩
          rw [z, nI_eq (by omega) (by omega)] at y
          omega
      · constructor
        · intro ha
          rcases mem_push.mp ha with ha | rfl
          · exact ha
          · rw [e1, nI_eq (by omega) (by omega)] at z
            exact absurd z.symm ed
        · intro ha
          exact mem_push.mpr (Or.inl ha)
  · refine bkX_k (h.2.2.2.2.1 d j hd hj) (ho _ (by omega)) (fun a z => ?_) (fun _ _ => Iff.rfl)
    constructor
    · intro ha
      exact (mem_rmv.mp ha).1
    · intro ha
      refine mem_rmv.mpr ⟨ha, fun y => ?_⟩
      rw [z, nI_eq (by omega) (by omega)] at y
      omega
/-- what another core has alone comes to memory, and stays there, shared -/
theorem bring_1 {b : Nat} {S : Sx} {x x0 : sw_St} {c d l : Nat} (h : RX S x0) (ho : Off (14 + 9 * c) x x0) (hI : Inv b S) (hd : d < 4) (hl : l < 8) (z0 : hw S d (nI l) ≠ 0) (z1 : hw S d (nI l) ≠ 1) (hb : ∀ e ∈ gBuf S d, e 0 ≠ nI l) : ∃ x', f_X0_bringToMemory x (8 + 9 * d) (nI l) = some x' ∧ (∃ x0', RX (wRow (wMem S l (valR (gRow S d) (nI l))) d (toSh (gRow S d) (nI l))) x0' ∧ Off (14 + 9 * c) x' x0') ∧ x' (14 + 9 * c) = x (14 + 9 * c) ∧ x' (10 + 9 * d) l = 1 := by
  have hp := pw0 hI hd
  obtain ⟨e, he, e0⟩ := how_in z0
  have hv : x (11 + 9 * d) l = valR (gRow S d) (nI l) := by
    rw [ho _ (by omega), ((h.2.2.1 d hd).2.1 e he l hl e0).1, ← e0, val_mem _ hp he]
  unfold f_X0_bringToMemory f_X0_bringToMemory_36
  rw [ck_t (isC_c hd rfl), ck_t (isC_c hd rfl), x_sole hd (by omega) hl, bd_s, off_st h ho hd hl, if_pos ((sole_iff hI hd).mpr ⟨z0, z1⟩), if_neg (by decide), ck_t (pn_in (by omega) (by omega)), pn_ix (by omega), show 8 + 9 * d + 1 + 2 = 11 + 9 * d by omega, show 8 + 9 * d + 1 + 1 = 10 + 9 * d by omega, hv]
  simp only [sw_pt]
  have hm := RX_mem (l := l) (v := valR (gRow S d) (nI l)) h
  have hR : RX (wRow (wMem S l (valR (gRow S d) (nI l))) d (toSh (gRow S d) (nI l))) (sw_up (sw_up x0 5 l (valR (gRow S d) (nI l))) (10 + 9 * d) l 1) := by
    refine RX_cache0 hm hd ?_ (fun a ha => up_ne (by omega))
    obtain ⟨a1, a2, a3⟩ := hm.2.2.1 d hd
    refine ⟨fun l' hl' => ?_, fun e' he' l' hl' e0' => ?_, ?_⟩
    · rw [how_toSh hp z0]
      by_cases q : l' = l
      · rw [q, up_eq, if_pos rfl]
      · rw [up_nj q, if_neg (fun y => q ((nI_eq (by omega) (by omega)).mp y))]
        exact a1 l' hl'
    · rw [up_ne (show 11 + 9 * d ≠ 10 + 9 * d by omega), up_ne (show 12 + 9 * d ≠ 10 + 9 * d by omega)]
      unfold toSh at he'
      cases hx : ixf (gRow S d) 0 (nI l) with
      | none => rw [hx] at he'; exact a2 e' he' l' hl' e0'
      | some k =>
        rw [hx] at he'
        obtain ⟨ek, g1, g2, g3⟩ := ixf_some hx
        rcases mem_set _ k g3 he' with rfl | he'
        · have := a2 (getE (gRow S d) k) (List.mem_of_getElem? (getE_t g3)) l' hl' e0'
          exact this
        · exact a2 e' he' l' hl' e0'
    · rw [up_ne (by omega)]; exact a3
  have hO : Off (14 + 9 * c) (sw_up (sw_up x 5 l (valR (gRow S d) (nI l))) (10 + 9 * d) l 1) (sw_up (sw_up x0 5 l (valR (gRow S d) (nI l))) (10 + 9 * d) l 1) := Off_up (Off_up ho)
  rcases x_backOf (nI l) hd rfl (off_bk hR hO hd) (fun e he => buf_sl hI hd e he) with ⟨e', he', i, hi, e0', e2, ef⟩ | ⟨hno, ef⟩
  · exact absurd e0' (hb e' he')
  · rw [ef, bd_s, if_pos rfl, ck_t (isC_c hd rfl)]
    exact ⟨_, rfl, ⟨_, hR, hO⟩, by rw [up_ne (by omega), up_ne (by omega)], up_eq⟩
/-- what is on its way back comes to memory -/
theorem bring_2 {b : Nat} {S : Sx} {x x0 : sw_St} {c d l i : Nat} {be : E} (h : RX S x0) (ho : Off (14 + 9 * c) x x0) (hI : Inv b S) (hd : d < 4) (hl : l < 8) (z0 : hw S d (nI l) = 0) (hbe : be ∈ gBuf S d) (b0 : be 0 = nI l) (hi : i < 2) (b2 : be 2 = nI i) : ∃ x', f_X0_bringToMemory x (8 + 9 * d) (nI l) = some x' ∧ (∃ x0', RX (wAsk (wBuf (wMem S l (be 1)) d (rmv 0 (nI l) (gBuf S d))) (rmv 5 (nI (3 * d + 1 + i)) (gAsk S))) x0' ∧ Off (14 + 9 * c) x' x0') ∧ x' (14 + 9 * c) = x (14 + 9 * c) ∧ x' (10 + 9 * d) l = 0 := by
  unfold f_X0_bringToMemory f_X0_bringToMemory_36
  rw [ck_t (isC_c hd rfl), ck_t (isC_c hd rfl), x_sole hd (by omega) hl, bd_s, off_st h ho hd hl, if_neg (fun y => ((sole_iff hI hd).mp y).1 z0), if_pos rfl]
  rcases x_backOf (nI l) hd rfl (off_bk h ho hd) (buf_sl hI hd) with ⟨e', he', i', hi', e0', e2, ef⟩ | ⟨hno, ef⟩
  · have ee : e' = be := pw_inj _ (hI.2.2.1 d hd).1.2.1 he' hbe (by rw [e0', b0])
    have ei : i' = i := by rw [ee, b2, nI_eq (by omega) (by omega)] at e2; exact e2.symm
    subst ei
    rw [ef, bd_s, if_neg (by omega), ck_t (isQ_c hd (r := 1 + i') (by omega) (by omega)), ck_t (pn_in (by omega) (by omega)), pn_ix (by omega)]
    simp only [sw_pt]
    have hv : x (15 + 9 * d + i') 4 = be 1 := by
      rw [ho _ (by omega)]
      exact ((h.2.2.2.2.1 d i' hd hi').2.1 be hbe b2).2.2.2.1
    rw [hv]
    have hm := RX_mem (l := l) (v := be 1) h
    have hIm : Inv b (wMem S l (be 1)) := Inv_k hI (fun _ _ _ _ _ _ => rfl) rfl rfl (fun _ => ⟨rfl, rfl⟩) rfl rfl rfl
    have hR := RX_unback hm hIm hd hbe hi' b2
    rw [b0] at hR
    refine ⟨_, rfl, ⟨_, hR, Off_up (Off_up ho)⟩, by rw [up_ne (by omega), up_ne (by omega)], ?_⟩
    rw [up_ne (by omega), up_ne (by omega), off_st h ho hd hl]
    exact z0
  · exact absurd b0 (hno be hbe)
/-- nothing to bring -/
theorem bring_0 {b : Nat} {S : Sx} {x x0 : sw_St} {c d l : Nat} (h : RX S x0) (ho : Off (14 + 9 * c) x x0) (hI : Inv b S) (hd : d < 4) (hl : l < 8) (z : hw S d (nI l) = 0 ∨ hw S d (nI l) = 1) (hb : ∀ e ∈ gBuf S d, e 0 ≠ nI l) : f_X0_bringToMemory x (8 + 9 * d) (nI l) = some x := by
  unfold f_X0_bringToMemory f_X0_bringToMemory_36
  have hs : ¬ (hw S d (nI l) = 2 ∨ hw S d (nI l) = 3) := fun y => by
    have := (sole_iff hI hd).mp y
    rcases z with w | w
    · exact this.1 w
    · exact this.2 w
  rw [ck_t (isC_c hd rfl), ck_t (isC_c hd rfl), x_sole hd (by omega) hl, bd_s, off_st h ho hd hl, if_neg hs, if_pos rfl]
  rcases x_backOf (nI l) hd rfl (off_bk h ho hd) (buf_sl hI hd) with ⟨e', he', i', hi', e0', e2, ef⟩ | ⟨hno, ef⟩
  · exact absurd e0' (hb e' he')
  · rw [ef, bd_s, if_pos rfl]
/-- the loop over all others, by what it makes of the middle state -/
theorem read_loop {x : sw_St} {c l C : Nat} {U : Nat → Sx} {tb : Nat → Int32} (hc : c < C) (hC4 : C ≤ 4) (hl : l < 8) (hCU : ∀ k, k ≤ C → gSc (U k) 0 = nI C) (h0 : ∃ x0, RX (U 0) x0 ∧ Off (14 + 9 * c) x x0) (hq0 : x (14 + 9 * c) 0 = nI c) (hq10 : x (14 + 9 * c) 10 = tb 0) (hcU : U (c + 1) = U c ∧ tb (c + 1) = tb c) (hs : ∀ k, k < C → k ≠ c → ∀ y y0, RX (U k) y0 → Off (14 + 9 * c) y y0 → ∃ y', f_X0_bringToMemory y (8 + 9 * k) (nI l) = some y' ∧ (∃ y0', RX (U (k + 1)) y0' ∧ Off (14 + 9 * c) y' y0') ∧ y' (14 + 9 * c) = y (14 + 9 * c) ∧ (if y' (10 + 9 * k) l = 0 then tb (k + 1) = tb k else tb (k + 1) = 1)) : wp (f_X0_orderRead_60 sw_fuel x (14 + 9 * c) (nI l) 0) (fun x' => (∃ x0', RX (U C) x0' ∧ Off (14 + 9 * c) x' x0') ∧ (∀ b, b ≠ 10 → b ≠ 4 → x' (14 + 9 * c) b = x (14 + 9 * c) b) ∧ x' (14 + 9 * c) 10 = tb C ∧ x' (14 + 9 * c) 4 = gMem (U C) l) := by
  obtain ⟨m, x', e, ⟨x0', hR, hO⟩, hQ, hT⟩ := lp_st (F := fun n y k => f_X0_orderRead_60 n y (14 + 9 * c) (nI l) k) (N := C) (I := fun k y => (∃ y0, RX (U k) y0 ∧ Off (14 + 9 * c) y y0) ∧ (∀ b, b ≠ 10 → y (14 + 9 * c) b = x (14 + 9 * c) b) ∧ y (14 + 9 * c) 10 = tb k) (fun n k y hk ⟨⟨y0, g1, g2⟩, g3, g4⟩ => by
      have h4 : y 2 4 = nI C := by
        rw [g2 2 (by omega), g1.1.1]
        exact hCU k (by omega)
      rw [f_X0_orderRead_60]
      dsimp only
      rw [h4, if_neg (nI_ge hk (by omega)), ck_t (isQ_c (show c < 4 by omega) (r := 0) (by omega) (by omega)), g3 0 (by decide), hq0, nI_1]
      by_cases ec : k = c
      · refine ⟨y, by rw [if_pos (by rw [ec])], ⟨y0, ?_, g2⟩, g3, ?_⟩
        · rw [ec, hcU.1]; rw [ec] at g1; exact g1
        · rw [ec, hcU.2]; rw [ec] at g4; exact g4
      · rw [if_neg (fun z => ec ((nI_eq (by omega) (by omega)).mp z)), ck_t (pn_in (by omega) (by omega)), pn_ix (by omega)]
        obtain ⟨y', e1, ⟨y0', g5, g6⟩, g7, g8⟩ := hs k hk ec y y0 g1 g2
        rw [e1, bd_s, ck_t (pn_in (by omega) (by omega)), pn_ix (by omega), show 8 + 9 * k + 1 + 1 = 10 + 9 * k by omega]
        by_cases z : y' (10 + 9 * k) l = 0
        · rw [if_pos z] at g8
          rw [if_pos z]
          exact ⟨y', rfl, ⟨y0', g5, g6⟩, fun b hb => by rw [g7]; exact g3 b hb, by rw [g7, g4, g8]⟩
        · rw [if_neg z] at g8
          rw [if_neg z]
          exact ⟨sw_up y' (14 + 9 * c) 10 1, rfl, ⟨y0', g5, Off_q g6⟩, fun b hb => by rw [up_nj hb, g7]; exact g3 b hb, by rw [up_eq, g8]⟩) sw_fuel 0 x (Nat.zero_le _) (by unfold sw_fuel; omega) ⟨h0, fun _ _ => rfl, hq10⟩
  have h4 : x' 2 4 = nI C := by
    rw [hO 2 (by omega), hR.1.1]
    exact hCU C (Nat.le_refl _)
  refine ⟨sw_up x' (14 + 9 * c) 4 (x' 5 l), ?_, ⟨x0', hR, Off_q hO⟩, fun b h10 h4 => by rw [up_nj h4]; exact hQ b h10, by rw [up_nj (by decide)]; exact hT, ?_⟩
  · refine Eq.trans e ?_
    rw [f_X0_orderRead_60]
    dsimp only
    rw [h4, if_pos (nI_le (Nat.le_refl _) (by omega)), ck_t (pn_in (by omega) (by omega)), ck_t (isQ_c (show c < 4 by omega) (r := 0) (by omega) (by omega)), pn_ix (by omega)]
    rfl
  · rw [up_eq, hO 5 (by omega)]
    exact hR.2.1 l hl
