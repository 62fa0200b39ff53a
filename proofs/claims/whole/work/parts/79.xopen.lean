/-! PURE: what an address turn does to other cores, in the class -/
def Off (q : Nat) (x x0 : sw_St) : Prop := ∀ a, a ≠ q → x a = x0 a
theorem Off_up {q k j : Nat} {v : Int32} {x x0 : sw_St} (h : Off q x x0) : Off q (sw_up x k j v) (sw_up x0 k j v) := by
  intro a ha
  by_cases e : a = k
  · subst e
    funext b
    unfold sw_up
    rw [if_pos rfl, if_pos rfl, h a ha]
  · rw [up_ne e, up_ne e, h a ha]
theorem Off_q {q j : Nat} {v : Int32} {x x0 : sw_St} (h : Off q x x0) : Off q (sw_up x q j v) x0 := by
  intro a ha
  rw [up_ne ha]
  exact h a ha
theorem off_bk {s : Sx} {x x0 : sw_St} {c d : Nat} (h : RX s x0) (ho : Off (14 + 9 * c) x x0) (hd : d < 4) : ∀ i, i < 2 → bkX x d i (gAsk s) (gBuf s d) := fun i hi => bkX_k (h.2.2.2.2.1 d i hd hi) (ho _ (by omega)) (fun _ _ => Iff.rfl) (fun _ _ => Iff.rfl)
theorem off_st {s : Sx} {x x0 : sw_St} {c d l : Nat} (h : RX s x0) (ho : Off (14 + 9 * c) x x0) (hd : d < 4) (hl : l < 8) : x (10 + 9 * d) l = hw s d (nI l) := by
  rw [ho _ (by omega)]
  exact (h.2.2.1 d hd).1 l hl
theorem sole_iff {b : Nat} {s : Sx} {d : Nat} {l : Int32} (hI : Inv b s) (hd : d < 4) : (hw s d l = 2 ∨ hw s d l = 3) ↔ (hw s d l ≠ 0 ∧ hw s d l ≠ 1) := by
  constructor
  · intro z
    rcases z with z | z <;> rw [z] <;> decide
  · intro ⟨z0, z1⟩
    rcases hw_123 (l := l) hI hd with z | z | z | z
    · exact absurd z z0
    · exact absurd z z1
    · exact Or.inl z
    · exact Or.inr z
theorem x_time {b : Nat} {s : Sx} {x x0 : sw_St} {c l : Nat} (h : RX s x0) (ho : Off (14 + 9 * c) x x0) (hI : Inv b s) (hc : c < cN s) (hl : l < 8) (hown : ∀ e ∈ gBuf s c, e 0 ≠ nI l) (hc2 : hw s c (nI l) = 0 ∨ hw s c (nI l) = 1) : f_X0_answerTime x (nI c) (nI l) = some (if oth s (nI c) (nI l) 2 = none ∧ bfr s (nI l) = none then gSc s 3 else gSc s 2) := by
  have hC4 := hI.1.1.2.2
  have h4 : x 2 4 = nI (cN s) := by rw [ho 2 (by omega), ← hI.1.1.1]; exact h.1.1
  have h6 : x 2 6 = gSc s 2 := by rw [ho 2 (by omega)]; exact h.1.2.2.1
  have h7 : x 2 7 = gSc s 3 := by rw [ho 2 (by omega)]; exact h.1.2.2.2.1
  have step : ∀ n k, k < cN s → f_X0_answerTime_2 x (n + 1) (nI c) (nI l) (nI k) = if k = c then f_X0_answerTime_2 x n (nI c) (nI l) (nI (k + 1)) else (if hw s k (nI l) ≠ 0 ∧ hw s k (nI l) ≠ 1 then some (gSc s 2) else (if ∃ e ∈ gBuf s k, e 0 = nI l then some (gSc s 2) else f_X0_answerTime_2 x n (nI c) (nI l) (nI (k + 1)))) := fun n k hk => by
    rw [f_X0_answerTime_2]
    dsimp only
    rw [h4, if_neg (nI_ge hk (by omega)), nI_1]
    by_cases e : k = c
    · rw [if_pos (by rw [e]), if_pos e]
    · rw [if_neg (fun z => e ((nI_eq (by omega) (by omega)).mp z)), if_neg e, ck_t (pn_in (by omega) (by omega)), pn_ix (by omega), x_sole (c := k) (by omega) (by omega) hl, bd_s, off_st h ho (by omega) hl]
      by_cases z : hw s k (nI l) = 2 ∨ hw s k (nI l) = 3
      · rw [if_pos z, if_neg (by decide), if_pos ((sole_iff hI (by omega)).mp z), h6]
      · rw [if_neg z, if_pos rfl, if_neg (fun y => z ((sole_iff hI (by omega)).mpr y))]
        rcases x_backOf (nI l) (show k < 4 by omega) rfl (off_bk h ho (by omega)) (buf_sl hI (by omega)) with ⟨e', he', i, hi, e0, e2, ef⟩ | ⟨hno, ef⟩
        · rw [ef, bd_s, if_neg (by omega), if_pos ⟨e', he', e0⟩, h6]
        · rw [ef, bd_s, if_pos rfl, if_neg (fun ⟨e', he', e0⟩ => hno e' he' e0)]
  have := lp_find (F := fun n k => f_X0_answerTime_2 x n (nI c) (nI l) k) (N := cN s) (P := fun k => k ≠ c ∧ ((hw s k (nI l) ≠ 0 ∧ hw s k (nI l) ≠ 1) ∨ ∃ e ∈ gBuf s k, e 0 = nI l)) (g := fun _ => gSc s 2) (d := gSc s 3) (fun n => by
      rw [f_X0_answerTime_2]
      dsimp only
      rw [h4, if_pos (nI_le (Nat.le_refl _) (by omega)), h7]) (fun n k hk hP => by
      rw [step n k hk, if_neg hP.1]
      by_cases z : hw s k (nI l) ≠ 0 ∧ hw s k (nI l) ≠ 1
      · rw [if_pos z]
      · rw [if_neg z, if_pos (hP.2.resolve_left z)]) (fun n k hk hP => by
      rw [step n k hk]
      by_cases e : k = c
      · rw [if_pos e]
      · rw [if_neg e, if_neg (fun y => hP ⟨e, Or.inl y⟩), if_neg (fun y => hP ⟨e, Or.inr y⟩)]) sw_fuel 0 (Nat.zero_le _) (by unfold sw_fuel; omega)
  unfold f_X0_answerTime
  rcases holders hI hc hl hown hc2 with ⟨d, z1, z2, z3, z4, z5, z6, z7⟩ | ⟨z1, d, k, z2, z3, z4, z5, z6, z7⟩ | ⟨z1, z2, z3, z4⟩
  · rw [z1, if_neg (fun y => by cases y.1)]
    rcases this with ⟨k, -, hk, hP, -, e⟩ | ⟨hno, e⟩
    · exact e
    · exact absurd ⟨z3, Or.inl ⟨z4, z5⟩⟩ (hno d (Nat.zero_le _) z2)
  · rw [z2, if_neg (fun y => by cases y.2)]
    obtain ⟨e', g1, g2, g3⟩ := ixf_some z5
    rcases this with ⟨k, -, hk, hP, -, e⟩ | ⟨hno, e⟩
    · exact e
    · exact absurd ⟨z4, Or.inr ⟨e', List.mem_of_getElem? g1, g2⟩⟩ (hno d (Nat.zero_le _) z3)
  · rw [if_pos ⟨z1, z2⟩]
    rcases this with ⟨k, -, hk, hP, -, e⟩ | ⟨hno, e⟩
    · rcases hP.2 with y | ⟨e', he', e0⟩
      · rcases z3 k (by omega) with w | w
        · exact absurd w y.1
        · exact absurd w y.2
      · exact absurd e0 (z4 k (by omega) e' he')
    · exact e
/-- a line leaves a cache -/
theorem cache_del {x x' : sw_St} {c l : Nat} {L : List E} {u : Int32} (h : cacheX x c L u) (hl : l < 8) (h1 : ∀ l', l' ≠ l → x' (10 + 9 * c) l' = x (10 + 9 * c) l') (h2 : x' (10 + 9 * c) l = 0) (h3 : x' (9 + 9 * c) = x (9 + 9 * c) ∧ x' (11 + 9 * c) = x (11 + 9 * c) ∧ x' (12 + 9 * c) = x (12 + 9 * c)) : cacheX x' c (rmv 0 (nI l) L) u := by
  obtain ⟨a1, a2, a3⟩ := h
  refine ⟨fun l' hl' => ?_, fun e he l' hl' e0 => ?_, by rw [h3.1]; exact a3⟩
  · rw [how_rmv]
    by_cases q : l' = l
    · rw [q, if_pos rfl]; exact h2
    · rw [if_neg (fun y => q ((nI_eq (by omega) (by omega)).mp y)), h1 l' q]
      exact a1 l' hl'
  · rw [h3.2.1, h3.2.2]
    exact a2 e (mem_rmv.mp he).1 l' hl' e0
theorem x_take {b : Nat} {S S' : Sx} {x x0 : sw_St} {c l d i : Nat} (h : RX S x0) (ho : Off (14 + 9 * c) x x0) (hI : Inv b S) (hc : c < cN S) (hl : l < 8) (hcase : (d = 4 ∧ S' = S ∧ ∀ e, e < 4 → ∀ x ∈ gBuf S e, x 0 ≠ nI l) ∨ (d < cN S ∧ d ≠ c ∧ i < 2 ∧ (∃ be ∈ gBuf S d, be 0 = nI l ∧ be 2 = nI i) ∧ (∀ e, e < 4 → e ≠ d → ∀ x ∈ gBuf S e, x 0 ≠ nI l) ∧ S' = wAsk (wBuf S d (rmv 0 (nI l) (gBuf S d))) (rmv 5 (nI (3 * d + 1 + i)) (gAsk S)))) : wp (f_X0_takeFromOthers x (nI c) (nI l)) (fun x' => ∃ x0', RX (aNoOther S' c (nI l)) x0' ∧ Off (14 + 9 * c) x' x0' ∧ x' (14 + 9 * c) = x (14 + 9 * c)) := by
  have hC4 := hI.1.1.2.2
  have hrow' : gRow S' = gRow S := by
    rcases hcase with ⟨_, z, _⟩ | ⟨_, _, _, _, _, z⟩ <;> rw [z] <;> rfl
  have hsc' : gSc S' = gSc S := by
    rcases hcase with ⟨_, z, _⟩ | ⟨_, _, _, _, _, z⟩ <;> rw [z] <;> rfl
  have hI' : Inv b S' := by
    rcases hcase with ⟨_, z, _⟩ | ⟨z1, z2, z3, ⟨be, z4, z5, z6⟩, z7, z⟩
    · rw [z]; exact hI
    · rw [z]; exact Inv_out hI (by omega) z4 z5 z3 z6
  obtain ⟨m, x', e, x0', hR, hO, hQ⟩ := lp_st (F := fun n x k => f_X0_takeFromOthers_2 n x (nI c) (nI l) k) (N := cN S) (I := fun k y => ∃ y0, RX (wRows (if d < k then S' else S) (fun e => if e < k ∧ e ≠ c then del (gRow S e) (nI l) else gRow S e)) y0 ∧ Off (14 + 9 * c) y y0 ∧ y (14 + 9 * c) = x (14 + 9 * c)) (fun n k y hk ⟨y0, g1, g2, g3⟩ => by
      have h4 : y 2 4 = nI (cN S) := by
        rw [g2 2 (by omega), g1.1.1, ← hI.1.1.1]
        show gSc (if d < k then S' else S) 0 = _
        split
        · rw [hsc']
        · rfl
      have hInvU : Inv b (if d < k then S' else S) := by
        split
        · exact hI'
        · exact hI
      have hrowU : gRow (if d < k then S' else S) = gRow S := by
        split
        · exact hrow'
        · rfl
      rw [f_X0_takeFromOthers_2]
      dsimp only
      rw [h4, if_neg (nI_ge hk (by omega)), nI_1]
      have hV : Inv b (wRows (if d < k then S' else S) (fun e => if e < k ∧ e ≠ c then del (gRow S e) (nI l) else gRow S e)) := Inv_sub hInvU (fun e he => by
        rw [hrowU]
        split
        · rw [del_rmv (pw0 hI he)]; exact rmv_sub _ _ _
        · exact List.Sublist.refl _)
      by_cases ec : k = c
      · refine ⟨y, by rw [if_pos (by rw [ec])], y0, ?_, g2, g3⟩
        have e1 : (fun e => if e < k + 1 ∧ e ≠ c then del (gRow S e) (nI l) else gRow S e) = (fun e => if e < k ∧ e ≠ c then del (gRow S e) (nI l) else gRow S e) := by
          funext e
          by_cases z : e < k ∧ e ≠ c
          · rw [if_pos z, if_pos ⟨by omega, z.2⟩]
          · rw [if_neg z, if_neg (by omega)]
        have e2 : (if d < k + 1 then S' else S) = (if d < k then S' else S) := by
          have : d ≠ k := by
            rcases hcase with ⟨z, _, _⟩ | ⟨_, z, _⟩
            · omega
            · omega
          by_cases z : d < k
          · rw [if_pos z, if_pos (by omega)]
          · rw [if_neg z, if_neg (by omega)]
        rw [e1, e2]
        exact g1
      · rw [if_neg (fun z => ec ((nI_eq (by omega) (by omega)).mp z)), ck_t (pn_in (by omega) (by omega)), ck_t (pn_in (by omega) (by omega)), pn_ix (by omega), pn_ix (by omega), show 8 + 9 * k + 1 + 1 = 10 + 9 * k by omega]
        simp only [sw_pt]
        have hk4 : k < 4 := by omega
        have rk' : gRow (wRows (if d < k then S' else S) (fun e => if e < k ∧ e ≠ c then del (gRow S e) (nI l) else gRow S e)) k = gRow S k := by
          show (if k < k ∧ k ≠ c then _ else gRow S k) = _
          rw [if_neg (by omega)]
        have hcx := g1.2.2.1 k hk4
        rw [rk'] at hcx
        have g4 := RX_cache0 (x' := sw_up y0 (10 + 9 * k) l 0) g1 hk4 (cache_del hcx hl (fun l' hl' => up_nj hl') up_eq ⟨up_ne (by omega), up_ne (by omega), up_ne (by omega)⟩) (fun a ha => up_ne (by omega))
        have g5 : Off (14 + 9 * c) (sw_up y (10 + 9 * k) l 0) (sw_up y0 (10 + 9 * k) l 0) := Off_up g2
        have g6 : sw_up y (10 + 9 * k) l 0 (14 + 9 * c) = x (14 + 9 * c) := by rw [up_ne (by omega)]; exact g3
        have hW : Inv b (wRow (wRows (if d < k then S' else S) (fun e => if e < k ∧ e ≠ c then del (gRow S e) (nI l) else gRow S e)) k (rmv 0 (nI l) (gRow S k))) := Inv_row hV (by rw [rk']; exact rmv_sub _ _ _)
        have erow : va_up (fun e => if e < k ∧ e ≠ c then del (gRow S e) (nI l) else gRow S e) k (rmv 0 (nI l) (gRow S k)) = (fun e => if e < k + 1 ∧ e ≠ c then del (gRow S e) (nI l) else gRow S e) := by
          funext e
          by_cases z : e = k
          · subst z
            rw [up_s, if_pos ⟨by omega, ec⟩, del_rmv (pw0 hI hk4)]
          · rw [up_n _ _ z]
            by_cases z2 : e < k ∧ e ≠ c
            · rw [if_pos z2, if_pos ⟨by omega, z2.2⟩]
            · rw [if_neg z2, if_neg (by omega)]
        rcases x_backOf (nI l) hk4 rfl (off_bk g4 g5 hk4) (buf_sl hW hk4) with ⟨e', he', i', hi', e0, e2, ef⟩ | ⟨hno, ef⟩
        · rw [ef, bd_s, if_neg (by omega), ck_t (isQ_c hk4 (r := 1 + i') (by omega) (by omega))]
          have he' : e' ∈ gBuf (if d < k then S' else S) k := he'
          have hkd : d = k ∧ i' = i := by
            rcases hcase with ⟨z1, z2, z3⟩ | ⟨z1, z2, z3, ⟨be, z4, z5, z6⟩, z7, z8⟩
            · rw [if_neg (by omega)] at he'
              exact absurd e0 (z3 k hk4 e' he')
            · by_cases zd : d < k
              · rw [if_pos zd, z8] at he'
                have he' : e' ∈ va_up (gBuf S) d (rmv 0 (nI l) (gBuf S d)) k := he'
                rw [up_n _ _ (by omega)] at he'
                exact absurd e0 (z7 k hk4 (by omega) e' he')
              · rw [if_neg zd] at he'
                have hdk : k = d := Classical.byContradiction (fun hne => z7 k hk4 hne e' he' e0)
                refine ⟨hdk.symm, ?_⟩
                rw [hdk] at he'
                have : e' = be := pw_inj _ (hI.2.2.1 d (by omega)).1.2.1 he' z4 (by rw [e0, z5])
                rw [this, z6, nI_eq (by omega) (by omega)] at e2
                exact e2.symm
          obtain ⟨rfl, rfl⟩ := hkd
          have g7 := RX_unback g4 hW hk4 he' hi' e2
          refine ⟨sw_up (sw_up y (10 + 9 * d) l 0) (15 + 9 * d + i') 1 0, rfl, sw_up (sw_up y0 (10 + 9 * d) l 0) (15 + 9 * d + i') 1 0, ?_, Off_up g5, by rw [up_ne (by omega)]; exact g6⟩
          rcases hcase with ⟨z1, z2, z3⟩ | ⟨z1, z2, z3, ⟨be, z4, z5, z6⟩, z7, z8⟩
          · omega
          · rw [if_pos (by omega), ← erow, z8]
            rw [e0] at g7
            rw [if_neg (Nat.lt_irrefl d)] at g7
            exact g7
        · rw [ef, bd_s, if_pos rfl]
          refine ⟨sw_up y (10 + 9 * k) l 0, rfl, sw_up y0 (10 + 9 * k) l 0, ?_, g5, g6⟩
          have hdk : d ≠ k := fun z => by
            rcases hcase with ⟨z1, z2, z3⟩ | ⟨z1, z2, z3, ⟨be, z4, z5, z6⟩, z7, z8⟩
            · omega
            · have hno : ∀ e ∈ gBuf (if d < k then S' else S) k, e 0 ≠ nI l := hno
              rw [if_neg (by omega), ← z] at hno
              exact hno be z4 z5
          have e2 : (if d < k + 1 then S' else S) = (if d < k then S' else S) := by
            by_cases z : d < k
            · rw [if_pos z, if_pos (by omega)]
            · rw [if_neg z, if_neg (by omega)]
          rw [e2, ← erow]
          exact g4) sw_fuel 0 x (Nat.zero_le _) (by unfold sw_fuel; omega) ⟨x0, by
      rw [if_neg (by omega)]
      have : (fun e => if e < 0 ∧ e ≠ c then del (gRow S e) (nI l) else gRow S e) = gRow S := by
        funext e
        rw [if_neg (by omega)]
      rw [this]
      exact h, ho, rfl⟩
  unfold f_X0_takeFromOthers
  have hfin : RX (aNoOther S' c (nI l)) x0' := by
    have e1 : aNoOther S' c (nI l) = wRows (if d < cN S then S' else S) (fun e => if e < cN S ∧ e ≠ c then del (gRow S e) (nI l) else gRow S e) := by
      have eS : (if d < cN S then S' else S) = S' := by
        rcases hcase with ⟨z1, z2, z3⟩ | ⟨z1, _⟩
        · rw [z2]; split <;> rfl
        · rw [if_pos z1]
      rw [eS]
      unfold aNoOther
      rw [hsc', hrow']
    rw [e1]
    exact hR
  have h4 : x' 2 4 = nI (cN S) := by
    rw [hO 2 (by omega), hfin.1.1, ← hI.1.1.1, show gSc (aNoOther S' c (nI l)) = gSc S' from rfl, hsc']
  refine ⟨x', ?_, x0', hfin, hO, hQ⟩
  refine Eq.trans e ?_
  rw [f_X0_takeFromOthers_2]
  dsimp only
  rw [h4, if_pos (nI_le (Nat.le_refl _) (by omega))]
