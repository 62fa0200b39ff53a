/-! PURE: the class's calls of a core -/
theorem x_backOf {x : sw_St} {c q : Nat} {A B : List E} (l : Int32) (hc : c < 4) (hq : q = 8 + 9 * c) (h : ∀ i, i < 2 → bkX x c i A B) (hs : ∀ e ∈ B, ∃ i, i < 2 ∧ e 2 = nI i) : (∃ e ∈ B, ∃ i, i < 2 ∧ e 0 = l ∧ e 2 = nI i ∧ f_X2_backOf x q l = some (15 + 9 * c + i)) ∨ ((∀ e ∈ B, e 0 ≠ l) ∧ f_X2_backOf x q l = some 0) := by
  have key : ∀ i, i < 2 → ((x (15 + 9 * c + i) 1 = 1 ∧ x (15 + 9 * c + i) 3 = l) ↔ ∃ e ∈ B, e 2 = nI i ∧ e 0 = l) := fun i hi => by
    obtain ⟨h1, h2, h3, h4⟩ := h i hi
    constructor
    · intro ⟨z1, z2⟩
      apply Classical.byContradiction
      intro hn
      by_cases hB : ∃ e ∈ B, e 2 = nI i
      · obtain ⟨e, he, y⟩ := hB
        exact hn ⟨e, he, y, by rw [← (h2 e he y).2.2.1]; exact z2⟩
      · have := h4 (fun e he y => hB ⟨e, he, y⟩)
        rw [z1] at this
        exact absurd this (by decide)
    · intro ⟨e, he, y1, y2⟩
      have := h2 e he y1
      exact ⟨this.1, by rw [this.2.2.1]; exact y2⟩
  have step : ∀ n i, i < 2 → f_X2_backOf_2 x (n + 1) q l (nI i) = if x (15 + 9 * c + i) 1 = 1 then (if x (15 + 9 * c + i) 3 = l then some (15 + 9 * c + i) else f_X2_backOf_2 x n q l (nI (i + 1))) else f_X2_backOf_2 x n q l (nI (i + 1)) := fun n i hi => by
    rw [f_X2_backOf_2]
    dsimp only
    rw [if_neg (ge2 hi), ck_t (isC_c hc hq), ck_t (pn_in (by omega) (by omega)), pn_ix (by omega), nI_1, show q + 7 + i = 15 + 9 * c + i by omega]
  have := lp_find (F := fun n k => f_X2_backOf_2 x n q l k) (N := 2) (P := fun i => ∃ e ∈ B, e 2 = nI i ∧ e 0 = l) (g := fun i => 15 + 9 * c + i) (d := 0) (fun n => by
      rw [f_X2_backOf_2]
      dsimp only
      rw [if_pos (by decide)]) (fun n k hk hP => by
      obtain ⟨z1, z2⟩ := (key k hk).mpr hP
      rw [step n k hk, if_pos z1, if_pos z2]) (fun n k hk hP => by
      rw [step n k hk]
      by_cases z1 : x (15 + 9 * c + k) 1 = 1
      · rw [if_pos z1, if_neg (fun z2 => hP ((key k hk).mp ⟨z1, z2⟩))]
      · rw [if_neg z1]) sw_fuel 0 (Nat.zero_le _) (by unfold sw_fuel; omega)
  unfold f_X2_backOf
  rcases this with ⟨k, -, hk, ⟨e, he, y1, y2⟩, -, ef⟩ | ⟨hno, ef⟩
  · exact Or.inl ⟨e, he, k, hk, y2, y1, ef⟩
  · refine Or.inr ⟨fun e he z => ?_, ef⟩
    obtain ⟨i, hi, y⟩ := hs e he
    exact hno i (Nat.zero_le _) hi ⟨e, he, y, z⟩
theorem x_sole {x : sw_St} {c q l : Nat} (hc : c < 4) (hq : q = 9 + 9 * c) (hl : l < 8) : f_X1_isSole x q (nI l) = some (if x (10 + 9 * c) l = 2 ∨ x (10 + 9 * c) l = 3 then 1 else 0) := by
  unfold f_X1_isSole
  rw [ck_t (isK_c hc hq), ck_t (pn_in (by omega) (by omega)), pn_ix (by omega), show q + 1 = 10 + 9 * c by omega]
  by_cases z2 : x (10 + 9 * c) l = 2
  · rw [if_pos z2, if_pos (Or.inl z2)]
  · rw [if_neg z2]
    by_cases z3 : x (10 + 9 * c) l = 3
    · rw [if_pos z3, if_pos (Or.inr z3)]
    · rw [if_neg z3, if_neg (fun y => y.elim z2 z3)]
/-- a way back is given up -/
theorem RX_unback {b : Nat} {s : Sx} {x : sw_St} {c i : Nat} {be : E} (h : RX s x) (hI : Inv b s) (hc : c < 4) (he : be ∈ gBuf s c) (hi : i < 2) (h2 : be 2 = nI i) : RX (wAsk (wBuf s c (rmv 0 (be 0) (gBuf s c))) (rmv 5 (nI (3 * c + 1 + i)) (gAsk s))) (sw_up x (15 + 9 * c + i) 1 0) := by
  obtain ⟨⟨b1, b2, b3, b4, b5⟩, b6⟩ := hI.2.2.1 c hc
  refine RX_req h (fun a ha => up_ne ?_) rfl rfl rfl rfl (fun _ _ => rfl) (fun d hd => ?_) (fun d j hd hj => ?_)
  · have := ha c (1 + i) hc (by omega)
    omega
  · refine opX_k (h.2.2.2.1 d hd) (up_ne (by omega)) (fun a z => ?_) (fun _ _ => Iff.rfl) ⟨rfl, rfl, rfl⟩
    constructor
    · intro ha
      exact (mem_rmv.mp ha).1
    · intro ha
      refine mem_rmv.mpr ⟨ha, fun y => ?_⟩
      rw [z, nI_eq (by omega) (by omega)] at y
      omega
  · show bkX _ d j (rmv 5 (nI (3 * c + 1 + i)) (gAsk s)) (va_up (gBuf s) c (rmv 0 (be 0) (gBuf s c)) d)
    by_cases e : d = c ∧ j = i
    · obtain ⟨rfl, rfl⟩ := e
      rw [up_s]
      refine ⟨by rw [up_nj (by decide)]; exact (h.2.2.2.2.1 d j hd hj).1, fun e he' z => ?_, fun a ha z => absurd z (mem_rmv.mp ha).2, fun _ => up_eq⟩
      obtain ⟨m1, m2⟩ := mem_rmv.mp he'
      exact absurd (by rw [pw_inj _ b3 m1 he (by rw [z, h2])]) m2
    · refine bkX_k (h.2.2.2.2.1 d j hd hj) (up_ne (by omega)) (fun a z => ?_) (fun x z => ?_)
      · constructor
        · intro ha
          exact (mem_rmv.mp ha).1
        · intro ha
          refine mem_rmv.mpr ⟨ha, fun y => ?_⟩
          rw [z, nI_eq (by omega) (by omega)] at y
          exact e ⟨by omega, by omega⟩
      · by_cases ed : d = c
        · subst ed
          rw [up_s]
          constructor
          · intro hx
            exact (mem_rmv.mp hx).1
          · intro hx
            refine mem_rmv.mpr ⟨hx, fun y => ?_⟩
            have := pw_inj _ b2 hx he y
            rw [this, h2, nI_eq (by omega) (by omega)] at z
            exact e ⟨rfl, z.symm⟩
        · rw [up_n _ _ ed]
theorem x_takeBack {b : Nat} {s : Sx} {x : sw_St} {c q l : Nat} (h : RX s x) (hI : Inv b s) (hb : b < 2 ^ 30) (hc : c < cN s) (hq : q = 8 + 9 * c) (hl : l < 8) : wp (f_X0_takeBack x q (nI l)) (RX (aTake s c (nI l))) := by
  have hC4 := hI.1.1.2.2
  have hc4 : c < 4 := by omega
  obtain ⟨⟨b1, b2, b3, b4, b5⟩, b6⟩ := hI.2.2.1 c hc4
  unfold f_X0_takeBack
  rw [ck_t (isC_c hc4 hq)]
  rcases x_backOf (nI l) hc4 hq (fun i hi => h.2.2.2.2.1 c i hc4 hi) (buf_sl hI hc4) with ⟨e, he, i, hi, e0, e2, ef⟩ | ⟨hno, ef⟩
  · rw [ef, bd_s, if_neg (by omega), ck_t (isQ_c hc4 (r := 1 + i) (by omega) (by omega))]
    simp only [sw_pt]
    have hv : sw_up x (15 + 9 * c + i) 1 0 (15 + 9 * c + i) 4 = e 1 := by
      rw [up_nj (by decide)]
      exact ((h.2.2.2.2.1 c i hc4 hi).2.1 e he e2).2.2.2.1
    rw [hv]
    have hR := RX_unback h hI hc4 he hi e2
    have hI2 := Inv_out hI hc4 he e0 hi e2
    rw [e0] at hR
    have hx : ∃ k, ixf (gBuf s c) 0 (nI l) = some k := by
      cases q : ixf (gBuf s c) 0 (nI l) with
      | none => exact absurd e0 (ixf_none q e he)
      | some k => exact ⟨k, rfl⟩
    obtain ⟨k, hk⟩ := hx
    obtain ⟨i', hi', w2, wm, w0, we, wf, wo⟩ := aOut_eq hI hc4 hk
    have ee : getE (gBuf s c) k = e := pw_inj _ b2 wm he (by rw [w0, e0])
    have ei : i' = i := by
      rw [ee, e2, nI_eq (by omega) (by omega)] at w2
      exact w2.symm
    subst ei
    unfold aTake
    rw [hk]
    dsimp only
    rw [wo, ee]
    have hrow : ∀ x ∈ gRow s c, x 0 ≠ nI l := fun x hx' y => by
      have := hI.2.2.2.2.2.2.2.1 c c hc4 hc4 e he
      rw [e0] at this
      unfold hw at this
      rw [← y, how_mem _ (pw0 hI hc4) hx'] at this
      rcases ((hI.2.1 c hc4).1.1 x hx').2.1 with q | q | q <;> rw [q] at this <;> exact absurd this (by decide)
    refine wp_bindM (x_fill (w := e 1) (t := 3) hR hI2 hb hc hq hl hrow (Or.inr (Or.inr ?_))) (fun x2 h2 => wp_some h2)
    show (va_up (gBuf s) c (rmv 0 (nI l) (gBuf s c)) c).length < 2
    rw [up_s, ← we]
    obtain ⟨_, _, _, g3⟩ := ixf_some hk
    rw [List.length_eraseIdx_of_lt g3]
    omega
  · rw [ef, bd_s, if_pos rfl]
    unfold aTake
    rw [ixf_no (fun j e' hj => hno e' (List.mem_of_getElem? hj))]
    exact wp_some h
theorem op_st0 {b : Nat} {s : Sx} {x : sw_St} {c : Nat} (h : RX s x) (hI : Inv b s) (hc : c < 4) : x (14 + 9 * c) 1 = 0 ↔ gOp s c 0 = 0 := by
  have hC4 := hI.1.1.2.2
  obtain ⟨h1, h2, h3, h4, h5⟩ := h.2.2.2.1 c hc
  constructor
  · intro z
    rcases hI.2.2.2.2.2.1 c hc with y | ⟨_, _, ⟨a, ha, y⟩ | ⟨a, ha, y⟩⟩
    · exact y
    · have := (h2 a ha y).1
      rw [z] at this
      exact absurd this (by decide)
    · have := (h3 a ha y).1
      rw [z] at this
      exact absurd this (by decide)
  · intro z
    obtain ⟨i1, i2⟩ := idle_no hI hc z
    refine h4 (fun a ha y => ?_) i2
    obtain ⟨c', l', p, q1, q2, q3, q4, q5, q6, q7⟩ := hI.2.2.2.1.1 a ha
    rcases q7 with ⟨z0, e, he, i, hi, z2, z3, z4, z5⟩ | ⟨z0, z1, z2, z3⟩
    · rw [y, nI_eq (by omega) (by omega)] at z5
      omega
    · rw [y, nI_eq (by omega) (by omega)] at z1
      have : c' = c := by omega
      subst this
      exact i1 a ha (by rcases z0 with z | z | z <;> rw [z] <;> decide) q2
/-- a core's request asks -/
theorem RX_ask {b : Nat} {s : Sx} {x : sw_St} {c : Nat} {k l v : Int32} {o : E} (h : RX s x) (hI : Inv b s) (hc : c < 4) (h0 : gOp s c 0 = 0) (ho3 : o 3 = gSc s 4) (ho4 : o 4 = gOp s c 4) (ho2 : o 0 = 2 → o 2 = v) : RX (aAsk (wOp s c o) k c l) (sw_up (askU x (14 + 9 * c) k l v) 2 9 (x 2 9 + 1)) := by
  have hC4 := hI.1.1.2.2
  obtain ⟨i1, i2⟩ := idle_no hI hc h0
  obtain ⟨t0, t1, t2, t3, t4, t5, t6, t7⟩ := askU_at (x := x) (q := 14 + 9 * c) (k := k) (l := l) (v := v)
  have h9 : x 2 9 = gSc s 5 := h.1.2.2.2.2.2.1
  have h8 : x 2 8 = gSc s 4 := h.1.2.2.2.2.1
  have hno : ∀ a ∈ gAsk s, a 5 ≠ nI (3 * c) := fun a ha y => by
    have := (op_st1 (h.2.2.2.1 c hc)).mpr ⟨a, ha, y⟩
    rw [(op_st0 h hI hc).mpr h0] at this
    exact absurd this (by decide)
  have hR : RX (wAsk (wOp s c o) (gAsk s ++ [mk [k, nI c, l, gSc s 5, 0, nI (3 * c)]])) (askU x (14 + 9 * c) k l v) := by
    refine RX_req h (fun a ha => askU_ne ?_) rfl rfl rfl rfl (fun d hd => ?_) (fun d hd => ?_) (fun d j hd hj => ?_)
    · have := ha c 0 hc (by omega)
      omega
    · show va_up (gOp s) c o d 4 = _
      by_cases e : d = c
      · subst e; rw [up_s]; exact ho4
      · rw [up_n _ _ e]
    · show opX _ d (gAsk s ++ [mk [k, nI c, l, gSc s 5, 0, nI (3 * c)]]) (gOpn s) (va_up (gOp s) c o d)
      by_cases e : d = c
      · subst e
        rw [up_s]
        refine ⟨by rw [t0]; exact (h.2.2.2.1 d hd).1, fun a ha z => ?_, fun a ha z => absurd z (i2 a ha), fun z => ?_, fun _ => ⟨by rw [t5, h8, ho3], fun z => by rw [t4, ho2 z]⟩⟩
        · rcases mem_push.mp ha with ha | rfl
          · exact absurd z (hno a ha)
          · rw [t1, t2, t3, t6, t7, h9]
            exact ⟨rfl, rfl, rfl, rfl, rfl⟩
        · exact absurd rfl (z (mk [k, nI d, l, gSc s 5, 0, nI (3 * d)]) (mem_push.mpr (Or.inr rfl)))
      · rw [up_n _ _ e]
        refine opX_k (h.2.2.2.1 d hd) (askU_ne (by omega)) (fun a z => ?_) (fun _ _ => Iff.rfl) ⟨rfl, rfl, rfl⟩
        constructor
        · intro ha
          rcases mem_push.mp ha with ha | rfl
          · exact ha
          · have z : nI (3 * c) = nI (3 * d) := z
            rw [nI_eq (by omega) (by omega)] at z
            omega
        · intro ha
          exact mem_push.mpr (Or.inl ha)
    · refine bkX_k (h.2.2.2.2.1 d j hd hj) (askU_ne (by omega)) (fun a z => ?_) (fun _ _ => Iff.rfl)
      constructor
      · intro ha
        rcases mem_push.mp ha with ha | rfl
        · exact ha
        · have z : nI (3 * c) = nI (3 * d + 1 + j) := z
          rw [nI_eq (by omega) (by omega)] at z
          omega
      · intro ha
        exact mem_push.mpr (Or.inl ha)
  have := RX_sc (v := gSc s 5 + 1) 5 (by decide) (by decide) hR
  rw [h9]
  exact this
/-- the answer and the new state -/
def Rx (t : Int32 × Sx) (r : Int32 × sw_St) : Prop := r.1 = t.1 ∧ RX t.2 r.2
theorem x_core {s : Sx} {x : sw_St} {C : Nat} (h : RX s x) (hC : gSc s 0 = nI C) (hC1 : 2 ≤ C) (hC4 : C ≤ 4) (a : Int32) : f_X0_hasCore x a = some (if okC s a then 1 else 0) := by
  have h0 : x 2 4 = gSc s 0 := h.1.1
  unfold f_X0_hasCore okC
  rw [x_within, bd_s, ck_t (b01 _ _), h0, hC, nl_1, pn_sub (by omega), nI_toInt (by omega), nI_toInt (by omega)]
  by_cases q : 0 ≤ a.toInt ∧ a.toInt < (C : Int)
  · rw [if_pos q, if_pos ⟨q.1, by omega⟩]
  · rw [if_neg q, if_neg (fun z => q ⟨z.1, by omega⟩)]
theorem x_line (x : sw_St) (a : Int32) : f_X6_isLine x a = some (if okL a then 1 else 0) := by
  unfold f_X6_isLine okL
  rw [x_within, bd_s, ck_t (b01 _ _)]
  by_cases q : 0 ≤ a.toInt ∧ a.toInt < 8
  · rw [if_pos q, if_pos ⟨q.1, by have := q.2; show a.toInt ≤ 7; omega⟩]
  · rw [if_neg q, if_neg (fun z => q ⟨z.1, by have : a.toInt ≤ 7 := z.2; omega⟩)]
theorem x_startRead {b : Nat} {s : Sx} {x : sw_St} {c l : Nat} (h : RX s x) (hI : Inv b s) (hb : b + 2 < 2 ^ 30) (hc : c < cN s) (hl : l < 8) : wp (f_X0_startRead x (nI c) (nI l)) (Rx (if gOp s c 0 = 0 then aRead1 (aTake s c (nI l)) c (nI l) else (-2, s))) := by
  have hC4 := hI.1.1.2.2
  have hc4 : c < 4 := by omega
  have hst := op_st0 h hI hc4
  unfold f_X0_startRead
  rw [ck_t (pn_in (by omega) (by omega)), pn_ix (by omega), show 8 + 9 * c + 6 = 14 + 9 * c by omega]
  by_cases z : gOp s c 0 = 0
  · rw [if_pos (hst.mpr z), if_pos z]
    refine wp_bindM (x_takeBack h hI (by omega) hc rfl hl) (fun x1 h1 => ?_)
    have hI1 := Inv_take hI (by omega) hc hl z
    have hcx := h1.2.2.1 c hc4
    have hp := pw0 hI1 hc4
    rw [ck_t (pn_in (by omega) (by omega)), pn_ix (by omega), show 8 + 9 * c + 1 + 1 = 10 + 9 * c by omega, hcx.1 l hl]
    unfold aRead1
    cases hx : ixf (gRow (aTake s c (nI l)) c) 0 (nI l) with
    | none =>
      have : howR (gRow (aTake s c (nI l)) c) (nI l) = 0 := (how_0 (Inv_Hows hI1 c hc4)).mpr hx
      rw [if_pos this, x_ask_eq (isQ_c hc4 (r := 0) (by omega) (by omega)), bd_s]
      exact wp_some ⟨rfl, RX_ask h1 hI1 hc4 (by rw [take_op]; exact z) rfl rfl (fun y => absurd (show (1 : Int32) = 2 from y) (by decide))⟩
    | some k =>
      obtain ⟨e, g1, g2, g3⟩ := ixf_some hx
      have hm := List.mem_of_getElem? g1
      have hne : howR (gRow (aTake s c (nI l)) c) (nI l) ≠ 0 := (how_ne (Inv_Hows hI1 c hc4) hp).mpr ⟨e, hm, g2⟩
      have hev : x1 (11 + 9 * c) l = e 1 := (hcx.2.1 e hm l hl g2).1
      have het : x1 (10 + 9 * c) l = e 2 := by
        have := how_mem _ hp hm
        rw [g2] at this
        rw [hcx.1 l hl]
        exact this
      rw [if_neg hne]
      refine wp_bindM (x_use h1 hc4 (by omega) hl hp (row_ll hI1 hc4) het hev) (fun x2 h2 => ?_)
      simp only [sw_pt]
      rw [show 8 + 9 * c + 1 + 2 = 11 + 9 * c by omega, h2.2]
      have h3 := RX_last (v := e 1) h2.1 hc4
      have h12 : sw_up x2 (8 + 9 * c) 3 (e 1) 2 12 = gSc (aTake s c (nI l)) 9 := by
        rw [h3.1.2.2.2.2.2.2.2.2.2.1]
        exact up_n _ _ (by omega)
      rw [h12]
      have h4 := RX_sc (v := gSc (aTake s c (nI l)) 9 + 1) 9 (by decide) (by decide) h3
      refine wp_some ⟨?_, ?_⟩
      · show sw_up _ 2 12 _ (8 + 9 * c) 3 = getE (gRow (aTake s c (nI l)) c) k 1
        rw [up_ne (by omega), up_eq, getE_s g1]
      · dsimp only
        rw [getE_s g1]
        exact h4
  · rw [if_neg (fun y => z (hst.mp y)), if_neg z]
    exact wp_some ⟨rfl, h⟩
