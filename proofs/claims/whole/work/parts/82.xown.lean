/-! PURE: the class's address turn: own, rise; a turn -/
theorem x_oOwn {b : Nat} {s : Sx} {x : sw_St} {c l : Nat} {a : E} {k : Int32} (h : RX s x) (hI : Inv b s) (hb : b + 1 < 2 ^ 30) (hc : c < cN s) (hl : l < 8) (ha : a ∈ gAsk s) (a0 : a 0 = 1 ∨ a 0 = 2) (a1 : a 1 = nI c) (a2 : a 2 = nI l) (a5 : a 5 = nI (3 * c)) (hw0 : hw s c (nI l) = 0) (hk : vp_nar .char k = k) : wp (f_X0_orderOwn x (14 + 9 * c) k) (RX (aOpens (wAsk (aOrd s (nI c) k (nI l)) (rmv 5 (nI (3 * c)) (gAsk s))) 1 c (nI l) (a 4))) := by
  have hC4 := hI.1.1.2.2
  have hc4 : c < 4 := by omega
  have a03 : a 0 ≠ 3 ∧ a 0 ≠ 0 := by rcases a0 with z | z <;> rw [z] <;> decide
  have hno : ∀ o ∈ gOpn s, o 1 ≠ nI c := fun o ho z => by
    obtain ⟨c', l', t', g1, g2, g3, g4, g5, g6, g7, g8, g9, g10, g11⟩ := hI.2.2.2.2.1.1 o ho
    rw [z, nI_eq (by omega) (by omega)] at g2
    subst g2
    exact g11 a ha a5
  obtain ⟨y0, y1, y2, y3, y4, y5⟩ := req_ask h hI ha (show 3 * c < 12 by omega) a5
  rw [rq_at (c := c) (r := 0) (by omega) (by omega), Nat.add_zero] at y0 y1 y2 y3 y4 y5
  unfold f_X0_orderOwn
  rw [ck_t (isQ_c hc4 (r := 0) (by omega) (by omega)), y0, y3, a1, a2]
  refine wp_bindM (x_add h hI (by omega) hc4 hl hk) (fun x1 g1 => ?_)
  obtain ⟨hI1, _⟩ := Inv_tell (c := nI c) (k := k) (l := nI l) hI (by omega)
  have hw0 : hw (aOrd s (nI c) k (nI l)) c (nI l) = 0 := hw0
  generalize hS : aOrd s (nI c) k (nI l) = S at g1 hI1 hw0
  have hSa : gAsk S = gAsk s := by rw [← hS]; rfl
  have hSo : gOpn S = gOpn s := by rw [← hS]; rfl
  have hSc : cN S = cN s := by rw [← hS]; rfl
  have haS : a ∈ gAsk S := by rw [hSa]; exact ha
  have hcS : c < cN S := by rw [hSc]; exact hc
  have hC4S : cN S ≤ 4 := by rw [hSc]; exact hC4
  obtain ⟨w0, w1, w2, w3, w4, w5⟩ := req_ask g1 hI1 haS (show 3 * c < 12 by omega) a5
  rw [rq_at (c := c) (r := 0) (by omega) (by omega), Nat.add_zero] at w0 w1 w2 w3 w4 w5
  have w5' := (g1.2.2.2.1 c hc4).2.2.2.2
  obtain ⟨x1', -⟩ := hI1.2.2.2.2.2.2.2.2.2.2 a haS a03.1
  rw [a1, pn_ix (by omega), a2] at x1'
  have hop : gOp S c 0 = 2 := by
    obtain ⟨c', l', p, p1, p2, p3, p4, p5, p6, p7⟩ := hI1.2.2.2.1.1 a haS
    rw [a1, nI_eq (by omega) (by omega)] at p2
    subst p2
    rcases p7 with ⟨z, _⟩ | ⟨_, _, z, _⟩
    · exact absurd z a03.1
    · rw [z, if_neg a03.2]
  simp only [sw_pt]
  have e6 : sw_up (sw_up x1 (14 + 9 * c) 2 1) (14 + 9 * c) 1 2 6 1 = gSc S 6 := by rw [up_ne (by omega), up_ne (by omega)]; exact g1.1.2.2.2.2.2.2.1
  rw [e6]
  have ec : sw_up (sw_up (sw_up x1 (14 + 9 * c) 2 1) (14 + 9 * c) 1 2) (14 + 9 * c) 8 (gSc S 6) (14 + 9 * c) 0 = nI c := by
    rw [up_nj (by decide), up_nj (by decide), up_nj (by decide), w0, a1]
  rw [ec]
  have hO1 : Off (14 + 9 * c) (sw_up (sw_up (sw_up x1 (14 + 9 * c) 2 1) (14 + 9 * c) 1 2) (14 + 9 * c) 8 (gSc S 6)) x1 := Off_q (Off_q (Off_q (fun _ _ => rfl)))
  rw [x_time g1 hO1 hI1 hcS hl x1' (Or.inl hw0), bd_s]
  have e28 : sw_up (sw_up (sw_up x1 (14 + 9 * c) 2 1) (14 + 9 * c) 1 2) (14 + 9 * c) 8 (gSc S 6) 2 8 = gSc S 4 := by
    rw [up_ne (by omega), up_ne (by omega), up_ne (by omega)]; exact g1.1.2.2.2.2.1
  rw [e28]
  generalize hx7 : sw_up (sw_up (sw_up (sw_up (sw_up x1 (14 + 9 * c) 2 1) (14 + 9 * c) 1 2) (14 + 9 * c) 8 (gSc S 6)) (14 + 9 * c) 9 (gSc S 4 + (if oth S (nI c) (nI l) 2 = none ∧ bfr S (nI l) = none then gSc S 3 else gSc S 2))) (14 + 9 * c) 10 3 = x7
  have hO7 : Off (14 + 9 * c) x7 x1 := by rw [← hx7]; exact Off_q (Off_q hO1)
  have q7 : x7 (14 + 9 * c) 0 = nI c ∧ x7 (14 + 9 * c) 1 = 2 ∧ x7 (14 + 9 * c) 2 = 1 ∧ x7 (14 + 9 * c) 3 = nI l ∧ x7 (14 + 9 * c) 5 = x1 (14 + 9 * c) 5 ∧ x7 (14 + 9 * c) 7 = a 4 ∧ x7 (14 + 9 * c) 8 = gSc S 6 ∧ x7 (14 + 9 * c) 9 = gSc S 4 + (if oth S (nI c) (nI l) 2 = none ∧ bfr S (nI l) = none then gSc S 3 else gSc S 2) ∧ x7 (14 + 9 * c) 10 = 3 ∧ x7 (14 + 9 * c) 4 = x1 (14 + 9 * c) 4 := by
    rw [← hx7]
    refine ⟨?_, ?_, ?_, ?_, ?_, ?_, ?_, ?_, ?_, ?_⟩ <;> (simp only [up_at]; simp [w0, w3, w5, a1, a2])
  obtain ⟨u0, u1, u2, u3, u5, u7, u8, u9, u10, u4⟩ := q7
  rw [u0]
  have fin : ∀ (S' : Sx) (x' x0' : sw_St) (v : Int32), gSc S' = gSc S → gOpn S' = gOpn S → gOp S' = gOp S → RX S' x0' → Off (14 + 9 * c) x' x0' → x' (14 + 9 * c) = x7 (14 + 9 * c) → RX (wOpn (wAsk S' (rmv 5 (nI (3 * c)) (gAsk S'))) (gOpn S ++ [mk [1, nI c, nI l, gSc S 4 + (if oth S (nI c) (nI l) 2 = none ∧ bfr S (nI l) = none then gSc S 3 else gSc S 2), 3, v, a 4, gSc S 6]])) x' := by
    intro S' x' x0' v s1 s2 s3 r1 r2 r3
    have := RX_swap (e := mk [1, nI c, nI l, gSc S 4 + (if oth S (nI c) (nI l) 2 = none ∧ bfr S (nI l) = none then gSc S 3 else gSc S 2), 3, v, a 4, gSc S 6]) r1 r2 hc4 (by rw [s2, hSo]; exact hno) rfl (by rw [r3]; exact u0) (by rw [r3]; exact u1) (by rw [r3]; exact u2) (by rw [r3]; exact u3) (by rw [r3]; exact u9) (by rw [r3]; exact u10) (by rw [r3]; exact u7) (by rw [r3]; exact u8) (fun z => absurd (show (1 : Int32) = 0 from z) (by decide)) (fun z => by rw [r3, s3, u5, u4]; exact w5' (by rw [hop]; decide))
    rw [s2] at this
    exact this
  rw [← hSa]
  rcases holders hI1 hcS hl x1' (Or.inl hw0) with ⟨d, z1, z2, z3, z4, z5, z6, z7⟩ | ⟨z1, d, j, z2, z3, z4, z5, z6, z7⟩ | ⟨z1, z2, z3, z4⟩
  · rw [opens_1 (Or.inr rfl) hl z1, if_neg (by decide)]
    refine wp_bindM (x_take (d := 4) (i := 0) g1 hO7 hI1 hcS hl (Or.inl ⟨rfl, rfl, z7⟩)) (fun x' ⟨x0', r1, r2, r3⟩ => wp_some ?_)
    have := fin (aNoOther S c (nI l)) x' x0' (valR (gRow S d) (nI l)) rfl rfl rfl r1 r2 r3
    rw [z1, if_neg (fun y => by cases y.1)] at this
    exact this
  · rw [opens_2 (Or.inr rfl) hl z1 z2 z5, if_neg (by decide)]
    obtain ⟨i, hi, v2, vm, v0, ve, vf, vo⟩ := aOut_eq hI1 (by omega) z5
    refine wp_bindM (x_take (d := d) (i := i) g1 hO7 hI1 hcS hl (Or.inr ⟨z3, z4, hi, ⟨_, vm, v0, v2⟩, z7, vo⟩)) (fun x' ⟨x0', r1, r2, r3⟩ => wp_some ?_)
    have := fin (aNoOther (aOut S d j (nI l)) c (nI l)) x' x0' (valR (gBuf S d) (nI l)) rfl rfl rfl r1 r2 r3
    rw [z2, if_neg (fun y => by cases y.2)] at this
    exact this
  · rw [opens_3 (Or.inr rfl) hl z1 z2, if_neg (by decide)]
    refine wp_bindM (x_take (d := 4) (i := 0) g1 hO7 hI1 hcS hl (Or.inl ⟨rfl, rfl, z4⟩)) (fun x' ⟨x0', r1, r2, r3⟩ => wp_some ?_)
    have := fin (aNoOther S c (nI l)) x' x0' (gMem S l) rfl rfl rfl r1 r2 r3
    rw [z1, z2, if_pos (show (none : Option Nat) = none ∧ (none : Option Nat) = none from ⟨rfl, rfl⟩)] at this
    exact this
/-- what one shared is its own now -/
theorem RX_unask {s : Sx} {x : sw_St} {c : Nat} (h : RX s x) (hc : c < 4) (hO : ∀ o ∈ gOpn s, o 1 ≠ nI c) : RX (wOp (wAsk s (rmv 5 (nI (3 * c)) (gAsk s))) c (zOp (gOp s c))) (sw_up x (14 + 9 * c) 1 0) := by
  refine RX_req h (fun a ha => up_ne ?_) rfl rfl rfl rfl (fun d hd => ?_) (fun d hd => ?_) (fun d j hd hj => ?_)
  · have := ha c 0 hc (by omega)
    omega
  · show va_up (gOp s) c (zOp (gOp s c)) d 4 = _
    by_cases e : d = c
    · subst e; rw [up_s]; rfl
    · rw [up_n _ _ e]
  · show opX _ d (rmv 5 (nI (3 * c)) (gAsk s)) (gOpn s) (va_up (gOp s) c (zOp (gOp s c)) d)
    by_cases e : d = c
    · subst e
      rw [up_s]
      exact ⟨by rw [up_nj (by decide)]; exact (h.2.2.2.1 d hd).1, fun a ha z => absurd z (mem_rmv.mp ha).2, fun a ha z => absurd z (hO a ha), fun _ _ => up_eq, fun z => absurd rfl z⟩
    · rw [up_n _ _ e]
      refine opX_k (h.2.2.2.1 d hd) (up_ne (by omega)) (fun a z => ?_) (fun _ _ => Iff.rfl) ⟨rfl, rfl, rfl⟩
      constructor
      · intro ha
        exact (mem_rmv.mp ha).1
      · intro ha
        refine mem_rmv.mpr ⟨ha, fun y => ?_⟩
        rw [z, nI_eq (by omega) (by omega)] at y
        omega
  · refine bkX_k (h.2.2.2.2.1 d j hd hj) (up_ne (by omega)) (fun a z => ?_) (fun _ _ => Iff.rfl)
    constructor
    · intro ha
      exact (mem_rmv.mp ha).1
    · intro ha
      refine mem_rmv.mpr ⟨ha, fun y => ?_⟩
      rw [z, nI_eq (by omega) (by omega)] at y
      omega
theorem x_oRise {b : Nat} {s : Sx} {x : sw_St} {c l : Nat} {a : E} (h : RX s x) (hI : Inv b s) (hb : b + 1 < 2 ^ 30) (hc : c < cN s) (hl : l < 8) (ha : a ∈ gAsk s) (a0 : a 0 = 2) (a1 : a 1 = nI c) (a2 : a 2 = nI l) (a5 : a 5 = nI (3 * c)) (hw1 : hw s c (nI l) = 1) : wp (f_X0_orderRise x (14 + 9 * c)) (RX (aRise (wAsk s (rmv 5 (nI (3 * c)) (gAsk s))) c (nI l))) := by
  have hC4 := hI.1.1.2.2
  have hc4 : c < 4 := by omega
  have hno : ∀ o ∈ gOpn s, o 1 ≠ nI c := fun o ho z => by
    obtain ⟨c', l', t', g1, g2, g3, g4, g5, g6, g7, g8, g9, g10, g11⟩ := hI.2.2.2.2.1.1 o ho
    rw [z, nI_eq (by omega) (by omega)] at g2
    subst g2
    exact g11 a ha a5
  have hop : gOp s c 0 = 2 := by
    obtain ⟨c', l', p, p1, p2, p3, p4, p5, p6, p7⟩ := hI.2.2.2.1.1 a ha
    rw [a1, nI_eq (by omega) (by omega)] at p2
    subst p2
    rcases p7 with ⟨z, _⟩ | ⟨_, _, z, _⟩
    · rw [a0] at z; exact absurd z (by decide)
    · rw [z, if_neg (by rw [a0]; decide)]
  obtain ⟨y0, y1, y2, y3, y4, y5⟩ := req_ask h hI ha (show 3 * c < 12 by omega) a5
  rw [rq_at (c := c) (r := 0) (by omega) (by omega), Nat.add_zero] at y0 y1 y2 y3 y4 y5
  have hbno : ∀ e, e < 4 → ∀ x ∈ gBuf s e, x 0 ≠ nI l := fun e he x hx z => by
    have := hI.2.2.2.2.2.2.2.1 e c he hc4 x hx
    rw [z, hw1] at this
    exact absurd this (by decide)
  unfold f_X0_orderRise
  rw [ck_t (isQ_c hc4 (r := 0) (by omega) (by omega)), y0, y3, a1, a2]
  refine wp_bindM (x_add h hI (by omega) hc4 hl (by decide)) (fun x1 g1 => ?_)
  obtain ⟨hI1, _⟩ := Inv_tell (c := nI c) (k := 85) (l := nI l) hI (by omega)
  have haS : a ∈ gAsk (aOrd s (nI c) 85 (nI l)) := ha
  obtain ⟨w0, w1, w2, w3, w4, w5⟩ := req_ask g1 hI1 haS (show 3 * c < 12 by omega) a5
  rw [rq_at (c := c) (r := 0) (by omega) (by omega), Nat.add_zero] at w0 w1 w2 w3 w4 w5
  rw [w0, w3, a1, a2]
  refine wp_bindM (x_take (d := 4) (i := 0) (S' := aOrd s (nI c) 85 (nI l)) g1 (fun _ _ => rfl) hI1 hc hl (Or.inl ⟨rfl, rfl, hbno⟩)) (fun x2 ⟨x0', r1, r2, r3⟩ => ?_)
  have hI2 := Inv_noOther (c := c) (l := nI l) hI1
  have r4 : RX (aNoOther (aOrd s (nI c) 85 (nI l)) c (nI l)) x2 := by
    refine RX_req r1 (fun a ha => r2 a ?_) rfl rfl rfl rfl (fun _ _ => rfl) (fun d hd => ?_) (fun d j hd hj => bkX_k (r1.2.2.2.2.1 d j hd hj) (r2 _ (by omega)) (fun _ _ => Iff.rfl) (fun _ _ => Iff.rfl))
    · have := ha c 0 hc4 (by omega)
      omega
    · by_cases e : d = c
      · subst e
        exact opX_k (g1.2.2.2.1 d hd) r3 (fun _ _ => Iff.rfl) (fun _ _ => Iff.rfl) ⟨rfl, rfl, rfl⟩
      · exact opX_k (r1.2.2.2.1 d hd) (r2 _ (by omega)) (fun _ _ => Iff.rfl) (fun _ _ => Iff.rfl) ⟨rfl, rfl, rfl⟩
  have w4' : x2 (14 + 9 * c) 4 = gOp s c 2 := (((r4.2.2.2.1 c hc4).2.2.2.2 (by show gOp s c 0 ≠ 0; rw [hop]; decide)).2 hop)
  have w0' : x2 (14 + 9 * c) 0 = nI c := by rw [r3, w0, a1]
  have w3' : x2 (14 + 9 * c) 3 = nI l := by rw [r3, w3, a2]
  rw [w0', w3', w4', ck_t (pn_in (by omega) (by omega)), pn_ix (by omega)]
  refine wp_bindM (x_put r4 hc4 (by omega) hl (pw0 hI2 hc4) (row_ll hI2 hc4)) (fun x3 r5 => ?_)
  simp only [sw_pt]
  have r6 := RX_unask r5 hc4 hno
  have e12 : sw_up x3 (14 + 9 * c) 1 0 2 12 = gSc s 9 := by
    rw [r6.1.2.2.2.2.2.2.2.2.2.1]
    exact (up_n (gSc (aNoOther (aOrd s (nI c) 85 (nI l)) c (nI l))) _ (by omega)).trans (up_n (k := 6) (j := 9) (gSc s) (gSc s 6 + 1) (by decide))
  rw [e12]
  have r7 := RX_sc (v := gSc s 9 + 1) 9 (by decide) (by decide) r6
  refine wp_some ?_
  have efin : wSc (wOp (wAsk (aUse (aNoOther (aOrd s (nI c) 85 (nI l)) c (nI l)) c (nI l) (gOp s c 2) 3) (rmv 5 (nI (3 * c)) (gAsk (aUse (aNoOther (aOrd s (nI c) 85 (nI l)) c (nI l)) c (nI l) (gOp s c 2) 3)))) c (zOp (gOp (aUse (aNoOther (aOrd s (nI c) 85 (nI l)) c (nI l)) c (nI l) (gOp s c 2) 3) c))) 9 (gSc s 9 + 1) = aRise (wAsk s (rmv 5 (nI (3 * c)) (gAsk s))) c (nI l) := by
    unfold aRise
    show (va_up (va_up (va_up (gSc s) 6 (gSc s 6 + 1)) (20 + c) (va_up (gSc s) 6 (gSc s 6 + 1) (20 + c) + 1)) 9 (gSc s 9 + 1), gMem s, va_up (va_up (fun d => if d < cN s ∧ d ≠ c then del (gRow s d) (nI l) else gRow s d) c (del (if c < cN s ∧ c ≠ c then del (gRow s c) (nI l) else gRow s c) (nI l))) c (va_up (fun d => if d < cN s ∧ d ≠ c then del (gRow s d) (nI l) else gRow s d) c (del (if c < cN s ∧ c ≠ c then del (gRow s c) (nI l) else gRow s c) (nI l)) c ++ [mk [nI l, gOp s c 2, 3, va_up (gSc s) 6 (gSc s 6 + 1) (20 + c) + 1]]), gBuf s, va_up (gOp s) c (zOp (gOp s c)), rmv 5 (nI (3 * c)) (gAsk s), gOpn s, (if gSc s 6 < 16 then gOrd s else (gOrd s).tail) ++ [mk [48 + nI c, 85, 48 + nI l]]) = (va_up (va_up (va_up (gSc s) (20 + c) (gSc s (20 + c) + 1)) 9 (va_up (gSc s) (20 + c) (gSc s (20 + c) + 1) 9 + 1)) 6 (va_up (va_up (gSc s) (20 + c) (gSc s (20 + c) + 1)) 9 (va_up (gSc s) (20 + c) (gSc s (20 + c) + 1) 9 + 1) 6 + 1), gMem s, va_up (va_up (fun d => if d < cN s ∧ d ≠ c then del (gRow s d) (nI l) else gRow s d) c (del (if c < cN s ∧ c ≠ c then del (gRow s c) (nI l) else gRow s c) (nI l))) c (va_up (fun d => if d < cN s ∧ d ≠ c then del (gRow s d) (nI l) else gRow s d) c (del (if c < cN s ∧ c ≠ c then del (gRow s c) (nI l) else gRow s c) (nI l)) c ++ [mk [nI l, gOp s c 2, 3, gSc s (20 + c) + 1]]), gBuf s, va_up (gOp s) c (zOp (gOp s c)), rmv 5 (nI (3 * c)) (gAsk s), gOpn s, (if va_up (va_up (gSc s) (20 + c) (gSc s (20 + c) + 1)) 9 (va_up (gSc s) (20 + c) (gSc s (20 + c) + 1) 9 + 1) 6 < 16 then gOrd s else (gOrd s).tail) ++ [mk [48 + nI c, 85, 48 + nI l]])
    have k1 : va_up (gSc s) 6 (gSc s 6 + 1) (20 + c) = gSc s (20 + c) := up_n _ _ (by omega)
    have k2 : va_up (gSc s) (20 + c) (gSc s (20 + c) + 1) 9 = gSc s 9 := up_n _ _ (by omega)
    have k3 : va_up (va_up (gSc s) (20 + c) (gSc s (20 + c) + 1)) 9 (gSc s 9 + 1) 6 = gSc s 6 := by rw [up_n _ _ (by decide), up_n _ _ (by omega)]
    rw [k1, k2, k3]
    have k4 : va_up (va_up (va_up (gSc s) 6 (gSc s 6 + 1)) (20 + c) (gSc s (20 + c) + 1)) 9 (gSc s 9 + 1) = va_up (va_up (va_up (gSc s) (20 + c) (gSc s (20 + c) + 1)) 9 (gSc s 9 + 1)) 6 (gSc s 6 + 1) := by
      funext j
      unfold va_up
      by_cases q6 : j = 6
      · rw [if_neg (by omega), if_neg (by omega), if_pos q6, if_pos q6]
      · by_cases q9 : j = 9
        · rw [if_pos q9, if_neg q6, if_pos q9]
        · by_cases qc : j = 20 + c
          · simp [q6, q9, qc]
            omega
          · simp [q6, q9, qc]
    rw [k4]
  rw [← efin]
  exact r7
