/-! PURE: the class's address turn -/
/-- what an opening makes, by the three cases -/
theorem opens_1 {s : Sx} {c l d : Nat} {k sent : Int32} (hk : k = 0 ∨ k = 1) (hl : l < 8) (z1 : oth s (nI c) (nI l) 2 = some d) : aOpens (wAsk s (rmv 5 (nI (3 * c)) (gAsk s))) k c (nI l) sent = (if k = 0 then wOpn (wAsk (wRow (wMem s l (valR (gRow s d) (nI l))) d (toSh (gRow s d) (nI l))) (rmv 5 (nI (3 * c)) (gAsk s))) (gOpn s ++ [mk [k, nI c, nI l, gSc s 4 + gSc s 2, aToBe (wRow (wMem s l (valR (gRow s d) (nI l))) d (toSh (gRow s d) (nI l))) k c (nI l), valR (gRow s d) (nI l), sent, gSc s 6]]) else wOpn (wAsk (aNoOther s c (nI l)) (rmv 5 (nI (3 * c)) (gAsk s))) (gOpn s ++ [mk [k, nI c, nI l, gSc s 4 + gSc s 2, aToBe (aNoOther s c (nI l)) k c (nI l), valR (gRow s d) (nI l), sent, gSc s 6]])) := by
  have z1' : oth (wAsk s (rmv 5 (nI (3 * c)) (gAsk s))) (nI c) (nI l) 2 = some d := z1
  have hli : sw_ix (nI l) = l := pn_ix (by omega)
  unfold aOpens aPutO aUn aChg aVal aDue
  rw [z1', if_neg (show ¬ (some d = none ∧ bfr (wAsk s (rmv 5 (nI (3 * c)) (gAsk s))) (nI l) = none) from fun y => by cases y.1), hli]
  dsimp only
  rcases hk with rfl | rfl
  · rw [if_pos rfl, if_pos rfl]; rfl
  · rw [if_neg (by decide), if_neg (by decide)]; rfl
theorem opens_2 {s : Sx} {c l d j : Nat} {k sent : Int32} (hk : k = 0 ∨ k = 1) (hl : l < 8) (z1 : oth s (nI c) (nI l) 2 = none) (z2 : bfr s (nI l) = some d) (z5 : ixf (gBuf s d) 0 (nI l) = some j) : aOpens (wAsk s (rmv 5 (nI (3 * c)) (gAsk s))) k c (nI l) sent = (if k = 0 then wOpn (wAsk (wMem (aOut s d j (nI l)) l (valR (gBuf s d) (nI l))) (rmv 5 (nI (3 * c)) (gAsk (aOut s d j (nI l))))) (gOpn s ++ [mk [k, nI c, nI l, gSc s 4 + gSc s 2, aToBe (wMem (aOut s d j (nI l)) l (valR (gBuf s d) (nI l))) k c (nI l), valR (gBuf s d) (nI l), sent, gSc s 6]]) else wOpn (wAsk (aNoOther (aOut s d j (nI l)) c (nI l)) (rmv 5 (nI (3 * c)) (gAsk (aOut s d j (nI l))))) (gOpn s ++ [mk [k, nI c, nI l, gSc s 4 + gSc s 2, aToBe (aNoOther (aOut s d j (nI l)) c (nI l)) k c (nI l), valR (gBuf s d) (nI l), sent, gSc s 6]])) := by
  have z1' : oth (wAsk s (rmv 5 (nI (3 * c)) (gAsk s))) (nI c) (nI l) 2 = none := z1
  have z2' : bfr (wAsk s (rmv 5 (nI (3 * c)) (gAsk s))) (nI l) = some d := z2
  have z5' : ixf (gBuf (wAsk s (rmv 5 (nI (3 * c)) (gAsk s))) d) 0 (nI l) = some j := z5
  have hli : sw_ix (nI l) = l := pn_ix (by omega)
  have hcomm : (rmv 5 (nI (3 * c)) (gAsk s)).filter (nbP (nI d) (nI l)) = rmv 5 (nI (3 * c)) ((gAsk s).filter (nbP (nI d) (nI l))) := by
    unfold rmv
    rw [List.filter_filter, List.filter_filter]
    refine List.filter_congr (fun x _ => Bool.and_comm _ _)
  have ho : aOut (wAsk s (rmv 5 (nI (3 * c)) (gAsk s))) d j (nI l) = wAsk (aOut s d j (nI l)) (rmv 5 (nI (3 * c)) (gAsk (aOut s d j (nI l)))) := by
    show wAsk (wBuf s d ((gBuf s d).eraseIdx j)) ((rmv 5 (nI (3 * c)) (gAsk s)).filter (nbP (nI d) (nI l))) = _
    rw [hcomm]
    rfl
  unfold aOpens aPutO aUn aChg aVal aDue
  rw [z1', z2', if_neg (show ¬ ((none : Option Nat) = none ∧ some d = none) from fun y => by cases y.2), hli]
  dsimp only
  rw [z5']
  dsimp only
  rw [ho]
  rcases hk with rfl | rfl
  · rw [if_pos rfl, if_pos rfl]; rfl
  · rw [if_neg (by decide), if_neg (by decide)]; rfl
theorem opens_3 {s : Sx} {c l : Nat} {k sent : Int32} (hk : k = 0 ∨ k = 1) (hl : l < 8) (z1 : oth s (nI c) (nI l) 2 = none) (z2 : bfr s (nI l) = none) : aOpens (wAsk s (rmv 5 (nI (3 * c)) (gAsk s))) k c (nI l) sent = (if k = 0 then wOpn (wAsk (wMem s l (gMem s l)) (rmv 5 (nI (3 * c)) (gAsk s))) (gOpn s ++ [mk [k, nI c, nI l, gSc s 4 + gSc s 3, aToBe (wMem s l (gMem s l)) k c (nI l), gMem s l, sent, gSc s 6]]) else wOpn (wAsk (aNoOther s c (nI l)) (rmv 5 (nI (3 * c)) (gAsk s))) (gOpn s ++ [mk [k, nI c, nI l, gSc s 4 + gSc s 3, aToBe (aNoOther s c (nI l)) k c (nI l), gMem s l, sent, gSc s 6]])) := by
  have z1' : oth (wAsk s (rmv 5 (nI (3 * c)) (gAsk s))) (nI c) (nI l) 2 = none := z1
  have z2' : bfr (wAsk s (rmv 5 (nI (3 * c)) (gAsk s))) (nI l) = none := z2
  have hli : sw_ix (nI l) = l := pn_ix (by omega)
  unfold aOpens aPutO aUn aChg aVal aDue
  rw [z1', z2', if_pos (show (none : Option Nat) = none ∧ (none : Option Nat) = none from ⟨rfl, rfl⟩), hli]
  dsimp only
  rcases hk with rfl | rfl
  · rw [if_pos rfl, if_pos rfl]; rfl
  · rw [if_neg (by decide), if_neg (by decide)]; rfl
theorem mem_self {s : Sx} {l : Nat} : wMem s l (gMem s l) = s := by
  have : va_up (gMem s) l (gMem s l) = gMem s := by
    funext j
    unfold va_up
    split
    · next h => rw [h]
    · rfl
  show (s.1, va_up (gMem s) l (gMem s l), s.2.2) = s
  rw [this]
/-- a read is put into the order -/
theorem x_oRead {b : Nat} {s : Sx} {x : sw_St} {c l : Nat} {a : E} (h : RX s x) (hI : Inv b s) (hb : b + 1 < 2 ^ 30) (hc : c < cN s) (hl : l < 8) (ha : a ∈ gAsk s) (a0 : a 0 = 0) (a1 : a 1 = nI c) (a2 : a 2 = nI l) (a5 : a 5 = nI (3 * c)) : wp (f_X0_orderRead x (14 + 9 * c)) (RX (aOpens (wAsk (aOrd s (nI c) 82 (nI l)) (rmv 5 (nI (3 * c)) (gAsk s))) 0 c (nI l) (a 4))) := by
  have hC4 := hI.1.1.2.2
  have hc4 : c < 4 := by omega
  have hno : ∀ o ∈ gOpn s, o 1 ≠ nI c := fun o ho z => by
    obtain ⟨c', l', t', g1, g2, g3, g4, g5, g6, g7, g8, g9, g10, g11⟩ := hI.2.2.2.2.1.1 o ho
    rw [z, nI_eq (by omega) (by omega)] at g2
    subst g2
    exact g11 a ha a5
  obtain ⟨y0, y1, y2, y3, y4, y5⟩ := req_ask h hI ha (show 3 * c < 12 by omega) a5
  rw [rq_at (c := c) (r := 0) (by omega) (by omega), Nat.add_zero] at y0 y1 y2 y3 y4 y5
  unfold f_X0_orderRead
  rw [ck_t (isQ_c hc4 (r := 0) (by omega) (by omega)), y0, y3, a1, a2]
  refine wp_bindM (x_add h hI (by omega) hc4 hl (by decide)) (fun x1 g1 => ?_)
  obtain ⟨hI1, _⟩ := Inv_tell (c := nI c) (k := 82) (l := nI l) hI (by omega)
  generalize hS : aOrd s (nI c) 82 (nI l) = S at g1 hI1
  have hSa : gAsk S = gAsk s := by rw [← hS]; rfl
  have hSo : gOpn S = gOpn s := by rw [← hS]; rfl
  have hSc : cN S = cN s := by rw [← hS]; rfl
  have haS : a ∈ gAsk S := by rw [hSa]; exact ha
  have hcS : c < cN S := by rw [hSc]; exact hc
  have hC4S : cN S ≤ 4 := by rw [hSc]; exact hC4
  obtain ⟨w0, w1, w2, w3, w4, w5⟩ := req_ask g1 hI1 haS (show 3 * c < 12 by omega) a5
  rw [rq_at (c := c) (r := 0) (by omega) (by omega), Nat.add_zero] at w0 w1 w2 w3 w4 w5
  have w5' := (g1.2.2.2.1 c hc4).2.2.2.2
  obtain ⟨x1', x2'⟩ := hI1.2.2.2.2.2.2.2.2.2.2 a haS (by rw [a0]; decide)
  rw [a1, pn_ix (by omega), a2] at x1' x2'
  have hw0 : hw S c (nI l) = 0 := by
    rcases x2' with z | z
    · exact z
    · rw [a0] at z; exact absurd z.1 (by decide)
  simp only [sw_pt]
  have e6 : sw_up x1 (14 + 9 * c) 1 2 6 1 = gSc S 6 := by rw [up_ne (by omega)]; exact g1.1.2.2.2.2.2.2.1
  rw [e6]
  have ec : sw_up (sw_up x1 (14 + 9 * c) 1 2) (14 + 9 * c) 8 (gSc S 6) (14 + 9 * c) 0 = nI c := by
    rw [up_nj (by decide), up_nj (by decide), w0, a1]
  rw [ec]
  have hO1 : Off (14 + 9 * c) (sw_up (sw_up x1 (14 + 9 * c) 1 2) (14 + 9 * c) 8 (gSc S 6)) x1 := Off_q (Off_q (fun _ _ => rfl))
  rw [x_time g1 hO1 hI1 hcS hl x1' (Or.inl hw0), bd_s]
  have e28 : sw_up (sw_up x1 (14 + 9 * c) 1 2) (14 + 9 * c) 8 (gSc S 6) 2 8 = gSc S 4 := by
    rw [up_ne (by omega), up_ne (by omega)]; exact g1.1.2.2.2.2.1
  rw [e28]
  generalize hx7 : sw_up (sw_up (sw_up (sw_up x1 (14 + 9 * c) 1 2) (14 + 9 * c) 8 (gSc S 6)) (14 + 9 * c) 9 (gSc S 4 + (if oth S (nI c) (nI l) 2 = none ∧ bfr S (nI l) = none then gSc S 3 else gSc S 2))) (14 + 9 * c) 10 2 = x7
  have hO7 : Off (14 + 9 * c) x7 x1 := by rw [← hx7]; exact Off_q (Off_q hO1)
  have q7 : x7 (14 + 9 * c) 0 = nI c ∧ x7 (14 + 9 * c) 1 = 2 ∧ x7 (14 + 9 * c) 2 = 0 ∧ x7 (14 + 9 * c) 3 = nI l ∧ x7 (14 + 9 * c) 5 = x1 (14 + 9 * c) 5 ∧ x7 (14 + 9 * c) 7 = a 4 ∧ x7 (14 + 9 * c) 8 = gSc S 6 ∧ x7 (14 + 9 * c) 9 = gSc S 4 + (if oth S (nI c) (nI l) 2 = none ∧ bfr S (nI l) = none then gSc S 3 else gSc S 2) ∧ x7 (14 + 9 * c) 10 = 2 := by
    rw [← hx7]
    refine ⟨?_, ?_, ?_, ?_, ?_, ?_, ?_, ?_, ?_⟩ <;> (simp only [up_at]; simp [w0, w2, w3, w5, a1, a0, a2])
  obtain ⟨u0, u1, u2, u3, u5, u7, u8, u9, u10⟩ := q7
  have hop : gOp S c 0 = 1 := by
    obtain ⟨c', l', p, p1, p2, p3, p4, p5, p6, p7⟩ := hI1.2.2.2.1.1 a haS
    rw [a1, nI_eq (by omega) (by omega)] at p2
    subst p2
    rcases p7 with ⟨z, _⟩ | ⟨_, _, z, _⟩
    · rw [a0] at z; exact absurd z (by decide)
    · rw [z, if_pos a0]
  have fin : ∀ (U : Nat → Sx) (tb : Nat → Int32) (e : E), U 0 = S → tb 0 = 2 → (∀ k, k ≤ cN S → gSc (U k) = gSc S ∧ gOpn (U k) = gOpn S ∧ gOp (U k) = gOp S) → (U (c + 1) = U c ∧ tb (c + 1) = tb c) → (∀ k, k < cN S → k ≠ c → ∀ y y0, RX (U k) y0 → Off (14 + 9 * c) y y0 → ∃ y', f_X0_bringToMemory y (8 + 9 * k) (nI l) = some y' ∧ (∃ y0', RX (U (k + 1)) y0' ∧ Off (14 + 9 * c) y' y0') ∧ y' (14 + 9 * c) = y (14 + 9 * c) ∧ (if y' (10 + 9 * k) l = 0 then tb (k + 1) = tb k else tb (k + 1) = 1)) → e = mk [0, nI c, nI l, gSc S 4 + (if oth S (nI c) (nI l) 2 = none ∧ bfr S (nI l) = none then gSc S 3 else gSc S 2), tb (cN S), gMem (U (cN S)) l, a 4, gSc S 6] → wp (f_X0_orderRead_60 sw_fuel x7 (14 + 9 * c) (nI l) 0) (RX (wOpn (wAsk (U (cN S)) (rmv 5 (nI (3 * c)) (gAsk (U (cN S))))) (gOpn S ++ [e]))) := by
    intro U tb e hU0 htb0 hUs hUc hst he
    refine wp_mono (read_loop (U := U) (tb := tb) hcS hC4S hl (fun k hk => by rw [(hUs k hk).1]; exact hI1.1.1.1) ⟨x1, by rw [hU0]; exact g1, hO7⟩ u0 (by rw [htb0]; exact u10) hUc hst) (fun x' ⟨⟨x0', r1, r2⟩, r3, r4, r5⟩ => ?_)
    obtain ⟨s1, s2, s3⟩ := hUs (cN S) (Nat.le_refl _)
    have := RX_swap (e := e) r1 r2 hc4 (by rw [s2, hSo]; exact hno) (by rw [he]; rfl) (by rw [r3 0 (by decide) (by decide)]; exact u0) (by rw [r3 1 (by decide) (by decide)]; exact u1) (by rw [r3 2 (by decide) (by decide), he]; exact u2) (by rw [r3 3 (by decide) (by decide), he]; exact u3) (by rw [r3 9 (by decide) (by decide), he]; exact u9) (by rw [r4, he]; rfl) (by rw [r3 7 (by decide) (by decide), he]; exact u7) (by rw [r3 8 (by decide) (by decide), he]; exact u8) (fun _ => by rw [r5, he]; rfl) (fun z => ⟨by rw [r3 5 (by decide) (by decide), u5, s3]; exact (w5' (by rw [hop]; decide)).1, fun z => by rw [s3, hop] at z; exact absurd z (by decide)⟩)
    rw [s2] at this
    exact this
  rw [← hSa]
  rcases holders hI1 hcS hl x1' (Or.inl hw0) with ⟨d, z1, z2, z3, z4, z5, z6, z7⟩ | ⟨z1, d, j, z2, z3, z4, z5, z6, z7⟩ | ⟨z1, z2, z3, z4⟩
  · rw [opens_1 (Or.inl rfl) hl z1, if_pos rfl]
    have htb : aToBe (wRow (wMem S l (valR (gRow S d) (nI l))) d (toSh (gRow S d) (nI l))) 0 c (nI l) = 1 := by
      refine tobe_1 (d := d) z2 z3 hC4S hc4 ?_
      show howR (va_up (gRow S) d (toSh (gRow S d) (nI l)) d) (nI l) = 1
      rw [up_s, how_toSh (pw0 hI1 (by omega)) z4, if_pos rfl]
    rw [htb]
    have hmem : gMem (wRow (wMem S l (valR (gRow S d) (nI l))) d (toSh (gRow S d) (nI l))) l = valR (gRow S d) (nI l) := up_s _ _ _
    have hI2 : Inv (b + 1) (wRow (wMem S l (valR (gRow S d) (nI l))) d (toSh (gRow S d) (nI l))) := Inv_k (Inv_toSh hI1 (by omega) z4 z5) (fun _ _ _ _ _ _ => rfl) rfl rfl (fun _ => ⟨rfl, rfl⟩) rfl rfl rfl
    have hUC : (if d < cN S then wRow (wMem S l (valR (gRow S d) (nI l))) d (toSh (gRow S d) (nI l)) else S) = wRow (wMem S l (valR (gRow S d) (nI l))) d (toSh (gRow S d) (nI l)) := if_pos z2
    have := fin (fun k => if d < k then wRow (wMem S l (valR (gRow S d) (nI l))) d (toSh (gRow S d) (nI l)) else S) (fun k => if d < k then 1 else 2) (mk [0, nI c, nI l, gSc S 4 + gSc S 2, 1, valR (gRow S d) (nI l), a 4, gSc S 6]) (if_neg (by omega)) (if_neg (by omega)) (fun k _ => ?_) ⟨?_, ?_⟩ (fun k hk hkc y y0 r1 r2 => ?_) ?_
    · skip
      rw [hUC] at this
      exact this
    · skip
      split <;> exact ⟨rfl, rfl, rfl⟩
    · skip
      by_cases q : d < c
      · rw [if_pos q, if_pos (by omega)]
      · rw [if_neg q, if_neg (by omega)]
    · skip
      by_cases q : d < c
      · rw [if_pos q, if_pos (by omega)]
      · rw [if_neg q, if_neg (by omega)]
    · skip
      by_cases ed : k = d
      · subst ed
        rw [if_neg (by omega)] at r1
        obtain ⟨y', t1, t2, t3, t4⟩ := bring_1 r1 r2 hI1 (show k < 4 by omega) hl z4 z5 (z7 k (by omega))
        refine ⟨y', t1, by rw [if_pos (by omega)]; exact t2, t3, ?_⟩
        rw [t4, if_neg (by decide), if_pos (by omega)]
      · have hInvU : Inv (b + 1) (if d < k then wRow (wMem S l (valR (gRow S d) (nI l))) d (toSh (gRow S d) (nI l)) else S) := by
          split
          · exact hI2
          · exact hI1
        have hwk : hw (if d < k then wRow (wMem S l (valR (gRow S d) (nI l))) d (toSh (gRow S d) (nI l)) else S) k (nI l) = 0 := by
          split
          · show howR (va_up (gRow S) d (toSh (gRow S d) (nI l)) k) (nI l) = 0
            rw [up_n _ _ ed]
            exact z6 k (by omega) ed
          · exact z6 k (by omega) ed
        have hbk : ∀ e ∈ gBuf (if d < k then wRow (wMem S l (valR (gRow S d) (nI l))) d (toSh (gRow S d) (nI l)) else S) k, e 0 ≠ nI l := by
          split
          · exact z7 k (by omega)
          · exact z7 k (by omega)
        have t1 := bring_0 r1 r2 hInvU (show k < 4 by omega) hl (Or.inl hwk) hbk
        refine ⟨y, t1, ⟨y0, ?_, r2⟩, rfl, ?_⟩
        · by_cases q : d < k
          · rw [if_pos q] at r1; rw [if_pos (by omega)]; exact r1
          · rw [if_neg q] at r1; rw [if_neg (by omega)]; exact r1
        · rw [off_st r1 r2 (by omega) hl, hwk, if_pos rfl]
          by_cases q : d < k
          · rw [if_pos q, if_pos (by omega)]
          · rw [if_neg q, if_neg (by omega)]
    · skip
      rw [hUC, hmem, if_pos z2, z1, if_neg (fun y => by cases y.1)]
  · rw [opens_2 (Or.inl rfl) hl z1 z2 z5, if_pos rfl]
    obtain ⟨i, hi, v2, vm, v0, ve, vf, vo⟩ := aOut_eq hI1 (by omega) z5
    have hvr : valR (gBuf S d) (nI l) = getE (gBuf S d) j 1 := by unfold valR; rw [z5]
    have hI2 : Inv (b + 1) (wMem (aOut S d j (nI l)) l (getE (gBuf S d) j 1)) := by
      have := Inv_out hI1 (by omega) vm v0 hi v2
      rw [← vo] at this
      exact Inv_k this (fun _ _ _ _ _ _ => rfl) rfl rfl (fun _ => ⟨rfl, rfl⟩) rfl rfl rfl
    have htb : aToBe (wMem (aOut S d j (nI l)) l (getE (gBuf S d) j 1)) 0 c (nI l) = 2 := by
      unfold aToBe
      rw [if_neg (by decide), if_pos]
      refine fst1_no (fun e he => ?_)
      have he : e < cN S := he
      have : howR (gRow S e) (nI l) = 0 := z6 e (by omega)
      have h1 : howR (gRow (wMem (aOut S d j (nI l)) l (getE (gBuf S d) j 1)) e) (nI l) = 0 := this
      rw [h1]
      simp
    rw [hvr, htb]
    have hmem : gMem (wMem (aOut S d j (nI l)) l (getE (gBuf S d) j 1)) l = getE (gBuf S d) j 1 := up_s _ _ _
    have hUC : (if d < cN S then wMem (aOut S d j (nI l)) l (getE (gBuf S d) j 1) else S) = wMem (aOut S d j (nI l)) l (getE (gBuf S d) j 1) := if_pos z3
    have := fin (fun k => if d < k then wMem (aOut S d j (nI l)) l (getE (gBuf S d) j 1) else S) (fun _ => 2) (mk [0, nI c, nI l, gSc S 4 + gSc S 2, 2, getE (gBuf S d) j 1, a 4, gSc S 6]) (if_neg (by omega)) rfl (fun k _ => ?_) ⟨?_, rfl⟩ (fun k hk hkc y y0 r1 r2 => ?_) ?_
    · skip
      rw [hUC] at this
      exact this
    · skip
      split <;> exact ⟨rfl, rfl, rfl⟩
    · skip
      by_cases q : d < c
      · rw [if_pos q, if_pos (by omega)]
      · rw [if_neg q, if_neg (by omega)]
    · skip
      by_cases ed : k = d
      · subst ed
        rw [if_neg (by omega)] at r1
        obtain ⟨y', t1, t2, t3, t4⟩ := bring_2 r1 r2 hI1 (show k < 4 by omega) hl (z6 k (by omega)) vm v0 hi v2
        refine ⟨y', t1, ?_, t3, ?_⟩
        · rw [if_pos (by omega), vo]; exact t2
        · rw [t4, if_pos rfl]
      · have hInvU : Inv (b + 1) (if d < k then wMem (aOut S d j (nI l)) l (getE (gBuf S d) j 1) else S) := by
          split
          · exact hI2
          · exact hI1
        have hwk : hw (if d < k then wMem (aOut S d j (nI l)) l (getE (gBuf S d) j 1) else S) k (nI l) = 0 := by
          split
          · exact z6 k (by omega)
          · exact z6 k (by omega)
        have hbk : ∀ e ∈ gBuf (if d < k then wMem (aOut S d j (nI l)) l (getE (gBuf S d) j 1) else S) k, e 0 ≠ nI l := by
          split
          · intro e he
            have he : e ∈ va_up (gBuf S) d ((gBuf S d).eraseIdx j) k := he
            rw [up_n _ _ ed] at he
            exact z7 k (by omega) ed e he
          · exact z7 k (by omega) ed
        have t1 := bring_0 r1 r2 hInvU (show k < 4 by omega) hl (Or.inl hwk) hbk
        refine ⟨y, t1, ⟨y0, ?_, r2⟩, rfl, ?_⟩
        · by_cases q : d < k
          · rw [if_pos q] at r1; rw [if_pos (by omega)]; exact r1
          · rw [if_neg q] at r1; rw [if_neg (by omega)]; exact r1
        · rw [off_st r1 r2 (by omega) hl, hwk, if_pos rfl]
    · skip
      rw [hUC, hmem, z2, if_neg (fun y => by cases y.2)]
  · rw [opens_3 (Or.inl rfl) hl z1 z2, if_pos rfl, mem_self]
    have := fin (fun _ => S) (fun k => if ∃ e, e < k ∧ e ≠ c ∧ hw S e (nI l) = 1 then 1 else 2) (mk [0, nI c, nI l, gSc S 4 + gSc S 3, (if ∃ e, e < cN S ∧ e ≠ c ∧ hw S e (nI l) = 1 then 1 else 2), gMem S l, a 4, gSc S 6]) rfl (if_neg (fun ⟨e, he, _⟩ => by omega)) (fun k _ => ⟨rfl, rfl, rfl⟩) ⟨rfl, ?_⟩ (fun k hk hkc y y0 r1 r2 => ?_) ?_
    · have htb : aToBe S 0 c (nI l) = (if ∃ e, e < cN S ∧ e ≠ c ∧ hw S e (nI l) = 1 then 1 else 2) := by
        by_cases q : ∃ e, e < cN S ∧ e ≠ c ∧ hw S e (nI l) = 1
        · rw [if_pos q]
          obtain ⟨e, e1, e2, e3⟩ := q
          exact tobe_1 e1 e2 hC4S hc4 e3
        · rw [if_neg q]
          unfold aToBe
          rw [if_neg (by decide), if_pos]
          refine fst1_no (fun e he => ?_)
          have he : e < cN S := he
          by_cases ec : e = c
          · subst ec
            simp
          · have : hw S e (nI l) = 0 := by
              rcases z3 e (by omega) with w | w
              · exact w
              · exact absurd ⟨e, he, ec, w⟩ q
            unfold hw at this
            rw [this]
            simp
      rw [htb]
      exact this
    · skip
      have : (∃ e, e < c + 1 ∧ e ≠ c ∧ hw S e (nI l) = 1) ↔ (∃ e, e < c ∧ e ≠ c ∧ hw S e (nI l) = 1) := by
        constructor
        · intro ⟨e, e1, e2, e3⟩
          exact ⟨e, by omega, e2, e3⟩
        · intro ⟨e, e1, e2, e3⟩
          exact ⟨e, by omega, e2, e3⟩
      simp only [this]
    · skip
      have t1 := bring_0 r1 r2 hI1 (show k < 4 by omega) hl (z3 k (by omega)) (z4 k (by omega))
      refine ⟨y, t1, ⟨y0, r1, r2⟩, rfl, ?_⟩
      rw [off_st r1 r2 (by omega) hl]
      rcases z3 k (by omega) with w | w
      · rw [w, if_pos rfl]
        have : (∃ e, e < k + 1 ∧ e ≠ c ∧ hw S e (nI l) = 1) ↔ (∃ e, e < k ∧ e ≠ c ∧ hw S e (nI l) = 1) := by
          constructor
          · intro ⟨e, e1, e2, e3⟩
            refine ⟨e, ?_, e2, e3⟩
            have : e ≠ k := fun z => by rw [z, w] at e3; exact absurd e3 (by decide)
            omega
          · intro ⟨e, e1, e2, e3⟩
            exact ⟨e, by omega, e2, e3⟩
        simp only [this]
      · rw [w, if_neg (by decide), if_pos ⟨k, by omega, hkc, w⟩]
    · skip
      rw [z1, z2, if_pos (show (none : Option Nat) = none ∧ (none : Option Nat) = none from ⟨rfl, rfl⟩)]
