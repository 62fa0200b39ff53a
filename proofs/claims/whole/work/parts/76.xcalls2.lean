/-! PURE: the class's read, store, drop -/
theorem x_startStore {b : Nat} {s : Sx} {x : sw_St} {c l : Nat} {w : Int32} (h : RX s x) (hI : Inv b s) (hb : b + 2 < 2 ^ 30) (hc : c < cN s) (hl : l < 8) : wp (f_X0_startStore x (nI c) (nI l) w) (Rx (if gOp s c 0 = 0 then aStore1 (aTake s c (nI l)) c (nI l) w else (-2, s))) := by
  have hC4 := hI.1.1.2.2
  have hc4 : c < 4 := by omega
  have hst := op_st0 h hI hc4
  unfold f_X0_startStore
  rw [ck_t (pn_in (by omega) (by omega)), pn_ix (by omega), show 8 + 9 * c + 6 = 14 + 9 * c by omega]
  by_cases z : gOp s c 0 = 0
  · rw [if_pos (hst.mpr z), if_pos z]
    refine wp_bindM (x_takeBack h hI (by omega) hc rfl hl) (fun x1 h1 => ?_)
    have hI1 := Inv_take hI (by omega) hc hl z
    have hcx := h1.2.2.1 c hc4
    have hp := pw0 hI1 hc4
    rw [x_sole hc4 (by omega) hl, bd_s, ck_t (pn_in (by omega) (by omega)), pn_ix (by omega), show 8 + 9 * c + 1 + 1 = 10 + 9 * c by omega, hcx.1 l hl]
    have h123 := hw_123 (l := nI l) hI1 hc4
    unfold hw at h123
    unfold aStore1 f_X0_startStore_89
    have ask : ∀ k : Int32, wp ((f_X0_ask x1 (14 + 9 * c) k (nI l) w).bind fun r1 => some ((-5 : Int32), r1)) (Rx (-5, aAsk (wOp (aTake s c (nI l)) c (mk [2, nI l, w, gSc (aTake s c (nI l)) 4, gOp (aTake s c (nI l)) c 4])) k c (nI l))) := by
      intro k
      rw [x_ask_eq (isQ_c hc4 (r := 0) (by omega) (by omega)), bd_s]
      exact wp_some ⟨rfl, RX_ask h1 hI1 hc4 (by rw [take_op]; exact z) rfl rfl (fun _ => rfl)⟩
    have put : wp ((f_X1_put x1 (8 + 9 * c + 1) (nI l) 3 w).bind fun r5 => sw_pt r5 2 12 (r5 2 12 + 1) fun s6 => some ((0 : Int32), s6)) (Rx (0, wSc (aUse (aTake s c (nI l)) c (nI l) w 3) 9 (gSc (aTake s c (nI l)) 9 + 1))) := by
      refine wp_bindM (x_put h1 hc4 (by omega) hl hp (row_ll hI1 hc4)) (fun x2 h2 => ?_)
      simp only [sw_pt]
      have h12 : x2 2 12 = gSc (aTake s c (nI l)) 9 := by
        rw [h2.1.2.2.2.2.2.2.2.2.2.1]
        exact up_n _ _ (by omega)
      rw [h12]
      exact wp_some ⟨rfl, RX_sc (v := gSc (aTake s c (nI l)) 9 + 1) 9 (by decide) (by decide) h2⟩
    rcases h123 with q | q | q | q
    · rw [q, if_pos (by decide), if_neg (by decide), if_pos (by decide), if_pos rfl]
      exact ask 1
    · rw [q, if_pos (by decide), if_pos rfl, if_pos (by decide), if_neg (by decide)]
      exact ask 2
    · rw [q, if_neg (by decide), if_neg (by decide)]
      exact put
    · rw [q, if_neg (by decide), if_neg (by decide)]
      exact put
  · rw [if_neg (fun y => z (hst.mp y)), if_neg z]
    exact wp_some ⟨rfl, h⟩
theorem x_dropLine {b : Nat} {s : Sx} {x : sw_St} {c l : Nat} (h : RX s x) (hI : Inv b s) (hc : c < cN s) (hl : l < 8) : wp (f_X0_dropLine x (nI c) (nI l)) (Rx (aDrop1 s c (nI l))) := by
  have hC4 := hI.1.1.2.2
  have hc4 : c < 4 := by omega
  have hcx := h.2.2.1 c hc4
  have h2 := (hI.2.2.1 c hc4).1.2.2.2.2
  unfold f_X0_dropLine f_X0_dropLine_42 aDrop1 aGive
  rw [ck_t (pn_in (by omega) (by omega)), ck_t (pn_in (by omega) (by omega)), pn_ix (by omega), pn_ix (by omega), show 8 + 9 * c + 1 + 1 = 10 + 9 * c by omega, hcx.1 l hl, x_freeI h hI hc4 rfl, bd_s]
  by_cases q0 : howR (gRow s c) (nI l) = 0
  · rw [if_pos q0, if_pos q0]
    exact wp_some ⟨rfl, h⟩
  · rw [if_neg q0, if_neg q0]
    have hx : ∃ k, ixf (gRow s c) 0 (nI l) = some k := by
      cases q : ixf (gRow s c) 0 (nI l) with
      | none => exact absurd ((how_0 (Inv_Hows hI c hc4)).mpr q) q0
      | some k => exact ⟨k, rfl⟩
    obtain ⟨k, hk⟩ := hx
    have ek : howR (gRow s c) (nI l) = getE (gRow s c) k 2 := by unfold howR; rw [hk]
    have fin : (getE (gRow s c) k 2 = 3 → (gBuf s c).length < 2) → wp ((f_X0_giveUp x (8 + 9 * c) (nI l)).bind fun r1 => some (howR (gRow s c) (nI l), r1)) (Rx (howR (gRow s c) (nI l), match ixf (gRow s c) 0 (nI l) with | some k => aGiveK s c k | none => s)) := by
      intro hf
      refine wp_bindM (x_give h hI hc4 rfl hl hk hf) (fun x2 h2 => wp_some ⟨rfl, ?_⟩)
      rw [hk]
      exact h2
    by_cases q3 : howR (gRow s c) (nI l) = 3
    · rw [if_pos q3]
      by_cases ql : (gBuf s c).length < 2
      · rw [if_pos ql, if_neg (by omega), if_neg (fun y => by omega)]
        exact fin (fun _ => ql)
      · rw [if_neg ql, if_pos rfl, if_pos ⟨q3, by omega⟩]
        exact wp_some ⟨rfl, h⟩
    · rw [if_neg q3, if_neg (fun y => q3 y.1)]
      exact fin (fun y => absurd (by rw [ek]; exact y) q3)
theorem bind_id {o : Option (Int32 × sw_St)} {t : Int32 × Sx} (h : wp o (Rx t)) : wp (o.bind fun r => some (r.1, r.2)) (Rx t) := wp_bindM h (fun _ hr => wp_some hr)
theorem x_read {b : Nat} {s : Sx} {x : sw_St} (a y : Int32) (h : RX s x) (hI : Inv b s) (hb : b + 2 < 2 ^ 30) : wp (f_X6_read x a y) (Rx (tRead s a y)) := by
  obtain ⟨hC, hC2, hC4⟩ := hI.1.1
  unfold f_X6_read tRead
  rw [x_core h hC hC2 hC4, bd_s, x_line, bd_s]
  by_cases hc : okC s a
  · rw [if_pos hc, if_neg (by decide)]
    by_cases hl : okL y
    · rw [if_pos hl, if_neg (by decide), if_pos (show okC s a ∧ okL y from ⟨hc, hl⟩)]
      obtain ⟨c, hcC, rfl⟩ := okC_ex hC hC4 hc
      obtain ⟨l, hl8, rfl⟩ := okL_ex hl
      rw [pn_ix (by omega)]
      exact bind_id (x_startRead h hI hb hcC hl8)
    · rw [if_neg hl, if_pos rfl, if_neg (fun z => hl z.2)]
      exact wp_some ⟨rfl, h⟩
  · rw [if_neg hc, if_pos rfl, if_neg (fun z => hc z.1)]
    exact wp_some ⟨rfl, h⟩
theorem x_store {b : Nat} {s : Sx} {x : sw_St} (a y w : Int32) (h : RX s x) (hI : Inv b s) (hb : b + 2 < 2 ^ 30) : wp (f_X6_store x a y w) (Rx (tStore s a y w)) := by
  obtain ⟨hC, hC2, hC4⟩ := hI.1.1
  unfold f_X6_store tStore
  have e99 : (0 : Int32).toInt = 0 ∧ (9999 : Int32).toInt = 9999 := by decide
  rw [x_core h hC hC2 hC4, bd_s, x_line, bd_s, x_within, bd_s, e99.1, e99.2]
  by_cases hc : okC s a
  · rw [if_pos hc, if_neg (by decide)]
    by_cases hl : okL y
    · rw [if_pos hl, if_neg (by decide)]
      by_cases hw : 0 ≤ w.toInt ∧ w.toInt ≤ 9999
      · rw [if_pos hw, if_neg (by decide), if_pos (show okC s a ∧ okL y ∧ 0 ≤ w.toInt ∧ w.toInt ≤ 9999 from ⟨hc, hl, hw⟩)]
        obtain ⟨c, hcC, rfl⟩ := okC_ex hC hC4 hc
        obtain ⟨l, hl8, rfl⟩ := okL_ex hl
        rw [pn_ix (by omega)]
        exact bind_id (x_startStore h hI hb hcC hl8)
      · rw [if_neg hw, if_pos rfl, if_neg (fun z => hw z.2.2)]
        exact wp_some ⟨rfl, h⟩
    · rw [if_neg hl, if_pos rfl, if_neg (fun z => hl z.2.1)]
      exact wp_some ⟨rfl, h⟩
  · rw [if_neg hc, if_pos rfl, if_neg (fun z => hc z.1)]
    exact wp_some ⟨rfl, h⟩
theorem x_drop {b : Nat} {s : Sx} {x : sw_St} (a y : Int32) (h : RX s x) (hI : Inv b s) : wp (f_X6_drop x a y) (Rx (tDrop s a y)) := by
  obtain ⟨hC, hC2, hC4⟩ := hI.1.1
  unfold f_X6_drop tDrop
  rw [x_core h hC hC2 hC4, bd_s, x_line, bd_s]
  by_cases hc : okC s a
  · rw [if_pos hc, if_neg (by decide)]
    by_cases hl : okL y
    · rw [if_pos hl, if_neg (by decide), if_pos (show okC s a ∧ okL y from ⟨hc, hl⟩)]
      obtain ⟨c, hcC, rfl⟩ := okC_ex hC hC4 hc
      obtain ⟨l, hl8, rfl⟩ := okL_ex hl
      rw [pn_ix (by omega)]
      exact bind_id (x_dropLine h hI hcC hl8)
    · rw [if_neg hl, if_pos rfl, if_neg (fun z => hl z.2)]
      exact wp_some ⟨rfl, h⟩
  · rw [if_neg hc, if_pos rfl, if_neg (fun z => hc z.1)]
    exact wp_some ⟨rfl, h⟩
