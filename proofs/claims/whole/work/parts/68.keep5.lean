/-! PURE: what always holds stays: read, store, drop, a turn -/
theorem take_op {s : Sx} {c : Nat} {v : Int32} : gOp (aTake s c v) = gOp s := by
  unfold aTake
  split
  · rfl
  · rw [aFill_op]; rfl
theorem take_opn {s : Sx} {c : Nat} {v : Int32} : gOpn (aTake s c v) = gOpn s := by
  unfold aTake
  split
  · rfl
  · next k _ =>
    show gOpn (if nI (gRow (aOut s c k v) c).length = gSc (aOut s c k v) 1 then aGiveK (aOut s c k v) c 0 else aOut s c k v) = _
    split
    · show gOpn (if getE (gRow (aOut s c k v) c) 0 2 = 3 then aBack (aOut s c k v) c (getE (gRow (aOut s c k v) c) 0 0) (getE (gRow (aOut s c k v) c) 0 1) else aOut s c k v) = _
      split <;> rfl
    · rfl
theorem take_sc {s : Sx} {c j : Nat} {v : Int32} (hj : j ≠ 5) (hj2 : j < 20) : gSc (aTake s c v) j = gSc s j := by
  unfold aTake
  split
  · rfl
  · next k _ => exact aFill_sc (s := aOut s c k v) hj hj2
/-- who has no such line in the buffer -/
theorem take_buf {b : Nat} {s : Sx} {c l : Nat} (h : Inv b s) (hc : c < 4) : ∀ e ∈ gBuf (aTake s c (nI l)) c, e 0 ≠ nI l := by
  intro e he z
  unfold aTake at he
  cases hx : ixf (gBuf s c) 0 (nI l) with
  | none =>
    rw [hx] at he
    exact ixf_none hx e he z
  | some k =>
    rw [hx] at he
    obtain ⟨i, hi, z2, zm, z0, ee, _, ze⟩ := aOut_eq h hc hx
    have hrow : ∀ x ∈ gRow s c, x 0 ≠ nI l := fun x hx' y => by
      have := h.2.2.2.2.2.2.2.1 c c hc hc _ zm
      rw [z0] at this
      unfold hw at this
      rw [← y, how_mem _ (pw0 h hc) hx'] at this
      rcases ((h.2.1 c hc).1.1 x hx').2.1 with q | q | q <;> rw [q] at this <;> exact absurd this (by decide)
    have hout : ∀ x ∈ gBuf (aOut s c k (nI l)) c, x 0 ≠ nI l := fun x hx' => by
      have hx' : x ∈ va_up (gBuf s) c ((gBuf s c).eraseIdx k) c := hx'
      rw [up_s, ee] at hx'
      exact (mem_rmv.mp hx').2
    have he : e ∈ gBuf (if nI (gRow (aOut s c k (nI l)) c).length = gSc (aOut s c k (nI l)) 1 then aGiveK (aOut s c k (nI l)) c 0 else aOut s c k (nI l)) c := he
    by_cases q : nI (gRow (aOut s c k (nI l)) c).length = gSc (aOut s c k (nI l)) 1
    · rw [if_pos q] at he
      have he : e ∈ gBuf (if getE (gRow (aOut s c k (nI l)) c) 0 2 = 3 then aBack (aOut s c k (nI l)) c (getE (gRow (aOut s c k (nI l)) c) 0 0) (getE (gRow (aOut s c k (nI l)) c) 0 1) else aOut s c k (nI l)) c := he
      by_cases q3 : getE (gRow (aOut s c k (nI l)) c) 0 2 = 3
      · rw [if_pos q3] at he
        have he : e ∈ va_up (gBuf (aOut s c k (nI l))) c (gBuf (aOut s c k (nI l)) c ++ [mk [getE (gRow s c) 0 0, getE (gRow s c) 0 1, nI (slotF (gBuf (aOut s c k (nI l)) c)), gSc s 5]]) c := he
        rw [up_s] at he
        rcases mem_push.mp he with he | rfl
        · exact hout e he z
        · have hl : 0 < (gRow s c).length := by
            cases hr : gRow s c with
            | nil =>
              have q3 : getE (gRow s c) 0 2 = 3 := q3
              rw [hr] at q3
              exact absurd (show (0 : Int32) = 3 from q3) (by decide)
            | cons _ _ => exact Nat.succ_pos _
          exact hrow (getE (gRow s c) 0) (List.mem_of_getElem? (getE_t hl)) z
      · rw [if_neg q3] at he
        exact hout e he z
    · rw [if_neg q] at he
      exact hout e he z
theorem hw_123 {b : Nat} {s : Sx} {c : Nat} {l : Int32} (h : Inv b s) (hc : c < 4) : hw s c l = 0 ∨ hw s c l = 1 ∨ hw s c l = 2 ∨ hw s c l = 3 := by
  by_cases q : hw s c l = 0
  · exact Or.inl q
  · obtain ⟨e, he, e0⟩ := how_in q
    right
    unfold hw
    rw [← e0, how_mem _ (pw0 h hc) he]
    exact ((h.2.1 c hc).1.1 e he).2.1
theorem Inv_read1 {b : Nat} {s : Sx} {c l : Nat} (h : Inv b s) (hb : b < 2 ^ 30) (hc : c < cN s) (hl : l < 8) (h0 : gOp s c 0 = 0) (hbf : ∀ e ∈ gBuf s c, e 0 ≠ nI l) : Inv (b + 1) (aRead1 s c (nI l)).2 := by
  have hC4 := h.1.1.2.2
  have hc4 : c < 4 := by omega
  obtain ⟨i1, i2⟩ := idle_no h hc4 h0
  unfold aRead1
  cases hx : ixf (gRow s c) 0 (nI l) with
  | none => exact Inv_ask h hb hc hl h0 (Or.inl rfl) rfl rfl hbf (Or.inl ((how_0 (Inv_Hows h c hc4)).mpr hx))
  | some k =>
    obtain ⟨e, g1, g2, g3⟩ := ixf_some hx
    have hm := List.mem_of_getElem? g1
    have hwl : hw s c (nI l) = e 2 := by
      unfold hw
      rw [← g2, how_mem _ (pw0 h hc4) hm]
    have h3 := ((h.2.1 c hc4).1.1 e hm).2.1
    have hne : hw s c (nI l) ≠ 0 := by
      rw [hwl]
      rcases h3 with q | q | q <;> rw [q] <;> decide
    have hI : Inv (b + 1) (aUse s c (nI l) (e 1) (e 2)) := by
      refine Inv_use h hb hc hl h3 hne (fun d hd hdc => ?_) (fun a ha z => ?_) (fun a ha z z1 => absurd z1 (i1 a ha z))
      · by_cases q : e 2 = 1
        · by_cases q0 : hw s d (nI l) = 0
          · exact Or.inl q0
          · by_cases q1 : hw s d (nI l) = 1
            · exact Or.inr ⟨q1, q⟩
            · exact absurd (h.2.2.2.2.2.2.1 d c (nI l) hd hc4 hdc q0 q1) hne
        · exact Or.inl (h.2.2.2.2.2.2.1 c d (nI l) hc4 hd (Ne.symm hdc) hne (by rw [hwl]; exact q))
      · obtain ⟨k1, k2⟩ := h.2.2.2.2.2.2.2.2.2.1 a ha
        have := (k1 c hc4).1
        rw [z] at this
        rcases this with y | y
        · exact absurd y hne
        · exact ⟨by rw [← hwl]; exact y.1, y.2, i2 a ha⟩
    dsimp only
    rw [getE_s g1]
    refine Inv_k hI (fun j _ _ _ h9 _ => sc_n h9) rfl rfl (fun d => ?_) rfl rfl rfl
    show va_up (gOp s) c (lOp (gOp s c) (e 1)) d 0 = gOp s d 0 ∧ va_up (gOp s) c (lOp (gOp s c) (e 1)) d 1 = gOp s d 1
    by_cases q : d = c
    · subst q; rw [up_s]; exact ⟨rfl, rfl⟩
    · rw [up_n _ _ q]; exact ⟨rfl, rfl⟩
theorem Inv_store1 {b : Nat} {s : Sx} {c l : Nat} {w : Int32} (h : Inv b s) (hb : b < 2 ^ 30) (hc : c < cN s) (hl : l < 8) (h0 : gOp s c 0 = 0) (hbf : ∀ e ∈ gBuf s c, e 0 ≠ nI l) : Inv (b + 1) (aStore1 s c (nI l) w).2 := by
  have hC4 := h.1.1.2.2
  have hc4 : c < 4 := by omega
  obtain ⟨i1, i2⟩ := idle_no h hc4 h0
  have h123 := hw_123 (l := nI l) h hc4
  unfold hw at h123
  unfold aStore1
  by_cases q : howR (gRow s c) (nI l) < 2
  · rw [if_pos q]
    by_cases q0 : howR (gRow s c) (nI l) = 0
    · rw [if_pos q0]
      exact Inv_ask h hb hc hl h0 (Or.inr (Or.inl rfl)) rfl rfl hbf (Or.inl q0)
    · rw [if_neg q0]
      have q1 : howR (gRow s c) (nI l) = 1 := by
        rcases h123 with z | z | z | z
        · exact absurd z q0
        · exact z
        · rw [z] at q; exact absurd q (by decide)
        · rw [z] at q; exact absurd q (by decide)
      exact Inv_ask h hb hc hl h0 (Or.inr (Or.inr rfl)) rfl rfl hbf (Or.inr ⟨rfl, q1⟩)
  · rw [if_neg q]
    have q0 : hw s c (nI l) ≠ 0 := fun z => q (by unfold hw at z; rw [z]; decide)
    have q1 : hw s c (nI l) ≠ 1 := fun z => q (by unfold hw at z; rw [z]; decide)
    have hI : Inv (b + 1) (aUse s c (nI l) w 3) := by
      refine Inv_use h hb hc hl (Or.inr (Or.inr rfl)) q0 (fun d hd hdc => Or.inl (h.2.2.2.2.2.2.1 c d (nI l) hc4 hd (Ne.symm hdc) q0 q1)) (fun a ha z => ?_) (fun a ha z z1 => absurd z1 (i1 a ha z))
      obtain ⟨k1, k2⟩ := h.2.2.2.2.2.2.2.2.2.1 a ha
      have := (k1 c hc4).1
      rw [z] at this
      rcases this with y | y
      · exact absurd y q0
      · exact absurd y.1 q1
    exact Inv_k hI (fun j _ _ _ h9 _ => sc_n h9) rfl rfl (fun d => ⟨rfl, rfl⟩) rfl rfl rfl
theorem Inv_tRead {b : Nat} {s : Sx} (x y : Int32) (h : Inv b s) (hb : b + 2 < 2 ^ 30) : Inv (b + 3) (tRead s x y).2 := by
  unfold tRead
  by_cases q : okC s x ∧ okL y
  · rw [if_pos q]
    obtain ⟨c, hc, rfl⟩ := okC_ex h.1.1.1 h.1.1.2.2 q.1
    obtain ⟨l, hl, rfl⟩ := okL_ex q.2
    have hC4 := h.1.1.2.2
    rw [pn_ix (by omega)]
    by_cases q0 : gOp s c 0 = 0
    · rw [if_pos q0]
      refine Inv_read1 (Inv_take h (by omega) hc hl q0) (by omega) ?_ hl (by rw [take_op]; exact q0) (take_buf h (by omega))
      show c < sw_ix (gSc (aTake s c (nI l)) 0)
      rw [take_sc (by decide) (by decide)]
      exact hc
    · rw [if_neg q0]
      exact Inv_mono h (by omega)
  · rw [if_neg q]
    exact Inv_mono h (by omega)
theorem Inv_tStore {b : Nat} {s : Sx} (x y w : Int32) (h : Inv b s) (hb : b + 2 < 2 ^ 30) : Inv (b + 3) (tStore s x y w).2 := by
  unfold tStore
  by_cases q : okC s x ∧ okL y ∧ 0 ≤ w.toInt ∧ w.toInt ≤ 9999
  · rw [if_pos q]
    obtain ⟨c, hc, rfl⟩ := okC_ex h.1.1.1 h.1.1.2.2 q.1
    obtain ⟨l, hl, rfl⟩ := okL_ex q.2.1
    have hC4 := h.1.1.2.2
    rw [pn_ix (by omega)]
    by_cases q0 : gOp s c 0 = 0
    · rw [if_pos q0]
      refine Inv_store1 (Inv_take h (by omega) hc hl q0) (by omega) ?_ hl (by rw [take_op]; exact q0) (take_buf h (by omega))
      show c < sw_ix (gSc (aTake s c (nI l)) 0)
      rw [take_sc (by decide) (by decide)]
      exact hc
    · rw [if_neg q0]
      exact Inv_mono h (by omega)
  · rw [if_neg q]
    exact Inv_mono h (by omega)
theorem Inv_tDrop {b : Nat} {s : Sx} (x y : Int32) (h : Inv b s) (hb : b + 2 < 2 ^ 30) : Inv (b + 3) (tDrop s x y).2 := by
  unfold tDrop
  by_cases q : okC s x ∧ okL y
  · rw [if_pos q]
    obtain ⟨c, hc, rfl⟩ := okC_ex h.1.1.1 h.1.1.2.2 q.1
    obtain ⟨l, hl, rfl⟩ := okL_ex q.2
    have hC4 := h.1.1.2.2
    rw [pn_ix (by omega)]
    unfold aDrop1
    by_cases q0 : howR (gRow s c) (nI l) = 0
    · rw [if_pos q0]; exact Inv_mono h (by omega)
    · rw [if_neg q0]
      by_cases q3 : howR (gRow s c) (nI l) = 3 ∧ (gBuf s c).length = 2
      · rw [if_pos q3]; exact Inv_mono h (by omega)
      · rw [if_neg q3]
        unfold aGive
        cases hx : ixf (gRow s c) 0 (nI l) with
        | none => exact Inv_mono h (by omega)
        | some k =>
          obtain ⟨e, g1, g2, g3⟩ := ixf_some hx
          refine Inv_mono (Inv_give h (by omega) hc g3 (fun z => ?_)) (by omega)
          have h2 := (h.2.2.1 c (by omega)).1.2.2.2.2
          have : howR (gRow s c) (nI l) = getE (gRow s c) k 2 := by unfold howR; rw [hx]
          have hne : (gBuf s c).length ≠ 2 := fun y => q3 ⟨by rw [this]; exact z, y⟩
          omega
  · rw [if_neg q]
    exact Inv_mono h (by omega)
-- ===== answers =====
theorem give_wOp {s : Sx} {c k d : Nat} {o : E} : aGiveK (wOp s d o) c k = wOp (aGiveK s c k) d o := by
  unfold aGiveK
  by_cases q : getE (gRow s c) k 2 = 3
  · rw [if_pos q, if_pos (show getE (gRow (wOp s d o) c) k 2 = 3 from q)]; rfl
  · rw [if_neg q, if_neg (show ¬ getE (gRow (wOp s d o) c) k 2 = 3 from q)]; rfl
theorem fill_wOp {s : Sx} {c d : Nat} {v w t : Int32} {o : E} : aFill (wOp s d o) c v w t = wOp (aFill s c v w t) d o := by
  unfold aFill
  by_cases q : nI (gRow s c).length = gSc s 1
  · rw [if_pos q, if_pos (show nI (gRow (wOp s d o) c).length = gSc (wOp s d o) 1 from q), give_wOp]; rfl
  · rw [if_neg q, if_neg (show ¬ nI (gRow (wOp s d o) c).length = gSc (wOp s d o) 1 from q)]; rfl
theorem Inv_ans {b : Nat} {s : Sx} {i : Nat} (h : Inv b s) (hb : b + 1 < 2 ^ 30) (hi : i < (gOpn s).length) (hr : rdy s (getE (gOpn s) i)) : Inv (b + 2) (aAns s i) := by
  have hC4 := h.1.1.2.2
  have hm := List.mem_of_getElem? (getE_t hi)
  obtain ⟨c, l, t, q1, q2, q3, q4, q5, q6, q7, q8, q9, q10, q11⟩ := h.2.2.2.2.1.1 _ hm
  obtain ⟨k1, k2⟩ := h.2.2.2.2.2.2.2.2.2.1 _ hm
  have hcf := hr.2
  unfold aAns
  rw [q2, pn_ix (by omega)] at hcf k2 ⊢
  rw [q4] at k1 k2 ⊢
  have hI := Inv_idle (c := c) (o := zOp (lOp (gOp s c) (if gOp s c 0 = 1 then (if getE (gOpn s) i 0 = 1 then gOp s c 2 else getE (gOpn s) i 5) else gOp s c 4))) h (by omega) rfl
  rw [rmv_none q11] at hI
  have er : (gOpn s).eraseIdx i = rmv 1 (nI c) (gOpn s) := by
    rw [er_rmv (f := 1) _ i h.2.2.2.2.1.2.1 hi, q2]
  have hF := Inv_fill (w := (if getE (gOpn s) i 0 = 1 then gOp s c 2 else getE (gOpn s) i 5)) (t := getE (gOpn s) i 4) hI hb q1 q3 q8 hcf ⟨fun e he z => ?_, fun d hd hne => (k1 d hd).1, fun d hd e he => (k1 d hd).2 e he, fun a ha z => ?_, fun a ha z z1 => ?_⟩
  · rw [fill_wOp] at hF
    rw [er]
    exact Inv_k hF (fun j _ _ _ h9 h10 => (sc_n h10).trans (sc_n h9)) rfl rfl (fun d => ⟨rfl, rfl⟩) rfl rfl rfl
  · unfold hw at k2
    rw [← z, how_mem _ (pw0 h (by omega)) he] at k2
    rcases ((h.2.1 c (by omega)).1.1 e he).2.1 with y | y | y <;> rw [y] at k2 <;> exact absurd k2 (by decide)
  · obtain ⟨m1, m2⟩ := mem_rmv.mp ha
    have := pw_inj _ h.2.2.2.2.1.2.2.1 m1 hm (by rw [z, q4])
    rw [this] at m2
    exact absurd q2 m2
  · obtain ⟨c', l', p, y1, y2, y3, y4, y5, y6, y7⟩ := h.2.2.2.1.1 a ha
    rw [z1, nI_eq (by omega) (by omega)] at y2
    subst y2
    rcases y7 with ⟨x0, _⟩ | ⟨x0, x1, _⟩
    · exact absurd x0 z
    · exact absurd x1 (q11 a ha)
theorem Inv_answ {b : Nat} {s : Sx} (h : Inv b s) (hb : b + 1 < 2 ^ 30) : Inv (b + 2) (aAnsw s).2 := by
  unfold aAnsw
  cases q : fst1 (fun i => decide (rdy s (getE (gOpn s) i))) (gOpn s).length with
  | none => exact Inv_mono h (by omega)
  | some i =>
    obtain ⟨q1, q2, -⟩ := fst1_s q
    exact Inv_ans h hb q1 (of_decide_eq_true q2)
