/-! PURE: what always holds stays: the calls of a core -/
theorem pw0 {b : Nat} {s : Sx} {c : Nat} (h : Inv b s) (hc : c < 4) : (gRow s c).Pairwise (fun a b => a 0 ≠ b 0) := (h.2.1 c hc).1.2.1
theorem aOut_eq {b : Nat} {s : Sx} {c k : Nat} {v : Int32} (h : Inv b s) (hc : c < 4) (hx : ixf (gBuf s c) 0 v = some k) : ∃ i, i < 2 ∧ getE (gBuf s c) k 2 = nI i ∧ getE (gBuf s c) k ∈ gBuf s c ∧ getE (gBuf s c) k 0 = v ∧ (gBuf s c).eraseIdx k = rmv 0 v (gBuf s c) ∧ (gAsk s).filter (nbP (nI c) v) = rmv 5 (nI (3 * c + 1 + i)) (gAsk s) ∧ aOut s c k v = wAsk (wBuf s c (rmv 0 v (gBuf s c))) (rmv 5 (nI (3 * c + 1 + i)) (gAsk s)) := by
  obtain ⟨e, h1, h2, h3⟩ := ixf_some hx
  have hm := List.mem_of_getElem? h1
  obtain ⟨⟨b1, b2, b3, b4, b5⟩, b6⟩ := h.2.2.1 c hc
  obtain ⟨_, i, hi, he2, _⟩ := b1 e hm
  have hC4 := h.1.1.2.2
  have e1 : (gBuf s c).eraseIdx k = rmv 0 v (gBuf s c) := by rw [er_rmv (f := 0) _ k b2 h3, getE_s h1, h2]
  have e2 : (gAsk s).filter (nbP (nI c) v) = rmv 5 (nI (3 * c + 1 + i)) (gAsk s) := by
    refine nb_rmv (fun a ha z0 z1 z2 => ?_) (fun a ha z5 => ?_)
    · obtain ⟨c', l', p, q1, q2, q3, q4, q5, q6, q7⟩ := h.2.2.2.1.1 a ha
      rcases q7 with ⟨_, e', he', j, hj, y2, y3, y4, y5⟩ | ⟨y0, _⟩
      · rw [z1, nI_eq (by omega) (by omega)] at q2
        subst q2
        have : e' = e := pw_inj _ b2 he' hm (by rw [y3, h2, z2])
        rw [this, he2, nI_eq (by omega) (by omega)] at y2
        rw [y5, y2]
      · rcases y0 with y | y | y <;> rw [y] at z0 <;> exact absurd z0 (by decide)
    · obtain ⟨c', l', p, q1, q2, q3, q4, q5, q6, q7⟩ := h.2.2.2.1.1 a ha
      rcases q7 with ⟨y0, e', he', j, hj, y2, y3, y4, y5⟩ | ⟨y0, y1, _⟩
      · rw [z5, nI_eq (by omega) (by omega)] at y5
        have ec : c' = c := by omega
        have ej : j = i := by omega
        subst ec
        subst ej
        have : e' = e := pw_inj _ b3 he' hm (by rw [y2, he2])
        exact ⟨y0, q2, by rw [← y3, this, h2]⟩
      · rw [z5, nI_eq (by omega) (by omega)] at y1
        omega
  rw [getE_s h1]
  refine ⟨i, hi, he2, hm, h2, e1, e2, ?_⟩
  unfold aOut
  rw [e1, e2]
theorem Inv_give {b : Nat} {s : Sx} {c k : Nat} (h : Inv b s) (hb : b < 2 ^ 30) (hc : c < cN s) (hk : k < (gRow s c).length) (hf : getE (gRow s c) k 2 = 3 → (gBuf s c).length < 2) : Inv (b + 1) (aGiveK s c k) := by
  have hC4 := h.1.1.2.2
  have hc4 : c < 4 := by omega
  have hp := pw0 h hc4
  have hI1 : Inv b (wRow s c ((gRow s c).eraseIdx k)) := Inv_row h (List.eraseIdx_sublist _ _)
  have hm := List.mem_of_getElem? (getE_t hk)
  unfold aGiveK
  by_cases q : getE (gRow s c) k 2 = 3
  · rw [if_pos q]
    obtain ⟨⟨l, hl, e0⟩, _, _⟩ := (h.2.1 c hc4).1.1 _ hm
    have hw3 : hw s c (nI l) = 3 := by
      unfold hw
      rw [← e0, how_mem _ hp hm, q]
    rw [e0]
    have hw0 : hw s c (nI l) ≠ 0 ∧ hw s c (nI l) ≠ 1 := by rw [hw3]; decide
    refine Inv_back (s := wRow s c ((gRow s c).eraseIdx k)) hI1 hb hc hl (hf q) (fun d hd => ?_) (fun d hd e he z => ?_) (fun a ha z => ?_) (fun a ha z z1 z2 => ?_)
    · by_cases e1 : d = c
      · subst e1
        show howR (va_up (gRow s) d ((gRow s d).eraseIdx k) d) (nI l) = 0
        rw [up_s, er_rmv (f := 0) _ k hp hk, e0, how_rmv, if_pos rfl]
      · show howR (va_up (gRow s) c ((gRow s c).eraseIdx k) d) (nI l) = 0
        rw [up_n _ _ e1]
        exact h.2.2.2.2.2.2.1 c d (nI l) hc4 hd (Ne.symm e1) hw0.1 hw0.2
    · have := h.2.2.2.2.2.2.2.1 d c hd hc4 e he
      rw [z] at this
      exact hw0.1 this
    · have := (h.2.2.2.2.2.2.2.2.2.1 a ha).1 c hc4
      rw [z] at this
      rcases this.1 with y | y
      · exact hw0.1 y
      · exact hw0.2 y.1
    · have := (h.2.2.2.2.2.2.2.2.2.2 a ha z).2
      rw [z1, z2, pn_ix (by omega)] at this
      rcases this with y | y
      · exact hw0.1 y
      · exact hw0.2 y.2
  · rw [if_neg q]
    exact Inv_mono hI1 (by omega)
/-- the conditions under which a line may come in -/
def mayIn (s : Sx) (c : Nat) (l t : Int32) : Prop := (∀ e ∈ gRow s c, e 0 ≠ l) ∧ (∀ d, d < 4 → d ≠ c → hw s d l = 0 ∨ (hw s d l = 1 ∧ t = 1)) ∧ (∀ d, d < 4 → ∀ e ∈ gBuf s d, e 0 ≠ l) ∧ (∀ a ∈ gOpn s, a 2 = l → t = 1 ∧ a 4 = 1 ∧ a 1 ≠ nI c) ∧ (∀ a ∈ gAsk s, a 0 ≠ 3 → a 1 = nI c → a 2 ≠ l)
theorem give_may {b : Nat} {s : Sx} {c k : Nat} {l t : Int32} (h : Inv b s) (hc : c < 4) (hk : k < (gRow s c).length) (hm : mayIn s c l t) : mayIn (aGiveK s c k) c l t := by
  obtain ⟨m1, m2, m3, m4, m5⟩ := hm
  have hmem := List.mem_of_getElem? (getE_t hk)
  unfold aGiveK
  by_cases q : getE (gRow s c) k 2 = 3
  · rw [if_pos q]
    refine ⟨fun e he => ?_, fun d hd hne => ?_, fun d hd e he => ?_, m4, fun a ha z z1 => ?_⟩
    · have he : e ∈ va_up (gRow s) c ((gRow s c).eraseIdx k) c := he
      rw [up_s] at he
      exact m1 e ((List.eraseIdx_sublist _ _).mem he)
    · show howR (va_up (gRow s) c ((gRow s c).eraseIdx k) d) l = 0 ∨ (howR (va_up (gRow s) c ((gRow s c).eraseIdx k) d) l = 1 ∧ t = 1)
      rw [up_n _ _ hne]
      exact m2 d hd hne
    · have he : e ∈ va_up (gBuf s) c (gBuf s c ++ [mk [getE (gRow s c) k 0, getE (gRow s c) k 1, nI (slotF (gBuf s c)), gSc s 5]]) d := he
      by_cases e1 : d = c
      · subst e1
        rw [up_s] at he
        rcases mem_push.mp he with he | rfl
        · exact m3 d hd e he
        · exact m1 (getE (gRow s d) k) hmem
      · rw [up_n _ _ e1] at he
        exact m3 d hd e he
    · rcases mem_push.mp ha with ha | rfl
      · exact m5 a ha z z1
      · exact absurd rfl z
  · rw [if_neg q]
    refine ⟨fun e he => ?_, fun d hd hne => ?_, m3, m4, m5⟩
    · have he : e ∈ va_up (gRow s) c ((gRow s c).eraseIdx k) c := he
      rw [up_s] at he
      exact m1 e ((List.eraseIdx_sublist _ _).mem he)
    · show howR (va_up (gRow s) c ((gRow s c).eraseIdx k) d) l = 0 ∨ (howR (va_up (gRow s) c ((gRow s c).eraseIdx k) d) l = 1 ∧ t = 1)
      rw [up_n _ _ hne]
      exact m2 d hd hne
theorem give_sc {s : Sx} {c k j : Nat} (hj : j ≠ 5) : gSc (aGiveK s c k) j = gSc s j := by
  show gSc (if getE (gRow s c) k 2 = 3 then aBack s c (getE (gRow s c) k 0) (getE (gRow s c) k 1) else s) j = _
  split
  · exact up_n _ _ hj
  · rfl
theorem give_row {s : Sx} {c k : Nat} : gRow (aGiveK s c k) c = (gRow s c).eraseIdx k := up_s _ _ _
theorem Inv_fill {b : Nat} {s : Sx} {c l : Nat} {w t : Int32} (h : Inv b s) (hb : b + 1 < 2 ^ 30) (hc : c < cN s) (hl : l < 8) (ht : t = 1 ∨ t = 2 ∨ t = 3) (hcf : cFill s c) (hm : mayIn s c (nI l) t) : Inv (b + 2) (aFill s c (nI l) w t) := by
  have hC4 := h.1.1.2.2
  have hc4 : c < 4 := by omega
  have hK := h.1.2.1
  have hlen := (h.2.1 c hc4).1.2.2.2
  unfold aFill
  by_cases q : nI (gRow s c).length = gSc s 1
  · rw [if_pos q]
    have ql : (gRow s c).length = kN s := by
      rw [hK.1, nI_eq (by omega) (by omega)] at q
      exact q
    have hI := Inv_give h (by omega) hc (k := 0) (by omega) (fun z => by
      rcases hcf with y | y | y
      · rw [hK.1, nI_ltI (by omega) (by omega)] at y
        omega
      · exact absurd z y
      · exact y)
    obtain ⟨m1, m2, m3, m4, m5⟩ := give_may h hc4 (k := 0) (by omega) hm
    refine Inv_push hI (by omega) ?_ hl ht ?_ m1 m2 m3 m4 m5
    · show c < sw_ix (gSc (aGiveK s c 0) 0)
      rw [give_sc (by decide)]
      exact hc
    · show _ < sw_ix (gSc (aGiveK s c 0) 1)
      rw [give_sc (by decide), give_row, List.length_eraseIdx_of_lt (by omega)]
      show _ < kN s
      omega
  · rw [if_neg q]
    obtain ⟨m1, m2, m3, m4, m5⟩ := hm
    refine Inv_mono (Inv_push h (by omega) hc hl ht ?_ m1 m2 m3 m4 m5) (by omega)
    have : (gRow s c).length ≠ kN s := fun z => q (by rw [z, hK.1])
    omega
/-- a core that does nothing has nothing that waits or is open -/
theorem idle_no {b : Nat} {s : Sx} {c : Nat} (h : Inv b s) (hc : c < 4) (h0 : gOp s c 0 = 0) : (∀ a ∈ gAsk s, a 0 ≠ 3 → a 1 ≠ nI c) ∧ (∀ a ∈ gOpn s, a 1 ≠ nI c) := by
  have hC4 := h.1.1.2.2
  refine ⟨fun a ha z z1 => ?_, fun a ha z1 => ?_⟩
  · obtain ⟨c', l', p, q1, q2, q3, q4, q5, q6, q7⟩ := h.2.2.2.1.1 a ha
    rw [z1, nI_eq (by omega) (by omega)] at q2
    subst q2
    rcases q7 with ⟨y0, _⟩ | ⟨y0, y1, y2, y3⟩
    · exact z y0
    · rw [h0] at y2
      split at y2 <;> exact absurd y2 (by decide)
  · obtain ⟨c', l', t', q1, q2, q3, q4, q5, q6, q7, q8, q9, q10, q11⟩ := h.2.2.2.2.1.1 a ha
    rw [z1, nI_eq (by omega) (by omega)] at q2
    subst q2
    rw [h0] at q9
    split at q9 <;> exact absurd q9 (by decide)
theorem Inv_take {b : Nat} {s : Sx} {c l : Nat} (h : Inv b s) (hb : b + 1 < 2 ^ 30) (hc : c < cN s) (hl : l < 8) (h0 : gOp s c 0 = 0) : Inv (b + 2) (aTake s c (nI l)) := by
  have hC4 := h.1.1.2.2
  have hc4 : c < 4 := by omega
  unfold aTake
  cases hx : ixf (gBuf s c) 0 (nI l) with
  | none => exact Inv_mono h (by omega)
  | some k =>
    obtain ⟨i, hi, z2, zm, z0, _, _, ze⟩ := aOut_eq h hc4 hx
    have hI := Inv_out h hc4 zm z0 hi z2
    show Inv (b + 2) (aFill (aOut s c k (nI l)) c (nI l) (getE (gBuf s c) k 1) 3)
    rw [ze]
    obtain ⟨e, g1, g2, g3⟩ := ixf_some hx
    obtain ⟨i1, i2⟩ := idle_no h hc4 h0
    obtain ⟨⟨b1, b2, b3, b4, b5⟩, b6⟩ := h.2.2.1 c hc4
    have bfc : gBuf (wAsk (wBuf s c (rmv 0 (nI l) (gBuf s c))) (rmv 5 (nI (3 * c + 1 + i)) (gAsk s))) c = rmv 0 (nI l) (gBuf s c) := up_s _ _ _
    refine Inv_fill hI (by omega) hc hl (Or.inr (Or.inr rfl)) (Or.inr (Or.inr ?_)) ⟨fun e' he' z => ?_, fun d hd hne => ?_, fun d hd e' he' z => ?_, fun a ha z => ?_, fun a ha z z1 => ?_⟩
    · rw [bfc]
      have := er_rmv (f := 0) _ k b2 g3
      rw [getE_s g1, g2] at this
      rw [← this, List.length_eraseIdx_of_lt g3]
      omega
    · have := h.2.2.2.2.2.2.2.1 c c hc4 hc4 _ zm
      rw [z0] at this
      unfold hw at this
      rw [← z, how_mem _ (pw0 h hc4) he'] at this
      rcases ((h.2.1 c hc4).1.1 e' he').2.1 with y | y | y <;> rw [y] at this <;> exact absurd this (by decide)
    · have := h.2.2.2.2.2.2.2.1 c d hc4 hd _ zm
      rw [z0] at this
      exact Or.inl this
    · by_cases e1 : d = c
      · subst e1
        rw [bfc] at he'
        exact (mem_rmv.mp he').2 z
      · have he' : e' ∈ va_up (gBuf s) c (rmv 0 (nI l) (gBuf s c)) d := he'
        rw [up_n _ _ e1] at he'
        exact h.2.2.2.2.2.2.2.2.1 d c hd hc4 e1 e' he' _ zm (by rw [z, z0])
    · have := ((h.2.2.2.2.2.2.2.2.2.1 a ha).1 c hc4).2 _ zm
      exact absurd (by rw [z0, z]) this
    · exact absurd z1 (i1 a (mem_rmv.mp ha).1 z)
theorem Inv_use {b : Nat} {s : Sx} {c l : Nat} {w t : Int32} (h : Inv b s) (hb : b < 2 ^ 30) (hc : c < cN s) (hl : l < 8) (ht : t = 1 ∨ t = 2 ∨ t = 3) (hin : hw s c (nI l) ≠ 0) (m2 : ∀ d, d < 4 → d ≠ c → hw s d (nI l) = 0 ∨ (hw s d (nI l) = 1 ∧ t = 1)) (m4 : ∀ a ∈ gOpn s, a 2 = nI l → t = 1 ∧ a 4 = 1 ∧ a 1 ≠ nI c) (m5 : ∀ a ∈ gAsk s, a 0 ≠ 3 → a 1 = nI c → a 2 ≠ nI l) : Inv (b + 1) (aUse s c (nI l) w t) := by
  have hC4 := h.1.1.2.2
  have hc4 : c < 4 := by omega
  have hp := pw0 h hc4
  have hd := del_rmv (v := nI l) hp
  have hI : Inv b (wRow s c (del (gRow s c) (nI l))) := Inv_row h (by rw [hd]; exact rmv_sub _ _ _)
  have rc : gRow (wRow s c (del (gRow s c) (nI l))) c = rmv 0 (nI l) (gRow s c) := by
    show va_up (gRow s) c (del (gRow s c) (nI l)) c = _
    rw [up_s, hd]
  unfold aUse
  refine Inv_push hI hb hc hl ht ?_ (fun e he => ?_) (fun d hd' hne => ?_) (fun d hd' e he z => ?_) m4 m5
  · rw [rc]
    show _ < kN s
    obtain ⟨e, he, e0⟩ := how_in hin
    have hlen := (h.2.1 c hc4).1.2.2.2
    have : (rmv 0 (nI l) (gRow s c)).length < (gRow s c).length := by
      refine List.length_filter_lt_length_iff_exists.mpr ⟨e, he, by simp [e0]⟩
    omega
  · rw [rc] at he
    exact (mem_rmv.mp he).2
  · show howR (va_up (gRow s) c (del (gRow s c) (nI l)) d) (nI l) = 0 ∨ (howR (va_up (gRow s) c (del (gRow s c) (nI l)) d) (nI l) = 1 ∧ t = 1)
    rw [up_n _ _ hne]
    exact m2 d hd' hne
  · have := h.2.2.2.2.2.2.2.1 d c hd' hc4 e he
    rw [z] at this
    exact hin this
