/-! PURE: what always holds stays -/
theorem Inv_mono {b b' : Nat} {s : Sx} (h : Inv b s) (hb : b ≤ b') : Inv b' s := by
  obtain ⟨⟨h0, h1, ⟨h2, h3⟩, ⟨h4, h5, h6⟩, h7⟩, h⟩ := h
  exact ⟨⟨h0, h1, ⟨h2, by omega⟩, ⟨h4, by omega, h6⟩, fun c hc => ⟨(h7 c hc).1, by have := (h7 c hc).2; omega⟩⟩, h⟩
/-- numbers that nothing rests on -/
theorem Inv_k {b : Nat} {s s' : Sx} (h : Inv b s) (h0 : ∀ k, k ≠ 4 → k ≠ 7 → k ≠ 8 → k ≠ 9 → k ≠ 10 → gSc s' k = gSc s k) (h1 : gRow s' = gRow s) (h2 : gBuf s' = gBuf s) (h3 : ∀ c, gOp s' c 0 = gOp s c 0 ∧ gOp s' c 1 = gOp s c 1) (h4 : gAsk s' = gAsk s) (h5 : gOpn s' = gOpn s) (h6 : (gOrd s').length = (gOrd s).length) : Inv b s' := by
  have e0 := h0 0 (by decide) (by decide) (by decide) (by decide) (by decide)
  have e1 := h0 1 (by decide) (by decide) (by decide) (by decide) (by decide)
  have e5 := h0 5 (by decide) (by decide) (by decide) (by decide) (by decide)
  have e6 := h0 6 (by decide) (by decide) (by decide) (by decide) (by decide)
  have eu : ∀ c, gSc s' (20 + c) = gSc s (20 + c) := fun c => h0 _ (by omega) (by omega) (by omega) (by omega) (by omega)
  have f0 : ∀ c, gOp s' c 0 = gOp s c 0 := fun c => (h3 c).1
  have f1 : ∀ c, gOp s' c 1 = gOp s c 1 := fun c => (h3 c).2
  unfold Inv iNum iRow iBuf iAsk iOpn iOp iC1 iC2 iC3 iC4 iC5 askOk opnOk hw at h ⊢
  simp only [cN, kN, pN, tN, uN, e0, e1, e5, e6, eu, h1, h2, h4, h5, h6, f0, f1] at h ⊢
  exact h
/-- lines go out of caches -/
theorem Inv_sub {b : Nat} {s : Sx} {f : Nat → List E} (h : Inv b s) (hs : ∀ c, c < 4 → (f c).Sublist (gRow s c)) : Inv b (wRows s f) := by
  obtain ⟨h0, h1, h2, h3, h4, h5, c1, c2, c3, c4, c5⟩ := h
  have hh : ∀ c l, c < 4 → hw (wRows s f) c l = 0 ∨ hw (wRows s f) c l = hw s c l := fun c l hc => how_sub (hs c hc) (h1 c hc).1.2.1
  refine ⟨h0, fun c hc => ?_, h2, h3, h4, h5, ?_, ?_, c3, ?_, ?_⟩
  · obtain ⟨⟨r1, r2, r3, r4⟩, r5⟩ := h1 c hc
    refine ⟨⟨fun e he => r1 e ((hs c hc).mem he), r2.sublist (hs c hc), r3.sublist (hs c hc), Nat.le_trans (hs c hc).length_le r4⟩, fun q => ?_⟩
    have := hs c hc
    rw [r5 q] at this
    exact List.sublist_nil.mp this
  · intro c d l hc hd hcd q0 q1
    rcases hh c l hc with q | q
    · exact absurd q q0
    · rw [q] at q0 q1
      have := c1 c d l hc hd hcd q0 q1
      rcases hh d l hd with z | z
      · exact z
      · rw [z]; exact this
  · intro c d hc hd e he
    rcases hh d (e 0) hd with z | z
    · exact z
    · rw [z]; exact c2 c d hc hd e he
  · intro a ha
    obtain ⟨g1, g2⟩ := c4 a ha
    obtain ⟨c, l, t, hc, hc1, _⟩ := h4.1 a ha
    have hC4 := h0.1.2.2
    refine ⟨fun d hd => ⟨?_, (g1 d hd).2⟩, ?_⟩
    · rcases hh d (a 2) hd with z | z
      · exact Or.inl z
      · rw [z]; exact (g1 d hd).1
    · rw [hc1, pn_ix (by omega)] at g2 ⊢
      rcases hh c (a 2) (by omega) with z | z
      · exact z
      · rw [z]; exact g2
  · intro a ha q
    obtain ⟨g1, g2⟩ := c5 a ha q
    obtain ⟨c, l, t, hc, hc1, _⟩ := h3.1 a ha
    have hC4 := h0.1.2.2
    refine ⟨g1, ?_⟩
    rw [hc1, pn_ix (by omega)] at g2 ⊢
    rcases hh c (a 2) (by omega) with z | z
    · exact Or.inl z
    · rw [z]; exact g2
theorem Inv_row {b : Nat} {s : Sx} {c : Nat} {L : List E} (h : Inv b s) (hs : L.Sublist (gRow s c)) : Inv b (wRow s c L) := by
  refine Inv_sub (f := va_up (gRow s) c L) h (fun d hd => ?_)
  by_cases q : d = c
  · subst q; rw [up_s]; exact hs
  · rw [up_n _ _ q]; exact List.Sublist.refl _
theorem Inv_noOther {b : Nat} {s : Sx} {c : Nat} {l : Int32} (h : Inv b s) : Inv b (aNoOther s c l) := by
  refine Inv_sub h (fun d hd => ?_)
  split
  · rw [del_rmv (h.2.1 d hd).1.2.1]
    exact rmv_sub _ _ _
  · exact List.Sublist.refl _
/-- a line comes into a cache -/
theorem Inv_push {b : Nat} {s : Sx} {c l : Nat} {w t : Int32} (h : Inv b s) (hb : b < 2 ^ 30) (hc : c < cN s) (hl : l < 8) (ht : t = 1 ∨ t = 2 ∨ t = 3) (hK : (gRow s c).length < kN s) (hr : ∀ e ∈ gRow s c, e 0 ≠ nI l) (ho : ∀ d, d < 4 → d ≠ c → hw s d (nI l) = 0 ∨ (hw s d (nI l) = 1 ∧ t = 1)) (hbf : ∀ d, d < 4 → ∀ e ∈ gBuf s d, e 0 ≠ nI l) (hop : ∀ a ∈ gOpn s, a 2 = nI l → t = 1 ∧ a 4 = 1 ∧ a 1 ≠ nI c) (ha : ∀ a ∈ gAsk s, a 0 ≠ 3 → a 1 = nI c → a 2 ≠ nI l) : Inv (b + 1) (aPush s c (nI l) w t) := by
  obtain ⟨⟨n0, n1, n2, n3, n4⟩, h1, h2, h3, h4, h5, c1, c2, c3, c4, c5⟩ := h
  have hC4 := n0.2.2
  have hc4 : c < 4 := by omega
  obtain ⟨hu, hub⟩ := n4 c hc4
  have hus : gSc (aPush s c (nI l) w t) (20 + c) = nI (uN s c + 1) := by
    show va_up (gSc s) (20 + c) (gSc s (20 + c) + 1) (20 + c) = _
    rw [up_s, hu, nI_1]
  have hsc : ∀ k, k ≠ 20 + c → gSc (aPush s c (nI l) w t) k = gSc s k := fun k hk => up_n _ _ hk
  have eC : cN (aPush s c (nI l) w t) = cN s := by unfold cN; rw [hsc 0 (by omega)]
  have eK : kN (aPush s c (nI l) w t) = kN s := by unfold kN; rw [hsc 1 (by omega)]
  have eP : pN (aPush s c (nI l) w t) = pN s := by unfold pN; rw [hsc 5 (by omega)]
  have eT : tN (aPush s c (nI l) w t) = tN s := by unfold tN; rw [hsc 6 (by omega)]
  have eU : uN (aPush s c (nI l) w t) c = uN s c + 1 := by unfold uN; rw [hus, pn_ix (by omega)]
  have eUn : ∀ d, d ≠ c → uN (aPush s c (nI l) w t) d = uN s d := fun d hd => by unfold uN; rw [hsc _ (by omega)]
  have rc : gRow (aPush s c (nI l) w t) c = gRow s c ++ [mk [nI l, w, t, gSc s (20 + c) + 1]] := up_s _ _ _
  have rn : ∀ d, d ≠ c → gRow (aPush s c (nI l) w t) d = gRow s d := fun d hd => up_n _ _ hd
  have hwc : ∀ v, hw (aPush s c (nI l) w t) c v = if v = nI l then t else hw s c v := fun v => by
    unfold hw
    rw [rc, how_push _ (fun e he => hr e he)]
    rfl
  have hwn : ∀ d v, d ≠ c → hw (aPush s c (nI l) w t) d v = hw s d v := fun d v hd => by unfold hw; rw [rn d hd]
  have ht0 : t ≠ 0 := by rcases ht with rfl | rfl | rfl <;> decide
  refine ⟨⟨?_, ?_, ?_, ?_, fun d hd => ?_⟩, fun d hd => ?_, fun d hd => ?_, ⟨fun a ha => ?_, h3.2⟩, ⟨fun a ha => ?_, h4.2⟩, fun d hd => ?_, ?_, ?_, c3, ?_, ?_⟩
  · rw [eC, hsc 0 (by omega)]; exact n0
  · rw [eK, hsc 1 (by omega)]; exact n1
  · rw [eP, hsc 5 (by omega)]; exact ⟨n2.1, by omega⟩
  · rw [eT, hsc 6 (by omega)]; exact ⟨n3.1, by omega, n3.2.2⟩
  · by_cases q : d = c
    · subst q
      rw [eU, hus]
      exact ⟨rfl, by omega⟩
    · rw [eUn d q, hsc _ (by omega)]
      exact ⟨(n4 d hd).1, by have := (n4 d hd).2; omega⟩
  · rw [eK, eC]
    by_cases q : d = c
    · subst q
      obtain ⟨⟨r1, r2, r3, r4⟩, r5⟩ := h1 d hd
      rw [eU, rc]
      refine ⟨⟨fun e he => ?_, pw_push r2 (fun e he => hr e he), pw_push r3 (fun e he => ?_), ?_⟩, fun z => by omega⟩
      · rcases mem_push.mp he with he | rfl
        · obtain ⟨q1, q2, v, q3, q4⟩ := r1 e he
          exact ⟨q1, q2, v, by omega, q4⟩
        · refine ⟨⟨l, hl, rfl⟩, ht, uN s d + 1, Nat.le_refl _, ?_⟩
          show gSc s (20 + d) + 1 = _
          rw [hu, nI_1]
      · obtain ⟨q1, q2, v, q3, q4⟩ := r1 e he
        show (e 3).toInt < (gSc s (20 + d) + 1).toInt
        rw [q4, hu, nI_1, nI_toInt (by omega), nI_toInt (by omega)]
        omega
      · rw [List.length_append]
        show (gRow s d).length + 1 ≤ _
        omega
    · rw [eUn d q, rn d q]
      exact h1 d hd
  · rw [eC]; exact h2 d hd
  · rw [eC, eP]; exact h3.1 a ha
  · rw [eC, eT]; exact h4.1 a ha
  · rw [eC]; exact h5 d hd
  · intro d d' v hd hd' hne q0 q1
    by_cases e1 : d = c
    · subst e1
      rw [hwc] at q0 q1
      rw [hwn d' v (Ne.symm hne)]
      by_cases ev : v = nI l
      · rw [if_pos ev] at q0 q1
        rcases ho d' hd' (Ne.symm hne) with z | z
        · rw [ev]; exact z
        · exact absurd z.2 q1
      · rw [if_neg ev] at q0 q1
        exact c1 d d' v hd hd' hne q0 q1
    · rw [hwn d v e1] at q0 q1
      by_cases e2 : d' = c
      · subst e2
        rw [hwc]
        by_cases ev : v = nI l
        · rw [ev] at q0 q1
          rcases ho d hd hne with z | z
          · exact absurd z q0
          · exact absurd z.1 q1
        · rw [if_neg ev]
          exact c1 d d' v hd hd' hne q0 q1
      · rw [hwn d' v e2]
        exact c1 d d' v hd hd' hne q0 q1
  · intro d d' hd hd' e he
    have hbe := hbf d hd e he
    by_cases e2 : d' = c
    · subst e2
      rw [hwc, if_neg hbe]
      exact c2 d d' hd hd' e he
    · rw [hwn d' _ e2]
      exact c2 d d' hd hd' e he
  · intro a ha'
    obtain ⟨g1, g2⟩ := c4 a ha'
    obtain ⟨c', l', t', hc', hc1, _⟩ := h4.1 a ha'
    refine ⟨fun d hd => ⟨?_, (g1 d hd).2⟩, ?_⟩
    · by_cases e1 : d = c
      · subst e1
        rw [hwc]
        by_cases ev : a 2 = nI l
        · rw [if_pos ev]
          have := hop a ha' ev
          exact Or.inr ⟨this.1, this.2.1⟩
        · rw [if_neg ev]; exact (g1 d hd).1
      · rw [hwn d _ e1]; exact (g1 d hd).1
    · rw [hc1, pn_ix (by omega)] at g2 ⊢
      by_cases e1 : c' = c
      · subst e1
        rw [hwc]
        by_cases ev : a 2 = nI l
        · exact absurd hc1 (hop a ha' ev).2.2
        · rw [if_neg ev]; exact g2
      · rw [hwn c' _ e1]; exact g2
  · intro a ha' q
    obtain ⟨g1, g2⟩ := c5 a ha' q
    obtain ⟨c', l', t', hc', hc1, _⟩ := h3.1 a ha'
    refine ⟨g1, ?_⟩
    rw [hc1, pn_ix (by omega)] at g2 ⊢
    by_cases e1 : c' = c
    · subst e1
      rw [hwc, if_neg (ha a ha' q hc1)]
      exact g2
    · rw [hwn c' _ e1]; exact g2
