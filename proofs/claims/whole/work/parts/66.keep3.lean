/-! PURE: what always holds stays: ops -/
/-- a core begins, and asks -/
theorem Inv_ask {b : Nat} {s : Sx} {c l : Nat} {k : Int32} {o : E} (h : Inv b s) (hb : b < 2 ^ 30) (hc : c < cN s) (hl : l < 8) (h0 : gOp s c 0 = 0) (hk : k = 0 ∨ k = 1 ∨ k = 2) (ho : o 0 = (if k = 0 then 1 else 2)) (ho1 : o 1 = nI l) (hbf : ∀ e ∈ gBuf s c, e 0 ≠ nI l) (hr : hw s c (nI l) = 0 ∨ (k = 2 ∧ hw s c (nI l) = 1)) : Inv (b + 1) (aAsk (wOp s c o) k c (nI l)) := by
  obtain ⟨⟨n0, n1, n2, n3, n4⟩, h1, h2, h3, h4, h5, c1, c2, c3, c4, c5⟩ := h
  have hC4 := n0.2.2
  have hc4 : c < 4 := by omega
  have hP := n2.2
  have hk3 : k ≠ 3 := by rcases hk with rfl | rfl | rfl <;> decide
  have hsc : ∀ j, j ≠ 5 → gSc (aAsk (wOp s c o) k c (nI l)) j = gSc s j := fun j hj => up_n _ _ hj
  have hs5 : gSc (aAsk (wOp s c o) k c (nI l)) 5 = nI (pN s + 1) := by
    show va_up (gSc s) 5 (gSc s 5 + 1) 5 = _
    rw [up_s, n2.1, nI_1]
  have eC : cN (aAsk (wOp s c o) k c (nI l)) = cN s := by unfold cN; rw [hsc 0 (by omega)]
  have eK : kN (aAsk (wOp s c o) k c (nI l)) = kN s := by unfold kN; rw [hsc 1 (by omega)]
  have eP : pN (aAsk (wOp s c o) k c (nI l)) = pN s + 1 := by unfold pN; rw [hs5, pn_ix (by omega)]
  have eT : tN (aAsk (wOp s c o) k c (nI l)) = tN s := by unfold tN; rw [hsc 6 (by omega)]
  have eU : ∀ d, uN (aAsk (wOp s c o) k c (nI l)) d = uN s d := fun d => by unfold uN; rw [hsc _ (by omega)]
  have oc : gOp (aAsk (wOp s c o) k c (nI l)) c = o := up_s _ _ _
  have on : ∀ d, d ≠ c → gOp (aAsk (wOp s c o) k c (nI l)) d = gOp s d := fun d hd => up_n _ _ hd
  have ga : gAsk (aAsk (wOp s c o) k c (nI l)) = gAsk s ++ [mk [k, nI c, nI l, gSc s 5, 0, nI (3 * c)]] := rfl
  have hno : ∀ a ∈ gAsk s, a 5 ≠ nI (3 * c) := fun a ha z => by
    obtain ⟨c', l', p, q1, q2, q3, q4, q5, q6, q7⟩ := h3.1 a ha
    rcases q7 with ⟨z0, e, he, i, hi, z2, z3, z4, z5⟩ | ⟨z0, z1, z2, z3⟩
    · rw [z5, nI_eq (by omega) (by omega)] at z
      omega
    · rw [z1, nI_eq (by omega) (by omega)] at z
      have : c' = c := by omega
      subst this
      rw [h0] at z2
      split at z2 <;> exact absurd z2 (by decide)
  have hpl : ∀ a ∈ gAsk s, (a 3).toInt < (gSc s 5).toInt := fun a ha => by
    obtain ⟨c', l', p, q1, q2, q3, q4, q5, q6, q7⟩ := h3.1 a ha
    rw [q5, n2.1, nI_toInt (by omega), nI_toInt (by omega)]
    omega
  refine ⟨⟨?_, ?_, ?_, ?_, fun d hd => ?_⟩, fun d hd => ?_, fun d hd => ?_, ⟨fun a ha' => ?_, ?_, ?_⟩, ⟨fun a ha' => ?_, h4.2⟩, fun d hd => ?_, c1, c2, c3, c4, ?_⟩
  · rw [eC, hsc 0 (by omega)]; exact n0
  · rw [eK, hsc 1 (by omega)]; exact n1
  · rw [eP, hs5]; exact ⟨rfl, by omega⟩
  · rw [eT, hsc 6 (by omega)]; exact ⟨n3.1, by omega, n3.2.2⟩
  · rw [eU, hsc _ (by omega)]; exact ⟨(n4 d hd).1, by have := (n4 d hd).2; omega⟩
  · rw [eK, eC, eU]; exact h1 d hd
  · rw [eC, ga]
    obtain ⟨⟨k1, k2, k3, k4, k5⟩, k6⟩ := h2 d hd
    refine ⟨⟨fun e he => ?_, k2, k3, k4, k5⟩, k6⟩
    obtain ⟨q1, i, hi, q2, a, haa, q3⟩ := k1 e he
    exact ⟨q1, i, hi, q2, a, mem_push.mpr (Or.inl haa), q3⟩
  · rw [eC, eP]
    rcases mem_push.mp ha' with ha' | rfl
    · refine askOk_mono (h3.1 a ha') (fun c' _ _ e he _ _ => he) (by omega) (fun c' hc' z5 _ => ?_)
      have : c' ≠ c := fun z => hno a ha' (by rw [z5, z])
      rw [on c' this]
      exact ⟨rfl, rfl⟩
    · refine ⟨c, l, pN s, hc, rfl, hl, rfl, n2.1, by omega, Or.inr ⟨hk, rfl, ?_, ?_⟩⟩
      · rw [oc]; exact ho
      · rw [oc]; exact ho1
  · exact pw_push h3.2.1 hpl
  · exact pw_push h3.2.2 hno
  · rw [eC, eT]
    obtain ⟨c', l', t', q1, q2, q3, q4, q5, q6, q7, q8, q9, q10, q11⟩ := h4.1 a ha'
    have hcc : c' ≠ c := fun z => by
      rw [z, h0] at q9
      split at q9 <;> exact absurd q9 (by decide)
    refine ⟨c', l', t', q1, q2, q3, q4, q5, q6, q7, q8, by rw [on c' hcc]; exact q9, by rw [on c' hcc]; exact q10, fun q hq => ?_⟩
    rcases mem_push.mp hq with hq | rfl
    · exact q11 q hq
    · show nI (3 * c) ≠ _
      intro z
      rw [nI_eq (by omega) (by omega)] at z
      omega
  · rw [eC]
    by_cases q : d = c
    · subst q
      rw [oc]
      refine Or.inr ⟨?_, hc, Or.inl ⟨_, mem_push.mpr (Or.inr rfl), rfl⟩⟩
      rw [ho]
      split
      · exact Or.inl rfl
      · exact Or.inr rfl
    · rw [on d q]
      rcases h5 d hd with z | ⟨z1, z2, z3⟩
      · exact Or.inl z
      · refine Or.inr ⟨z1, z2, ?_⟩
        rcases z3 with ⟨a, ha', z⟩ | z
        · exact Or.inl ⟨a, mem_push.mpr (Or.inl ha'), z⟩
        · exact Or.inr z
  · intro a ha' q
    rcases mem_push.mp ha' with ha' | rfl
    · exact c5 a ha' q
    · have e1 : sw_ix (mk [k, nI c, nI l, gSc (wOp s c o) 5, 0, nI (3 * c)] 1) = c := pn_ix (by omega)
      rw [e1]
      exact ⟨hbf, hr⟩
/-- a core's op ends -/
theorem Inv_idle {b : Nat} {s : Sx} {c : Nat} {o : E} (h : Inv b s) (hc : c < 4) (ho : o 0 = 0) : Inv b (wOp (wOpn (wAsk s (rmv 5 (nI (3 * c)) (gAsk s))) (rmv 1 (nI c) (gOpn s))) c o) := by
  obtain ⟨n, h1, h2, h3, h4, h5, c1, c2, c3, c4, c5⟩ := h
  have hC4 := n.1.2.2
  have on : ∀ d, d ≠ c → va_up (gOp s) c o d = gOp s d := fun d hd => up_n _ _ hd
  refine ⟨n, h1, fun d hd => ?_, ⟨fun a ha' => ?_, h3.2.1.sublist (rmv_sub _ _ _), h3.2.2.sublist (rmv_sub _ _ _)⟩, ⟨fun a ha' => ?_, h4.2.1.sublist (rmv_sub _ _ _), h4.2.2.1.sublist (rmv_sub _ _ _), h4.2.2.2.sublist (rmv_sub _ _ _)⟩, fun d hd => ?_, c1, c2, c3, ?_, ?_⟩
  · obtain ⟨⟨k1, k2, k3, k4, k5⟩, k6⟩ := h2 d hd
    refine ⟨⟨fun e he => ?_, k2, k3, k4, k5⟩, k6⟩
    obtain ⟨q1, i, hi, q2, a, haa, z0, z1, z2, z3, z5⟩ := k1 e he
    refine ⟨q1, i, hi, q2, a, mem_rmv.mpr ⟨haa, fun z => ?_⟩, z0, z1, z2, z3, z5⟩
    rw [z5, nI_eq (by omega) (by omega)] at z
    omega
  · obtain ⟨m1, m2⟩ := mem_rmv.mp ha'
    refine askOk_mono (h3.1 a m1) (fun c' _ _ e he _ _ => he) (Nat.le_refl _) (fun c' hc' z5 _ => ?_)
    have : c' ≠ c := fun z => m2 (by rw [z5, z])
    show va_up (gOp s) c o c' 0 = _ ∧ va_up (gOp s) c o c' 1 = _
    rw [on c' this]
    exact ⟨rfl, rfl⟩
  · obtain ⟨m1, m2⟩ := mem_rmv.mp ha'
    obtain ⟨c', l', t', q1, q2, q3, q4, q5, q6, q7, q8, q9, q10, q11⟩ := h4.1 a m1
    have hcc : c' ≠ c := fun z => m2 (by rw [q2, z])
    refine ⟨c', l', t', q1, q2, q3, q4, q5, q6, q7, q8, ?_, ?_, fun q hq => q11 q (mem_rmv.mp hq).1⟩
    · show va_up (gOp s) c o c' 0 = _
      rw [on c' hcc]; exact q9
    · show va_up (gOp s) c o c' 1 = _
      rw [on c' hcc]; exact q10
  · by_cases q : d = c
    · subst q
      refine Or.inl ?_
      show va_up (gOp s) d o d 0 = 0
      rw [up_s]
      exact ho
    · rcases h5 d hd with z | ⟨z1, z2, z3⟩
      · refine Or.inl ?_
        show va_up (gOp s) c o d 0 = 0
        rw [on d q]; exact z
      · refine Or.inr ⟨?_, z2, ?_⟩
        · show va_up (gOp s) c o d 0 = 1 ∨ va_up (gOp s) c o d 0 = 2
          rw [on d q]; exact z1
        · rcases z3 with ⟨a, ha', z⟩ | ⟨a, ha', z⟩
          · refine Or.inl ⟨a, mem_rmv.mpr ⟨ha', fun y => ?_⟩, z⟩
            rw [z, nI_eq (by omega) (by omega)] at y
            omega
          · refine Or.inr ⟨a, mem_rmv.mpr ⟨ha', fun y => ?_⟩, z⟩
            rw [z, nI_eq (by omega) (by omega)] at y
            omega
  · intro a ha'
    exact c4 a (mem_rmv.mp ha').1
  · intro a ha' q
    exact c5 a (mem_rmv.mp ha').1 q
/-- one that waited is open now -/
theorem Inv_swap {b : Nat} {s : Sx} {c : Nat} {a x : E} (h : Inv b s) (hb : b < 2 ^ 30) (hc : c < cN s) (ha : a ∈ gAsk s) (ha5 : a 5 = nI (3 * c)) (hx1 : x 1 = nI c) (hx2 : x 2 = a 2) (hx0 : x 0 = (if a 0 = 0 then 0 else 1)) (hx4 : x 4 = 1 ∨ x 4 = 2 ∨ x 4 = 3) (hx7 : x 7 = gSc s 6) (ht : ∀ o ∈ gOpn s, (o 7).toInt < (gSc s 6).toInt) (hno : ∀ o ∈ gOpn s, o 2 ≠ a 2) (hr : ∀ d, d < 4 → (hw s d (a 2) = 0 ∨ (hw s d (a 2) = 1 ∧ x 4 = 1)) ∧ ∀ e ∈ gBuf s d, e 0 ≠ a 2) (hrc : hw s c (a 2) = 0) : Inv b (wOpn (wAsk s (rmv 5 (nI (3 * c)) (gAsk s))) (gOpn s ++ [x])) := by
  obtain ⟨n, h1, h2, h3, h4, h5, c1, c2, c3, c4, c5⟩ := h
  have hC4 := n.1.2.2
  obtain ⟨c', l, p, q1, q2, q3, q4, q5, q6, q7⟩ := h3.1 a ha
  have hop : gOp s c 0 = (if a 0 = 0 then 1 else 2) ∧ gOp s c 1 = a 2 ∧ (a 0 = 0 ∨ a 0 = 1 ∨ a 0 = 2) := by
    rcases q7 with ⟨z0, e, he, i, hi, z2, z3, z4, z5⟩ | ⟨z0, z1, z2, z3⟩
    · rw [ha5, nI_eq (by omega) (by omega)] at z5
      omega
    · rw [ha5, nI_eq (by omega) (by omega)] at z1
      have : c' = c := by omega
      subst this
      exact ⟨z2, z3, z0⟩
  refine ⟨n, h1, fun d hd => ?_, ⟨fun e he' => ?_, h3.2.1.sublist (rmv_sub _ _ _), h3.2.2.sublist (rmv_sub _ _ _)⟩, ⟨fun e he' => ?_, pw_push h4.2.1 (fun e he => ?_), pw_push h4.2.2.1 (fun e he => ?_), pw_push h4.2.2.2 (fun e he => ?_)⟩, fun d hd => ?_, c1, c2, c3, ?_, ?_⟩
  · obtain ⟨⟨k1, k2, k3, k4, k5⟩, k6⟩ := h2 d hd
    refine ⟨⟨fun e he => ?_, k2, k3, k4, k5⟩, k6⟩
    obtain ⟨q1, i, hi, q2, a, haa, z0, z1, z2, z3, z5⟩ := k1 e he
    refine ⟨q1, i, hi, q2, a, mem_rmv.mpr ⟨haa, fun z => ?_⟩, z0, z1, z2, z3, z5⟩
    rw [z5, nI_eq (by omega) (by omega)] at z
    omega
  · exact h3.1 e (mem_rmv.mp he').1
  · rcases mem_push.mp he' with he' | rfl
    · obtain ⟨c', l', t', q1, q2, q3, q4, q5, q6, q7, q8, q9, q10, q11⟩ := h4.1 e he'
      exact ⟨c', l', t', q1, q2, q3, q4, q5, q6, q7, q8, q9, q10, fun q hq => q11 q (mem_rmv.mp hq).1⟩
    · refine ⟨c, l, tN s, hc, hx1, q3, by rw [hx2]; exact q4, by rw [hx7]; exact n.2.2.2.1.1, Nat.le_refl _, ?_, hx4, ?_, by rw [hx2]; exact hop.2.1, fun q hq => (mem_rmv.mp hq).2⟩
      · rw [hx0]
        split
        · exact Or.inl rfl
        · exact Or.inr rfl
      · show gOp s c 0 = _
        rw [hop.1, hx0]
        by_cases z : a 0 = 0
        · rw [if_pos z, if_pos z]; rfl
        · rw [if_neg z, if_neg z]; rfl
  · obtain ⟨c', l', t', g1, g2, g3, g4, g5, g6, g7, g8, g9, g10, g11⟩ := h4.1 e he
    rw [g2, hx1]
    intro z
    rw [nI_eq (by omega) (by omega)] at z
    subst z
    exact g11 a ha ha5
  · rw [hx2]; exact hno e he
  · rw [hx7]; exact ht e he
  · by_cases q : d = c
    · subst q
      have : gOp s d 0 = 1 ∨ gOp s d 0 = 2 := by
        rw [hop.1]
        split
        · exact Or.inl rfl
        · exact Or.inr rfl
      exact Or.inr ⟨this, hc, Or.inr ⟨x, mem_push.mpr (Or.inr rfl), hx1⟩⟩
    · rcases h5 d hd with z | ⟨z1, z2, z3⟩
      · exact Or.inl z
      · refine Or.inr ⟨z1, z2, ?_⟩
        rcases z3 with ⟨a, ha', z⟩ | ⟨a, ha', z⟩
        · refine Or.inl ⟨a, mem_rmv.mpr ⟨ha', fun y => ?_⟩, z⟩
          rw [z, nI_eq (by omega) (by omega)] at y
          omega
        · exact Or.inr ⟨a, mem_push.mpr (Or.inl ha'), z⟩
  · intro e he'
    rcases mem_push.mp he' with he' | rfl
    · exact c4 e he'
    · rw [hx2, hx1, pn_ix (by omega)]
      exact ⟨hr, hrc⟩
  · intro e he' q
    exact c5 e (mem_rmv.mp he').1 q
/-- one is sent away -/
theorem Inv_away {b : Nat} {s : Sx} {c : Nat} {a x : E} (h : Inv b s) (hb : b < 2 ^ 30) (hc : c < 4) (ha : a ∈ gAsk s) (ha5 : a 5 = nI (3 * c)) (hx0 : x 0 = a 0) (hx1 : x 1 = a 1) (hx2 : x 2 = a 2) (hx3 : x 3 = gSc s 5) (hx5 : x 5 = a 5) : Inv (b + 1) (wAsk (wSc s 5 (gSc s 5 + 1)) (rmv 5 (nI (3 * c)) (gAsk s) ++ [x])) := by
  obtain ⟨⟨n0, n1, n2, n3, n4⟩, h1, h2, h3, h4, h5, c1, c2, c3, c4, c5⟩ := h
  have hC4 := n0.2.2
  have hP := n2.2
  obtain ⟨c', l, p, q1, q2, q3, q4, q5, q6, q7⟩ := h3.1 a ha
  have hop : a 0 ≠ 3 ∧ (a 0 = 0 ∨ a 0 = 1 ∨ a 0 = 2) ∧ gOp s c' 0 = (if a 0 = 0 then 1 else 2) ∧ gOp s c' 1 = a 2 ∧ c' = c := by
    rcases q7 with ⟨z0, e, he, i, hi, z2, z3, z4, z5⟩ | ⟨z0, z1, z2, z3⟩
    · rw [ha5, nI_eq (by omega) (by omega)] at z5
      omega
    · rw [ha5, nI_eq (by omega) (by omega)] at z1
      exact ⟨by rcases z0 with z | z | z <;> rw [z] <;> decide, z0, z2, z3, by omega⟩
  have hsc : ∀ j, j ≠ 5 → gSc (wAsk (wSc s 5 (gSc s 5 + 1)) (rmv 5 (nI (3 * c)) (gAsk s) ++ [x])) j = gSc s j := fun j hj => up_n _ _ hj
  have hs5 : gSc (wAsk (wSc s 5 (gSc s 5 + 1)) (rmv 5 (nI (3 * c)) (gAsk s) ++ [x])) 5 = nI (pN s + 1) := by
    show va_up (gSc s) 5 (gSc s 5 + 1) 5 = _
    rw [up_s, n2.1, nI_1]
  have eP : pN (wAsk (wSc s 5 (gSc s 5 + 1)) (rmv 5 (nI (3 * c)) (gAsk s) ++ [x])) = pN s + 1 := by unfold pN; rw [hs5, pn_ix (by omega)]
  have eU : ∀ d, uN (wAsk (wSc s 5 (gSc s 5 + 1)) (rmv 5 (nI (3 * c)) (gAsk s) ++ [x])) d = uN s d := fun d => by unfold uN; rw [hsc _ (by omega)]
  refine ⟨⟨n0, n1, ?_, ⟨n3.1, by have := n3.2.1; show tN s ≤ b + 1; omega, n3.2.2⟩, fun d hd => ?_⟩, fun d hd => ?_, fun d hd => ?_, ⟨fun e he' => ?_, pw_push (h3.2.1.sublist (rmv_sub _ _ _)) (fun e he => ?_), pw_push (h3.2.2.sublist (rmv_sub _ _ _)) (fun e he => ?_)⟩, ⟨fun e he' => ?_, h4.2⟩, fun d hd => ?_, c1, c2, c3, c4, ?_⟩
  · rw [eP, hs5]; exact ⟨rfl, by omega⟩
  · rw [eU, hsc _ (by omega)]; exact ⟨(n4 d hd).1, by have := (n4 d hd).2; omega⟩
  · rw [eU]; exact h1 d hd
  · obtain ⟨⟨k1, k2, k3, k4, k5⟩, k6⟩ := h2 d hd
    refine ⟨⟨fun e he => ?_, k2, k3, k4, k5⟩, k6⟩
    obtain ⟨q1, i, hi, q2, a, haa, z0, z1, z2, z3, z5⟩ := k1 e he
    refine ⟨q1, i, hi, q2, a, mem_push.mpr (Or.inl (mem_rmv.mpr ⟨haa, fun z => ?_⟩)), z0, z1, z2, z3, z5⟩
    rw [z5, nI_eq (by omega) (by omega)] at z
    omega
  · rw [eP]
    rcases mem_push.mp he' with he' | rfl
    · exact askOk_mono (h3.1 e (mem_rmv.mp he').1) (fun c' _ _ e he _ _ => he) (by omega) (fun c' _ _ _ => ⟨rfl, rfl⟩)
    · obtain ⟨_, z0, z2, z3, z4⟩ := hop
      refine ⟨c', l, pN s, q1, by rw [hx1]; exact q2, q3, by rw [hx2]; exact q4, by rw [hx3]; exact n2.1, by omega, Or.inr ⟨by rw [hx0]; exact z0, by rw [hx5, ha5, z4], by rw [hx0]; exact z2, by rw [hx2]; exact z3⟩⟩
  · obtain ⟨c', l', p, q1, q2, q3, q4, q5, q6, q7⟩ := h3.1 e (mem_rmv.mp he).1
    rw [q5, hx3, n2.1, nI_toInt (by omega), nI_toInt (by omega)]
    omega
  · rw [hx5, ha5]; exact (mem_rmv.mp he).2
  · obtain ⟨c'', l', t', g1, g2, g3, g4, g5, g6, g7, g8, g9, g10, g11⟩ := h4.1 e he'
    refine ⟨c'', l', t', g1, g2, g3, g4, g5, g6, g7, g8, g9, g10, fun q hq => ?_⟩
    rcases mem_push.mp hq with hq | rfl
    · exact g11 q (mem_rmv.mp hq).1
    · rw [hx5]; exact g11 a ha
  · rcases h5 d hd with z | ⟨z1, z2, z3⟩
    · exact Or.inl z
    · refine Or.inr ⟨z1, z2, ?_⟩
      rcases z3 with ⟨e, he', z⟩ | z
      · by_cases y : e 5 = nI (3 * c)
        · exact Or.inl ⟨x, mem_push.mpr (Or.inr rfl), by rw [hx5, ha5, ← y]; exact z⟩
        · exact Or.inl ⟨e, mem_push.mpr (Or.inl (mem_rmv.mpr ⟨he', y⟩)), z⟩
      · exact Or.inr z
  · intro e he' q
    rcases mem_push.mp he' with he' | rfl
    · exact c5 e (mem_rmv.mp he').1 q
    · have := c5 a ha hop.1
      rw [hx1, hx2, hx0]
      exact this
/-- a turn is told -/
theorem Inv_tell {b : Nat} {s : Sx} {c k l : Int32} (h : Inv b s) (hb : b < 2 ^ 30) : Inv (b + 1) (aOrd s c k l) ∧ ∀ o ∈ gOpn s, (o 7).toInt < (gSc (aOrd s c k l) 6).toInt := by
  obtain ⟨⟨n0, n1, n2, n3, n4⟩, h1, h2, h3, h4, h5, hC⟩ := h
  obtain ⟨t1, t2, t3⟩ := n3
  have hs6 : gSc (aOrd s c k l) 6 = nI (tN s + 1) := by
    show va_up (gSc s) 6 (gSc s 6 + 1) 6 = _
    rw [up_s, t1, nI_1]
  have eT : tN (aOrd s c k l) = tN s + 1 := by unfold tN; rw [hs6, pn_ix (by omega)]
  have hsc : ∀ j, j ≠ 6 → gSc (aOrd s c k l) j = gSc s j := fun j hj => up_n _ _ hj
  have eU : ∀ d, uN (aOrd s c k l) d = uN s d := fun d => by unfold uN; rw [hsc _ (by omega)]
  refine ⟨⟨⟨n0, n1, ⟨n2.1, by have := n2.2; show pN s ≤ b + 1; omega⟩, ?_, fun d hd => ?_⟩, fun d hd => ?_, h2, h3, ⟨fun a ha => ?_, h4.2⟩, h5, hC⟩, fun o ho => ?_⟩
  · rw [eT, hs6]
    refine ⟨rfl, by omega, ?_⟩
    show ((if gSc s 6 < 16 then gOrd s else (gOrd s).tail) ++ [_]).length = _
    have e16 : (16 : Int32) = nI 16 := rfl
    rw [List.length_append, t1, e16]
    by_cases q : tN s < 16
    · rw [if_pos (nI_lt (b := 16) q (by omega)), t3]
      show min (tN s) 16 + 1 = _
      omega
    · rw [if_neg (nI_nlt (b := 16) (by omega) (by omega)), List.length_tail, t3]
      show min (tN s) 16 - 1 + 1 = _
      omega
  · rw [eU, hsc _ (by omega)]; exact ⟨(n4 d hd).1, by have := (n4 d hd).2; omega⟩
  · rw [eU]; exact h1 d hd
  · rw [eT]
    obtain ⟨c', l', t', q1, q2, q3, q4, q5, q6, q7⟩ := h4.1 a ha
    exact ⟨c', l', t', q1, q2, q3, q4, q5, by omega, q7⟩
  · obtain ⟨c', l', t', q1, q2, q3, q4, q5, q6, q7⟩ := h4.1 o ho
    rw [hs6, q5, nI_toInt (by omega), nI_toInt (by omega)]
    omega
