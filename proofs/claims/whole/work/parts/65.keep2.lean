/-! PURE: what always holds stays: buffers and what waits -/
theorem pw_inj {f : Nat} {x y : E} : ∀ (L : List E), L.Pairwise (fun a b => a f ≠ b f) → x ∈ L → y ∈ L → x f = y f → x = y
  | [], _, h, _, _ => by cases h
  | a :: L, hp, hx, hy, h => by
    have hd := (List.pairwise_cons.mp hp).1
    rcases List.mem_cons.mp hx with ex | hx'
    · rcases List.mem_cons.mp hy with ey | hy'
      · rw [ex, ey]
      · rw [ex] at h
        exact absurd h (hd y hy')
    · rcases List.mem_cons.mp hy with ey | hy'
      · rw [ey] at h
        exact absurd h.symm (hd x hx')
      · exact pw_inj L (List.pairwise_cons.mp hp).2 hx' hy' h
theorem slot_ok {L : List E} (h : L.length < 2) (hs : ∀ e ∈ L, ∃ i, i < 2 ∧ e 2 = nI i) : slotF L < 2 ∧ ∀ e ∈ L, e 2 ≠ nI (slotF L) := by
  match L, h with
  | [], _ => exact ⟨by decide, fun e he => by cases he⟩
  | [a], _ =>
    obtain ⟨i, hi, ha⟩ := hs a List.mem_cons_self
    unfold slotF
    rcases (show i = 0 ∨ i = 1 by omega) with rfl | rfl
    · have : ([a].any fun e => e 2 == 0) = true := by simp [ha]; rfl
      rw [if_pos this]
      refine ⟨by decide, fun e he => ?_⟩
      rw [List.mem_singleton.mp he, ha]
      decide
    · have : ¬ ([a].any fun e => e 2 == 0) = true := by simp [ha]; decide
      rw [if_neg this]
      refine ⟨by decide, fun e he => ?_⟩
      rw [List.mem_singleton.mp he, ha]
      decide
theorem askOk_mono {op op' : Nat → E} {bf bf' : Nat → List E} {C P P' : Nat} {a : E} (h : askOk op bf C P a) (h1 : ∀ c, c < C → a 0 = 3 → ∀ e ∈ bf c, e 0 = a 2 → a 1 = nI c → e ∈ bf' c) (h2 : P ≤ P') (h3 : ∀ c, c < C → a 5 = nI (3 * c) → a 0 ≠ 3 → op' c 0 = op c 0 ∧ op' c 1 = op c 1) : askOk op' bf' C P' a := by
  obtain ⟨c, l, p, q1, q2, q3, q4, q5, q6, q7⟩ := h
  refine ⟨c, l, p, q1, q2, q3, q4, q5, by omega, ?_⟩
  rcases q7 with ⟨z0, e, he, i, hi, z2, z3, z4, z5⟩ | ⟨z0, z1, z2, z3⟩
  · exact Or.inl ⟨z0, e, h1 c q1 z0 e he z3 q2, i, hi, z2, z3, z4, z5⟩
  · have ha3 : a 0 ≠ 3 := by rcases z0 with z | z | z <;> rw [z] <;> decide
    obtain ⟨f0, f1⟩ := h3 c q1 z1 ha3
    exact Or.inr ⟨z0, z1, by rw [f0]; exact z2, by rw [f1]; exact z3⟩
theorem Inv_back {b : Nat} {s : Sx} {c l : Nat} {w : Int32} (h : Inv b s) (hb : b < 2 ^ 30) (hc : c < cN s) (hl : l < 8) (hlen : (gBuf s c).length < 2) (hr : ∀ d, d < 4 → hw s d (nI l) = 0) (hbf : ∀ d, d < 4 → ∀ e ∈ gBuf s d, e 0 ≠ nI l) (hop : ∀ a ∈ gOpn s, a 2 ≠ nI l) (ha : ∀ a ∈ gAsk s, a 0 ≠ 3 → a 1 = nI c → a 2 ≠ nI l) : Inv (b + 1) (aBack s c (nI l) w) := by
  obtain ⟨⟨n0, n1, n2, n3, n4⟩, h1, h2, h3, h4, h5, c1, c2, c3, c4, c5⟩ := h
  have hC4 := n0.2.2
  have hc4 : c < 4 := by omega
  obtain ⟨⟨b1, b2, b3, b4, b5⟩, b6⟩ := h2 c hc4
  obtain ⟨hs2, hsn⟩ := slot_ok hlen (fun e he => by obtain ⟨_, i, hi, q, _⟩ := b1 e he; exact ⟨i, hi, q⟩)
  have hsc : ∀ k, k ≠ 5 → gSc (aBack s c (nI l) w) k = gSc s k := fun k hk => up_n _ _ hk
  have hs5 : gSc (aBack s c (nI l) w) 5 = nI (pN s + 1) := by
    show va_up (gSc s) 5 (gSc s 5 + 1) 5 = _
    rw [up_s, n2.1, nI_1]
  have eC : cN (aBack s c (nI l) w) = cN s := by unfold cN; rw [hsc 0 (by omega)]
  have eK : kN (aBack s c (nI l) w) = kN s := by unfold kN; rw [hsc 1 (by omega)]
  have eP : pN (aBack s c (nI l) w) = pN s + 1 := by unfold pN; rw [hs5, pn_ix (by have := n2.2; omega)]
  have eT : tN (aBack s c (nI l) w) = tN s := by unfold tN; rw [hsc 6 (by omega)]
  have eU : ∀ d, uN (aBack s c (nI l) w) d = uN s d := fun d => by unfold uN; rw [hsc _ (by omega)]
  have bc : gBuf (aBack s c (nI l) w) c = gBuf s c ++ [mk [nI l, w, nI (slotF (gBuf s c)), gSc s 5]] := up_s _ _ _
  have bn : ∀ d, d ≠ c → gBuf (aBack s c (nI l) w) d = gBuf s d := fun d hd => up_n _ _ hd
  have bm : ∀ d e, e ∈ gBuf s d → e ∈ gBuf (aBack s c (nI l) w) d := fun d e he => by
    by_cases q : d = c
    · subst q; rw [bc]; exact mem_push.mpr (Or.inl he)
    · rw [bn d q]; exact he
  have bi : ∀ d e, e ∈ gBuf (aBack s c (nI l) w) d → e ∈ gBuf s d ∨ (d = c ∧ e = mk [nI l, w, nI (slotF (gBuf s c)), gSc s 5]) := fun d e he => by
    by_cases q : d = c
    · subst q
      rw [bc] at he
      rcases mem_push.mp he with z | z
      · exact Or.inl z
      · exact Or.inr ⟨rfl, z⟩
    · rw [bn d q] at he; exact Or.inl he
  have ga : gAsk (aBack s c (nI l) w) = gAsk s ++ [mk [3, nI c, nI l, gSc s 5, 0, nI (3 * c + 1 + slotF (gBuf s c))]] := rfl
  have hpl : ∀ a ∈ gAsk s, (a 3).toInt < (gSc s 5).toInt := fun a ha => by
    obtain ⟨c', l', p, q1, q2, q3, q4, q5, q6, q7⟩ := h3.1 a ha
    rw [q5, n2.1, nI_toInt (by have := n2.2; omega), nI_toInt (by have := n2.2; omega)]
    omega
  have hsl : ∀ a ∈ gAsk s, a 5 ≠ nI (3 * c + 1 + slotF (gBuf s c)) := fun a ha z => by
    obtain ⟨c', l', p, q1, q2, q3, q4, q5, q6, q7⟩ := h3.1 a ha
    rcases q7 with ⟨z0, e, he, i, hi, z2, z3, z4, z5⟩ | ⟨z0, z1, z2, z3⟩
    · rw [z5, nI_eq (by omega) (by omega)] at z
      have e1 : c' = c := by omega
      subst e1
      exact hsn e he (by rw [z2]; congr 1; omega)
    · rw [z1, nI_eq (by omega) (by omega)] at z
      omega
  refine ⟨⟨?_, ?_, ?_, ?_, fun d hd => ?_⟩, fun d hd => ?_, fun d hd => ?_, ⟨fun a ha' => ?_, ?_, ?_⟩, ⟨fun a ha' => ?_, h4.2⟩, fun d hd => ?_, c1, ?_, ?_, ?_, ?_⟩
  · rw [eC, hsc 0 (by omega)]; exact n0
  · rw [eK, hsc 1 (by omega)]; exact n1
  · rw [eP, hs5]; exact ⟨rfl, by have := n2.2; omega⟩
  · rw [eT, hsc 6 (by omega)]; exact ⟨n3.1, by omega, n3.2.2⟩
  · rw [eU, hsc _ (by omega)]; exact ⟨(n4 d hd).1, by have := (n4 d hd).2; omega⟩
  · rw [eK, eC, eU]; exact h1 d hd
  · rw [eC, ga]
    have keep : ∀ e ∈ gBuf s d, (∃ l, l < 8 ∧ e 0 = nI l) ∧ ∃ i, i < 2 ∧ e 2 = nI i ∧ ∃ a ∈ gAsk s ++ [mk [3, nI c, nI l, gSc s 5, 0, nI (3 * c + 1 + slotF (gBuf s c))]], a 0 = 3 ∧ a 1 = nI d ∧ a 2 = e 0 ∧ a 3 = e 3 ∧ a 5 = nI (3 * d + 1 + i) := fun e he => by
      obtain ⟨q1, i, hi, q2, a, haa, q3⟩ := (h2 d hd).1.1 e he
      exact ⟨q1, i, hi, q2, a, mem_push.mpr (Or.inl haa), q3⟩
    by_cases q : d = c
    · subst q
      rw [bc]
      refine ⟨⟨fun e he => ?_, pw_push b2 (fun e he => hbf d hd e he), pw_push b3 (fun e he => hsn e he), pw_push b4 (fun e he => ?_), ?_⟩, fun z => by omega⟩
      · rcases mem_push.mp he with he | rfl
        · exact keep e he
        · exact ⟨⟨l, hl, rfl⟩, slotF (gBuf s d), hs2, rfl, _, mem_push.mpr (Or.inr rfl), rfl, rfl, rfl, rfl, rfl⟩
      · obtain ⟨_, i, hi, _, a, haa, _, _, _, z3, _⟩ := b1 e he
        rw [← z3]
        exact hpl a haa
      · rw [List.length_append]
        show (gBuf s d).length + 1 ≤ 2
        omega
    · rw [bn d q]
      obtain ⟨⟨_, k2, k3, k4, k5⟩, k6⟩ := h2 d hd
      exact ⟨⟨keep, k2, k3, k4, k5⟩, k6⟩
  · rw [eC, eP]
    rcases mem_push.mp ha' with ha' | rfl
    · exact askOk_mono (h3.1 a ha') (fun c' _ _ e he _ _ => bm c' e he) (by omega) (fun c' _ _ _ => ⟨rfl, rfl⟩)
    · refine ⟨c, l, pN s, hc, rfl, hl, rfl, n2.1, by omega, Or.inl ⟨rfl, mk [nI l, w, nI (slotF (gBuf s c)), gSc s 5], ?_, slotF (gBuf s c), hs2, rfl, rfl, rfl, rfl⟩⟩
      rw [bc]
      exact mem_push.mpr (Or.inr rfl)
  · exact pw_push h3.2.1 hpl
  · exact pw_push h3.2.2 hsl
  · rw [eC, eT]
    obtain ⟨c', l', t', q1, q2, q3, q4, q5, q6, q7, q8, q9, q10, q11⟩ := h4.1 a ha'
    refine ⟨c', l', t', q1, q2, q3, q4, q5, q6, q7, q8, q9, q10, fun q hq => ?_⟩
    rcases mem_push.mp hq with hq | rfl
    · exact q11 q hq
    · show nI (3 * c + 1 + slotF (gBuf s c)) ≠ _
      intro z
      rw [nI_eq (by omega) (by omega)] at z
      omega
  · rw [eC]
    rcases h5 d hd with z | ⟨z1, z2, z3⟩
    · exact Or.inl z
    · refine Or.inr ⟨z1, z2, ?_⟩
      rcases z3 with ⟨a, ha', z⟩ | z
      · exact Or.inl ⟨a, mem_push.mpr (Or.inl ha'), z⟩
      · exact Or.inr z
  · intro d d' hd hd' e he
    rcases bi d e he with z | ⟨z1, rfl⟩
    · exact c2 d d' hd hd' e z
    · exact hr d' hd'
  · intro d d' hd hd' hne e he e' he'
    rcases bi d e he with z | ⟨z1, rfl⟩
    · rcases bi d' e' he' with y | ⟨y1, rfl⟩
      · exact c3 d d' hd hd' hne e z e' y
      · exact hbf d hd e z
    · rcases bi d' e' he' with y | ⟨y1, rfl⟩
      · exact Ne.symm (hbf d' hd' e' y)
      · exact absurd (z1.trans y1.symm) hne
  · intro a ha'
    obtain ⟨g1, g2⟩ := c4 a ha'
    refine ⟨fun d hd => ⟨(g1 d hd).1, fun e he => ?_⟩, g2⟩
    rcases bi d e he with z | ⟨z1, rfl⟩
    · exact (g1 d hd).2 e z
    · exact Ne.symm (hop a ha')
  · intro a ha' q
    rcases mem_push.mp ha' with ha' | rfl
    · obtain ⟨g1, g2⟩ := c5 a ha' q
      refine ⟨fun e he => ?_, g2⟩
      rcases bi _ e he with z | ⟨z1, rfl⟩
      · exact g1 e z
      · obtain ⟨c', l', p, q1, q2, _⟩ := h3.1 a ha'
        rw [q2, pn_ix (by omega)] at z1
        exact Ne.symm (ha a ha' q (by rw [q2, z1]))
    · exact absurd rfl q
/-- a line leaves a buffer, and no longer asks -/
theorem Inv_out {b : Nat} {s : Sx} {c i : Nat} {v : Int32} {be : E} (h : Inv b s) (hc : c < 4) (he : be ∈ gBuf s c) (hv : be 0 = v) (hi : i < 2) (h2i : be 2 = nI i) : Inv b (wAsk (wBuf s c (rmv 0 v (gBuf s c))) (rmv 5 (nI (3 * c + 1 + i)) (gAsk s))) := by
  obtain ⟨n, h1, h2, h3, h4, h5, c1, c2, c3, c4, c5⟩ := h
  have hC4 := n.1.2.2
  have bi : ∀ d e, e ∈ va_up (gBuf s) c (rmv 0 v (gBuf s c)) d → e ∈ gBuf s d := fun d e he => by
    by_cases q : d = c
    · subst q; rw [up_s] at he; exact (mem_rmv.mp he).1
    · rw [up_n _ _ q] at he; exact he
  obtain ⟨⟨b1, b2, b3, b4, b5⟩, b6⟩ := h2 c hc
  refine ⟨n, h1, fun d hd => ?_, ⟨fun a ha' => ?_, h3.2.1.sublist (rmv_sub _ _ _), h3.2.2.sublist (rmv_sub _ _ _)⟩, ⟨fun a ha' => ?_, h4.2⟩, fun d hd => ?_, c1, ?_, ?_, ?_, ?_⟩
  · show bufOk d (rmv 5 (nI (3 * c + 1 + i)) (gAsk s)) (va_up (gBuf s) c (rmv 0 v (gBuf s c)) d) ∧ (_ → va_up (gBuf s) c (rmv 0 v (gBuf s c)) d = [])
    obtain ⟨⟨k1, k2, k3, k4, k5⟩, k6⟩ := h2 d hd
    by_cases q : d = c
    · subst q
      rw [up_s]
      refine ⟨⟨fun e he' => ?_, k2.sublist (rmv_sub _ _ _), k3.sublist (rmv_sub _ _ _), k4.sublist (rmv_sub _ _ _), Nat.le_trans (rmv_sub _ _ _).length_le k5⟩, fun z => ?_⟩
      · obtain ⟨m1, m2⟩ := mem_rmv.mp he'
        obtain ⟨q1, j, hj, q2, a, haa, z0, z1, z2, z3, z5⟩ := k1 e m1
        refine ⟨q1, j, hj, q2, a, mem_rmv.mpr ⟨haa, fun z => ?_⟩, z0, z1, z2, z3, z5⟩
        rw [z5, nI_eq (by omega) (by omega)] at z
        have ej : j = i := by omega
        subst ej
        have hne : be ≠ e := fun z => m2 (by rw [← z]; exact hv)
        exact hne (pw_inj _ k3 he m1 (by rw [h2i, q2]))
      · rw [k6 z] ; rfl
    · rw [up_n _ _ q]
      refine ⟨⟨fun e he' => ?_, k2, k3, k4, k5⟩, k6⟩
      obtain ⟨q1, j, hj, q2, a, haa, z0, z1, z2, z3, z5⟩ := k1 e he'
      refine ⟨q1, j, hj, q2, a, mem_rmv.mpr ⟨haa, fun z => ?_⟩, z0, z1, z2, z3, z5⟩
      rw [z5, nI_eq (by omega) (by omega)] at z
      omega
  · obtain ⟨m1, m2⟩ := mem_rmv.mp ha'
    refine askOk_mono (h3.1 a m1) (fun c' hc' z0 e he' z2 z1 => ?_) (Nat.le_refl _) (fun c' _ _ _ => ⟨rfl, rfl⟩)
    show e ∈ va_up (gBuf s) c (rmv 0 v (gBuf s c)) c'
    by_cases q : c' = c
    · subst q
      rw [up_s]
      refine mem_rmv.mpr ⟨he', fun z => m2 ?_⟩
      obtain ⟨c'', l', p, q1, q2, q3, q4, q5, q6, q7⟩ := h3.1 a m1
      rcases q7 with ⟨_, e2, he2, j, hj, y2, y3, y4, y5⟩ | ⟨y0, _⟩
      · rw [z1, nI_eq (by omega) (by omega)] at q2
        subst q2
        have e2b : e2 = be := pw_inj _ b2 he2 he (by rw [y3, hv, ← z, z2])
        rw [e2b, h2i, nI_eq (by omega) (by omega)] at y2
        rw [y5, y2]
      · rcases y0 with y | y | y <;> rw [y] at z0 <;> exact absurd z0 (by decide)
    · rw [up_n _ _ q]
      exact he'
  · obtain ⟨c', l', t', q1, q2, q3, q4, q5, q6, q7, q8, q9, q10, q11⟩ := h4.1 a ha'
    exact ⟨c', l', t', q1, q2, q3, q4, q5, q6, q7, q8, q9, q10, fun q hq => q11 q (mem_rmv.mp hq).1⟩
  · rcases h5 d hd with z | ⟨z1, z2, z3⟩
    · exact Or.inl z
    · refine Or.inr ⟨z1, z2, ?_⟩
      rcases z3 with ⟨a, ha', z⟩ | z
      · refine Or.inl ⟨a, mem_rmv.mpr ⟨ha', fun y => ?_⟩, z⟩
        rw [z, nI_eq (by omega) (by omega)] at y
        omega
      · exact Or.inr z
  · intro d d' hd hd' e he'
    exact c2 d d' hd hd' e (bi d e he')
  · intro d d' hd hd' hne e he' e' he''
    exact c3 d d' hd hd' hne e (bi d e he') e' (bi d' e' he'')
  · intro a ha'
    obtain ⟨g1, g2⟩ := c4 a ha'
    exact ⟨fun d hd => ⟨(g1 d hd).1, fun e he' => (g1 d hd).2 e (bi d e he')⟩, g2⟩
  · intro a ha' q
    obtain ⟨g1, g2⟩ := c5 a (mem_rmv.mp ha').1 q
    exact ⟨fun e he' => g1 e (bi _ e he'), g2⟩
