/-! PURE: the class's answer turn -/
theorem give_wOpn {s : Sx} {c k : Nat} {o : List E} : aGiveK (wOpn s o) c k = wOpn (aGiveK s c k) o := by
  unfold aGiveK
  by_cases q : getE (gRow s c) k 2 = 3
  · rw [if_pos q, if_pos (show getE (gRow (wOpn s o) c) k 2 = 3 from q)]; rfl
  · rw [if_neg q, if_neg (show ¬ getE (gRow (wOpn s o) c) k 2 = 3 from q)]; rfl
theorem fill_wOpn {s : Sx} {c : Nat} {v w t : Int32} {o : List E} : aFill (wOpn s o) c v w t = wOpn (aFill s c v w t) o := by
  unfold aFill
  by_cases q : nI (gRow s c).length = gSc s 1
  · rw [if_pos q, if_pos (show nI (gRow (wOpn s o) c).length = gSc (wOpn s o) 1 from q), give_wOpn]; rfl
  · rw [if_neg q, if_neg (show ¬ nI (gRow (wOpn s o) c).length = gSc (wOpn s o) 1 from q)]; rfl
theorem fill_opn {s : Sx} {c : Nat} {v w t : Int32} : gOpn (aFill s c v w t) = gOpn s := by
  have := fill_wOpn (s := s) (c := c) (v := v) (w := w) (t := t) (o := gOpn s)
  rw [show wOpn s (gOpn s) = s from rfl] at this
  rw [this]
  rfl
theorem fill_ask {s : Sx} {c : Nat} {v w t : Int32} {a : E} (h : a ∈ gAsk (aFill s c v w t)) : a ∈ gAsk s ∨ a 5 = nI (3 * c + 1 + slotF (gBuf s c)) := by
  have h : a ∈ gAsk (if nI (gRow s c).length = gSc s 1 then aGiveK s c 0 else s) := h
  by_cases q : nI (gRow s c).length = gSc s 1
  · rw [if_pos q] at h
    have h : a ∈ gAsk (if getE (gRow s c) 0 2 = 3 then aBack s c (getE (gRow s c) 0 0) (getE (gRow s c) 0 1) else s) := h
    by_cases q3 : getE (gRow s c) 0 2 = 3
    · rw [if_pos q3] at h
      rcases mem_push.mp h with h | rfl
      · exact Or.inl h
      · exact Or.inr rfl
    · rw [if_neg q3] at h
      exact Or.inl h
  · rw [if_neg q] at h
    exact Or.inl h
/-- an open one is answered -/
theorem RX_unopn {s : Sx} {x : sw_St} {c : Nat} (h : RX s x) (hc : c < 4) (hA : ∀ a ∈ gAsk s, a 5 ≠ nI (3 * c)) : RX (wOp (wOpn s (rmv 1 (nI c) (gOpn s))) c (zOp (gOp s c))) (sw_up x (14 + 9 * c) 1 0) := by
  refine RX_req h (fun a ha => up_ne ?_) rfl rfl rfl rfl (fun d hd => ?_) (fun d hd => ?_) (fun d j hd hj => ?_)
  · have := ha c 0 hc (by omega)
    omega
  · show va_up (gOp s) c (zOp (gOp s c)) d 4 = _
    by_cases e : d = c
    · subst e; rw [up_s]; rfl
    · rw [up_n _ _ e]
  · show opX _ d (gAsk s) (rmv 1 (nI c) (gOpn s)) (va_up (gOp s) c (zOp (gOp s c)) d)
    by_cases e : d = c
    · subst e
      rw [up_s]
      exact ⟨by rw [up_nj (by decide)]; exact (h.2.2.2.1 d hd).1, fun a ha z => absurd z (hA a ha), fun a ha z => absurd z (mem_rmv.mp ha).2, fun _ _ => up_eq, fun z => absurd rfl z⟩
    · rw [up_n _ _ e]
      refine opX_k (h.2.2.2.1 d hd) (up_ne (by omega)) (fun _ _ => Iff.rfl) (fun a z => ?_) ⟨rfl, rfl, rfl⟩
      constructor
      · intro ha
        exact (mem_rmv.mp ha).1
      · intro ha
        refine mem_rmv.mpr ⟨ha, fun y => ?_⟩
        rw [z, nI_eq (by omega) (by omega)] at y
        exact e y
  · exact bkX_k (h.2.2.2.2.1 d j hd hj) (up_ne (by omega)) (fun _ _ => Iff.rfl) (fun _ _ => Iff.rfl)
theorem lOp_self (e : E) : lOp e (e 4) = e := by
  funext f
  unfold lOp
  by_cases h : f = 4
  · rw [if_pos h, h]
  · rw [if_neg h]
theorem x_ans1 {b : Nat} {s : Sx} {x : sw_St} {i c : Nat} (h : RX s x) (hI : Inv b s) (hb : b < 2 ^ 30) (hi : i < (gOpn s).length) (hc : c < 4) (h1 : getE (gOpn s) i 1 = nI c) (hr : rdy s (getE (gOpn s) i)) : wp (sw_ck (sw_isQ (14 + 9 * c)) (sw_ck (sw_in (x (14 + 9 * c) 0) 4) ((f_X0_fill x (8 + 9 * sw_ix (x (14 + 9 * c) 0)) (x (14 + 9 * c) 3) (x (14 + 9 * c) 10) (x (14 + 9 * c) 4)).bind fun r3 => (if (r3 (14 + 9 * c) 2) = 0 then (sw_pt r3 (8 + 9 * sw_ix (x (14 + 9 * c) 0)) 3 (r3 (14 + 9 * c) 4) fun s4 => (f_X0_answerTurn_136 s4 (14 + 9 * c))) else (f_X0_answerTurn_136 r3 (14 + 9 * c)))))) (RX (aAns s i)) := by
  have hm := List.mem_of_getElem? (getE_t hi)
  obtain ⟨c', l, t, q1, q2, q3, q4, q5, q6, q7, q8, q9, q10, q11⟩ := hI.2.2.2.2.1.1 _ hm
  have hC4 := hI.1.1.2.2
  have hcc : c' = c := by rw [h1, nI_eq (by omega) (by omega)] at q2; exact q2.symm
  subst hcc
  obtain ⟨y0, y1, y2, y3, y4, y5, y6, y7, y8⟩ := req_opn h hm hc h1
  have hop := (h.2.2.2.1 c' hc).2.2.2.2
  obtain ⟨k1, k2⟩ := hI.2.2.2.2.2.2.2.2.2.1 _ hm
  have hcf := hr.2
  rw [h1, pn_ix (by omega)] at hcf k2
  rw [q4] at k1 k2
  have hv : x (14 + 9 * c') 4 = (if getE (gOpn s) i 0 = 1 then gOp s c' 2 else getE (gOpn s) i 5) := by
    rcases q7 with z | z
    · rw [if_neg (by rw [z]; decide)]; exact y8 z
    · rw [if_pos z]
      have : gOp s c' 0 = 2 := by rw [q9, if_neg (by rw [z]; decide)]
      exact (hop (by rw [this]; decide)).2 this
  have hop1 : gOp s c' 0 = 1 ↔ getE (gOpn s) i 0 = 0 := by
    rw [q9]
    by_cases z : getE (gOpn s) i 0 = 0
    · rw [if_pos z]; exact ⟨fun _ => z, fun _ => rfl⟩
    · rw [if_neg z]; exact ⟨fun y => absurd y (by decide), fun y => absurd y z⟩
  rw [y0, h1, ck_t (isQ_c hc (r := 0) (by omega) (by omega)), ck_t (pn_in (by omega) (by omega)), pn_ix (by omega), y3, q4, y5, hv]
  have hrow : ∀ e ∈ gRow s c', e 0 ≠ nI l := fun e he z => by
    unfold hw at k2
    rw [← z, how_mem _ (pw0 hI hc) he] at k2
    rcases ((hI.2.1 c' hc).1.1 e he).2.1 with y | y | y <;> rw [y] at k2 <;> exact absurd k2 (by decide)
  have er : (gOpn s).eraseIdx i = rmv 1 (nI c') (gOpn s) := by
    rw [er_rmv (f := 1) _ i hI.2.2.2.2.1.2.1 hi, h1]
  unfold aAns
  rw [h1, pn_ix (by omega), q4, er, fill_wOpn]
  generalize (if getE (gOpn s) i 0 = 1 then gOp s c' 2 else getE (gOpn s) i 5) = v at hv ⊢
  refine wp_bindM (x_fill (w := v) (t := getE (gOpn s) i 4) h hI hb q1 rfl q3 hrow hcf) (fun x1 g1 => ?_)
  have hm1 : getE (gOpn s) i ∈ gOpn (aFill s c' (nI l) v (getE (gOpn s) i 4)) := by rw [fill_opn]; exact hm
  obtain ⟨z0, z1, z2, z3, z4, z5, z6, z7, z8⟩ := req_opn g1 hm1 hc h1
  have hop' := (g1.2.2.2.1 c' hc).2.2.2.2
  have hA : ∀ a ∈ gAsk (aFill s c' (nI l) v (getE (gOpn s) i 4)), a 5 ≠ nI (3 * c') := fun a ha z => by
    rcases fill_ask ha with y | y
    · exact q11 a y z
    · rw [z, nI_eq (by omega) (by have : slotF (gBuf s c') < 2 := (by unfold slotF; split <;> decide); omega)] at y
      omega
  have fin : ∀ (o : E) (x2 : sw_St), RX (wOp (aFill s c' (nI l) v (getE (gOpn s) i 4)) c' o) x2 → wp (f_X0_answerTurn_136 x2 (14 + 9 * c')) (RX (wSc (wSc (wOp (wOpn (aFill s c' (nI l) v (getE (gOpn s) i 4)) (rmv 1 (nI c') (gOpn s))) c' (zOp o)) 9 (gSc s 9 + 1)) 10 (gSc s 10 + 1))) := by
    intro o x2 g2
    unfold f_X0_answerTurn_136
    rw [ck_t (isQ_c hc (r := 0) (by omega) (by omega))]
    simp only [sw_pt]
    have g3 := RX_unopn g2 hc hA
    have e12 : sw_up x2 (14 + 9 * c') 1 0 2 12 = gSc s 9 := by
      rw [g3.1.2.2.2.2.2.2.2.2.2.1]
      exact aFill_sc (v := nI l) (w := v) (t := getE (gOpn s) i 4) (by decide) (by decide)
    rw [e12]
    have g4 := RX_sc (v := gSc s 9 + 1) 9 (by decide) (by decide) g3
    have e13 : sw_up (sw_up x2 (14 + 9 * c') 1 0) 2 12 (gSc s 9 + 1) 2 13 = gSc s 10 := by
      refine Eq.trans g4.1.2.2.2.2.2.2.2.2.2.2 ?_
      exact (sc_n (by decide)).trans (aFill_sc (v := nI l) (w := v) (t := getE (gOpn s) i 4) (by decide) (by decide))
    rw [e13]
    have g5 := RX_sc (v := gSc s 10 + 1) 10 (by decide) (by decide) g4
    refine wp_some ?_
    have eq : wOp (wOpn (wOp (aFill s c' (nI l) v (getE (gOpn s) i 4)) c' o) (rmv 1 (nI c') (gOpn (wOp (aFill s c' (nI l) v (getE (gOpn s) i 4)) c' o)))) c' (zOp (gOp (wOp (aFill s c' (nI l) v (getE (gOpn s) i 4)) c' o) c')) = wOp (wOpn (aFill s c' (nI l) v (getE (gOpn s) i 4)) (rmv 1 (nI c') (gOpn s))) c' (zOp o) := by
      have e1 : gOpn (wOp (aFill s c' (nI l) v (getE (gOpn s) i 4)) c' o) = gOpn s := fill_opn (s := s) (c := c') (v := nI l) (w := v) (t := getE (gOpn s) i 4)
      have e2 : gOp (wOp (aFill s c' (nI l) v (getE (gOpn s) i 4)) c' o) c' = o := up_s _ _ _
      rw [e1, e2]
      unfold wOp wOpn
      dsimp only
      rw [up_up]
    rw [eq] at g5
    exact g5
  by_cases z : getE (gOpn s) i 0 = 0
  · rw [if_pos (by rw [z2]; exact z), if_pos (hop1.mpr z)]
    simp only [sw_pt]
    rw [z8 z]
    have hv5 : v = getE (gOpn s) i 5 := by rw [← hv, y8 z]
    rw [← hv5]
    have g2 := RX_last (v := v) g1 hc
    rw [aFill_op] at g2
    exact fin _ _ g2
  · rw [if_neg (by rw [z2]; exact z), if_neg (fun y => z (hop1.mp y)), lOp_self]
    have e : wOp (aFill s c' (nI l) v (getE (gOpn s) i 4)) c' (gOp s c') = aFill s c' (nI l) v (getE (gOpn s) i 4) := by
      have e2 : gOp (aFill s c' (nI l) v (getE (gOpn s) i 4)) c' = gOp s c' := by rw [aFill_op]
      rw [← e2]
      unfold wOp
      have : va_up (gOp (aFill s c' (nI l) v (getE (gOpn s) i 4))) c' (gOp (aFill s c' (nI l) v (getE (gOpn s) i 4)) c') = gOp (aFill s c' (nI l) v (getE (gOpn s) i 4)) := by
        funext j
        unfold va_up
        split
        · next h => rw [h]
        · rfl
      rw [this]
    have := fin (gOp s c') x1 (by rw [e]; exact g1)
    exact this
theorem x_answer {b : Nat} {s : Sx} {x : sw_St} (h : RX s x) (hI : Inv b s) (hb : b < 2 ^ 30) : wp (f_X0_answerTurn x) (RX (aAnsw s).2) := by
  have hC4 := hI.1.1.2.2
  have h4 : x 2 4 = nI (cN s) := by rw [← hI.1.1.1]; exact h.1.1
  have h8 : x 2 8 = gSc s 4 := h.1.2.2.2.2.1
  have core : ∀ a ∈ gOpn s, ∃ c, c < cN s ∧ a 1 = nI c := fun a ha => by
    obtain ⟨c, _, _, q1, q2, _⟩ := hI.2.2.2.2.1.1 a ha
    exact ⟨c, q1, q2⟩
  have := lp_fold (F := fun n (best : Nat) k => f_X0_answerTurn_4 n x best k) (N := cN s) (Q := RX (aAnsw s).2) (J := fun k best => (best = 0 ∧ ∀ a ∈ gOpn s, ∀ c, c < k → a 1 = nI c → ¬ rdy s a) ∨ (∃ a ∈ gOpn s, ∃ c, c < k ∧ c < cN s ∧ a 1 = nI c ∧ rdy s a ∧ best = 14 + 9 * c ∧ ∀ a' ∈ gOpn s, ∀ c', c' < k → a' 1 = nI c' → rdy s a' → (a 7).toInt ≤ (a' 7).toInt)) (fun n best hJ => by
      rw [f_X0_answerTurn_4]
      dsimp only
      rw [h4, if_pos (nI_le (Nat.le_refl _) (by omega))]
      rcases hJ with ⟨z1, z2⟩ | ⟨a, ha, c, z1, z2, z3, z4, z5, z6⟩
      · rw [if_pos z1]
        unfold aAnsw
        rw [fst1_no (fun i hi => ?_)]
        · exact wp_some h
        · refine decide_eq_false (fun y => ?_)
          have hm := List.mem_of_getElem? (getE_t hi)
          obtain ⟨c, q1, q2⟩ := core _ hm
          exact z2 _ hm c q1 q2 y
      · rw [if_neg (by omega), z5]
        obtain ⟨i, hi⟩ := List.getElem?_of_mem ha
        have hil := (List.getElem?_eq_some_iff.mp hi).1
        have hge := getE_s hi
        have hf : fst1 (fun i => decide (rdy s (getE (gOpn s) i))) (gOpn s).length = some i := by
          refine fst1_is hil (decide_eq_true (by rw [hge]; exact z4)) (fun j hj => decide_eq_false (fun y => ?_))
          have hjl : j < (gOpn s).length := by omega
          have hmj := List.mem_of_getElem? (getE_t hjl)
          obtain ⟨c', q1, q2⟩ := core _ hmj
          have h1 := z6 _ hmj c' q1 q2 y
          have h2 := List.pairwise_iff_getElem.mp hI.2.2.2.2.1.2.2.2 j i hjl hil hj
          have e1 : getE (gOpn s) j = (gOpn s)[j] := getE_s (List.getElem?_eq_getElem hjl)
          have e2 : (gOpn s)[i] = a := (List.getElem?_eq_some_iff.mp hi).2
          rw [e1] at h1
          rw [e2] at h2
          omega
        unfold aAnsw
        rw [hf]
        exact x_ans1 h hI hb hil (by omega) (by rw [hge]; exact z3) (by rw [hge]; exact z4)) (fun n k best hk hJ => by
      rw [f_X0_answerTurn_4]
      dsimp only
      rw [h4, if_neg (nI_ge hk (by omega)), ck_t (pn_in (by omega) (by omega)), pn_ix (by omega), show 8 + 9 * k + 6 = 14 + 9 * k by omega, h8]
      unfold f_X0_answerTurn_58 f_X0_answerTurn_59 f_X0_answerTurn_81
      rw [nI_1]
      have hst := op_st2 (h.2.2.2.1 k (by omega))
      have notR : (∀ a ∈ gOpn s, a 1 = nI k → ¬ rdy s a) → ∃ a', f_X0_answerTurn_4 n x best (nI (k + 1)) = f_X0_answerTurn_4 n x a' (nI (k + 1)) ∧ ((a' = 0 ∧ ∀ a ∈ gOpn s, ∀ c, c < k + 1 → a 1 = nI c → ¬ rdy s a) ∨ (∃ a ∈ gOpn s, ∃ c, c < k + 1 ∧ c < cN s ∧ a 1 = nI c ∧ rdy s a ∧ a' = 14 + 9 * c ∧ ∀ a' ∈ gOpn s, ∀ c', c' < k + 1 → a' 1 = nI c' → rdy s a' → (a 7).toInt ≤ (a' 7).toInt)) := by
        intro hno
        refine ⟨best, rfl, ?_⟩
        rcases hJ with ⟨z1, z2⟩ | ⟨a, ha, c, z1, z2, z3, z4, z5, z6⟩
        · refine Or.inl ⟨z1, fun a ha c hc e => ?_⟩
          by_cases ck : c = k
          · rw [ck] at e; exact hno a ha e
          · exact z2 a ha c (by omega) e
        · refine Or.inr ⟨a, ha, c, by omega, z2, z3, z4, z5, fun a' ha' c' hc' e y => ?_⟩
          by_cases ck : c' = k
          · rw [ck] at e; exact absurd y (hno a' ha' e)
          · exact z6 a' ha' c' (by omega) e y
      by_cases z : x (14 + 9 * k) 1 = 2
      · rw [if_pos z]
        obtain ⟨ak, hak, ak1⟩ := hst.mp z
        have uni : ∀ a' ∈ gOpn s, a' 1 = nI k → a' = ak := fun a' ha' e => pw_inj _ hI.2.2.2.2.1.2.1 ha' hak (by rw [e, ak1])
        obtain ⟨y0, y1, y2, y3, y4, y5, y6, y7, y8⟩ := req_opn h hak (show k < 4 by omega) ak1
        rw [y4]
        by_cases zd : gSc s 4 < ak 3
        · rw [if_pos zd, if_pos rfl]
          exact notR (fun a ha e y => by rw [uni a ha e] at y; exact y.1 zd)
        · rw [if_neg zd]
          obtain ⟨r, er, hr⟩ := x_canFill h hI (c := k) (by omega) rfl
          rw [er, bd_s]
          by_cases zr : r = 0
          · rw [if_pos zr, if_pos rfl]
            refine notR (fun a ha e y => ?_)
            rw [uni a ha e] at y
            have y2 := y.2
            rw [ak1, pn_ix (by omega)] at y2
            exact hr.mp zr y2
          · rw [if_neg zr, if_neg (by decide)]
            have hcf : cFill s k := Classical.byContradiction (fun hn => zr (hr.mpr hn))
            have hrk : rdy s ak := ⟨zd, by rw [ak1, pn_ix (by omega)]; exact hcf⟩
            rcases hJ with ⟨z1, z2⟩ | ⟨a, ha, c, z1, z2, z3, z4, z5, z6⟩
            · refine ⟨14 + 9 * k, by rw [if_pos z1], Or.inr ⟨ak, hak, k, by omega, hk, ak1, hrk, rfl, fun a' ha' c' hc' e y => ?_⟩⟩
              by_cases ck : c' = k
              · rw [ck] at e
                rw [uni a' ha' e]
                exact Int.le_refl _
              · exact absurd y (z2 a' ha' c' (by omega) e)
            · obtain ⟨w0, w1, w2, w3, w4, w5, w6, w7, w8⟩ := req_opn h ha (show c < 4 by omega) z3
              rw [z5, if_neg (by omega), ck_t (isQ_c (c := k) (r := 0) (by omega) (by omega) (by omega)), ck_t (isQ_c (c := c) (r := 0) (by omega) (by omega) (by omega)), w7, y7]
              by_cases zc : a 7 ≤ ak 7
              · refine ⟨14 + 9 * c, by rw [if_pos zc], Or.inr ⟨a, ha, c, by omega, z2, z3, z4, rfl, fun a' ha' c' hc' e y => ?_⟩⟩
                by_cases ck : c' = k
                · rw [ck] at e
                  rw [uni a' ha' e]
                  exact Int32.le_iff_toInt_le.mp zc
                · exact z6 a' ha' c' (by omega) e y
              · refine ⟨14 + 9 * k, by rw [if_neg zc], Or.inr ⟨ak, hak, k, by omega, hk, ak1, hrk, rfl, fun a' ha' c' hc' e y => ?_⟩⟩
                have zc' : ¬ (a 7).toInt ≤ (ak 7).toInt := fun y => zc (Int32.le_iff_toInt_le.mpr y)
                by_cases ck : c' = k
                · rw [ck] at e
                  rw [uni a' ha' e]
                  exact Int.le_refl _
                · have := z6 a' ha' c' (by omega) e y
                  omega
      · rw [if_neg z, if_pos rfl]
        exact notR (fun a ha e _ => z (hst.mpr ⟨a, ha, e⟩))) sw_fuel 0 0 (Nat.zero_le _) (by unfold sw_fuel; omega) (Or.inl ⟨rfl, fun a _ c hc => by omega⟩)
  unfold f_X0_answerTurn
  exact this
