/-! PURE: the class's turns -/
theorem x_address {b : Nat} {s : Sx} {x : sw_St} (h : RX s x) (hI : Inv b s) (hb : b + 1 < 2 ^ 30) : wp (f_X0_addressTurn x) (RX (aAdd s).2) := by
  have hC4 := hI.1.1.2.2
  unfold f_X0_addressTurn
  refine wp_bindM (x_next h hI (by omega)) (fun r hr => ?_)
  rcases hr with ⟨z1, z2⟩ | ⟨a, ha, j, hj, a5, rfl, hmin⟩
  · rw [if_pos z1]
    unfold aAdd
    rw [fst1_no (fun i hi => by rw [z2] at hi; exact absurd hi (Nat.not_lt_zero _))]
    exact wp_some h
  · obtain ⟨i, hi⟩ := List.getElem?_of_mem ha
    have hil := (List.getElem?_eq_some_iff.mp hi).1
    have hge := getE_s hi
    have hr0 : rk (kx (gOpn s)) (gAsk s) a = 0 := rk_0.mpr hmin
    have hpw := kx_ne (o := gOpn s) (Inv_pl hI (by omega)) hI.2.2.2.1.2.1
    have hf : fst1 (fun i => decide (rk (kx (gOpn s)) (gAsk s) (getE (gAsk s) i) = 0)) (gAsk s).length = some i := by
      refine fst1_is hil (by simp [hge, hr0]) (fun j hj => decide_eq_false (fun z => ?_))
      have := rk_ix hpw (i := j) (j := i) (by omega) hil (by rw [z, hge, hr0])
      omega
    unfold aAdd
    rw [hf]
    obtain ⟨y0, y1, y2, y3, y4, y5⟩ := req_ask h hI ha hj a5
    have hq : sw_isQ (sw_rq j) = true := isQ_c (c := j / 3) (r := j % 3) (by omega) (by omega) (rq_at (by omega) (by omega))
    have hrq0 : ¬ sw_rq j = 0 := by unfold sw_rq; omega
    rw [if_neg hrq0, ck_t hq]
    obtain ⟨c, l, p, q1, q2, q3, q4, q5, q6, q7⟩ := hI.2.2.2.1.1 a ha
    have hc4 : c < 4 := by omega
    rw [y3, y0]
    show wp _ (RX (aAddr s i).2)
    unfold aAddr
    rw [hge]
    rcases x_openOf (a 2) h hI with ⟨o, ho, c', hc', o1, o2, e⟩ | ⟨hno, e⟩
    · rw [e, bd_s, if_neg (by omega), if_pos (isO_t.mpr ⟨o, ho, o2⟩)]
      rcases q7 with ⟨z0, be, hbe, i', hi', w2, w3, w4, w5⟩ | ⟨z0, w1, w2, w3⟩
      · exact absurd (by rw [w3, o2]) (((hI.2.2.2.2.2.2.2.2.2.1 o ho).1 c hc4).2 be hbe)
      · have hjc : j = 3 * c := by rw [a5, nI_eq (by omega) (by omega)] at w1; exact w1
        rw [hjc, rq_at (c := c) (r := 0) (by omega) (by omega), Nat.add_zero]
        exact wp_bindM (x_away h hI hil hc4 (by rw [hge]; exact w1)) (fun x1 h1 => wp_some h1)
    · have hno' : ¬ isO (gOpn s) (a 2) = true := fun z => by
        obtain ⟨o, ho, o2⟩ := isO_t.mp z
        exact hno o ho o2
      rw [e, bd_s, if_pos rfl, if_neg hno', q2, q4, ck_t (pn_in (by omega) (by omega)), ck_t (pn_in (by omega) (by omega)), pn_ix (by omega), pn_ix (by omega), show 8 + 9 * c + 1 + 1 = 10 + 9 * c by omega, (h.2.2.1 c hc4).1 l q3]
      have her := er5 hI hil
      rw [hge] at her
      unfold aAddrE
      rw [q2, pn_ix (by omega), q4]
      by_cases k3 : a 0 = 3
      · rw [if_pos k3]
        obtain ⟨j', hj', j5, hwp⟩ := x_orderBack h hI (by omega) hil hc4 q3 (by rw [hge]; exact k3) (by rw [hge]; exact q2) (by rw [hge]; exact q4)
        have hjj : j' = j := by rw [hge, a5, nI_eq (by omega) (by omega)] at j5; exact j5.symm
        subst hjj
        have fin : ∀ y, wp (f_X0_addressTurn_56 x (sw_rq j') y) (RX (aBk (wAsk s ((gAsk s).eraseIdx i)) c (nI l))) := by
          intro y
          unfold f_X0_addressTurn_56
          rw [ck_t hq, y2, k3, if_neg (by decide), if_neg (by decide), if_neg (by decide), if_pos rfl]
          exact wp_bindM hwp (fun x1 h1 => wp_some h1)
        split
        · exact fin 1
        · exact fin 0
      · rw [if_neg k3]
        obtain ⟨z0, z1, z2, z3⟩ : (a 0 = 0 ∨ a 0 = 1 ∨ a 0 = 2) ∧ a 5 = nI (3 * c) ∧ gOp s c 0 = (if a 0 = 0 then 1 else 2) ∧ gOp s c 1 = a 2 := by
          rcases q7 with ⟨z, _⟩ | z
          · exact absurd z k3
          · exact z
        have hjc : j = 3 * c := by rw [a5, nI_eq (by omega) (by omega)] at z1; exact z1
        subst hjc
        rw [rq_at (c := c) (r := 0) (by omega) (by omega), Nat.add_zero] at y2 hq ⊢
        rw [a5] at her
        rw [her]
        obtain ⟨x1', x2'⟩ := hI.2.2.2.2.2.2.2.2.2.2 a ha k3
        rw [q2, pn_ix (by omega), q4] at x1' x2'
        rcases z0 with k | k | k
        · rw [if_neg (show ¬ (a 0 = 2 ∧ howR (gRow (wAsk s (rmv 5 (nI (3 * c)) (gAsk s))) c) (nI l) = 1) from fun y => by rw [k] at y; exact absurd y.1 (by decide)), k]
          have e1 : aOpn (wAsk s (rmv 5 (nI (3 * c)) (gAsk s))) c 0 (nI l) (a 4) = aOpens (wAsk (aOrd s (nI c) 82 (nI l)) (rmv 5 (nI (3 * c)) (gAsk s))) 0 c (nI l) (a 4) := by
            unfold aOpn
            rw [if_neg (by decide), if_pos rfl, if_pos rfl, Int32.add_zero, sc_self]
            rfl
          rw [e1]
          have fin : ∀ y, wp (f_X0_addressTurn_56 x (14 + 9 * c) y) (RX (aOpens (wAsk (aOrd s (nI c) 82 (nI l)) (rmv 5 (nI (3 * c)) (gAsk s))) 0 c (nI l) (a 4))) := by
            intro y
            unfold f_X0_addressTurn_56
            rw [ck_t hq, y2, k, if_pos rfl]
            exact wp_bindM (x_oRead h hI hb q1 q3 ha k q2 q4 a5) (fun x1 h1 => wp_some h1)
          split
          · exact fin 1
          · exact fin 0
        · rw [if_neg (show ¬ (a 0 = 2 ∧ howR (gRow (wAsk s (rmv 5 (nI (3 * c)) (gAsk s))) c) (nI l) = 1) from fun y => by rw [k] at y; exact absurd y.1 (by decide)), k]
          have hw0 : hw s c (nI l) = 0 := by
            rcases x2' with y | y
            · exact y
            · rw [k] at y; exact absurd y.1 (by decide)
          have e1 : aOpn (wAsk s (rmv 5 (nI (3 * c)) (gAsk s))) c 1 (nI l) (a 4) = aOpens (wAsk (aOrd s (nI c) 79 (nI l)) (rmv 5 (nI (3 * c)) (gAsk s))) 1 c (nI l) (a 4) := by
            unfold aOpn
            rw [if_neg (by decide), if_neg (by decide), if_pos rfl, if_neg (by decide), Int32.add_zero, sc_self]
            rfl
          rw [e1]
          have fin : ∀ y, wp (f_X0_addressTurn_56 x (14 + 9 * c) y) (RX (aOpens (wAsk (aOrd s (nI c) 79 (nI l)) (rmv 5 (nI (3 * c)) (gAsk s))) 1 c (nI l) (a 4))) := by
            intro y
            unfold f_X0_addressTurn_56
            rw [ck_t hq, y2, k, if_neg (by decide), if_pos rfl]
            exact wp_bindM (x_oOwn h hI hb q1 q3 ha (Or.inl k) q2 q4 a5 hw0 (by decide)) (fun x1 h1 => wp_some h1)
          split
          · exact fin 1
          · exact fin 0
        · by_cases w1 : howR (gRow s c) (nI l) = 1
          · rw [if_pos w1, if_pos (show a 0 = 2 ∧ howR (gRow (wAsk s (rmv 5 (nI (3 * c)) (gAsk s))) c) (nI l) = 1 from ⟨k, w1⟩)]
            unfold f_X0_addressTurn_56
            rw [ck_t hq, y2, k, if_neg (by decide), if_neg (by decide), if_pos rfl, if_neg (by decide)]
            exact wp_bindM (x_oRise h hI hb q1 q3 ha k q2 q4 a5 w1) (fun x1 h1 => wp_some h1)
          · rw [if_neg w1, if_neg (show ¬ (a 0 = 2 ∧ howR (gRow (wAsk s (rmv 5 (nI (3 * c)) (gAsk s))) c) (nI l) = 1) from fun y => w1 y.2)]
            have hw0 : hw s c (nI l) = 0 := by
              rcases x2' with y | y
              · exact y
              · exact absurd y.2 w1
            unfold f_X0_addressTurn_56
            rw [ck_t hq, y2, k, if_neg (by decide), if_neg (by decide), if_pos rfl, if_pos rfl]
            simp only [sw_pt]
            have h11 : x 2 11 = gSc s 8 := h.1.2.2.2.2.2.2.2.2.1
            rw [h11]
            have h1 := RX_sc (v := gSc s 8 + 1) 8 (by decide) (by decide) h
            have hI1 : Inv b (wSc s 8 (gSc s 8 + 1)) := Inv_k hI (fun j _ _ h8 _ _ => sc_n h8) rfl rfl (fun _ => ⟨rfl, rfl⟩) rfl rfl rfl
            have e1 : aOpn (wAsk s (rmv 5 (nI (3 * c)) (gAsk s))) c 2 (nI l) (a 4) = aOpens (wAsk (aOrd (wSc s 8 (gSc s 8 + 1)) (nI c) 87 (nI l)) (rmv 5 (nI (3 * c)) (gAsk (wSc s 8 (gSc s 8 + 1))))) 1 c (nI l) (a 4) := by
              unfold aOpn
              rw [if_pos rfl, if_neg (by decide), if_neg (by decide), if_neg (by decide)]
              rfl
            rw [e1]
            exact wp_bindM (x_oOwn h1 hI1 hb q1 q3 ha (Or.inr k) q2 q4 a5 hw0 (by decide)) (fun x1 h1 => wp_some h1)
-- ===== how many ended =====
theorem opens_sc {s : Sx} {k sent l : Int32} {c : Nat} : gSc (aOpens s k c l sent) = gSc s := by
  have e1 : gSc (aUn s c l) = gSc s := by
    unfold aUn
    split
    · rfl
    · split
      · split <;> rfl
      · rfl
  have e2 : ∀ (S : Sx) (o : Option Nat) (v : Int32), gSc (aChg S o k c l v) = gSc S := by
    intro S o v
    unfold aChg
    split
    · split <;> rfl
    · rfl
  show gSc (aChg (aUn s c l) (oth s (nI c) l 2) k c l (aVal s c l)) = _
  rw [e2, e1]
theorem use_sc {s : Sx} {c j : Nat} {v w t : Int32} (h : j ≠ 20 + c) : gSc (aUse s c v w t) j = gSc s j := up_n _ _ h
theorem ans_9 (s : Sx) : gSc (aAnsw s).2 9 = gSc s 9 + (aAnsw s).1 := by
  unfold aAnsw
  split
  · next i _ =>
    show gSc (aAns s i) 9 = gSc s 9 + 1
    unfold aAns
    rw [sc_n (by decide), sc_s]
  · exact (Int32.add_zero _).symm
theorem add_9 (s : Sx) : gSc (aAdd s).2 9 = gSc s 9 + (aAdd s).1 := by
  have z0 : gSc s 9 = gSc s 9 + 0 := (Int32.add_zero _).symm
  unfold aAdd
  split
  · next i _ =>
    unfold aAddr
    by_cases q : isO (gOpn s) (getE (gAsk s) i 2) = true
    · rw [if_pos q]
      show gSc (aAway s i) 9 = gSc s 9 + 0
      unfold aAway
      rw [sc_n (by decide)]
      show gSc (wSc s 5 (gSc s 5 + 1)) 9 = gSc s 9 + 0
      rw [sc_n (by decide)]
      exact z0
    · rw [if_neg q]
      unfold aAddrE
      by_cases q3 : getE (gAsk s) i 0 = 3
      · rw [if_pos q3]
        dsimp only
        unfold aBk
        split
        · unfold aOrd
          rw [sc_n (by decide)]
          exact z0
        · exact z0
      · rw [if_neg q3]
        split
        · next q2 =>
          generalize sw_ix (getE (gAsk s) i 1) = c
          dsimp only
          unfold aRise aOrd aEnd
          rw [sc_n (by decide)]
          show gSc (wSc (wOp (aUse (aNoOther (wAsk s ((gAsk s).eraseIdx i)) c (getE (gAsk s) i 2)) c (getE (gAsk s) i 2) (gOp (wAsk s ((gAsk s).eraseIdx i)) c 2) 3) c (zOp (gOp (aUse (aNoOther (wAsk s ((gAsk s).eraseIdx i)) c (getE (gAsk s) i 2)) c (getE (gAsk s) i 2) (gOp (wAsk s ((gAsk s).eraseIdx i)) c 2) 3) c))) 9 (gSc (aUse (aNoOther (wAsk s ((gAsk s).eraseIdx i)) c (getE (gAsk s) i 2)) c (getE (gAsk s) i 2) (gOp (wAsk s ((gAsk s).eraseIdx i)) c 2) 3) 9 + 1)) 9 = gSc s 9 + 1
          rw [sc_s, use_sc (by omega)]
          rfl
        · generalize sw_ix (getE (gAsk s) i 1) = c
          dsimp only
          unfold aOpn
          rw [opens_sc]
          unfold aOrd
          rw [sc_n (by decide)]
          show gSc (wSc (wAsk s ((gAsk s).eraseIdx i)) 8 (gSc (wAsk s ((gAsk s).eraseIdx i)) 8 + (if getE (gAsk s) i 0 = 2 then 1 else 0))) 9 = _
          rw [sc_n (by decide)]
          exact z0
  · exact z0
theorem turn_9 (s : Sx) : gSc (aTurn s).2 9 = gSc s 9 + (aTurn s).1 := by
  unfold aTurn
  dsimp only
  rw [add_9, ans_9, sc_n (by decide), Int32.add_assoc]
theorem turns_9 : ∀ (n : Nat) (r : Int32) (s : Sx), gSc (aTurns n r s).2 9 + r = gSc s 9 + (aTurns n r s).1
  | 0, _, _ => rfl
  | n + 1, r, s => by
    have := turns_9 n (r + (aTurn s).1) (aTurn s).2
    rw [turn_9] at this
    show gSc (aTurns n (r + (aTurn s).1) (aTurn s).2).2 9 + r = gSc s 9 + (aTurns n (r + (aTurn s).1) (aTurn s).2).1
    grind
theorem x_turns {N : Nat} {e0 : Int32} (hN : N < 2 ^ 31) : ∀ (n k : Nat) (r : Int32) (b : Nat) (s : Sx) (x : sw_St), k ≤ N → N - k < n → RX s x → Inv b s → b + 4 * (N - k) < 2 ^ 30 → wp (f_X0_runTurns_7 n x (nI N) e0 (nI k)) (fun t => t.1 = gSc (aTurns (N - k) r s).2 9 - e0 ∧ RX (aTurns (N - k) r s).2 t.2) := by
  intro n
  induction n with
  | zero => intro k r b s x _ q; omega
  | succ n ih =>
    intro k r b s x hk hn h hI hb
    rw [f_X0_runTurns_7]
    dsimp only
    by_cases hke : k = N
    · rw [if_pos (by rw [hke]; exact nI_le (Nat.le_refl _) (by omega)), show N - k = 0 by omega]
      have h12 : x 2 12 = gSc s 9 := h.1.2.2.2.2.2.2.2.2.2.1
      exact wp_some ⟨by rw [h12]; rfl, h⟩
    · rw [if_neg (nI_ge (by omega) (by omega)), show N - k = (N - (k + 1)) + 1 by omega]
      simp only [sw_pt]
      have h8 : x 2 8 = gSc s 4 := h.1.2.2.2.2.1
      rw [h8]
      have h1 := RX_sc (v := gSc s 4 + 1) 4 (by decide) (by decide) h
      have hI1 := Inv_now (v := gSc s 4 + 1) hI
      refine wp_bindM (x_answer h1 hI1 (by omega)) (fun x2 h2 => ?_)
      have hI2 := Inv_answ hI1 (by omega)
      refine wp_bindM (x_address h2 hI2 (by omega)) (fun x3 h3 => ?_)
      rw [nI_1]
      exact ih (k + 1) (r + (aTurn s).1) (b + 4) (aTurn s).2 x3 (by omega) (by omega) h3 (Inv_turn hI (by omega)) (by omega)
theorem x_run {b : Nat} {s : Sx} {x : sw_St} {N : Nat} (hN : N < 100) (h : RX s x) (hI : Inv b s) (hb : b + 400 < 2 ^ 30) : wp (f_X0_runTurns x (nI N)) (Rx (aTurns N 0 s)) := by
  have h12 : x 2 12 = gSc s 9 := h.1.2.2.2.2.2.2.2.2.2.1
  unfold f_X0_runTurns
  rw [h12]
  refine wp_mono (x_turns (N := N) (e0 := gSc s 9) (by omega) sw_fuel 0 0 b s x (Nat.zero_le _) (by unfold sw_fuel; omega) h hI (by omega)) (fun t ht => ⟨?_, ht.2⟩)
  rw [ht.1]
  have := turns_9 N 0 s
  rw [Nat.sub_zero]
  grind
theorem x_turn {b : Nat} {s : Sx} {x : sw_St} (a : Int32) (h : RX s x) (hI : Inv b s) (hb : b + 400 < 2 ^ 30) : wp (f_X6_turn x a) (Rx (tTurn s a)) := by
  unfold f_X6_turn tTurn
  have e99 : (1 : Int32).toInt = 1 ∧ (99 : Int32).toInt = 99 := by decide
  rw [x_within, bd_s, e99.1, e99.2]
  by_cases q : 1 ≤ a.toInt ∧ a.toInt ≤ 99
  · rw [if_pos q, if_neg (by decide), if_pos q]
    obtain ⟨n, hn, rfl⟩ := ok_ex (a := a) (n := 100) ⟨by omega, by have := q.2; omega⟩ (by omega)
    rw [pn_ix (by omega)]
    exact bind_id (x_run hn h hI hb)
  · rw [if_neg q, if_pos rfl, if_neg q]
    exact wp_some ⟨rfl, h⟩
