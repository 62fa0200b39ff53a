/-! PURE: what is looked at: waiting, open -/
theorem rq_isQ {j : Nat} (hj : j < 12) : sw_isQ (sw_rq j) = true := isQ_c (c := j / 3) (r := j % 3) (by omega) (by omega) (rq_at (by omega) (by omega))
theorem rq_ne {j : Nat} : ¬ sw_rq j = 0 := by
  unfold sw_rq
  omega
theorem x_count1 {b : Nat} {s : Sx} {x : sw_St} (h : RX s x) (hI : Inv b s) : f_X0_countAt x 1 = some (nI (gAsk s).length) := by
  have hC4 := hI.1.1.2.2
  have := lp_cnt (F := fun n a k => f_X0_countAt_4 x n 1 a k) (N := 12) (P := fun j => (gAsk s).any (fun e => e 5 == nI j && true)) (fun n a => by
      rw [f_X0_countAt_4]
      dsimp only
      rw [if_pos (by decide)]) (fun n a k hk => by
      rw [f_X0_countAt_4]
      dsimp only
      rw [if_neg (ge12 hk)]
      simp (disch := omega) only [ck_tt, pn_in, pn_ix, nI_1]
      have hst := req_st1 h hI hk
      by_cases z : x (sw_rq k) 1 = 1
      · have hyes : ((gAsk s).any (fun e => e 5 == nI k && true)) = true := by
          rw [List.any_eq_true]
          obtain ⟨e, he, e0⟩ := hst.mp z
          exact ⟨e, he, by simpa using e0⟩
        simp only [if_pos z, if_pos hyes]
      · have hno : ¬ ((gAsk s).any (fun e => e 5 == nI k && true)) = true := by
          rw [List.any_eq_true]
          intro ⟨e, he, e0⟩
          exact z (hst.mpr ⟨e, he, by simpa using e0⟩)
        simp only [if_neg z, if_neg hno, Nat.add_zero]) sw_fuel 0 0 (Nat.zero_le _) (by unfold sw_fuel; omega)
  unfold f_X0_countAt
  have e2 := cn_slots (f := 5) (N := 12) (by omega) (fun _ => true) (gAsk s) hI.2.2.2.1.2.2 (ask_slot hI.2.2.2.1 hC4)
  rw [List.countP_true] at e2
  rw [Nat.zero_add, Nat.sub_zero, e2] at this
  exact this
theorem x_wAhead {b : Nat} {s : Sx} {x : sw_St} (h : RX s x) (hI : Inv b s) (hb : b < 2 ^ 30) {a : E} (ha : a ∈ gAsk s) {j : Nat} (hj : j < 12) (h5 : a 5 = nI j) : f_X0_waitingAheadOf x (sw_rq j) = some (nI (rk (kx (gOpn s)) (gAsk s) a)) := by
  have hC4 := hI.1.1.2.2
  obtain ⟨ra, era, kra⟩ := x_keyOf h hI hb ha hj h5
  have := lp_cnt (F := fun n c k => f_X0_waitingAheadOf_4 x n (sw_rq j) c k) (N := 12) (P := fun i => (gAsk s).any (fun e => e 5 == nI i && decide (kx (gOpn s) e < kx (gOpn s) a))) (fun n c => by
      rw [f_X0_waitingAheadOf_4]
      dsimp only
      rw [if_pos (by decide)]) (fun n c k hk => by
      rw [f_X0_waitingAheadOf_4]
      dsimp only
      rw [if_neg (ge12 hk)]
      simp (disch := omega) only [ck_tt, pn_in, pn_ix, nI_1]
      have hst := req_st1 h hI hk
      by_cases z : x (sw_rq k) 1 = 1
      · obtain ⟨ek, hek, ek5⟩ := hst.mp z
        obtain ⟨rk', erk, krk⟩ := x_keyOf h hI hb hek hk ek5
        rw [if_pos z, erk, bd_s, era, bd_s]
        by_cases zc : ra ≤ rk'
        · have hno : ¬ ((gAsk s).any (fun e => e 5 == nI k && decide (kx (gOpn s) e < kx (gOpn s) a))) = true := by
            rw [List.any_eq_true]
            intro ⟨e', he', e0'⟩
            simp only [Bool.and_eq_true, beq_iff_eq, decide_eq_true_eq] at e0'
            have ee := pw_inj _ hI.2.2.2.1.2.2 hek he' (by rw [ek5, e0'.1])
            rw [← ee] at e0'
            have := Int32.le_iff_toInt_le.mp zc
            omega
          simp only [if_pos zc, if_neg hno, Nat.add_zero]
        · have hyes : ((gAsk s).any (fun e => e 5 == nI k && decide (kx (gOpn s) e < kx (gOpn s) a))) = true := by
            rw [List.any_eq_true]
            refine ⟨ek, hek, ?_⟩
            simp only [Bool.and_eq_true, beq_iff_eq, decide_eq_true_eq]
            refine ⟨ek5, ?_⟩
            have : ¬ ra.toInt ≤ rk'.toInt := fun y => zc (Int32.le_iff_toInt_le.mpr y)
            omega
          simp only [if_neg zc, if_pos hyes]
      · have hno : ¬ ((gAsk s).any (fun e => e 5 == nI k && decide (kx (gOpn s) e < kx (gOpn s) a))) = true := by
          rw [List.any_eq_true]
          intro ⟨e', he', e0⟩
          simp only [Bool.and_eq_true, beq_iff_eq] at e0
          exact z (hst.mpr ⟨e', he', e0.1⟩)
        simp only [if_neg z, if_neg hno, Nat.add_zero]) sw_fuel 0 0 (Nat.zero_le _) (by unfold sw_fuel; omega)
  unfold f_X0_waitingAheadOf
  have e2 := cn_slots (f := 5) (N := 12) (by omega) (fun e => decide (kx (gOpn s) e < kx (gOpn s) a)) (gAsk s) hI.2.2.2.1.2.2 (ask_slot hI.2.2.2.1 hC4)
  rw [Nat.zero_add, Nat.sub_zero, e2] at this
  exact this
theorem x_waitingAt {b : Nat} {s : Sx} {x : sw_St} (v : Int32) (h : RX s x) (hI : Inv b s) (hb : b < 2 ^ 30) : (∃ a ∈ gAsk s, ∃ j, j < 12 ∧ a 5 = nI j ∧ nI (rk (kx (gOpn s)) (gAsk s) a) = v ∧ f_X0_waitingAt x v = some (sw_rq j)) ∨ ((∀ a ∈ gAsk s, nI (rk (kx (gOpn s)) (gAsk s) a) ≠ v) ∧ f_X0_waitingAt x v = some 0) := by
  have hC4 := hI.1.1.2.2
  have := lp_find (F := fun n k => f_X0_waitingAt_2 x n v k) (N := 12) (P := fun j => ∃ a ∈ gAsk s, a 5 = nI j ∧ nI (rk (kx (gOpn s)) (gAsk s) a) = v) (g := fun j => sw_rq j) (d := 0) (fun n => by
      rw [f_X0_waitingAt_2]
      dsimp only
      rw [if_pos (by decide)]) (fun n k hk hP => by
      obtain ⟨a, ha, y1, y2⟩ := hP
      rw [f_X0_waitingAt_2]
      dsimp only
      rw [if_neg (ge12 hk)]
      simp (disch := omega) only [ck_tt, pn_in, pn_ix]
      rw [if_pos ((req_st1 h hI hk).mpr ⟨a, ha, y1⟩), x_wAhead h hI hb ha hk y1, bd_s, if_pos y2]) (fun n k hk hP => by
      rw [f_X0_waitingAt_2]
      dsimp only
      rw [if_neg (ge12 hk), nI_1]
      simp (disch := omega) only [ck_tt, pn_in, pn_ix]
      by_cases z1 : x (sw_rq k) 1 = 1
      · obtain ⟨a, ha, y1⟩ := (req_st1 h hI hk).mp z1
        rw [if_pos z1, x_wAhead h hI hb ha hk y1, bd_s, if_neg (fun y2 => hP ⟨a, ha, y1, y2⟩)]
      · rw [if_neg z1]) sw_fuel 0 (Nat.zero_le _) (by unfold sw_fuel; omega)
  unfold f_X0_waitingAt
  rcases this with ⟨k, -, hk, ⟨e, he, y1, y2⟩, -, ef⟩ | ⟨hno, ef⟩
  · exact Or.inl ⟨e, he, k, hk, y1, y2, ef⟩
  · refine Or.inr ⟨fun e he z => ?_, ef⟩
    obtain ⟨i, hi, y⟩ := ask_slot hI.2.2.2.1 hC4 e he
    exact hno i (Nat.zero_le _) hi ⟨e, he, y, z⟩
theorem rk_eq {K : E → Int} {L : List E} (hd : L.Pairwise (fun a b => K a ≠ K b)) {a b : E} (ha : a ∈ L) (hb : b ∈ L) (h : rk K L a = rk K L b) : a = b := by
  obtain ⟨i, hi⟩ := List.getElem?_of_mem ha
  obtain ⟨j, hj⟩ := List.getElem?_of_mem hb
  have hi1 := (List.getElem?_eq_some_iff.mp hi).1
  have hj1 := (List.getElem?_eq_some_iff.mp hj).1
  have := rk_ix hd hi1 hj1 (by rw [getE_s hi, getE_s hj]; exact h)
  subst this
  rw [hi] at hj
  cases hj
  rfl
theorem lt_m1 {v : Int32} : ¬ v < -1 ↔ -1 ≤ v := by
  constructor
  · intro h
    refine Int32.le_iff_toInt_le.mpr ?_
    have : ¬ v.toInt < (-1 : Int32).toInt := fun z => h (Int32.lt_iff_toInt_lt.mpr z)
    omega
  · intro h z
    have h1 := Int32.le_iff_toInt_le.mp h
    have h2 := Int32.lt_iff_toInt_lt.mp z
    omega
theorem e_waiting {b : Nat} {s : Sx} {x y : sw_St} (h : RX s x) (hm : RM s y) (hI : Inv b s) (hb : b < 2 ^ 30) (v w : Int32) : Eqv (f_X6_waiting x v w) (f_X7_waiting y v w) := by
  have e02 : (0 : Int32).toInt = 0 ∧ (4 : Int32).toInt = 4 ∧ (0 : Int64).toInt = 0 ∧ (4 : Int64).toInt = 4 := by decide
  have hal := ask_len hI.2.2.2.1 hI.1.1.2.2
  have h18 := hm.2.2.2.2.2.1.1
  have hpl := Inv_pl hI hb
  unfold f_X6_waiting f_X7_waiting
  rw [x_within, m_in, e02.1, e02.2.1, e02.2.2.1, e02.2.2.2]
  simp only [bd_s]
  by_cases hv : v < -1
  · simp only [if_pos hv]
    exact ⟨_, rfl, rfl⟩
  · by_cases hw : 0 ≤ w.toInt ∧ w.toInt ≤ 4
    · simp only [if_neg hv, if_pos hw, if_neg n10]
      unfold f_X7_waiting_31
      rw [h18]
      by_cases v1 : v = -1
      · subst v1
        rw [if_pos rfl, if_pos (show (-1 : Int32) < 0 by decide), if_neg (show ¬ (0 : Int32) ≤ -1 by decide), x_count1 h hI, bd_s]
        exact ⟨_, rfl, rfl⟩
      · have v0 := ge0 (lt_m1.mp hv) v1
        obtain ⟨i, hi, rfl⟩ := nI_of v0
        rw [if_neg v1, if_neg v0]
        by_cases hil : i < (gAsk s).length
        · rw [if_pos (nI_lt hil (by omega))]
          have hkn := kx_ne (o := gOpn s) hpl hI.2.2.2.1.2.1
          obtain ⟨e0, he0, er0⟩ := rk_ex hkn hil
          rcases m_waitingAt hm hpl (nI i) with ⟨i', e, g1, g2, g3, g4⟩ | ⟨hno, g4⟩
          · rcases x_waitingAt (nI i) h hI hb with ⟨a, ha, j, hj, z1, z2, ef⟩ | ⟨hno, ef⟩
            · have hme := List.mem_of_getElem? g1
              have r1 := rk_len (K := kx (gOpn s)) hme
              have r2 := rk_len (K := kx (gOpn s)) ha
              have ee : a = e := rk_eq hkn ha hme ((nI_eq (by omega) (by omega)).mp (by rw [z2, g3]))
              subst ee
              obtain ⟨y0, y1, y2, y3, y4, y5⟩ := req_ask h hI ha hj z1
              have hge := getE_s g1
              have f0 := ask_fld hm g2 0 (by omega)
              have f1 := ask_fld hm g2 1 (by omega)
              have f2 := ask_fld hm g2 2 (by omega)
              have f3 := ask_fld hm g2 3 (by omega)
              have f4 := ask_fld hm g2 4 (by omega)
              rw [hge] at f0 f1 f2 f3 f4
              rw [Nat.add_zero] at f0
              rw [g4, bd_s, ef, bd_s, if_neg rq_ne, mu5]
              obtain ⟨k, hk, rfl⟩ := ok_ex (a := w) (n := 5) ⟨hw.1, by omega⟩ (by omega)
              simp only [ck_t (rq_isQ hj)]
              rw [y0, y2, y3, y4, y5, nI_1, nI_add]
              simp (disch := omega) only [ck_tt, pn_in, pn_ix]
              rw [f0, f1]
              rcases (show k = 0 ∨ k = 1 ∨ k = 2 ∨ k = 3 ∨ k = 4 by omega) with rfl | rfl | rfl | rfl | rfl
              · exact ⟨_, rfl, rfl⟩
              · exact ⟨_, rfl, rfl⟩
              · exact eqv_of rfl (congrArg some f2)
              · exact eqv_of rfl (congrArg some f3)
              · exact eqv_of rfl (congrArg some f4)
            · exact absurd (by rw [er0]) (hno e0 he0)
          · exact absurd (by rw [er0]) (hno e0 he0)
        · rw [if_neg (nI_nlt (by omega) (by omega)), if_pos (nI_pos' hi)]
          rcases x_waitingAt (nI i) h hI hb with ⟨a, ha, j, hj, z1, z2, ef⟩ | ⟨hno, ef⟩
          · have r2 := rk_len (K := kx (gOpn s)) ha
            have := (nI_eq (by omega) (by omega)).mp z2
            omega
          · rw [ef, bd_s, if_pos rfl]
            exact ⟨_, rfl, rfl⟩
    · simp only [if_neg hv, if_neg hw, if_true]
      exact ⟨_, rfl, rfl⟩
-- what is open
def l8 (a : E) : E := fun f => if f = 8 then nI (3 * sw_ix (a 1)) else a f
theorem cn_opn {b : Nat} {s : Sx} (hI : Inv b s) (p : E → Bool) (hp : ∀ a, p (l8 a) = p a) : cn (fun j => (gOpn s).any (fun a => nI (3 * sw_ix (a 1)) == nI j && p a)) 12 0 = (gOpn s).countP p := by
  have hC4 := hI.1.1.2.2
  have hcc : ∀ a ∈ gOpn s, ∃ c, c < 4 ∧ a 1 = nI c ∧ sw_ix (a 1) = c := fun a ha => by
    obtain ⟨c, _, _, q1, q2, _⟩ := hI.2.2.2.2.1.1 a ha
    exact ⟨c, by omega, q2, by rw [q2, pn_ix (by omega)]⟩
  have e2 := cn_slots (f := 8) (N := 12) (by omega) p ((gOpn s).map l8) (by
    rw [List.pairwise_map]
    refine List.Pairwise.imp_of_mem ?_ hI.2.2.2.2.1.2.1
    intro a a' ha ha' hne z
    obtain ⟨c, hc, e1, e2⟩ := hcc a ha
    obtain ⟨c', hc', e1', e2'⟩ := hcc a' ha'
    have z' : nI (3 * sw_ix (a 1)) = nI (3 * sw_ix (a' 1)) := z
    rw [e2, e2', nI_eq (by omega) (by omega)] at z'
    exact hne (by rw [e1, e1', show c = c' by omega])) (fun e he => by
    obtain ⟨a, ha, rfl⟩ := List.mem_map.mp he
    obtain ⟨c, hc, e1, e2⟩ := hcc a ha
    exact ⟨3 * c, by omega, by show nI (3 * sw_ix (a 1)) = _; rw [e2]⟩)
  rw [List.countP_map] at e2
  have e3 : (p ∘ l8) = p := by funext a; exact hp a
  rw [e3] at e2
  rw [← e2]
  refine cn_congr _ _ (fun i _ _ => ?_)
  rw [List.any_map]
  congr 1
  funext a
  show _ = (l8 a 8 == nI i && p (l8 a))
  rw [hp]
  rfl
theorem opn_rq {b : Nat} {s : Sx} (hI : Inv b s) {a : E} (ha : a ∈ gOpn s) : ∃ c, c < 4 ∧ a 1 = nI c ∧ sw_ix (a 1) = c := by
  have hC4 := hI.1.1.2.2
  obtain ⟨c, _, _, q1, q2, _⟩ := hI.2.2.2.2.1.1 a ha
  exact ⟨c, by omega, q2, by rw [q2, pn_ix (by omega)]⟩
theorem st2_any {b : Nat} {s : Sx} {x : sw_St} (h : RX s x) (hI : Inv b s) {j : Nat} (hj : j < 12) : x (sw_rq j) 1 = 2 ↔ ∃ a ∈ gOpn s, nI (3 * sw_ix (a 1)) = nI j := by
  rw [req_st2 h hI hj]
  constructor
  · intro ⟨a, ha, c, hc, e1, e2⟩
    exact ⟨a, ha, by rw [e1, pn_ix (by omega), e2]⟩
  · intro ⟨a, ha, z⟩
    obtain ⟨c, hc, e1, e2⟩ := opn_rq hI ha
    rw [e2, nI_eq (by omega) (by omega)] at z
    exact ⟨a, ha, c, hc, e1, z.symm⟩
theorem opn_same {b : Nat} {s : Sx} (hI : Inv b s) {a a' : E} (ha : a ∈ gOpn s) (ha' : a' ∈ gOpn s) (h : nI (3 * sw_ix (a 1)) = nI (3 * sw_ix (a' 1))) : a = a' := by
  obtain ⟨c, hc, e1, e2⟩ := opn_rq hI ha
  obtain ⟨c', hc', e1', e2'⟩ := opn_rq hI ha'
  rw [e2, e2', nI_eq (by omega) (by omega)] at h
  exact pw_inj _ hI.2.2.2.2.1.2.1 ha ha' (by rw [e1, e1', show c = c' by omega])
theorem x_count2 {b : Nat} {s : Sx} {x : sw_St} (h : RX s x) (hI : Inv b s) : f_X0_countAt x 2 = some (nI (gOpn s).length) := by
  have := lp_cnt (F := fun n a k => f_X0_countAt_4 x n 2 a k) (N := 12) (P := fun j => (gOpn s).any (fun a => nI (3 * sw_ix (a 1)) == nI j && true)) (fun n a => by
      rw [f_X0_countAt_4]
      dsimp only
      rw [if_pos (by decide)]) (fun n a k hk => by
      rw [f_X0_countAt_4]
      dsimp only
      rw [if_neg (ge12 hk)]
      simp (disch := omega) only [ck_tt, pn_in, pn_ix, nI_1]
      have hst := st2_any h hI hk
      by_cases z : x (sw_rq k) 1 = 2
      · have hyes : ((gOpn s).any (fun a => nI (3 * sw_ix (a 1)) == nI k && true)) = true := by
          rw [List.any_eq_true]
          obtain ⟨e, he, e0⟩ := hst.mp z
          exact ⟨e, he, by simpa using e0⟩
        simp only [if_pos z, if_pos hyes]
      · have hno : ¬ ((gOpn s).any (fun a => nI (3 * sw_ix (a 1)) == nI k && true)) = true := by
          rw [List.any_eq_true]
          intro ⟨e, he, e0⟩
          exact z (hst.mpr ⟨e, he, by simpa using e0⟩)
        simp only [if_neg z, if_neg hno, Nat.add_zero]) sw_fuel 0 0 (Nat.zero_le _) (by unfold sw_fuel; omega)
  unfold f_X0_countAt
  have e2 := cn_opn hI (fun _ => true) (fun _ => rfl)
  rw [List.countP_true] at e2
  rw [Nat.zero_add, Nat.sub_zero, e2] at this
  exact this
abbrev k7 : E → Int := fun e => (e 7).toInt
theorem rq_st {c : Nat} : sw_rq (3 * c) = 14 + 9 * c := rq_at (r := 0) rfl (by omega)
theorem x_oAhead {b : Nat} {s : Sx} {x : sw_St} (h : RX s x) (hI : Inv b s) {a : E} (ha : a ∈ gOpn s) {c : Nat} (hc : c < 4) (h1 : a 1 = nI c) : f_X0_openAheadOf x (14 + 9 * c) = some (nI (rk k7 (gOpn s) a)) := by
  have hra := req_opn h ha hc h1
  have := lp_cnt (F := fun n m k => f_X0_openAheadOf_4 x n (14 + 9 * c) m k) (N := 12) (P := fun j => (gOpn s).any (fun e => nI (3 * sw_ix (e 1)) == nI j && decide (k7 e < k7 a))) (fun n m => by
      rw [f_X0_openAheadOf_4]
      dsimp only
      rw [if_pos (by decide)]) (fun n m k hk => by
      rw [f_X0_openAheadOf_4]
      dsimp only
      rw [if_neg (ge12 hk), ck_t (isQ_c hc (r := 0) (by omega) (by omega))]
      simp (disch := omega) only [ck_tt, pn_in, pn_ix, nI_1]
      rw [hra.2.2.2.2.2.2.2.1]
      have hst := st2_any h hI hk
      by_cases z : x (sw_rq k) 1 = 2
      · obtain ⟨ek, hek, ek5⟩ := hst.mp z
        obtain ⟨c', hc', e1', e2'⟩ := opn_rq hI hek
        have ekk : k = 3 * c' := by
          rw [e2', nI_eq (by omega) (by omega)] at ek5
          exact ek5.symm
        have hk8 : x (sw_rq k) 8 = ek 7 := by
          rw [ekk, rq_st]
          exact (req_opn h hek hc' e1').2.2.2.2.2.2.2.1
        rw [if_pos z, hk8]
        by_cases zc : a 7 ≤ ek 7
        · have hno : ¬ ((gOpn s).any (fun e => nI (3 * sw_ix (e 1)) == nI k && decide (k7 e < k7 a))) = true := by
            rw [List.any_eq_true]
            intro ⟨e', he', e0'⟩
            simp only [Bool.and_eq_true, beq_iff_eq, decide_eq_true_eq] at e0'
            have ee := opn_same hI hek he' (by rw [ek5, e0'.1])
            rw [← ee] at e0'
            have e7 : (ek 7).toInt < (a 7).toInt := e0'.2
            have := Int32.le_iff_toInt_le.mp zc
            omega
          simp only [if_pos zc, if_neg hno, Nat.add_zero]
        · have hyes : ((gOpn s).any (fun e => nI (3 * sw_ix (e 1)) == nI k && decide (k7 e < k7 a))) = true := by
            rw [List.any_eq_true]
            refine ⟨ek, hek, ?_⟩
            simp only [Bool.and_eq_true, beq_iff_eq, decide_eq_true_eq]
            refine ⟨ek5, ?_⟩
            have : ¬ (a 7).toInt ≤ (ek 7).toInt := fun y => zc (Int32.le_iff_toInt_le.mpr y)
            show (ek 7).toInt < (a 7).toInt
            omega
          simp only [if_neg zc, if_pos hyes]
      · have hno : ¬ ((gOpn s).any (fun e => nI (3 * sw_ix (e 1)) == nI k && decide (k7 e < k7 a))) = true := by
          rw [List.any_eq_true]
          intro ⟨e', he', e0⟩
          simp only [Bool.and_eq_true, beq_iff_eq] at e0
          exact z (hst.mpr ⟨e', he', e0.1⟩)
        simp only [if_neg z, if_neg hno, Nat.add_zero]) sw_fuel 0 0 (Nat.zero_le _) (by unfold sw_fuel; omega)
  unfold f_X0_openAheadOf
  have e2 := cn_opn hI (fun e => decide (k7 e < k7 a)) (fun _ => rfl)
  rw [Nat.zero_add, Nat.sub_zero, e2] at this
  exact this
theorem x_openAt {b : Nat} {s : Sx} {x : sw_St} (v : Int32) (h : RX s x) (hI : Inv b s) : (∃ a ∈ gOpn s, ∃ c, c < 4 ∧ a 1 = nI c ∧ nI (rk k7 (gOpn s) a) = v ∧ f_X0_openAt x v = some (14 + 9 * c)) ∨ ((∀ a ∈ gOpn s, nI (rk k7 (gOpn s) a) ≠ v) ∧ f_X0_openAt x v = some 0) := by
  have at_ : ∀ k, k < 12 → ∀ a ∈ gOpn s, nI (3 * sw_ix (a 1)) = nI k → ∃ c, c < 4 ∧ a 1 = nI c ∧ k = 3 * c ∧ sw_rq k = 14 + 9 * c := fun k hk a ha z => by
    obtain ⟨c, hc, e1, e2⟩ := opn_rq hI ha
    rw [e2, nI_eq (by omega) (by omega)] at z
    exact ⟨c, hc, e1, z.symm, by rw [← z, rq_st]⟩
  have := lp_find (F := fun n k => f_X0_openAt_2 x n v k) (N := 12) (P := fun j => ∃ a ∈ gOpn s, nI (3 * sw_ix (a 1)) = nI j ∧ nI (rk k7 (gOpn s) a) = v) (g := fun j => sw_rq j) (d := 0) (fun n => by
      rw [f_X0_openAt_2]
      dsimp only
      rw [if_pos (by decide)]) (fun n k hk hP => by
      obtain ⟨a, ha, y1, y2⟩ := hP
      obtain ⟨c, hc, e1, e2, e3⟩ := at_ k hk a ha y1
      rw [f_X0_openAt_2]
      dsimp only
      rw [if_neg (ge12 hk)]
      simp (disch := omega) only [ck_tt, pn_in, pn_ix]
      rw [if_pos ((st2_any h hI hk).mpr ⟨a, ha, y1⟩), e3, x_oAhead h hI ha hc e1, bd_s, if_pos y2]) (fun n k hk hP => by
      rw [f_X0_openAt_2]
      dsimp only
      rw [if_neg (ge12 hk), nI_1]
      simp (disch := omega) only [ck_tt, pn_in, pn_ix]
      by_cases z1 : x (sw_rq k) 1 = 2
      · obtain ⟨a, ha, y1⟩ := (st2_any h hI hk).mp z1
        obtain ⟨c, hc, e1, e2, e3⟩ := at_ k hk a ha y1
        rw [if_pos z1, e3, x_oAhead h hI ha hc e1, bd_s, if_neg (fun y2 => hP ⟨a, ha, y1, y2⟩)]
      · rw [if_neg z1]) sw_fuel 0 (Nat.zero_le _) (by unfold sw_fuel; omega)
  unfold f_X0_openAt
  rcases this with ⟨k, -, hk, ⟨e, he, y1, y2⟩, -, ef⟩ | ⟨hno, ef⟩
  · obtain ⟨c, hc, e1, e2, e3⟩ := at_ k hk e he y1
    exact Or.inl ⟨e, he, c, hc, e1, y2, by rw [← e3]; exact ef⟩
  · refine Or.inr ⟨fun e he z => ?_, ef⟩
    obtain ⟨c, hc, e1, e2⟩ := opn_rq hI he
    exact hno (3 * c) (Nat.zero_le _) (by omega) ⟨e, he, by rw [e2], z⟩
theorem e_open {b : Nat} {s : Sx} {x y : sw_St} (h : RX s x) (hm : RM s y) (hI : Inv b s) (v w : Int32) : Eqv (f_X6_open x v w) (f_X7_open y v w) := by
  have e02 : (0 : Int32).toInt = 0 ∧ (4 : Int32).toInt = 4 ∧ (0 : Int64).toInt = 0 ∧ (4 : Int64).toInt = 4 := by decide
  have hol := opn_len hI
  have h21 := hm.2.2.2.2.2.2.1.1
  have hup : (gOpn s).Pairwise (fun a b => k7 a < k7 b) := hI.2.2.2.2.1.2.2.2
  have hne : (gOpn s).Pairwise (fun a b => k7 a ≠ k7 b) := hup.imp (fun z q => by omega)
  unfold f_X6_open f_X7_open
  rw [x_within, m_in, e02.1, e02.2.1, e02.2.2.1, e02.2.2.2]
  simp only [bd_s]
  by_cases hv : v < -1
  · simp only [if_pos hv]
    exact ⟨_, rfl, rfl⟩
  · by_cases hw : 0 ≤ w.toInt ∧ w.toInt ≤ 4
    · simp only [if_neg hv, if_pos hw, if_neg n10]
      unfold f_X7_open_31
      rw [h21]
      by_cases v1 : v = -1
      · subst v1
        rw [if_pos rfl, if_pos (show (-1 : Int32) < 0 by decide), if_neg (show ¬ (0 : Int32) ≤ -1 by decide), x_count2 h hI, bd_s]
        exact ⟨_, rfl, rfl⟩
      · have v0 := ge0 (lt_m1.mp hv) v1
        obtain ⟨i, hi, rfl⟩ := nI_of v0
        rw [if_neg v1, if_neg v0]
        by_cases hil : i < (gOpn s).length
        · rw [if_pos (nI_lt hil (by omega))]
          have hg := getE_t hil
          have hme := List.mem_of_getElem? hg
          have hrk := rk_up (K := k7) _ i _ hup hg
          rcases x_openAt (nI i) h hI with ⟨a, ha, c, hc, z1, z2, ef⟩ | ⟨hno, ef⟩
          · have r2 := rk_len (K := k7) ha
            have ee : a = getE (gOpn s) i := rk_eq hne ha hme (by rw [hrk]; exact (nI_eq (by omega) (by omega)).mp z2)
            obtain ⟨y0, y1, y2, y3, y9, y10, _⟩ := req_opn h ha hc z1
            have f0 := opn_fld hm hil 0 (by omega)
            have f1 := opn_fld hm hil 1 (by omega)
            have f2 := opn_fld hm hil 2 (by omega)
            have f3 := opn_fld hm hil 3 (by omega)
            have f4 := opn_fld hm hil 4 (by omega)
            rw [← ee] at f0 f1 f2 f3 f4
            rw [Nat.add_zero] at f0
            rw [ef, bd_s, if_neg (show ¬ 14 + 9 * c = 0 by omega), mu7]
            obtain ⟨k, hk, rfl⟩ := ok_ex (a := w) (n := 5) ⟨hw.1, by omega⟩ (by omega)
            simp only [ck_t (isQ_c (q := 14 + 9 * c) hc (r := 0) (by omega) (by omega))]
            rw [y0, y2, y3, y9, y10, nI_1, nI_add]
            simp (disch := omega) only [ck_tt, pn_in, pn_ix]
            rw [f0, f1]
            rcases (show k = 0 ∨ k = 1 ∨ k = 2 ∨ k = 3 ∨ k = 4 by omega) with rfl | rfl | rfl | rfl | rfl
            · exact ⟨_, rfl, rfl⟩
            · exact ⟨_, rfl, rfl⟩
            · exact eqv_of rfl (congrArg some f2)
            · exact eqv_of rfl (congrArg some f3)
            · exact eqv_of rfl (congrArg some f4)
          · exact absurd (by rw [hrk]) (hno _ hme)
        · rw [if_neg (nI_nlt (by omega) (by omega)), if_pos (nI_pos' hi)]
          rcases x_openAt (nI i) h hI with ⟨a, ha, c, hc, z1, z2, ef⟩ | ⟨hno, ef⟩
          · have r2 := rk_len (K := k7) ha
            have := (nI_eq (by omega) (by omega)).mp z2
            omega
          · rw [ef, bd_s, if_pos rfl]
            exact ⟨_, rfl, rfl⟩
    · simp only [if_neg hv, if_neg hw, if_true]
      exact ⟨_, rfl, rfl⟩
