/-! PURE: what is looked at, the same in both: memory, count, cached, buffered -/
def Eqv (o1 o2 : Option Int32) : Prop := ∃ r, o1 = some r ∧ o2 = some r
theorem eqv_of {o1 o2 : Option Int32} {r : Int32} (h1 : o1 = some r) (h2 : o2 = some r) : Eqv o1 o2 := ⟨r, h1, h2⟩
theorem n10 : ¬ (1 : Int32) = 0 := by decide
theorem e_memory {s : Sx} {x y : sw_St} (h : RX s x) (hm : RM s y) (a : Int32) : Eqv (f_X6_memory x a) (f_X7_memory y a) := by
  unfold f_X6_memory f_X7_memory
  rw [x_line, m_isLine, bd_s, bd_s]
  by_cases hl : okL a
  · obtain ⟨l, hl8, rfl⟩ := okL_ex hl
    simp only [if_pos hl, if_neg n10]
    simp (disch := omega) only [ck_tt, pn_in, pn_ix]
    exact eqv_of (congrArg some (h.2.1 l hl8)) (congrArg some (hm.2.1 l hl8))
  · simp only [if_neg hl, if_true]
    exact ⟨_, rfl, rfl⟩
theorem e_count {s : Sx} {x y : sw_St} (h : RX s x) (hm : RM s y) (ht : x 44 2 = y 1 29) (a : Int32) : Eqv (f_X6_count x a) (f_X7_count y a) := by
  obtain ⟨a0, a1, a2, a3, a4, a5, a6, a7, a8, a9, a10⟩ := h.1
  obtain ⟨b0, b1, b2, b3, b4, b5, b6, b7, b8, b9, b10⟩ := hm.1
  unfold f_X6_count f_X7_count
  rw [a0, a1, a2, a3, a4, a6, a7, a8, a9, a10, ht, b0, b1, b2, b3, b4, b6, b7, b8, b9, b10]
  by_cases z0 : a = 0
  · simp only [if_pos z0]; exact ⟨_, rfl, rfl⟩
  by_cases z1 : a = 1
  · simp only [if_neg z0, if_pos z1]; exact ⟨_, rfl, rfl⟩
  by_cases z2 : a = 2
  · simp only [if_neg z0, if_neg z1, if_pos z2]; exact ⟨_, rfl, rfl⟩
  by_cases z3 : a = 3
  · simp only [if_neg z0, if_neg z1, if_neg z2, if_pos z3]; exact ⟨_, rfl, rfl⟩
  by_cases z4 : a = 4
  · simp only [if_neg z0, if_neg z1, if_neg z2, if_neg z3, if_pos z4]; exact ⟨_, rfl, rfl⟩
  by_cases z5 : a = 5
  · simp only [if_neg z0, if_neg z1, if_neg z2, if_neg z3, if_neg z4, if_pos z5]; exact ⟨_, rfl, rfl⟩
  by_cases z6 : a = 6
  · simp only [if_neg z0, if_neg z1, if_neg z2, if_neg z3, if_neg z4, if_neg z5, if_pos z6]; exact ⟨_, rfl, rfl⟩
  by_cases z7 : a = 7
  · simp only [if_neg z0, if_neg z1, if_neg z2, if_neg z3, if_neg z4, if_neg z5, if_neg z6, if_pos z7]; exact ⟨_, rfl, rfl⟩
  by_cases z8 : a = 8
  · simp only [if_neg z0, if_neg z1, if_neg z2, if_neg z3, if_neg z4, if_neg z5, if_neg z6, if_neg z7, if_pos z8]; exact ⟨_, rfl, rfl⟩
  by_cases z9 : a = 9
  · simp only [if_neg z0, if_neg z1, if_neg z2, if_neg z3, if_neg z4, if_neg z5, if_neg z6, if_neg z7, if_neg z8, if_pos z9]; exact ⟨_, rfl, rfl⟩
  by_cases z10 : a = 10
  · simp only [if_neg z0, if_neg z1, if_neg z2, if_neg z3, if_neg z4, if_neg z5, if_neg z6, if_neg z7, if_neg z8, if_neg z9, if_pos z10]; exact ⟨_, rfl, rfl⟩
  · simp only [if_neg z0, if_neg z1, if_neg z2, if_neg z3, if_neg z4, if_neg z5, if_neg z6, if_neg z7, if_neg z8, if_neg z9, if_neg z10]; exact ⟨_, rfl, rfl⟩
theorem cnt_up : ∀ (L : List E) (i : Nat) (e : E), L.Pairwise (fun a b => (a 3).toInt < (b 3).toInt) → L[i]? = some e → L.countP (fun x => decide ((e 3).toInt < (x 3).toInt)) = L.length - 1 - i
  | [], i, e, _, h => by simp at h
  | a :: L, 0, e, hp, h => by
    have ea : a = e := by simpa using h
    subst ea
    have hp1 := (List.pairwise_cons.mp hp).1
    have e1 : L.countP (fun x => decide ((a 3).toInt < (x 3).toInt)) = L.length := List.countP_eq_length.mpr (fun x hx => by simpa using hp1 x hx)
    rw [List.countP_cons, e1]
    simp
  | a :: L, i + 1, e, hp, h => by
    obtain ⟨hp1, hp2⟩ := List.pairwise_cons.mp hp
    have h' : L[i]? = some e := by simpa using h
    have hlt := hp1 e (List.mem_of_getElem? h')
    have hn : ¬ (decide ((e 3).toInt < (a 3).toInt)) = true := by
      simp only [decide_eq_true_eq]
      omega
    rw [List.countP_cons, cnt_up L i e hp2 h', if_neg hn]
    have := (List.getElem?_eq_some_iff.mp h').1
    simp only [List.length_cons]
    omega
theorem x_usedLater {x : sw_St} {c q K u l i : Nat} {L : List E} {v : Int32} {e : E} (hc : c < 4) (hq : q = 9 + 9 * c) (h : cacheX x c L v) (hr : rowOk K u L) (hl : l < 8) (he : L[i]? = some e) (e0 : e 0 = nI l) : f_X1_usedLater x q (nI l) = some (nI (L.length - 1 - i)) := by
  have e1 : q + 1 = 10 + 9 * c := by omega
  have e3 : q + 3 = 12 + 9 * c := by omega
  have ul := (h.2.1 e (List.mem_of_getElem? he) l hl e0).2
  have := lp_cnt (F := fun n a k => f_X1_usedLater_4 x n q (nI l) a k) (N := 8) (P := fun j => L.any (fun e' => e' 0 == nI j && decide ((e 3).toInt < (e' 3).toInt))) (fun n a => by
      rw [f_X1_usedLater_4]
      dsimp only
      rw [if_pos (by decide)]) (fun n a k hk => by
      rw [f_X1_usedLater_4]
      dsimp only
      rw [if_neg (ge8 hk), ck_t (isK_c hc hq)]
      simp (disch := omega) only [ck_tt, pn_in, pn_ix, nI_1]
      rw [e1, e3, h.1 k hk, ul]
      have hn := how_ne (l := nI k) (row_hh hr) hr.2.1
      by_cases z : howR L (nI k) = 0
      · have hno : ¬ (L.any (fun e' => e' 0 == nI k && decide ((e 3).toInt < (e' 3).toInt))) = true := by
          rw [List.any_eq_true]
          intro ⟨e', he', e0'⟩
          simp only [Bool.and_eq_true, beq_iff_eq] at e0'
          exact hn.mpr ⟨e', he', e0'.1⟩ z
        simp only [if_pos z, if_neg hno, Nat.add_zero]
      · obtain ⟨ek, hek, ek0⟩ := hn.mp z
        have uk := (h.2.1 ek hek k hk ek0).2
        rw [if_neg z, uk]
        by_cases zc : ek 3 ≤ e 3
        · have hno : ¬ (L.any (fun e' => e' 0 == nI k && decide ((e 3).toInt < (e' 3).toInt))) = true := by
            rw [List.any_eq_true]
            intro ⟨e', he', e0'⟩
            simp only [Bool.and_eq_true, beq_iff_eq, decide_eq_true_eq] at e0'
            have ee := pw_inj L hr.2.1 hek he' (by rw [ek0, e0'.1])
            rw [← ee] at e0'
            have := Int32.le_iff_toInt_le.mp zc
            omega
          simp only [if_pos zc, if_neg hno, Nat.add_zero]
        · have hyes : (L.any (fun e' => e' 0 == nI k && decide ((e 3).toInt < (e' 3).toInt))) = true := by
            rw [List.any_eq_true]
            refine ⟨ek, hek, ?_⟩
            simp only [Bool.and_eq_true, beq_iff_eq, decide_eq_true_eq]
            refine ⟨ek0, ?_⟩
            have : ¬ (ek 3).toInt ≤ (e 3).toInt := fun y => zc (Int32.le_iff_toInt_le.mpr y)
            omega
          simp only [if_neg zc, if_pos hyes]) sw_fuel 0 0 (Nat.zero_le _) (by unfold sw_fuel; omega)
  unfold f_X1_usedLater
  have e2 := cn_slots (f := 0) (N := 8) (by omega) (fun e' => decide ((e 3).toInt < (e' 3).toInt)) L hr.2.1 (fun e he => (hr.1 e he).1)
  rw [cnt_up L i e hr.2.2.1 he] at e2
  rw [Nat.zero_add, Nat.sub_zero, e2] at this
  exact this
theorem e_cached {b : Nat} {s : Sx} {x y : sw_St} (h : RX s x) (hm : RM s y) (hI : Inv b s) (a l w : Int32) : Eqv (f_X6_cached x a l w) (f_X7_cached y a l w) := by
  obtain ⟨hC, hC2, hC4⟩ := hI.1.1
  have e02 : (0 : Int32).toInt = 0 ∧ (2 : Int32).toInt = 2 ∧ (0 : Int64).toInt = 0 ∧ (2 : Int64).toInt = 2 := by decide
  unfold f_X6_cached f_X7_cached
  rw [x_core h hC hC2 hC4, m_isCore hm hC hC2 hC4, x_line, m_isLine, x_within, m_in, e02.1, e02.2.1, e02.2.2.1, e02.2.2.2]
  simp only [bd_s]
  by_cases hc : okC s a
  · by_cases hl : okL l
    · by_cases hw : 0 ≤ w.toInt ∧ w.toInt ≤ 2
      · simp only [if_pos hc, if_pos hl, if_pos hw, if_neg n10]
        obtain ⟨c, hcC, rfl⟩ := okC_ex hC hC4 hc
        obtain ⟨l, hl8, rfl⟩ := okL_ex hl
        have hc4 : c < 4 := by omega
        have hcx := h.2.2.1 c hc4
        have hrow := hm.2.2.1 c hc4
        simp (disch := omega) only [ck_tt, pn_in, pn_ix]
        rw [show 8 + 9 * c + 1 + 1 = 10 + 9 * c by omega, show 8 + 9 * c + 1 + 2 = 11 + 9 * c by omega, hcx.1 l hl8]
        by_cases w0 : w = 0
        · rw [m_at _ hc4 hrow, bd_s]
          unfold f_X7_cached_48
          rw [m_howOf _ hc4 hrow, bd_s]
          simp only [if_pos w0]
          exact ⟨_, rfl, rfl⟩
        · simp only [if_neg w0]
          cases hx : ixf (gRow s c) 0 (nI l) with
          | none =>
            have h0 : howR (gRow s c) (nI l) = 0 := (how_0 (Inv_Hows hI c hc4)).mpr hx
            rw [m_at0 hc4 hrow hx, bd_s, if_pos (show (-4 : Int32) = -4 from rfl), if_pos h0]
            unfold f_X7_cached_48
            rw [if_neg w0]
            exact ⟨_, rfl, rfl⟩
          | some k =>
            obtain ⟨e, g1, g2, g3⟩ := ixf_some hx
            have hr2 := hrow.2.1
            have hmm := List.mem_of_getElem? g1
            have hne : howR (gRow s c) (nI l) ≠ 0 := (how_ne (Inv_Hows hI c hc4) (pw0 hI hc4)).mpr ⟨e, hmm, g2⟩
            rw [m_at1 hc4 hrow hx, bd_s, if_neg (show ¬ nI (4 * c + k) = -4 from pn_neg (by omega)), if_neg hne]
            by_cases w1 : w = 1
            · simp only [if_pos w1]
              simp (disch := omega) only [ck_tt, pn_in, pn_ix]
              exact eqv_of (congrArg some (hcx.2.1 e hmm l hl8 g2).1) (congrArg some (hrow.2.2 k e g1).2.1)
            · simp only [if_neg w1]
              rw [x_usedLater hc4 (by omega) hcx (hI.2.1 c hc4).1 hl8 g1 g2, bd_s, hrow.1]
              rw [mu4, nI_add, nl_1, pn_sub (by omega), pn_sub (by omega), show 4 * c + (gRow s c).length - 1 - (4 * c + k) = (gRow s c).length - 1 - k by omega]
              exact ⟨_, rfl, rfl⟩
      · simp only [if_pos hc, if_pos hl, if_neg hw, if_neg n10, if_true]
        exact ⟨_, rfl, rfl⟩
    · simp only [if_pos hc, if_neg hl, if_neg n10, if_true]
      exact ⟨_, rfl, rfl⟩
  · simp only [if_neg hc, if_true]
    exact ⟨_, rfl, rfl⟩
/-- whether a place of a buffer is taken -/
theorem bk_st {x : sw_St} {c i : Nat} {A B : List E} (h : bkX x c i A B) : x (15 + 9 * c + i) 1 = 1 ↔ ∃ e ∈ B, e 2 = nI i := by
  constructor
  · intro z
    apply Classical.byContradiction
    intro hn
    have := h.2.2.2 (fun e he y => hn ⟨e, he, y⟩)
    rw [z] at this
    exact absurd this (by decide)
  · intro ⟨e, he, y⟩
    exact (h.2.1 e he y).1
theorem x_bufferSize {x : sw_St} {c q : Nat} {A B : List E} (hc : c < 4) (hq : q = 8 + 9 * c) (h : ∀ i, i < 2 → bkX x c i A B) (hs : ∀ e ∈ B, ∃ i, i < 2 ∧ e 2 = nI i) (hp : B.Pairwise (fun a b => a 2 ≠ b 2)) : f_X2_bufferSize x q = some (nI B.length) := by
  have := lp_cnt (F := fun n a k => f_X2_bufferSize_4 x n q a k) (N := 2) (P := fun i => B.any (fun e => e 2 == nI i && true)) (fun n a => by
      rw [f_X2_bufferSize_4]
      dsimp only
      rw [if_pos (by decide)]) (fun n a k hk => by
      rw [f_X2_bufferSize_4]
      dsimp only
      rw [if_neg (ge2 hk), ck_t (isC_c hc hq)]
      simp (disch := omega) only [ck_tt, pn_in, pn_ix, nI_1]
      rw [show q + 7 + k = 15 + 9 * c + k by omega]
      have hst := bk_st (h k hk)
      by_cases z : x (15 + 9 * c + k) 1 = 1
      · have hyes : (B.any (fun e => e 2 == nI k && true)) = true := by
          rw [List.any_eq_true]
          obtain ⟨e, he, e0⟩ := hst.mp z
          exact ⟨e, he, by simpa using e0⟩
        simp only [if_pos z, if_pos hyes]
      · have hno : ¬ (B.any (fun e => e 2 == nI k && true)) = true := by
          rw [List.any_eq_true]
          intro ⟨e, he, e0⟩
          exact z (hst.mpr ⟨e, he, by simpa using e0⟩)
        simp only [if_neg z, if_neg hno, Nat.add_zero]) sw_fuel 0 0 (Nat.zero_le _) (by unfold sw_fuel; omega)
  unfold f_X2_bufferSize
  have e2 := cn_slots (f := 2) (N := 2) (by omega) (fun _ => true) B hp hs
  rw [List.countP_true] at e2
  rw [Nat.zero_add, Nat.sub_zero, e2] at this
  exact this
abbrev k3 : E → Int := fun e => (e 3).toInt
theorem x_earlier {x : sw_St} {c q : Nat} {A B : List E} {e : E} (hc : c < 4) (hq : q = 8 + 9 * c) (h : ∀ i, i < 2 → bkX x c i A B) (hs : ∀ e ∈ B, ∃ i, i < 2 ∧ e 2 = nI i) (hp : B.Pairwise (fun a b => a 2 ≠ b 2)) : f_X2_earlierBacks x q (e 3) = some (nI (rk k3 B e)) := by
  have := lp_cnt (F := fun n a k => f_X2_earlierBacks_4 x n q (e 3) a k) (N := 2) (P := fun i => B.any (fun e' => e' 2 == nI i && decide (k3 e' < k3 e))) (fun n a => by
      rw [f_X2_earlierBacks_4]
      dsimp only
      rw [if_pos (by decide)]) (fun n a k hk => by
      rw [f_X2_earlierBacks_4]
      dsimp only
      rw [if_neg (ge2 hk), ck_t (isC_c hc hq)]
      simp (disch := omega) only [ck_tt, pn_in, pn_ix, nI_1]
      rw [show q + 7 + k = 15 + 9 * c + k by omega]
      have hst := bk_st (h k hk)
      by_cases z : x (15 + 9 * c + k) 1 = 1
      · obtain ⟨ek, hek, ek0⟩ := hst.mp z
        rw [if_pos z, ((h k hk).2.1 ek hek ek0).2.2.2.2]
        by_cases zc : e 3 ≤ ek 3
        · have hno : ¬ (B.any (fun e' => e' 2 == nI k && decide (k3 e' < k3 e))) = true := by
            rw [List.any_eq_true]
            intro ⟨e', he', e0'⟩
            simp only [Bool.and_eq_true, beq_iff_eq, decide_eq_true_eq] at e0'
            have ee := pw_inj B hp hek he' (by rw [ek0, e0'.1])
            rw [← ee] at e0'
            have e7 : (ek 3).toInt < (e 3).toInt := e0'.2
            have := Int32.le_iff_toInt_le.mp zc
            omega
          simp only [if_pos zc, if_neg hno, Nat.add_zero]
        · have hyes : (B.any (fun e' => e' 2 == nI k && decide (k3 e' < k3 e))) = true := by
            rw [List.any_eq_true]
            refine ⟨ek, hek, ?_⟩
            simp only [Bool.and_eq_true, beq_iff_eq, decide_eq_true_eq]
            refine ⟨ek0, ?_⟩
            have : ¬ (e 3).toInt ≤ (ek 3).toInt := fun y => zc (Int32.le_iff_toInt_le.mpr y)
            show (ek 3).toInt < (e 3).toInt
            omega
          simp only [if_neg zc, if_pos hyes]
      · have hno : ¬ (B.any (fun e' => e' 2 == nI k && decide (k3 e' < k3 e))) = true := by
          rw [List.any_eq_true]
          intro ⟨e', he', e0⟩
          simp only [Bool.and_eq_true, beq_iff_eq] at e0
          exact z (hst.mpr ⟨e', he', e0.1⟩)
        simp only [if_neg z, if_neg hno, Nat.add_zero]) sw_fuel 0 0 (Nat.zero_le _) (by unfold sw_fuel; omega)
  unfold f_X2_earlierBacks
  have e2 := cn_slots (f := 2) (N := 2) (by omega) (fun e' => decide (k3 e' < k3 e)) B hp hs
  rw [Nat.zero_add, Nat.sub_zero, e2] at this
  exact this
theorem x_backAt {x : sw_St} {c q : Nat} {A B : List E} (v : Int32) (hc : c < 4) (hq : q = 8 + 9 * c) (h : ∀ i, i < 2 → bkX x c i A B) (hs : ∀ e ∈ B, ∃ i, i < 2 ∧ e 2 = nI i) (hp : B.Pairwise (fun a b => a 2 ≠ b 2)) : (∃ e ∈ B, ∃ i, i < 2 ∧ e 2 = nI i ∧ nI (rk k3 B e) = v ∧ f_X2_backAt x q v = some (15 + 9 * c + i)) ∨ ((∀ e ∈ B, nI (rk k3 B e) ≠ v) ∧ f_X2_backAt x q v = some 0) := by
  have step : ∀ n i, i < 2 → f_X2_backAt_2 x (n + 1) q v (nI i) = if x (15 + 9 * c + i) 1 = 1 then ((f_X2_earlierBacks x q (x (15 + 9 * c + i) 6)).bind fun r3 => (if r3 = v then some (15 + 9 * c + i) else f_X2_backAt_2 x n q v (nI (i + 1)))) else f_X2_backAt_2 x n q v (nI (i + 1)) := fun n i hi => by
    rw [f_X2_backAt_2]
    dsimp only
    rw [if_neg (ge2 hi), ck_t (isC_c hc hq), ck_t (pn_in (by omega) (by omega)), pn_ix (by omega), nI_1, show q + 7 + i = 15 + 9 * c + i by omega]
  have := lp_find (F := fun n k => f_X2_backAt_2 x n q v k) (N := 2) (P := fun i => ∃ e ∈ B, e 2 = nI i ∧ nI (rk k3 B e) = v) (g := fun i => 15 + 9 * c + i) (d := 0) (fun n => by
      rw [f_X2_backAt_2]
      dsimp only
      rw [if_pos (by decide)]) (fun n k hk hP => by
      obtain ⟨e, he, y1, y2⟩ := hP
      have hb := (h k hk).2.1 e he y1
      rw [step n k hk, if_pos hb.1, hb.2.2.2.2, x_earlier hc hq h hs hp, bd_s, if_pos y2]) (fun n k hk hP => by
      rw [step n k hk]
      by_cases z1 : x (15 + 9 * c + k) 1 = 1
      · obtain ⟨e, he, y1⟩ := (bk_st (h k hk)).mp z1
        have hb := (h k hk).2.1 e he y1
        rw [if_pos z1, hb.2.2.2.2, x_earlier hc hq h hs hp, bd_s, if_neg (fun y2 => hP ⟨e, he, y1, y2⟩)]
      · rw [if_neg z1]) sw_fuel 0 (Nat.zero_le _) (by unfold sw_fuel; omega)
  unfold f_X2_backAt
  rcases this with ⟨k, -, hk, ⟨e, he, y1, y2⟩, -, ef⟩ | ⟨hno, ef⟩
  · exact Or.inl ⟨e, he, k, hk, y1, y2, ef⟩
  · refine Or.inr ⟨fun e he z => ?_, ef⟩
    obtain ⟨i, hi, y⟩ := hs e he
    exact hno i (Nat.zero_le _) hi ⟨e, he, y, z⟩
theorem e_buffered {b : Nat} {s : Sx} {x y : sw_St} (h : RX s x) (hm : RM s y) (hI : Inv b s) (a v w : Int32) : Eqv (f_X6_buffered x a v w) (f_X7_buffered y a v w) := by
  obtain ⟨hC, hC2, hC4⟩ := hI.1.1
  have e02 : (0 : Int32).toInt = 0 ∧ (1 : Int32).toInt = 1 ∧ (0 : Int64).toInt = 0 ∧ (1 : Int64).toInt = 1 := by decide
  unfold f_X6_buffered f_X7_buffered
  rw [x_core h hC hC2 hC4, m_isCore hm hC hC2 hC4, x_within, m_in, e02.1, e02.2.1, e02.2.2.1, e02.2.2.2]
  simp only [bd_s]
  by_cases hc : okC s a
  · by_cases hv : v < -1
    · simp only [if_pos hc, if_pos hv, if_neg n10]
      exact ⟨_, rfl, rfl⟩
    · by_cases hw : 0 ≤ w.toInt ∧ w.toInt ≤ 1
      · simp only [if_pos hc, if_neg hv, if_pos hw, if_neg n10]
        obtain ⟨c, hcC, rfl⟩ := okC_ex hC hC4 hc
        have hc4 : c < 4 := by omega
        have hbx : ∀ i, i < 2 → bkX x c i (gAsk s) (gBuf s c) := fun i hi => h.2.2.2.2.1 c i hc4 hi
        have hsl := buf_sl hI hc4
        obtain ⟨⟨b1, b2, b3, b4, b5⟩, b6⟩ := hI.2.2.1 c hc4
        have hbm := hm.2.2.2.1 c hc4
        simp (disch := omega) only [ck_tt, pn_in, pn_ix]
        by_cases hv1 : v = -1
        · subst hv1
          unfold f_X7_buffered_39
          rw [if_pos rfl, if_pos (show (-1 : Int32) < 0 by decide), if_neg (show ¬ (0 : Int32) ≤ -1 by decide), x_bufferSize hc4 rfl hbx hsl b3, bd_s]
          simp (disch := omega) only [ck_tt, pn_in, pn_ix]
          exact eqv_of rfl (congrArg some hbm.1)
        · have hv0 : ¬ v < 0 := by
            intro q
            have q1 := Int32.lt_iff_toInt_lt.mp q
            have q2 : ¬ v.toInt < (-1 : Int32).toInt := fun z => hv (Int32.lt_iff_toInt_lt.mpr z)
            have q3 : v.toInt ≠ (-1 : Int32).toInt := fun z => hv1 (Int32.toInt_inj.mp z)
            have e1 : (-1 : Int32).toInt = -1 := by decide
            have e2 : (0 : Int32).toInt = 0 := by decide
            omega
          obtain ⟨i, hi, rfl⟩ := nI_of hv0
          rw [if_neg hv1, if_neg hv0, hbm.1]
          unfold f_X7_buffered_39
          by_cases hil : i < (gBuf s c).length
          · have hg : (gBuf s c)[i]? = some (getE (gBuf s c) i) := getE_t hil
            rw [if_pos (nI_lt hil (by omega)), mu2, nI_add]
            simp (disch := omega) only [ck_tt, pn_in, pn_ix]
            have hbi := hbm.2.2 i _ hg
            rw [hbi.1, hbi.2]
            have hmm := List.mem_of_getElem? hg
            have hrk := rk_up (K := k3) _ i _ b4 hg
            rcases x_backAt (nI i) hc4 (q := 8 + 9 * c) rfl hbx hsl b3 with ⟨e, he, j, hj, z1, z2, ef⟩ | ⟨hno, ef⟩
            · have z3 : rk k3 (gBuf s c) e = i := by
                have := rk_len (K := k3) he
                exact (nI_eq (by omega) (by omega)).mp z2
              have z4 := rk_inj (K := k3) he hmm (by rw [z3, hrk])
              have hee : e = getE (gBuf s c) i := by
                apply Classical.byContradiction
                intro hne
                obtain ⟨j', hj'⟩ := List.getElem?_of_mem he
                have := rk_up (K := k3) _ j' _ b4 hj'
                rw [z3] at this
                rw [← this] at hj'
                rw [hg] at hj'
                cases hj'
                exact hne rfl
              have hb := (hbx j hj).2.1 e he z1
              rw [ef, bd_s, if_neg (show ¬ 15 + 9 * c + j = 0 by omega)]
              have hq : sw_isQ (15 + 9 * c + j) = true := isQ_c hc4 (r := 1 + j) (by omega) (by omega)
              rw [ck_t hq, ck_t hq, hb.2.2.1, hb.2.2.2.1, hee]
              by_cases w0 : w = 0
              · simp only [if_pos w0]; exact ⟨_, rfl, rfl⟩
              · simp only [if_neg w0]; exact ⟨_, rfl, rfl⟩
            · exact absurd (by rw [hrk]) (hno _ hmm)
          · rw [if_neg (nI_nlt (by omega) (by omega)), if_pos (nI_pos' hi)]
            rcases x_backAt (nI i) hc4 (q := 8 + 9 * c) rfl hbx hsl b3 with ⟨e, he, j, hj, z1, z2, ef⟩ | ⟨hno, ef⟩
            · have := rk_len (K := k3) he
              have := (nI_eq (by omega) (by omega)).mp z2
              omega
            · rw [ef, bd_s, if_pos rfl]
              exact ⟨_, rfl, rfl⟩
      · simp only [if_pos hc, if_neg hv, if_neg hw, if_neg n10, if_true]
        exact ⟨_, rfl, rfl⟩
  · simp only [if_neg hc, if_true]
    exact ⟨_, rfl, rfl⟩
