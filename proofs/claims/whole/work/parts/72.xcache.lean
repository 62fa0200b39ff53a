/-! PURE: the class's caches -/
theorem pn_m1 {n : Nat} (h : n < 2 ^ 31) : nI n ≠ -1 := by
  intro e
  have h1 := nI_pos' h
  rw [e] at h1
  exact absurd h1 (by decide)
theorem ge8 {k : Nat} (h : k < 8) : ¬ (8 : Int32) ≤ nI k := nI_ge (b := 8) h (by omega)
theorem ge2 {k : Nat} (h : k < 2) : ¬ (2 : Int32) ≤ nI k := nI_ge (b := 2) h (by omega)
theorem ge12 {k : Nat} (h : k < 12) : ¬ (12 : Int32) ≤ nI k := nI_ge (b := 12) h (by omega)
theorem ge4 {k : Nat} (h : k < 4) : ¬ (4 : Int32) ≤ nI k := nI_ge (b := 4) h (by omega)
theorem isK_c {c q : Nat} (hc : c < 4) (h : q = 9 + 9 * c) : sw_isK q = true := sw_isK_i.mpr ⟨by omega, by omega, by omega⟩
theorem isC_c {c q : Nat} (hc : c < 4) (h : q = 8 + 9 * c) : sw_isC q = true := sw_isC_i.mpr ⟨by omega, by omega, by omega⟩
theorem isQ_c {c r q : Nat} (hc : c < 4) (hr : r < 3) (h : q = 14 + 9 * c + r) : sw_isQ q = true := sw_isQ_i.mpr ⟨by omega, by omega, by omega⟩
theorem how_ne {L : List E} {l : Int32} (hh : ∀ e ∈ L, e 2 = 1 ∨ e 2 = 2 ∨ e 2 = 3) (hp : L.Pairwise (fun a b => a 0 ≠ b 0)) : howR L l ≠ 0 ↔ ∃ e ∈ L, e 0 = l := by
  constructor
  · exact how_in
  · intro ⟨e, he, e0⟩
    rw [← e0, how_mem L hp he]
    rcases hh e he with z | z | z <;> rw [z] <;> decide
theorem row_hh {K u : Nat} {L : List E} (h : rowOk K u L) : ∀ e ∈ L, e 2 = 1 ∨ e 2 = 2 ∨ e 2 = 3 := fun e he => (h.1 e he).2.1
theorem x_held {x : sw_St} {c q K u : Nat} {L : List E} {v : Int32} (hc : c < 4) (hq : q = 9 + 9 * c) (h : cacheX x c L v) (hr : rowOk K u L) : f_X1_held x q = some (nI L.length) := by
  have e1 : q + 1 = 10 + 9 * c := by omega
  have := lp_cnt (F := fun n a k => f_X1_held_4 x n q a k) (N := 8) (P := fun l => L.any (fun e => e 0 == nI l && true)) (fun n a => by
      rw [f_X1_held_4]
      dsimp only
      rw [if_pos (by decide)]) (fun n a k hk => by
      rw [f_X1_held_4]
      dsimp only
      rw [if_neg (ge8 hk), ck_t (isK_c hc hq), ck_t (pn_in (by omega) (by omega)), pn_ix (by omega), e1, h.1 k hk, nI_1, nI_1]
      have hn := how_ne (l := nI k) (row_hh hr) hr.2.1
      by_cases z : howR L (nI k) = 0
      · have hno : ¬ (L.any (fun e => e 0 == nI k && true)) = true := by
          rw [List.any_eq_true]
          intro ⟨e, he, e0⟩
          exact hn.mpr ⟨e, he, by simpa using e0⟩ z
        simp only [if_pos z, if_neg hno, Nat.add_zero]
      · have hyes : (L.any (fun e => e 0 == nI k && true)) = true := by
          rw [List.any_eq_true]
          obtain ⟨e, he, e0⟩ := hn.mp z
          exact ⟨e, he, by simpa using e0⟩
        simp only [if_neg z, if_pos hyes]) sw_fuel 0 0 (Nat.zero_le _) (by unfold sw_fuel; omega)
  unfold f_X1_held
  have e2 := cn_slots (f := 0) (N := 8) (by omega) (fun _ => true) L hr.2.1 (fun e he => (hr.1 e he).1)
  rw [List.countP_true] at e2
  rw [Nat.zero_add, Nat.sub_zero, e2] at this
  exact this
def oldL (L : List E) : Int32 := match L with
  | [] => -1
  | e :: _ => e 0
theorem x_oldest {x : sw_St} {c q K u : Nat} {L : List E} {v : Int32} (hc : c < 4) (hq : q = 9 + 9 * c) (h : cacheX x c L v) (hr : rowOk K u L) : f_X1_oldest x q = some (oldL L) := by
  have e1 : q + 1 = 10 + 9 * c := by omega
  have e3 : q + 3 = 12 + 9 * c := by omega
  have := lp_fold (F := fun n a k => f_X1_oldest_4 x n q a k) (N := 8) (Q := fun r => r = oldL L) (J := fun k best => (best = -1 ∧ ∀ e ∈ L, ∀ m, m < k → e 0 ≠ nI m) ∨ (∃ e ∈ L, ∃ m, m < k ∧ m < 8 ∧ e 0 = nI m ∧ best = nI m ∧ ∀ e' ∈ L, ∀ m', m' < k → e' 0 = nI m' → (e 3).toInt ≤ (e' 3).toInt)) (fun n a hJ => by
      rw [f_X1_oldest_4]
      dsimp only
      rw [if_pos (by decide)]
      refine wp_some ?_
      rcases hJ with ⟨z1, z2⟩ | ⟨e, he, m, z1, z2, z3, z4, z5⟩
      · match L, hr with
        | [], _ => exact z1
        | e :: L', hr =>
          obtain ⟨l, hl, e0⟩ := (hr.1 e List.mem_cons_self).1
          exact absurd e0 (z2 e List.mem_cons_self l hl)
      · match L, hr with
        | [], _ => cases he
        | e' :: L', hr =>
          obtain ⟨l, hl, e0⟩ := (hr.1 e' List.mem_cons_self).1
          have := z5 e' List.mem_cons_self l hl e0
          rcases List.mem_cons.mp he with ee | he'
          · rw [z4, ← z3, ee]; rfl
          · have := (List.pairwise_cons.mp hr.2.2.1).1 e he'
            omega) (fun n k a hk hJ => by
      rw [f_X1_oldest_4]
      dsimp only
      rw [if_neg (ge8 hk), ck_t (isK_c hc hq), ck_t (pn_in (by omega) (by omega)), pn_ix (by omega), e1, e3, h.1 k hk, nI_1]
      have hn := how_ne (l := nI k) (row_hh hr) hr.2.1
      by_cases z : howR L (nI k) = 0
      · refine ⟨a, by rw [if_pos z], ?_⟩
        have hno : ∀ e ∈ L, e 0 ≠ nI k := fun e he e0 => hn.mpr ⟨e, he, e0⟩ z
        rcases hJ with ⟨z1, z2⟩ | ⟨e, he, m, z1, z2, z3, z4, z5⟩
        · refine Or.inl ⟨z1, fun e he m hm => ?_⟩
          by_cases mk : m = k
          · rw [mk]; exact hno e he
          · exact z2 e he m (by omega)
        · refine Or.inr ⟨e, he, m, by omega, z2, z3, z4, fun e' he' m' hm' e0' => ?_⟩
          by_cases mk : m' = k
          · rw [mk] at e0'; exact absurd e0' (hno e' he')
          · exact z5 e' he' m' (by omega) e0'
      · rw [if_neg z]
        obtain ⟨ek, hek, ek0⟩ := hn.mp z
        have uk := (h.2.1 ek hek k hk ek0).2
        unfold f_X1_oldest_39
        rw [nI_1]
        rcases hJ with ⟨z1, z2⟩ | ⟨e, he, m, z1, z2, z3, z4, z5⟩
        · refine ⟨nI k, by rw [if_pos z1], Or.inr ⟨ek, hek, k, by omega, hk, ek0, rfl, fun e' he' m' hm' e0' => ?_⟩⟩
          by_cases mk : m' = k
          · rw [mk] at e0'
            rw [pw_inj L hr.2.1 hek he' (by rw [ek0, e0'])]
            exact Int.le_refl _
          · exact absurd e0' (z2 e' he' m' (by omega))
        · have um := (h.2.1 e he m z2 z3).2
          rw [z4, if_neg (pn_m1 (by omega)), ck_t (pn_in (by omega) (by omega)), pn_ix (by omega), um, uk]
          by_cases zc : e 3 ≤ ek 3
          · refine ⟨nI m, by rw [if_pos zc], Or.inr ⟨e, he, m, by omega, z2, z3, rfl, fun e' he' m' hm' e0' => ?_⟩⟩
            by_cases mk : m' = k
            · rw [mk] at e0'
              rw [← pw_inj L hr.2.1 hek he' (by rw [ek0, e0'])]
              exact Int32.le_iff_toInt_le.mp zc
            · exact z5 e' he' m' (by omega) e0'
          · refine ⟨nI k, by rw [if_neg zc], Or.inr ⟨ek, hek, k, by omega, hk, ek0, rfl, fun e' he' m' hm' e0' => ?_⟩⟩
            have zc' : ¬ (e 3).toInt ≤ (ek 3).toInt := fun y => zc (Int32.le_iff_toInt_le.mpr y)
            by_cases mk : m' = k
            · rw [mk] at e0'
              rw [pw_inj L hr.2.1 hek he' (by rw [ek0, e0'])]
              exact Int.le_refl _
            · have := z5 e' he' m' (by omega) e0'
              omega) sw_fuel 0 (-1) (Nat.zero_le _) (by unfold sw_fuel; omega) (Or.inl ⟨rfl, fun e _ m hm => by omega⟩)
  unfold f_X1_oldest
  exact wp_eq this
/-- the free place of a buffer -/
theorem x_free {x : sw_St} {c q : Nat} {A B : List E} (hc : c < 4) (hq : q = 8 + 9 * c) (h : ∀ i, i < 2 → bkX x c i A B) (hs : ∀ e ∈ B, ∃ i, i < 2 ∧ e 2 = nI i) (hp : B.Pairwise (fun a b => a 2 ≠ b 2)) (hl : B.length ≤ 2) : f_X2_freeBack x q = some (if B.length < 2 then 15 + 9 * c + slotF B else 0) := by
  have st : ∀ i, i < 2 → (x (15 + 9 * c + i) 1 = 0 ↔ ∀ e ∈ B, e 2 ≠ nI i) := fun i hi => by
    obtain ⟨h1, h2, h3, h4⟩ := h i hi
    constructor
    · intro z e he e2
      have := (h2 e he e2).1
      rw [z] at this
      exact absurd this (by decide)
    · exact h4
  have step : ∀ n i, i < 2 → f_X2_freeBack_2 x (n + 1) q (nI i) = if x (15 + 9 * c + i) 1 = 0 then some (15 + 9 * c + i) else f_X2_freeBack_2 x n q (nI (i + 1)) := fun n i hi => by
    rw [f_X2_freeBack_2]
    dsimp only
    rw [if_neg (ge2 hi), ck_t (isC_c hc hq), ck_t (pn_in (by omega) (by omega)), pn_ix (by omega), nI_1, show q + 7 + i = 15 + 9 * c + i by omega]
  have e3 : f_X2_freeBack x q = f_X2_freeBack_2 x (297 + 1 + 1 + 1) q (nI 0) := rfl
  rw [e3, step _ 0 (by omega), step _ 1 (by omega)]
  have e4 : f_X2_freeBack_2 x (297 + 1) q (nI (1 + 1)) = some 0 := by
    rw [f_X2_freeBack_2]
    dsimp only
    rw [if_pos (by decide)]
  rw [e4]
  by_cases z0 : ∀ e ∈ B, e 2 ≠ nI 0
  · rw [if_pos ((st 0 (by omega)).mpr z0)]
    have hsl : slotF B = 0 := by
      unfold slotF
      rw [if_neg]
      rw [List.any_eq_true]
      intro ⟨e, he, e2⟩
      exact z0 e he (show e 2 = 0 from by simpa using e2)
    have hlen : B.length < 2 := by
      match B, hl with
      | [], _ => decide
      | [_], _ => exact (show 1 < 2 by decide)
      | [a, b], _ =>
        have ha := hs a List.mem_cons_self
        have hb := hs b (List.mem_cons_of_mem _ List.mem_cons_self)
        obtain ⟨i, hi, ei⟩ := ha
        obtain ⟨j, hj, ej⟩ := hb
        have i1 : i = 1 := by
          rcases (show i = 0 ∨ i = 1 by omega) with rfl | rfl
          · exact absurd ei (z0 a List.mem_cons_self)
          · rfl
        have j1 : j = 1 := by
          rcases (show j = 0 ∨ j = 1 by omega) with rfl | rfl
          · exact absurd ej (z0 b (List.mem_cons_of_mem _ List.mem_cons_self))
          · rfl
        have := (List.pairwise_cons.mp hp).1 b List.mem_cons_self
        rw [ei, ej, i1, j1] at this
        exact absurd rfl this
    rw [if_pos hlen, hsl]
  · rw [if_neg (fun z => z0 ((st 0 (by omega)).mp z))]
    have hsl : slotF B = 1 := by
      unfold slotF
      rw [if_pos]
      rw [List.any_eq_true]
      apply Classical.byContradiction
      intro hn
      exact z0 (fun e he e2 => hn ⟨e, he, by rw [e2]; rfl⟩)
    rw [hsl]
    by_cases z1 : ∀ e ∈ B, e 2 ≠ nI 1
    · rw [if_pos ((st 1 (by omega)).mpr z1)]
      have hlen : B.length < 2 := by
        match B, hl with
        | [], _ => decide
        | [_], _ => exact (show 1 < 2 by decide)
        | [a, b], _ =>
          have ha := hs a List.mem_cons_self
          have hb := hs b (List.mem_cons_of_mem _ List.mem_cons_self)
          obtain ⟨i, hi, ei⟩ := ha
          obtain ⟨j, hj, ej⟩ := hb
          have i1 : i = 0 := by
            rcases (show i = 0 ∨ i = 1 by omega) with rfl | rfl
            · rfl
            · exact absurd ei (z1 a List.mem_cons_self)
          have j1 : j = 0 := by
            rcases (show j = 0 ∨ j = 1 by omega) with rfl | rfl
            · rfl
            · exact absurd ej (z1 b (List.mem_cons_of_mem _ List.mem_cons_self))
          have := (List.pairwise_cons.mp hp).1 b List.mem_cons_self
          rw [ei, ej, i1, j1] at this
          exact absurd rfl this
      rw [if_pos hlen]
    · rw [if_neg (fun z => z1 ((st 1 (by omega)).mp z)), if_neg]
      intro hlen
      match B, hlen with
      | [], _ => exact z0 (fun e he => by cases he)
      | [a], _ =>
        obtain ⟨i, hi, ei⟩ := hs a List.mem_cons_self
        rcases (show i = 0 ∨ i = 1 by omega) with rfl | rfl
        · exact z1 (fun e he => by rw [List.mem_singleton.mp he, ei]; decide)
        · exact z0 (fun e he => by rw [List.mem_singleton.mp he, ei]; decide)
/-- what the buffers' places are -/
theorem buf_sl {b : Nat} {s : Sx} {c : Nat} (h : Inv b s) (hc : c < 4) : ∀ e ∈ gBuf s c, ∃ i, i < 2 ∧ e 2 = nI i := fun e he => by
  obtain ⟨_, i, hi, z, _⟩ := (h.2.2.1 c hc).1.1 e he
  exact ⟨i, hi, z⟩
theorem x_freeI {b : Nat} {s : Sx} {x : sw_St} {c q : Nat} (h : RX s x) (hI : Inv b s) (hc : c < 4) (hq : q = 8 + 9 * c) : f_X2_freeBack x q = some (if (gBuf s c).length < 2 then 15 + 9 * c + slotF (gBuf s c) else 0) :=
  x_free hc hq (fun i hi => h.2.2.2.2.1 c i hc hi) (buf_sl hI hc) (hI.2.2.1 c hc).1.2.2.1 (hI.2.2.1 c hc).1.2.2.2.2
theorem x_canFill {b : Nat} {s : Sx} {x : sw_St} {c q : Nat} (h : RX s x) (hI : Inv b s) (hc : c < 4) (hq : q = 8 + 9 * c) : ∃ r, f_X0_canFill x q = some r ∧ (r = 0 ↔ ¬ cFill s c) := by
  obtain ⟨r1, r2, r3, r4⟩ := (hI.2.1 c hc).1
  have hr := (hI.2.1 c hc).1
  have hx := h.2.2.1 c hc
  have hK := hI.1.2.1
  have h5 : x 2 5 = gSc s 1 := h.1.2.1
  unfold f_X0_canFill cFill
  rw [ck_t (isC_c hc hq), x_held hc (by omega) hx hr, bd_s, h5, hK.1, x_oldest hc (by omega) hx hr, bd_s, x_freeI h hI hc hq, bd_s]
  have ltI : nI (gRow s c).length < nI (kN s) ↔ (gRow s c).length < kN s := nI_ltI (by omega) (by omega)
  by_cases z : kN s ≤ (gRow s c).length
  · rw [if_pos (nI_le z (by omega))]
    have nlt : ¬ nI (gRow s c).length < nI (kN s) := fun y => by rw [ltI] at y; omega
    cases hrow : gRow s c with
    | nil => rw [hrow] at z; have : kN s ≤ 0 := z; omega
    | cons e L =>
      have hem : e ∈ gRow s c := by rw [hrow]; exact List.mem_cons_self
      obtain ⟨⟨l, hl, e0⟩, _⟩ := r1 e hem
      have hst := hx.1 l hl
      rw [← e0, how_mem _ r2 hem] at hst
      have eo : oldL (e :: L) = nI l := e0
      rw [eo, if_neg (pn_m1 (by omega)), ck_t (pn_in (by omega) (by omega)), pn_ix (by omega), show q + 1 + 1 = 10 + 9 * c by omega, hst]
      rw [hrow] at nlt
      have eg : getE (e :: L) 0 2 = e 2 := rfl
      rw [eg]
      by_cases q3 : e 2 = 3
      · rw [if_pos q3]
        by_cases ql : (gBuf s c).length < 2
        · rw [if_pos ql, if_neg (by omega)]
          exact ⟨1, rfl, by simp [ql]⟩
        · rw [if_neg ql, if_pos rfl]
          refine ⟨0, rfl, fun _ y => ?_, fun _ => rfl⟩
          rcases y with y | y | y
          · exact nlt y
          · exact y q3
          · exact ql y
      · rw [if_neg q3]
        exact ⟨1, rfl, by simp [q3]⟩
  · rw [if_neg (nI_ge (by omega) (by omega))]
    have lt : nI (gRow s c).length < nI (kN s) := ltI.mpr (by omega)
    exact ⟨1, rfl, by simp [lt]⟩
