/-! PURE: what waits and what is open, in the class -/
theorem rq_at {j c r : Nat} (h : j = 3 * c + r) (hr : r < 3) : sw_rq j = 14 + 9 * c + r := by
  unfold sw_rq
  omega
theorem op_st2 {x : sw_St} {c : Nat} {A O : List E} {op : E} (h : opX x c A O op) : x (14 + 9 * c) 1 = 2 ↔ ∃ a ∈ O, a 1 = nI c := by
  obtain ⟨h1, h2, h3, h4, h5⟩ := h
  constructor
  · intro z
    apply Classical.byContradiction
    intro hn
    have hO : ∀ a ∈ O, a 1 ≠ nI c := fun a ha y => hn ⟨a, ha, y⟩
    by_cases hA : ∃ a ∈ A, a 5 = nI (3 * c)
    · obtain ⟨a, ha, y⟩ := hA
      have := (h2 a ha y).1
      rw [z] at this
      exact absurd this (by decide)
    · have := h4 (fun a ha y => hA ⟨a, ha, y⟩) hO
      rw [z] at this
      exact absurd this (by decide)
  · intro ⟨a, ha, y⟩
    exact (h3 a ha y).1
theorem op_st1 {x : sw_St} {c : Nat} {A O : List E} {op : E} (h : opX x c A O op) : x (14 + 9 * c) 1 = 1 ↔ ∃ a ∈ A, a 5 = nI (3 * c) := by
  obtain ⟨h1, h2, h3, h4, h5⟩ := h
  constructor
  · intro z
    apply Classical.byContradiction
    intro hn
    have hA : ∀ a ∈ A, a 5 ≠ nI (3 * c) := fun a ha y => hn ⟨a, ha, y⟩
    by_cases hO : ∃ a ∈ O, a 1 = nI c
    · obtain ⟨a, ha, y⟩ := hO
      have := (h3 a ha y).1
      rw [z] at this
      exact absurd this (by decide)
    · have := h4 hA (fun a ha y => hO ⟨a, ha, y⟩)
      rw [z] at this
      exact absurd this (by decide)
  · intro ⟨a, ha, y⟩
    exact (h2 a ha y).1
theorem req_ask {b : Nat} {s : Sx} {x : sw_St} (h : RX s x) (hI : Inv b s) {a : E} (ha : a ∈ gAsk s) {j : Nat} (hj : j < 12) (h5 : a 5 = nI j) : x (sw_rq j) 0 = a 1 ∧ x (sw_rq j) 1 = 1 ∧ x (sw_rq j) 2 = a 0 ∧ x (sw_rq j) 3 = a 2 ∧ x (sw_rq j) 6 = a 3 ∧ x (sw_rq j) 7 = a 4 := by
  have hC4 := hI.1.1.2.2
  obtain ⟨c, l, p, q1, q2, q3, q4, q5, q6, q7⟩ := hI.2.2.2.1.1 a ha
  rcases q7 with ⟨z0, e, he, i, hi, z2, z3, z4, z5⟩ | ⟨z0, z1, z2, z3⟩
  · have z6 := z5
    rw [h5, nI_eq (by omega) (by omega)] at z5
    rw [rq_at (c := c) (r := 1 + i) (by omega) (by omega), show 14 + 9 * c + (1 + i) = 15 + 9 * c + i by omega]
    obtain ⟨k1, k2, k3, k4⟩ := h.2.2.2.2.1 c i (by omega) hi
    obtain ⟨y1, y2, y3, y4, y5⟩ := k2 e he z2
    exact ⟨by rw [k1, q2], y1, by rw [y2, z0], by rw [y3, z3], by rw [y5, z4], k3 a ha z6⟩
  · have z6 := z1
    rw [h5, nI_eq (by omega) (by omega)] at z1
    rw [rq_at (c := c) (r := 0) (by omega) (by omega), Nat.add_zero]
    obtain ⟨k1, k2, k3, k4, k5⟩ := h.2.2.2.1 c (by omega)
    obtain ⟨y1, y2, y3, y4, y5⟩ := k2 a ha z6
    exact ⟨by rw [k1, q2], y1, y2, y3, y4, y5⟩
theorem req_st1 {b : Nat} {s : Sx} {x : sw_St} (h : RX s x) (hI : Inv b s) {j : Nat} (hj : j < 12) : x (sw_rq j) 1 = 1 ↔ ∃ a ∈ gAsk s, a 5 = nI j := by
  constructor
  · intro z
    by_cases hr : j % 3 = 0
    · have hjc : j = 3 * (j / 3) := by omega
      rw [rq_at (c := j / 3) (r := 0) (by omega) (by omega), Nat.add_zero] at z
      have := (op_st1 (h.2.2.2.1 (j / 3) (by omega))).mp z
      rw [← hjc] at this
      exact this
    · rw [rq_at (c := j / 3) (r := 1 + (j % 3 - 1)) (by omega) (by omega), show 14 + 9 * (j / 3) + (1 + (j % 3 - 1)) = 15 + 9 * (j / 3) + (j % 3 - 1) by omega] at z
      obtain ⟨k1, k2, k3, k4⟩ := h.2.2.2.2.1 (j / 3) (j % 3 - 1) (by omega) (by omega)
      apply Classical.byContradiction
      intro hn
      have := k4 (fun e he y => hn ?_)
      · rw [z] at this
        exact absurd this (by decide)
      · obtain ⟨_, i, hi, y2, a, ha, _, _, _, _, a5⟩ := (hI.2.2.1 (j / 3) (by omega)).1.1 e he
        rw [y, nI_eq (by omega) (by omega)] at y2
        exact ⟨a, ha, by rw [a5]; congr 1; omega⟩
  · intro ⟨a, ha, h5⟩
    exact (req_ask h hI ha hj h5).2.1
theorem req_st2 {b : Nat} {s : Sx} {x : sw_St} (h : RX s x) (hI : Inv b s) {j : Nat} (hj : j < 12) : x (sw_rq j) 1 = 2 ↔ ∃ a ∈ gOpn s, ∃ c, c < 4 ∧ a 1 = nI c ∧ j = 3 * c := by
  constructor
  · intro z
    by_cases hr : j % 3 = 0
    · rw [rq_at (c := j / 3) (r := 0) (by omega) (by omega), Nat.add_zero] at z
      obtain ⟨a, ha, y⟩ := (op_st2 (h.2.2.2.1 (j / 3) (by omega))).mp z
      exact ⟨a, ha, j / 3, by omega, y, by omega⟩
    · rw [rq_at (c := j / 3) (r := 1 + (j % 3 - 1)) (by omega) (by omega), show 14 + 9 * (j / 3) + (1 + (j % 3 - 1)) = 15 + 9 * (j / 3) + (j % 3 - 1) by omega] at z
      obtain ⟨k1, k2, k3, k4⟩ := h.2.2.2.2.1 (j / 3) (j % 3 - 1) (by omega) (by omega)
      by_cases hB : ∃ e ∈ gBuf s (j / 3), e 2 = nI (j % 3 - 1)
      · obtain ⟨e, he, y⟩ := hB
        have := (k2 e he y).1
        rw [z] at this
        exact absurd this (by decide)
      · have := k4 (fun e he y => hB ⟨e, he, y⟩)
        rw [z] at this
        exact absurd this (by decide)
  · intro ⟨a, ha, c, hc, h1, hjc⟩
    rw [rq_at (c := c) (r := 0) (by omega) (by omega), Nat.add_zero]
    exact (op_st2 (h.2.2.2.1 c hc)).mpr ⟨a, ha, h1⟩
theorem req_opn {s : Sx} {x : sw_St} (h : RX s x) {a : E} (ha : a ∈ gOpn s) {c : Nat} (hc : c < 4) (h1 : a 1 = nI c) : x (14 + 9 * c) 0 = a 1 ∧ x (14 + 9 * c) 1 = 2 ∧ x (14 + 9 * c) 2 = a 0 ∧ x (14 + 9 * c) 3 = a 2 ∧ x (14 + 9 * c) 9 = a 3 ∧ x (14 + 9 * c) 10 = a 4 ∧ x (14 + 9 * c) 7 = a 6 ∧ x (14 + 9 * c) 8 = a 7 ∧ (a 0 = 0 → x (14 + 9 * c) 4 = a 5) := by
  obtain ⟨k1, k2, k3, k4, k5⟩ := h.2.2.2.1 c hc
  obtain ⟨y1, y2, y3, y4, y5, y6, y7, y8⟩ := k3 a ha h1
  exact ⟨by rw [k1, h1], y1, y2, y3, y4, y5, y6, y7, y8⟩
theorem x_openOf {b : Nat} {s : Sx} {x : sw_St} (l : Int32) (h : RX s x) (hI : Inv b s) : (∃ a ∈ gOpn s, ∃ c, c < cN s ∧ a 1 = nI c ∧ a 2 = l ∧ f_X0_openOf x l = some (14 + 9 * c)) ∨ ((∀ a ∈ gOpn s, a 2 ≠ l) ∧ f_X0_openOf x l = some 0) := by
  have hC4 := hI.1.1.2.2
  have h4 : x 2 4 = nI (cN s) := by rw [← hI.1.1.1]; exact h.1.1
  have key : ∀ k, k < cN s → ((x (14 + 9 * k) 1 = 2 ∧ x (14 + 9 * k) 3 = l) ↔ ∃ a ∈ gOpn s, a 1 = nI k ∧ a 2 = l) := fun k hk => by
    constructor
    · intro ⟨z1, z2⟩
      obtain ⟨a, ha, y⟩ := (op_st2 (h.2.2.2.1 k (by omega))).mp z1
      exact ⟨a, ha, y, by rw [← (req_opn h ha (by omega) y).2.2.2.1]; exact z2⟩
    · intro ⟨a, ha, y1, y2⟩
      have := req_opn h ha (show k < 4 by omega) y1
      exact ⟨this.2.1, by rw [this.2.2.2.1]; exact y2⟩
  have step : ∀ n k, k < cN s → f_X0_openOf_2 x (n + 1) l (nI k) = if x (14 + 9 * k) 1 = 2 then (if x (14 + 9 * k) 3 = l then some (14 + 9 * k) else f_X0_openOf_2 x n l (nI (k + 1))) else f_X0_openOf_2 x n l (nI (k + 1)) := fun n k hk => by
    rw [f_X0_openOf_2]
    dsimp only
    rw [h4, if_neg (nI_ge hk (by omega)), ck_t (pn_in (by omega) (by omega)), pn_ix (by omega), nI_1, show 8 + 9 * k + 6 = 14 + 9 * k by omega]
  have := lp_find (F := fun n k => f_X0_openOf_2 x n l k) (N := cN s) (P := fun k => ∃ a ∈ gOpn s, a 1 = nI k ∧ a 2 = l) (g := fun k => 14 + 9 * k) (d := 0) (fun n => by
      rw [f_X0_openOf_2]
      dsimp only
      rw [h4, if_pos (nI_le (Nat.le_refl _) (by omega))]) (fun n k hk hP => by
      obtain ⟨z1, z2⟩ := (key k hk).mpr hP
      rw [step n k hk, if_pos z1, if_pos z2]) (fun n k hk hP => by
      rw [step n k hk]
      by_cases z1 : x (14 + 9 * k) 1 = 2
      · rw [if_pos z1, if_neg (fun z2 => hP ((key k hk).mp ⟨z1, z2⟩))]
      · rw [if_neg z1]) sw_fuel 0 (Nat.zero_le _) (by unfold sw_fuel; omega)
  unfold f_X0_openOf
  rcases this with ⟨k, -, hk, ⟨a, ha, y1, y2⟩, -, e⟩ | ⟨hno, e⟩
  · exact Or.inl ⟨a, ha, k, hk, y1, y2, e⟩
  · refine Or.inr ⟨fun a ha z => ?_, e⟩
    obtain ⟨c, _, _, q1, q2, _⟩ := hI.2.2.2.2.1.1 a ha
    exact hno c (Nat.zero_le _) q1 ⟨a, ha, q2, z⟩
theorem sub30 {p : Nat} (h : p < 2 ^ 30) : (nI p - 1073741824).toInt = (p : Int) - 1073741824 := by
  rw [Int32.toInt_sub, nI_toInt (by omega)]
  have e : (1073741824 : Int32).toInt = 1073741824 := by decide
  rw [e]
  unfold Int.bmod
  dsimp only
  split <;> omega
theorem x_keyOf {b : Nat} {s : Sx} {x : sw_St} (h : RX s x) (hI : Inv b s) (hb : b < 2 ^ 30) {a : E} (ha : a ∈ gAsk s) {j : Nat} (hj : j < 12) (h5 : a 5 = nI j) : ∃ r, f_X0_keyOf x (sw_rq j) = some r ∧ r.toInt = kx (gOpn s) a := by
  obtain ⟨y0, y1, y2, y3, y4, y5⟩ := req_ask h hI ha hj h5
  obtain ⟨c, l, p, q1, q2, q3, q4, q5, q6, q7⟩ := hI.2.2.2.1.1 a ha
  have hp : p < 2 ^ 30 := by have := hI.1.2.2.1.2; omega
  have hq : sw_isQ (sw_rq j) = true := isQ_c (c := j / 3) (r := j % 3) (by omega) (by omega) (rq_at (by omega) (by omega))
  unfold f_X0_keyOf f_X0_keyOf_23 f_X0_keyOf_24 kx urg
  rw [ck_t hq, ck_t hq, ck_t hq, y5, y3, y4]
  by_cases z : a 4 < 3
  · rw [if_pos z, if_pos rfl]
    exact ⟨a 3, rfl, by simp [z]⟩
  · rw [if_neg z]
    rcases x_openOf (a 2) h hI with ⟨o, ho, c', hc', z1, z2, e⟩ | ⟨hno, e⟩
    · rw [e, bd_s, if_neg (by omega), if_pos rfl]
      have : isO (gOpn s) (a 2) = true := isO_t.mpr ⟨o, ho, z2⟩
      exact ⟨a 3, rfl, by simp [this]⟩
    · rw [e, bd_s, if_pos rfl, if_neg (by decide)]
      have : isO (gOpn s) (a 2) = false := by
        cases hq : isO (gOpn s) (a 2) with
        | false => rfl
        | true =>
          obtain ⟨o, ho, z2⟩ := isO_t.mp hq
          exact absurd z2 (hno o ho)
      refine ⟨_, rfl, ?_⟩
      rw [q5, sub30 hp, this, nI_toInt (by omega)]
      simp [z]
theorem x_next {b : Nat} {s : Sx} {x : sw_St} (h : RX s x) (hI : Inv b s) (hb : b < 2 ^ 30) : wp (f_X0_nextWaiting x) (fun r => (r = 0 ∧ gAsk s = []) ∨ (∃ a ∈ gAsk s, ∃ j, j < 12 ∧ a 5 = nI j ∧ r = sw_rq j ∧ ∀ a' ∈ gAsk s, kx (gOpn s) a ≤ kx (gOpn s) a')) := by
  have hC4 := hI.1.1.2.2
  have := lp_fold (F := fun n (a : Nat) k => f_X0_nextWaiting_4 x n a k) (N := 12) (Q := fun r => (r = 0 ∧ gAsk s = []) ∨ (∃ a ∈ gAsk s, ∃ j, j < 12 ∧ a 5 = nI j ∧ r = sw_rq j ∧ ∀ a' ∈ gAsk s, kx (gOpn s) a ≤ kx (gOpn s) a')) (J := fun k best => (best = 0 ∧ ∀ a ∈ gAsk s, ∀ j, j < k → a 5 ≠ nI j) ∨ (∃ a ∈ gAsk s, ∃ j, j < k ∧ j < 12 ∧ a 5 = nI j ∧ best = sw_rq j ∧ ∀ a' ∈ gAsk s, ∀ j', j' < k → a' 5 = nI j' → kx (gOpn s) a ≤ kx (gOpn s) a')) (fun n best hJ => by
      rw [f_X0_nextWaiting_4]
      dsimp only
      rw [if_pos (by decide)]
      refine wp_some ?_
      rcases hJ with ⟨z1, z2⟩ | ⟨a, ha, j, z1, z2, z3, z4, z5⟩
      · refine Or.inl ⟨z1, ?_⟩
        cases hA : gAsk s with
        | nil => rfl
        | cons a A =>
          have hm : a ∈ gAsk s := by rw [hA]; exact List.mem_cons_self
          obtain ⟨j, hj, e⟩ := ask_slot hI.2.2.2.1 hC4 a hm
          exact absurd e (z2 a hm j hj)
      · refine Or.inr ⟨a, ha, j, z2, z3, z4, fun a' ha' => ?_⟩
        obtain ⟨j', hj', e⟩ := ask_slot hI.2.2.2.1 hC4 a' ha'
        exact z5 a' ha' j' hj' e) (fun n k best hk hJ => by
      rw [f_X0_nextWaiting_4]
      dsimp only
      rw [if_neg (ge12 hk), ck_t (pn_in (by omega) (by omega)), pn_ix (by omega), nI_1]
      unfold f_X0_nextWaiting_45
      rw [nI_1]
      have hst := req_st1 h hI hk
      by_cases z : x (sw_rq k) 1 = 1
      · rw [if_pos z]
        obtain ⟨ak, hak, ak5⟩ := hst.mp z
        have uni : ∀ a' ∈ gAsk s, a' 5 = nI k → a' = ak := fun a' ha' e => pw_inj _ hI.2.2.2.1.2.2 ha' hak (by rw [e, ak5])
        rcases hJ with ⟨z1, z2⟩ | ⟨a, ha, j, z1, z2, z3, z4, z5⟩
        · refine ⟨sw_rq k, by rw [if_pos z1], Or.inr ⟨ak, hak, k, by omega, hk, ak5, rfl, fun a' ha' j' hj' e' => ?_⟩⟩
          by_cases jk : j' = k
          · rw [jk] at e'
            rw [uni a' ha' e']
            exact Int.le_refl _
          · exact absurd e' (z2 a' ha' j' (by omega))
        · obtain ⟨r2, e2, k2⟩ := x_keyOf h hI hb hak hk ak5
          obtain ⟨r3, e3, k3⟩ := x_keyOf h hI hb ha z2 z3
          have hne : ¬ best = 0 := by
            rw [z4]
            unfold sw_rq
            omega
          rw [if_neg hne, e2, bd_s, z4, e3, bd_s]
          by_cases zc : r3 ≤ r2
          · refine ⟨sw_rq j, by rw [if_pos zc], Or.inr ⟨a, ha, j, by omega, z2, z3, rfl, fun a' ha' j' hj' e' => ?_⟩⟩
            by_cases jk : j' = k
            · rw [jk] at e'
              rw [uni a' ha' e', ← k2, ← k3]
              exact Int32.le_iff_toInt_le.mp zc
            · exact z5 a' ha' j' (by omega) e'
          · refine ⟨sw_rq k, by rw [if_neg zc], Or.inr ⟨ak, hak, k, by omega, hk, ak5, rfl, fun a' ha' j' hj' e' => ?_⟩⟩
            have zc' : ¬ r3.toInt ≤ r2.toInt := fun y => zc (Int32.le_iff_toInt_le.mpr y)
            by_cases jk : j' = k
            · rw [jk] at e'
              rw [uni a' ha' e']
              exact Int.le_refl _
            · have := z5 a' ha' j' (by omega) e'
              omega
      · refine ⟨best, by rw [if_neg z], ?_⟩
        have hno : ∀ a ∈ gAsk s, a 5 ≠ nI k := fun a ha e => z (hst.mpr ⟨a, ha, e⟩)
        rcases hJ with ⟨z1, z2⟩ | ⟨a, ha, j, z1, z2, z3, z4, z5⟩
        · refine Or.inl ⟨z1, fun a ha j hj => ?_⟩
          by_cases jk : j = k
          · rw [jk]; exact hno a ha
          · exact z2 a ha j (by omega)
        · refine Or.inr ⟨a, ha, j, by omega, z2, z3, z4, fun a' ha' j' hj' e' => ?_⟩
          by_cases jk : j' = k
          · rw [jk] at e'; exact absurd e' (hno a' ha')
          · exact z5 a' ha' j' (by omega) e') sw_fuel 0 0 (Nat.zero_le _) (by unfold sw_fuel; omega) (Or.inl ⟨rfl, fun a _ j hj => by omega⟩)
  unfold f_X0_nextWaiting
  exact this
