/-! PURE: a command is read, in the model -/
def FM (x z : sw_St) : Prop := (∀ a, a ≠ 1 → a ≠ 19 → z a = x a) ∧ (∀ j, j ≠ 31 → j ≠ 33 → z 1 j = x 1 j)
theorem FM_r (x : sw_St) : FM x x := ⟨fun _ _ _ => rfl, fun _ _ _ => rfl⟩
theorem FM_t {x y z : sw_St} (h : FM x y) (k : FM y z) : FM x z := ⟨fun a h1 h2 => by rw [k.1 a h1 h2, h.1 a h1 h2], fun j h1 h2 => by rw [k.2 j h1 h2, h.2 j h1 h2]⟩
theorem FM_T {x z : sw_St} {n : Nat} {t : Nat → Nat} (h : FM x z) (k : TM x n t) : TM z n t := TM_k k (h.2 29 (by decide) (by decide)) (h.1 18 (by decide) (by decide))
theorem FM_1 {x : sw_St} {j : Nat} {v : Int32} (h : j = 31 ∨ j = 33) : FM x (sw_up x 1 j v) := ⟨fun a h1 _ => up_ne h1, fun i h1 h2 => up_nj (by omega)⟩
theorem FM_19 {x : sw_St} {j : Nat} {v : Int32} : FM x (sw_up x 19 j v) := ⟨fun a _ h2 => up_ne h2, fun i _ _ => by rw [up_ne (by decide)]⟩
theorem up_up2 {x : sw_St} {k j : Nat} {a b : Int32} : sw_up (sw_up x k j a) k j b = sw_up x k j b := by
  funext c d
  unfold sw_up
  by_cases h : c = k
  · rw [if_pos h, if_pos h]
    by_cases h2 : d = j
    · rw [if_pos h2, if_pos h2]
    · rw [if_neg h2, if_neg h2, if_pos rfl, if_neg h2]
  · rw [if_neg h, if_neg h, if_neg h]
theorem up_self2 {x : sw_St} {k j : Nat} : sw_up x k j (x k j) = x := by
  funext c d
  unfold sw_up
  by_cases h : c = k
  · rw [if_pos h]
    by_cases h2 : d = j
    · rw [if_pos h2, h, h2]
    · rw [if_neg h2, h]
  · rw [if_neg h]
/-- a word as a number of 27ths -/
def hD (d : Nat → Nat) : Nat → Nat
  | 0 => 0
  | j + 1 => if j < 7 then 27 * hD d j + d j else hD d j
def hN (t : Nat → Nat) (p j : Nat) : Nat := hD (fun i => t (p + i) - 96) j
theorem hN_s {t : Nat → Nat} {p j : Nat} (h : j < 7) : hN t p (j + 1) = 27 * hN t p j + (t (p + j) - 96) := by
  show hD _ (j + 1) = _
  rw [hD, if_pos h]
  rfl
theorem hN_f {t : Nat → Nat} {p j : Nat} (h : 7 ≤ j) : hN t p (j + 1) = hN t p j := by
  show hD _ (j + 1) = _
  rw [hD, if_neg (by omega)]
  rfl
theorem hD_7 {d : Nat → Nat} : ∀ (m : Nat), 7 ≤ m → hD d m = hD d 7
  | 0, h => by omega
  | m + 1, h => by
    by_cases z : m + 1 = 7
    · rw [z]
    · rw [hD, if_neg (by omega)]
      exact hD_7 m (by omega)
theorem hD_s {d : Nat → Nat} {j : Nat} (h : j < 7) : hD d (j + 1) = 27 * hD d j + d j := by rw [hD, if_pos h]
theorem hD_lt {d : Nat → Nat} (hd : ∀ i, d i ≤ 30) (m : Nat) : hD d m < 2 ^ 40 := by
  have e1 : hD d 1 = 27 * hD d 0 + d 0 := hD_s (by omega)
  have e2 : hD d 2 = 27 * hD d 1 + d 1 := hD_s (by omega)
  have e3 : hD d 3 = 27 * hD d 2 + d 2 := hD_s (by omega)
  have e4 : hD d 4 = 27 * hD d 3 + d 3 := hD_s (by omega)
  have e5 : hD d 5 = 27 * hD d 4 + d 4 := hD_s (by omega)
  have e6 : hD d 6 = 27 * hD d 5 + d 5 := hD_s (by omega)
  have e7 : hD d 7 = 27 * hD d 6 + d 6 := hD_s (by omega)
  have e0 : hD d 0 = 0 := rfl
  have k0 := hd 0
  have k1 := hd 1
  have k2 := hd 2
  have k3 := hd 3
  have k4 := hd 4
  have k5 := hd 5
  have k6 := hd 6
  by_cases z : 7 ≤ m
  · rw [hD_7 m z]
    omega
  · rcases (show m = 0 ∨ m = 1 ∨ m = 2 ∨ m = 3 ∨ m = 4 ∨ m = 5 ∨ m = 6 by omega) with rfl | rfl | rfl | rfl | rfl | rfl | rfl <;> omega
/-- long words are large -/
theorem hD_5g {d : Nat → Nat} {m : Nat} (h : 5 ≤ m) (h0 : 1 ≤ d 0) : 531441 ≤ hD d m ∧ (6 ≤ m → 14348907 ≤ hD d m) := by
  have e1 : hD d 1 = 27 * hD d 0 + d 0 := hD_s (by omega)
  have e2 : hD d 2 = 27 * hD d 1 + d 1 := hD_s (by omega)
  have e3 : hD d 3 = 27 * hD d 2 + d 2 := hD_s (by omega)
  have e4 : hD d 4 = 27 * hD d 3 + d 3 := hD_s (by omega)
  have e5 : hD d 5 = 27 * hD d 4 + d 4 := hD_s (by omega)
  have e6 : hD d 6 = 27 * hD d 5 + d 5 := hD_s (by omega)
  have e7 : hD d 7 = 27 * hD d 6 + d 6 := hD_s (by omega)
  by_cases z : 7 ≤ m
  · rw [hD_7 m z]
    omega
  · rcases (show m = 5 ∨ m = 6 by omega) with rfl | rfl <;> omega
theorem hD_4 {d : Nat → Nat} {m A B C D : Nat} (hd : ∀ i, i < m → 1 ≤ d i ∧ d i ≤ 26) (hA : 1 ≤ A ∧ A ≤ 26) (hB : 1 ≤ B ∧ B ≤ 26) (hC : 1 ≤ C ∧ C ≤ 26) (hDD : 1 ≤ D ∧ D ≤ 26) : hD d m = 27 * (27 * (27 * A + B) + C) + D ↔ (m = 4 ∧ d 0 = A ∧ d 1 = B ∧ d 2 = C ∧ d 3 = D) := by
  have e1 : hD d 1 = 27 * hD d 0 + d 0 := hD_s (by omega)
  have e2 : hD d 2 = 27 * hD d 1 + d 1 := hD_s (by omega)
  have e3 : hD d 3 = 27 * hD d 2 + d 2 := hD_s (by omega)
  have e4 : hD d 4 = 27 * hD d 3 + d 3 := hD_s (by omega)
  have e0 : hD d 0 = 0 := rfl
  by_cases z : 5 ≤ m
  · have := (hD_5g z (hd 0 (by omega)).1).1
    constructor <;> intro q <;> omega
  · rcases (show m = 0 ∨ m = 1 ∨ m = 2 ∨ m = 3 ∨ m = 4 by omega) with rfl | rfl | rfl | rfl | rfl
    · constructor <;> intro q <;> omega
    · have k0 := hd 0 (by omega)
      constructor <;> intro q <;> omega
    · have k0 := hd 0 (by omega)
      have k1 := hd 1 (by omega)
      constructor <;> intro q <;> omega
    · have k0 := hd 0 (by omega)
      have k1 := hd 1 (by omega)
      have k2 := hd 2 (by omega)
      constructor <;> intro q <;> omega
    · have k0 := hd 0 (by omega)
      have k1 := hd 1 (by omega)
      have k2 := hd 2 (by omega)
      have k3 := hd 3 (by omega)
      constructor
      · intro q
        rw [e4] at q
        have q3 : d 3 = D := by omega
        have r3 : hD d 3 = 27 * (27 * A + B) + C := by omega
        rw [e3] at r3
        have q2 : d 2 = C := by omega
        have r2 : hD d 2 = 27 * A + B := by omega
        rw [e2] at r2
        have q1 : d 1 = B := by omega
        exact ⟨rfl, by omega, q1, q2, q3⟩
      · intro ⟨_, q0, q1, q2, q3⟩
        omega
theorem hD_5 {d : Nat → Nat} {m A B C D F : Nat} (hd : ∀ i, i < m → 1 ≤ d i ∧ d i ≤ 26) (hA : 1 ≤ A ∧ A ≤ 19) (hB : 1 ≤ B ∧ B ≤ 26) (hC : 1 ≤ C ∧ C ≤ 26) (hDD : 1 ≤ D ∧ D ≤ 26) (hF : 1 ≤ F ∧ F ≤ 26) : hD d m = 27 * (27 * (27 * (27 * A + B) + C) + D) + F ↔ (m = 5 ∧ d 0 = A ∧ d 1 = B ∧ d 2 = C ∧ d 3 = D ∧ d 4 = F) := by
  have e1 : hD d 1 = 27 * hD d 0 + d 0 := hD_s (by omega)
  have e2 : hD d 2 = 27 * hD d 1 + d 1 := hD_s (by omega)
  have e3 : hD d 3 = 27 * hD d 2 + d 2 := hD_s (by omega)
  have e4 : hD d 4 = 27 * hD d 3 + d 3 := hD_s (by omega)
  have e5 : hD d 5 = 27 * hD d 4 + d 4 := hD_s (by omega)
  have e0 : hD d 0 = 0 := rfl
  by_cases z : 6 ≤ m
  · have := (hD_5g (show 5 ≤ m by omega) (hd 0 (by omega)).1).2 z
    constructor <;> intro q <;> omega
  · by_cases z5 : m = 5
    · subst z5
      have k0 := hd 0 (by omega)
      have k1 := hd 1 (by omega)
      have k2 := hd 2 (by omega)
      have k3 := hd 3 (by omega)
      have k4 := hd 4 (by omega)
      constructor
      · intro q
        rw [e5] at q
        have q4 : d 4 = F := by omega
        have r4 : hD d 4 = 27 * (27 * (27 * A + B) + C) + D := by omega
        obtain ⟨_, s0, s1, s2, s3⟩ := (hD_4 (m := 4) (fun i hi => hd i (by omega)) (by omega) hB hC hDD).mp r4
        exact ⟨rfl, s0, s1, s2, s3, q4⟩
      · intro ⟨_, q0, q1, q2, q3, q4⟩
        omega
    · rcases (show m = 0 ∨ m = 1 ∨ m = 2 ∨ m = 3 ∨ m = 4 by omega) with rfl | rfl | rfl | rfl | rfl
      · constructor <;> intro q <;> omega
      · have k0 := hd 0 (by omega)
        constructor <;> intro q <;> omega
      · have k0 := hd 0 (by omega)
        have k1 := hd 1 (by omega)
        constructor <;> intro q <;> omega
      · have k0 := hd 0 (by omega)
        have k1 := hd 1 (by omega)
        have k2 := hd 2 (by omega)
        constructor <;> intro q <;> omega
      · have k0 := hd 0 (by omega)
        have k1 := hd 1 (by omega)
        have k2 := hd 2 (by omega)
        have k3 := hd 3 (by omega)
        constructor <;> intro q <;> omega
theorem sm_d {t : Nat → Nat} {p m : Nat} (hs : ∀ i, i < m → 97 ≤ t (p + i) ∧ t (p + i) ≤ 122) : ∀ i, i < m → 1 ≤ (fun i => t (p + i) - 96) i ∧ (fun i => t (p + i) - 96) i ≤ 26 := fun i hi => by
  have := hs i hi
  show 1 ≤ t (p + i) - 96 ∧ t (p + i) - 96 ≤ 26
  omega
theorem hN_lt {t : Nat → Nat} {p : Nat} (ht : ∀ i, t i ≤ 126) (m : Nat) : hN t p m < 2 ^ 40 := hD_lt (fun i => by
  have := ht (p + i)
  show t (p + i) - 96 ≤ 30
  omega) m
theorem hN_4 {t : Nat → Nat} {p m A B C D : Nat} (hs : ∀ i, i < m → 97 ≤ t (p + i) ∧ t (p + i) ≤ 122) (hA : 1 ≤ A ∧ A ≤ 26) (hB : 1 ≤ B ∧ B ≤ 26) (hC : 1 ≤ C ∧ C ≤ 26) (hDD : 1 ≤ D ∧ D ≤ 26) : hN t p m = 27 * (27 * (27 * A + B) + C) + D ↔ (m = 4 ∧ t (p + 0) = 96 + A ∧ t (p + 1) = 96 + B ∧ t (p + 2) = 96 + C ∧ t (p + 3) = 96 + D) := by
  refine Iff.trans (hD_4 (sm_d hs) hA hB hC hDD) ?_
  constructor
  · intro ⟨q, q0, q1, q2, q3⟩
    exact ⟨q, by omega, by omega, by omega, by omega⟩
  · intro ⟨q, q0, q1, q2, q3⟩
    exact ⟨q, by omega, by omega, by omega, by omega⟩
theorem hN_5 {t : Nat → Nat} {p m : Nat} (hs : ∀ i, i < m → 97 ≤ t (p + i) ∧ t (p + i) ≤ 122) : hN t p m = 10502465 ↔ (m = 5 ∧ t (p + 0) = 115 ∧ t (p + 1) = 116 ∧ t (p + 2) = 111 ∧ t (p + 3) = 114 ∧ t (p + 4) = 101) := by
  refine Iff.trans (hD_5 (A := 19) (B := 20) (C := 15) (D := 18) (F := 5) (sm_d hs) (by omega) (by omega) (by omega) (by omega) (by omega)) ?_
  constructor
  · intro ⟨q, q0, q1, q2, q3, q4⟩
    exact ⟨q, by omega, by omega, by omega, by omega, by omega⟩
  · intro ⟨q, q0, q1, q2, q3, q4⟩
    exact ⟨q, by omega, by omega, by omega, by omega, by omega⟩
theorem sp_4 {t : Nat → Nat} {p m id a b c d : Nat} (ht : ∀ i, t i ≤ 126) (hn : sw_sn id = 4) (ha : sw_sc id (nI 0) = nI a ∧ a < 127) (hb : sw_sc id (nI 1) = nI b ∧ b < 127) (hc : sw_sc id (nI 2) = nI c ∧ c < 127) (hd : sw_sc id (nI 3) = nI d ∧ d < 127) : sp t p m id = true ↔ (m = 4 ∧ t (p + 0) = a ∧ t (p + 1) = b ∧ t (p + 2) = c ∧ t (p + 3) = d) := by
  unfold sp
  have k0 := ht (p + 0)
  have k1 := ht (p + 1)
  have k2 := ht (p + 2)
  have k3 := ht (p + 3)
  rw [hn, show List.range 4 = [0, 1, 2, 3] from rfl]
  simp only [List.all_cons, List.all_nil, Bool.and_eq_true, decide_eq_true_eq, Bool.and_true]
  rw [ha.1, hb.1, hc.1, hd.1, nI_eq (by omega) (by omega), nI_eq (by omega) (by omega), nI_eq (by omega) (by omega), nI_eq (by omega) (by omega)]
theorem sp_5 {t : Nat → Nat} {p m : Nat} (ht : ∀ i, t i ≤ 126) : sp t p m 107 = true ↔ (m = 5 ∧ t (p + 0) = 115 ∧ t (p + 1) = 116 ∧ t (p + 2) = 111 ∧ t (p + 3) = 114 ∧ t (p + 4) = 101) := by
  unfold sp
  have k0 := ht (p + 0)
  have k1 := ht (p + 1)
  have k2 := ht (p + 2)
  have k3 := ht (p + 3)
  have k4 := ht (p + 4)
  rw [show sw_sn 107 = 5 by decide, show List.range 5 = [0, 1, 2, 3, 4] from rfl]
  simp only [List.all_cons, List.all_nil, Bool.and_eq_true, decide_eq_true_eq, Bool.and_true]
  rw [show sw_sc 107 (nI 0) = nI 115 by decide, show sw_sc 107 (nI 1) = nI 116 by decide, show sw_sc 107 (nI 2) = nI 111 by decide, show sw_sc 107 (nI 3) = nI 114 by decide, show sw_sc 107 (nI 4) = nI 101 by decide, nI_eq (by omega) (by omega), nI_eq (by omega) (by omega), nI_eq (by omega) (by omega), nI_eq (by omega) (by omega), nI_eq (by omega) (by omega)]
theorem m_word_go {y : sw_St} {n p : Nat} {t : Nat → Nat} (h : TM y n t) (hp : p ≤ n) : ∀ (fu j : Nat), j ≤ runL isSm t 300 p → runL isSm t 300 p - j < fu → f_X7_word_4 fu (sw_up y 1 31 (nI (p + j))) (lN (hN t p j)) (nI j) = some (lN (hN t p (runL isSm t 300 p)), sw_up y 1 31 (nI (p + runL isSm t 300 p))) := by
  obtain ⟨r1, r2⟩ := run_n h.2.2.2.2 hp h.2.1
  have hn := h.2.1
  intro fu
  induction fu with
  | zero => intro j _ w; omega
  | succ fu ih =>
    intro j hj hf
    have ht := tM_126 h (p + j)
    have hT : TM (sw_up y 1 31 (nI (p + j))) n t := FM_T (FM_1 (Or.inl rfl)) h
    rw [f_X7_word_4]
    unfold f_X7_word_54
    dsimp only
    rw [up_eq, m_let hT (by omega), bd_s, m_small _ (by omega), bd_s, bd_s]
    by_cases z : j = runL isSm t 300 p
    · rw [z, if_pos (by rw [r2]; rfl)]
    · have hsm := run_all (f := isSm) (t := t) 300 p j (by omega)
      have hsm2 := hsm
      unfold isSm at hsm2
      simp only [Bool.and_eq_true, decide_eq_true_eq] at hsm2
      rw [if_pos hsm, if_neg n10]
      simp only [sw_pt]
      rw [up_up2, nI_1, nI_1, show (7 : Int32) = nI 7 from rfl]
      by_cases z7 : 7 ≤ j
      · rw [if_pos (nI_le z7 (by omega))]
        have := ih (j + 1) (by omega) (by omega)
        rw [hN_f (by omega)] at this
        exact this
      · rw [if_neg (nI_ge (by omega) (by omega)), nI_l (by omega), show (27 : Int64) = lN 27 from rfl, show (96 : Int64) = lN 96 from rfl, lN_mul, lN_add, lN_sub (by omega)]
        have := ih (j + 1) (by omega) (by omega)
        rw [hN_s (by omega)] at this
        rw [show 27 * hN t p j + t (p + j) - 96 = 27 * hN t p j + (t (p + j) - 96) by omega]
        exact this
theorem m_nb_go2 {y : sw_St} {n q : Nat} {lo hi : Int32} {t : Nat → Nat} (h : TM y n t) (hq : q < 2 ^ 20) : ∀ (fu j : Nat), j ≤ runL isFg t 5 (q + 1) → runL isFg t 5 (q + 1) - j < fu → f_X7_number_31 fu (sw_up y 1 31 (nI (q + 1 + j))) lo hi (nI (vP t (q + 1) j)) (nI j) = f_X7_number_91 (sw_up y 1 31 (nI (q + 1 + runL isFg t 5 (q + 1)))) lo hi (nI (vP t (q + 1) (runL isFg t 5 (q + 1)))) (nI (runL isFg t 5 (q + 1))) := by
  have hr5 := run_le (f := isFg) (t := t) 5 (q + 1)
  intro fu
  induction fu with
  | zero => intro j _ w; omega
  | succ fu ih =>
    intro j hj hf
    have ht := tM_126 h (q + 1 + j)
    have hT : TM (sw_up y 1 31 (nI (q + 1 + j))) n t := FM_T (FM_1 (Or.inl rfl)) h
    rw [f_X7_number_31]
    dsimp only
    rw [up_eq, m_let hT (by omega), bd_s, m_figure _ (by omega), bd_s, bd_s, show (5 : Int32) = nI 5 from rfl]
    by_cases z : j = runL isFg t 5 (q + 1)
    · by_cases zf : isFg (t (q + 1 + j)) = true
      · have z5 : j = 5 := by
          apply Classical.byContradiction
          intro w
          have := run_stop (f := isFg) (t := t) 5 (q + 1) (by omega)
          rw [← z, zf] at this
          cases this
        rw [if_pos zf, if_neg n10, if_pos (nI_le (by omega) (by omega)), z]
      · rw [if_neg zf, if_pos rfl, z]
    · have hfg := run_all (f := isFg) (t := t) 5 (q + 1) j (by omega)
      have hfg2 := hfg
      unfold isFg at hfg2
      simp only [Bool.and_eq_true, decide_eq_true_eq] at hfg2
      rw [if_pos hfg, if_neg n10, if_neg (nI_ge (by omega) (by omega))]
      simp only [sw_pt]
      rw [up_up2, nI_1, nI_1, show (10 : Int32) = nI 10 from rfl, show (48 : Int32) = nI 48 from rfl, pn_mul, nI_add, pn_sub (by omega)]
      have := ih (j + 1) (by omega) (by omega)
      rw [vP] at this
      rw [show 10 * vP t (q + 1) j + t (q + 1 + j) - 48 = 10 * vP t (q + 1) j + (t (q + 1 + j) - 48) by omega]
      exact this
theorem m_num {y : sw_St} {n q lo hi : Nat} {t : Nat → Nat} (h : TM y n t) (hq : q < 2 ^ 20) (hs : y 1 31 = nI q) (hlo : lo < 2 ^ 30) (hhi : hi < 2 ^ 30) : wp (f_X7_number y (nI lo) (nI hi)) (fun r => (∃ s, r.2 = sw_up y 1 31 s) ∧ ((∃ v e, num t q = some (v, e) ∧ lo ≤ v ∧ v ≤ hi ∧ r.1 = nI v ∧ r.2 1 31 = nI e) ∨ (r.1 = -4 ∧ ∀ v e, num t q = some (v, e) → ¬ (lo ≤ v ∧ v ≤ hi)))) := by
  have ht := tM_126 h q
  unfold f_X7_number
  rw [hs, m_let h (by omega), bd_s, show (32 : Int32) = nI 32 from rfl]
  by_cases z : t q = 32
  · rw [if_pos (by rw [z])]
    simp only [sw_pt]
    rw [nI_1]
    have hr5 := run_le (f := isFg) (t := t) 5 (q + 1)
    have hg := m_nb_go2 (lo := nI lo) (hi := nI hi) h hq sw_fuel 0 (Nat.zero_le _) (by unfold sw_fuel; omega)
    have hg' : f_X7_number_31 sw_fuel (sw_up y 1 31 (nI (q + 1))) (nI lo) (nI hi) 0 0 = _ := hg
    rw [hg']
    have hv := vP_lt (runL isFg t 5 (q + 1)) (fun i hi => run_all (f := isFg) (t := t) 5 (q + 1) i hi)
    have h5 : (10 : Nat) ^ runL isFg t 5 (q + 1) ≤ 10 ^ 5 := Nat.pow_le_pow_right (by omega) hr5
    have e4 : (1 : Int64).toInt = 1 ∧ (4 : Int64).toInt = 4 := by decide
    have eh : (Int32.toInt64 (nI hi)).toInt = hi := by rw [Int32.toInt_toInt64, nI_toInt (by omega)]
    have el : (Int32.toInt64 (nI lo)).toInt = lo := by rw [Int32.toInt_toInt64, nI_toInt (by omega)]
    unfold f_X7_number_91
    rw [m_in, m_in, e4.1, e4.2, eh, el, nI_toInt (by omega), nI_toInt (by omega), bd_s, bd_s]
    by_cases z1 : 1 ≤ runL isFg t 5 (q + 1) ∧ runL isFg t 5 (q + 1) ≤ 4
    · have hnum : num t q = some (vP t (q + 1) (runL isFg t 5 (q + 1)), q + 1 + runL isFg t 5 (q + 1)) := by
        unfold num
        rw [if_pos ⟨z, z1⟩]
      rw [if_pos (show (1 : Int) ≤ (runL isFg t 5 (q + 1) : Int) ∧ (runL isFg t 5 (q + 1) : Int) ≤ 4 by omega), if_neg n10]
      by_cases z2 : lo ≤ vP t (q + 1) (runL isFg t 5 (q + 1)) ∧ vP t (q + 1) (runL isFg t 5 (q + 1)) ≤ hi
      · rw [if_pos (show (lo : Int) ≤ (vP t (q + 1) (runL isFg t 5 (q + 1)) : Int) ∧ (vP t (q + 1) (runL isFg t 5 (q + 1)) : Int) ≤ hi by omega), if_neg n10]
        exact wp_some ⟨⟨_, rfl⟩, Or.inl ⟨_, _, hnum, z2.1, z2.2, rfl, by dsimp only; rw [up_eq]⟩⟩
      · rw [if_neg (show ¬ ((lo : Int) ≤ (vP t (q + 1) (runL isFg t 5 (q + 1)) : Int) ∧ (vP t (q + 1) (runL isFg t 5 (q + 1)) : Int) ≤ hi) by omega), if_pos rfl]
        refine wp_some ⟨⟨_, rfl⟩, Or.inr ⟨rfl, fun v e hv => ?_⟩⟩
        rw [hnum] at hv
        cases hv
        exact z2
    · rw [if_neg (show ¬ ((1 : Int) ≤ (runL isFg t 5 (q + 1) : Int) ∧ (runL isFg t 5 (q + 1) : Int) ≤ 4) by omega), if_pos rfl]
      refine wp_some ⟨⟨_, rfl⟩, Or.inr ⟨rfl, fun v e hv => ?_⟩⟩
      unfold num at hv
      rw [if_neg (fun w => z1 w.2)] at hv
      cases hv
  · rw [if_neg (fun w => z ((nI_eq (by omega) (by omega)).mp w))]
    refine wp_some ⟨⟨y 1 31, up_self2.symm⟩, Or.inr ⟨rfl, fun v e hv => ?_⟩⟩
    unfold num at hv
    rw [if_neg (fun w => z w.1)] at hv
    cases hv
