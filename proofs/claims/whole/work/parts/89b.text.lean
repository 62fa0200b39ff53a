/-! PURE: the text, and what is read of it -/
def isSm (k : Nat) : Bool := decide (97 ≤ k) && decide (k ≤ 122)
def isFg (k : Nat) : Bool := decide (48 ≤ k) && decide (k ≤ 57)
def runL (f : Nat → Bool) (t : Nat → Nat) : Nat → Nat → Nat
  | 0, _ => 0
  | k + 1, p => if f (t p) = true then runL f t k (p + 1) + 1 else 0
theorem run_all {f : Nat → Bool} {t : Nat → Nat} : ∀ (k p i : Nat), i < runL f t k p → f (t (p + i)) = true
  | 0, p, i, h => by
    unfold runL at h
    omega
  | k + 1, p, i, h => by
    unfold runL at h
    by_cases z : f (t p) = true
    · rw [if_pos z] at h
      cases i with
      | zero => exact z
      | succ i =>
        have := run_all (f := f) (t := t) k (p + 1) i (by omega)
        rw [show p + 1 + i = p + (i + 1) by omega] at this
        exact this
    · rw [if_neg z] at h
      omega
theorem run_le {f : Nat → Bool} {t : Nat → Nat} : ∀ (k p : Nat), runL f t k p ≤ k
  | 0, p => Nat.le_refl _
  | k + 1, p => by
    unfold runL
    split
    · have := run_le (f := f) (t := t) k (p + 1)
      omega
    · omega
theorem run_stop {f : Nat → Bool} {t : Nat → Nat} : ∀ (k p : Nat), runL f t k p < k → f (t (p + runL f t k p)) = false
  | 0, p, h => by omega
  | k + 1, p, h => by
    unfold runL at h ⊢
    by_cases z : f (t p) = true
    · rw [if_pos z] at h ⊢
      have := run_stop (f := f) (t := t) k (p + 1) (by omega)
      rw [show p + 1 + runL f t k (p + 1) = p + (runL f t k (p + 1) + 1) by omega] at this
      exact this
    · rw [if_neg z]
      exact Bool.eq_false_iff.mpr z
/-- the number that figures tell -/
def vP (t : Nat → Nat) (q : Nat) : Nat → Nat
  | 0 => 0
  | j + 1 => 10 * vP t q j + (t (q + j) - 48)
theorem vP_lt {t : Nat → Nat} {q : Nat} : ∀ (j : Nat), (∀ i, i < j → isFg (t (q + i)) = true) → vP t q j < 10 ^ j
  | 0, _ => Nat.zero_lt_one
  | j + 1, h => by
    have h1 := vP_lt j (fun i hi => h i (by omega))
    have h2 := h j (by omega)
    unfold isFg at h2
    simp only [Bool.and_eq_true, decide_eq_true_eq] at h2
    unfold vP
    rw [Nat.pow_succ]
    omega
def num (t : Nat → Nat) (q : Nat) : Option (Nat × Nat) := if t q = 32 ∧ 1 ≤ runL isFg t 5 (q + 1) ∧ runL isFg t 5 (q + 1) ≤ 4 then some (vP t (q + 1) (runL isFg t 5 (q + 1)), q + 1 + runL isFg t 5 (q + 1)) else none
/-- whether a word stands there -/
def sp (t : Nat → Nat) (p m id : Nat) : Bool := decide (m = sw_sn id) && (List.range (sw_sn id)).all (fun i => decide (nI (t (p + i)) = sw_sc id (nI i)))
def vb (t : Nat → Nat) (p m : Nat) : Nat := if sp t p m 105 = true then 0 else if sp t p m 106 = true then 1 else if sp t p m 107 = true then 2 else if sp t p m 108 = true then 3 else 4
def fin1 (t : Nat → Nat) (C v : Nat) (a : Nat × Nat) : Option (Nat × Nat × Nat × Nat × Nat) := if t a.2 = 59 ∧ 1 ≤ a.1 ∧ a.1 ≤ 99 then some (v, a.1, 0, 0, a.2 + 1) else none
def fin2 (t : Nat → Nat) (C v : Nat) (a b : Nat × Nat) : Option (Nat × Nat × Nat × Nat × Nat) := if t b.2 = 59 ∧ a.1 < C ∧ b.1 < 8 then some (v, a.1, b.1, 0, b.2 + 1) else none
def fin3 (t : Nat → Nat) (C v : Nat) (a b c : Nat × Nat) : Option (Nat × Nat × Nat × Nat × Nat) := if t c.2 = 59 ∧ a.1 < C ∧ b.1 < 8 then some (v, a.1, b.1, c.1, c.2 + 1) else none
/-- the command at a place: its word, its numbers, its end -/
def prsV (t : Nat → Nat) (C q v : Nat) : Option (Nat × Nat × Nat × Nat × Nat) :=
  if v = 0 then (num t q).bind (fin1 t C v)
  else if v = 2 then (num t q).bind fun a => (num t a.2).bind fun b => (num t b.2).bind (fin3 t C v a b)
  else if v = 4 then none
  else (num t q).bind fun a => (num t a.2).bind (fin2 t C v a)
def prs (t : Nat → Nat) (C p : Nat) : Option (Nat × Nat × Nat × Nat × Nat) := prsV t C (p + runL isSm t 300 p) (vb t p (runL isSm t 300 p))
/-- the text in the class, in the model -/
def TX (x : sw_St) (n : Nat) (t : Nat → Nat) : Prop := x 44 2 = nI n ∧ n ≤ 200 ∧ (∀ i, i < n → x 45 i = nI (t i)) ∧ (∀ i, i < n → 32 ≤ t i ∧ t i ≤ 126) ∧ (∀ i, n ≤ i → t i = 0)
def TM (y : sw_St) (n : Nat) (t : Nat → Nat) : Prop := y 1 29 = nI n ∧ n ≤ 200 ∧ (∀ i, i < n → y 18 i = nI (t i)) ∧ (∀ i, i < n → 32 ≤ t i ∧ t i ≤ 126) ∧ (∀ i, n ≤ i → t i = 0)
theorem t_126 {y : sw_St} {n : Nat} {t : Nat → Nat} (h : TX y n t) (i : Nat) : t i ≤ 126 := by
  by_cases z : i < n
  · exact (h.2.2.2.1 i z).2
  · rw [h.2.2.2.2 i (by omega)]; omega
theorem tM_126 {y : sw_St} {n : Nat} {t : Nat → Nat} (h : TM y n t) (i : Nat) : t i ≤ 126 := by
  by_cases z : i < n
  · exact (h.2.2.2.1 i z).2
  · rw [h.2.2.2.2 i (by omega)]; omega
theorem fz_ch : ∀ k, k < 127 → sw_fz .char (nI k) = true := by decide
theorem c16_ch : ∀ k, k < 127 → vp_nar .char (sw_c16 (nI k)) = nI k := by decide
theorem x_let {x : sw_St} {n i : Nat} {t : Nat → Nat} (h : TX x n t) (hi : i < 2 ^ 31) : f_X5_letterAt x (nI i) = some (nI (t i)) := by
  obtain ⟨h1, h2, h3, h4, h5⟩ := h
  unfold f_X5_letterAt
  rw [if_neg (nI_pos hi), h1]
  by_cases z : i < n
  · rw [if_neg (nI_ge z (by omega))]
    simp (disch := omega) only [ck_tt, pn_in, pn_ix]
    rw [h3 i z, ck_t (fz_ch _ (by have := (h4 i z).2; omega))]
  · rw [if_pos (nI_le (by omega) hi), h5 i (by omega)]
    rfl
theorem m_let {y : sw_St} {n i : Nat} {t : Nat → Nat} (h : TM y n t) (hi : i < 2 ^ 31) : f_X7_letterAt y (nI i) = some (nI (t i)) := by
  obtain ⟨h1, h2, h3, h4, h5⟩ := h
  unfold f_X7_letterAt
  rw [h1]
  by_cases z : i < n
  · rw [if_neg (nI_ge z (by omega))]
    simp (disch := omega) only [ck_tt, pn_in, pn_ix]
    rw [h3 i z]
  · rw [if_pos (nI_le (by omega) hi), h5 i (by omega)]
    rfl
theorem x_small (x : sw_St) {k : Nat} (hk : k < 2 ^ 31) : f_X5_isSmall x (nI k) = some (if isSm k = true then 1 else 0) := by
  unfold f_X5_isSmall isSm
  rw [show (97 : Int32) = nI 97 from rfl, show (122 : Int32) = nI 122 from rfl]
  simp (disch := omega) only [nI_ltI]
  by_cases z1 : k < 97
  · rw [if_pos z1]
    have : ¬ 97 ≤ k := by omega
    simp [this]
  · rw [if_neg z1]
    by_cases z2 : 122 < k
    · rw [if_pos z2]
      have : ¬ k ≤ 122 := by omega
      simp [this]
    · rw [if_neg z2]
      have : 97 ≤ k ∧ k ≤ 122 := by omega
      simp [this]
theorem x_figure (x : sw_St) {k : Nat} (hk : k < 2 ^ 31) : f_X5_isFigure x (nI k) = some (if isFg k = true then 1 else 0) := by
  unfold f_X5_isFigure isFg
  rw [show (48 : Int32) = nI 48 from rfl, show (57 : Int32) = nI 57 from rfl]
  simp (disch := omega) only [nI_ltI]
  by_cases z1 : k < 48
  · rw [if_pos z1]
    have : ¬ 48 ≤ k := by omega
    simp [this]
  · rw [if_neg z1]
    by_cases z2 : 57 < k
    · rw [if_pos z2]
      have : ¬ k ≤ 57 := by omega
      simp [this]
    · rw [if_neg z2]
      have : 48 ≤ k ∧ k ≤ 57 := by omega
      simp [this]
theorem m_small (y : sw_St) {k : Nat} (hk : k < 2 ^ 31) : f_X7_in y (Int32.toInt64 (nI k)) (97 : Int64) (122 : Int64) = some (if isSm k = true then 1 else 0) := by
  have e : (97 : Int64).toInt = 97 ∧ (122 : Int64).toInt = 122 := by decide
  rw [m_in, e.1, e.2, nI_toInt hk]
  unfold isSm
  by_cases z : 97 ≤ k ∧ k ≤ 122
  · rw [if_pos (by omega)]; simp [z]
  · rw [if_neg (by omega)]; simp; omega
theorem m_figure (y : sw_St) {k : Nat} (hk : k < 2 ^ 31) : f_X7_in y (Int32.toInt64 (nI k)) (48 : Int64) (57 : Int64) = some (if isFg k = true then 1 else 0) := by
  have e : (48 : Int64).toInt = 48 ∧ (57 : Int64).toInt = 57 := by decide
  rw [m_in, e.1, e.2, nI_toInt hk]
  unfold isFg
  by_cases z : 48 ≤ k ∧ k ≤ 57
  · rw [if_pos (by omega)]; simp [z]
  · rw [if_neg (by omega)]; simp; omega
/-- the word ends within the text -/
theorem run_n {t : Nat → Nat} {n p : Nat} (hz : ∀ i, n ≤ i → t i = 0) (hp : p ≤ n) (hn : n ≤ 200) : p + runL isSm t 300 p ≤ n ∧ isSm (t (p + runL isSm t 300 p)) = false := by
  have h1 : p + runL isSm t 300 p ≤ n := by
    apply Classical.byContradiction
    intro q
    have := run_all (f := isSm) (t := t) 300 p (n - p) (by omega)
    rw [show p + (n - p) = n by omega, hz n (Nat.le_refl _)] at this
    exact absurd this (by decide)
  exact ⟨h1, run_stop 300 p (by omega)⟩
/-- a number ends within the text, and is small -/
theorem num_bd {t : Nat → Nat} {n q v e : Nat} (hz : ∀ i, n ≤ i → t i = 0) (h : num t q = some (v, e)) : q < e ∧ e ≤ n ∧ v < 10000 ∧ v ≤ 9999 := by
  unfold num at h
  by_cases z : t q = 32 ∧ 1 ≤ runL isFg t 5 (q + 1) ∧ runL isFg t 5 (q + 1) ≤ 4
  · rw [if_pos z] at h
    cases h
    have hv := vP_lt (runL isFg t 5 (q + 1)) (fun i hi => run_all (f := isFg) (t := t) 5 (q + 1) i hi)
    have h4 : (10 : Nat) ^ runL isFg t 5 (q + 1) ≤ 10 ^ 4 := Nat.pow_le_pow_right (by omega) z.2.2
    have hl := run_all (f := isFg) (t := t) 5 (q + 1) (runL isFg t 5 (q + 1) - 1) (by omega)
    have he : q + 1 + runL isFg t 5 (q + 1) ≤ n := by
      apply Classical.byContradiction
      intro w
      rw [hz _ (by omega)] at hl
      exact absurd hl (by decide)
    exact ⟨by omega, he, by omega, by omega⟩
  · rw [if_neg z] at h
    cases h
-- write and wipe
theorem TX_k {x z : sw_St} {n : Nat} {t : Nat → Nat} (h : TX x n t) (h1 : z 44 2 = x 44 2) (h2 : z 45 = x 45) : TX z n t := ⟨by rw [h1]; exact h.1, h.2.1, by rw [h2]; exact h.2.2.1, h.2.2.2⟩
theorem TM_k {x z : sw_St} {n : Nat} {t : Nat → Nat} (h : TM x n t) (h1 : z 1 29 = x 1 29) (h2 : z 18 = x 18) : TM z n t := ⟨by rw [h1]; exact h.1, h.2.1, by rw [h2]; exact h.2.2.1, h.2.2.2⟩
def Tx (x y : sw_St) : Prop := (∃ n t, TX x n t ∧ TM y n t) ∧ Wl y
theorem RX_far {s : Sx} {x z : sw_St} (h : RX s x) (hz : ∀ a, a < 44 → z a = x a) : RX s z := by
  obtain ⟨h1, h2, h3, h4, h5, h6, h7⟩ := h
  refine ⟨scX_k h1 (hz _ (by omega)) (hz _ (by omega)), fun l hl => by rw [hz 5 (by omega)]; exact h2 l hl, fun c hc => cacheX_k (h3 c hc) (fun a _ _ => hz a (by omega)), fun c hc => opX_k (h4 c hc) (hz _ (by omega)) (fun _ _ => Iff.rfl) (fun _ _ => Iff.rfl) ⟨rfl, rfl, rfl⟩, fun c i hc hi => bkX_k (h5 c i hc hi) (hz _ (by omega)) (fun _ _ => Iff.rfl) (fun _ _ => Iff.rfl), fun c hc => by rw [hz _ (by omega)]; exact h6 c hc, logX_k h7 (hz _ (by omega)) (hz _ (by omega))⟩
theorem RM_far {s : Sx} {x z : sw_St} (h : RM s x) (hz : ∀ a, a ≠ 1 → a < 18 → z a = x a) (h1 : ∀ j, j ≠ 29 → j ≠ 31 → j ≠ 33 → z 1 j = x 1 j) : RM s z := by
  obtain ⟨a1, a2, a3, a4, a5, a6, a7, a8⟩ := h
  exact ⟨scM_k a1 (fun j _ _ q1 q2 q3 => h1 j q1 q2 q3), fun l hl => by rw [hz 2 (by omega) (by omega)]; exact a2 l hl, fun c' hc' => rowM_k (a3 c' hc') (by rw [hz 3 (by omega) (by omega)]) (fun i _ => by rw [hz 4 (by omega) (by omega), hz 5 (by omega) (by omega), hz 6 (by omega) (by omega)]; exact ⟨rfl, rfl, rfl⟩), fun c' hc' => bufM_k (a4 c' hc') (by rw [hz 7 (by omega) (by omega)]) (fun i _ => by rw [hz 8 (by omega) (by omega), hz 9 (by omega) (by omega)]; exact ⟨rfl, rfl⟩), fun c' hc' => opM_k (a5 c' hc') (fun a q1 q2 => by rw [hz a (by omega) (by omega)]), askM_k a6 (h1 18 (by decide) (by decide) (by decide)) (hz 15 (by omega) (by omega)), opnM_k a7 (h1 21 (by decide) (by decide) (by decide)) (hz 16 (by omega) (by omega)), ordM_k a8 (hz 17 (by omega) (by omega))⟩
/-- the two memories stand for one state -/
def RR (b : Nat) (x y : sw_St) : Prop := ∃ s, Inv b s ∧ RX s x ∧ RM s y
theorem e_wipe {b : Nat} {x y : sw_St} (h : RR b x y) (ht : Tx x y) : ∃ r x' y', f_X6_wipe x = some (r, x') ∧ f_X7_wipe y = some (r, y') ∧ RR b x' y' ∧ Tx x' y' := by
  obtain ⟨s, hI, hx, hy⟩ := h
  obtain ⟨⟨n, t, t1, t2⟩, hw⟩ := ht
  refine ⟨nI n, sw_up x 44 2 0, sw_up y 1 29 0, ?_, ?_, ⟨s, hI, RX_far hx (fun a ha => up_ne (by omega)), RM_far hy (fun a h1 _ => up_ne h1) (fun j h1 _ _ => up_nj h1)⟩, ⟨0, fun _ => 0, ⟨up_eq, by omega, fun i hi => by omega, fun i hi => by omega, fun _ _ => rfl⟩, ⟨up_eq, by omega, fun i hi => by omega, fun i hi => by omega, fun _ _ => rfl⟩⟩, fun j hj => ?_⟩
  · unfold f_X6_wipe
    simp only [sw_pt]
    rw [t1.1]
  · unfold f_X7_wipe
    simp only [sw_pt]
    rw [t2.1]
  · rw [up_ne (by decide)]
    exact hw j hj
theorem e_write {b : Nat} {x y : sw_St} (a : Int32) (h : RR b x y) (ht : Tx x y) : ∃ r x' y', f_X6_write x a = some (r, x') ∧ f_X7_write y a = some (r, y') ∧ RR b x' y' ∧ Tx x' y' := by
  have e : (32 : Int64).toInt = 32 ∧ (126 : Int64).toInt = 126 := by decide
  unfold f_X6_write f_X7_write
  rw [x_letter, m_in, e.1, e.2, bd_s, bd_s]
  by_cases z : 32 ≤ a.toInt ∧ a.toInt ≤ 126
  · simp only [if_pos z, if_neg n10]
    obtain ⟨k, hk, rfl⟩ := ok_ex (a := a) (n := 127) ⟨by omega, by omega⟩ (by omega)
    rw [nI_toInt (by omega)] at z
    obtain ⟨⟨n, t, t1, t2⟩, hw⟩ := ht
    have hn := t1.2.1
    unfold f_X5_append
    rw [t1.1, t2.1, show (200 : Int32) = nI 200 from rfl, c16_ch k hk]
    by_cases q : n < 200
    · rw [if_pos (nI_lt q (by omega)), if_neg (fun w => by have := (nI_eq (by omega) (by omega)).mp w; omega)]
      simp (disch := omega) only [ck_tt, pn_in, pn_ix, sw_pt]
      obtain ⟨s, hI, hx, hy⟩ := h
      have e1 : sw_up x 45 n (nI k) 44 2 = nI n := by rw [up_ne (by decide)]; exact t1.1
      have e2 : sw_up y 18 n (nI k) 1 29 = nI n := by rw [up_ne (by decide)]; exact t2.1
      rw [e1, e2, nI_1]
      simp only [bd_s, up_eq]
      refine ⟨_, _, _, rfl, rfl, ⟨s, hI, RX_far hx (fun a ha => by rw [up_ne (by omega), up_ne (by omega)]), RM_far hy (fun a h1 h2 => by rw [up_ne h1, up_ne (by omega)]) (fun j h1 _ _ => by rw [up_nj h1, up_ne (by decide)])⟩, ⟨n + 1, fun i => if i = n then k else t i, ⟨up_eq, by omega, fun i hi => ?_, fun i hi => ?_, fun i hi => ?_⟩, ⟨up_eq, by omega, fun i hi => ?_, fun i hi => ?_, fun i hi => ?_⟩⟩, fun j hj => ?_⟩
      · rw [up_ne (by decide)]
        by_cases w : i = n
        · simp only [w, up_eq, if_true]
        · rw [up_nj w]
          simp only [if_neg w]
          exact t1.2.2.1 i (by omega)
      · by_cases w : i = n
        · simp only [if_pos w]; omega
        · simp only [if_neg w]; exact t1.2.2.2.1 i (by omega)
      · simp only [if_neg (show ¬ i = n by omega)]
        exact t1.2.2.2.2 i (by omega)
      · rw [up_ne (by decide)]
        by_cases w : i = n
        · simp only [w, up_eq, if_true]
        · rw [up_nj w]
          simp only [if_neg w]
          exact t2.2.2.1 i (by omega)
      · by_cases w : i = n
        · simp only [if_pos w]; omega
        · simp only [if_neg w]; exact t1.2.2.2.1 i (by omega)
      · simp only [if_neg (show ¬ i = n by omega)]
        exact t1.2.2.2.2 i (by omega)
      · rw [up_ne (by decide), up_ne (by decide)]
        exact hw j hj
    · have : n = 200 := by omega
      subst this
      rw [if_neg (nI_nlt (by omega) (by omega)), if_pos rfl, bd_s]
      exact ⟨_, _, _, rfl, rfl, h, ⟨_, t, t1, t2⟩, hw⟩
  · simp only [if_neg z, if_true]
    exact ⟨_, _, _, rfl, rfl, h, ht⟩
