/-! PURE: a command is understood, in the class -/
def FX (x z : sw_St) : Prop := (∀ a, a ≠ 44 → a ≠ 46 → z a = x a) ∧ (∀ j, j ≠ 3 → j ≠ 4 → z 44 j = x 44 j)
theorem FX_r (x : sw_St) : FX x x := ⟨fun _ _ _ => rfl, fun _ _ _ => rfl⟩
theorem FX_t {x y z : sw_St} (h : FX x y) (k : FX y z) : FX x z := ⟨fun a h1 h2 => by rw [k.1 a h1 h2, h.1 a h1 h2], fun j h1 h2 => by rw [k.2 j h1 h2, h.2 j h1 h2]⟩
theorem FX_T {x z : sw_St} {n : Nat} {t : Nat → Nat} (h : FX x z) (k : TX x n t) : TX z n t := TX_k k (h.2 2 (by decide) (by decide)) (h.1 45 (by decide) (by decide))
theorem FX_44 {x : sw_St} {j : Nat} {v : Int32} (h : j = 3 ∨ j = 4) : FX x (sw_up x 44 j v) := ⟨fun a h1 _ => up_ne h1, fun i h1 h2 => up_nj (by omega)⟩
theorem FX_46 {x z : sw_St} (h : ∀ a, a ≠ 46 → z a = x a) : FX x z := ⟨fun a _ h2 => h a h2, fun j _ _ => by rw [h 44 (by decide)]⟩
theorem sn_5 {id : Nat} (h : 105 ≤ id ∧ id ≤ 108) : sw_sn id ≤ 5 ∧ sw_isS id = true := by
  rcases (show id = 105 ∨ id = 106 ∨ id = 107 ∨ id = 108 by omega) with rfl | rfl | rfl | rfl <;> decide
theorem x_spells {x : sw_St} {n p m id : Nat} {t : Nat → Nat} (h : TX x n t) (hid : 105 ≤ id ∧ id ≤ 108) (hp : p + m < 2 ^ 30) : f_X5_spells x (nI p) (nI (p + m)) id = some (if sp t p m id = true then 1 else 0) := by
  obtain ⟨h5, hS⟩ := sn_5 hid
  unfold f_X5_spells sw_sl sp
  rw [ck_t hS, pn_sub (by omega), show p + m - p = m by omega]
  by_cases z : m = sw_sn id
  · rw [if_pos (by rw [z])]
    have := lp_fst (F := fun n k => f_X5_spells_15 x n (nI p) id k) (N := sw_sn id) (P := fun i => decide (nI (t (p + i)) ≠ sw_sc id (nI i))) (G := fun _ => some (0 : Int32)) (D := some 1) (fun n => by
      rw [f_X5_spells_15]
      dsimp only
      unfold sw_sl
      rw [ck_t hS, if_pos (nI_le (Nat.le_refl _) (by omega))]) (fun n k hk hP => by
      simp only [decide_eq_true_eq] at hP
      rw [f_X5_spells_15]
      dsimp only
      unfold sw_sl
      rw [ck_t hS, if_neg (nI_ge hk (by omega)), nI_add, x_let h (by omega), bd_s, ck_t (pn_in hk (by omega)), if_neg hP]) (fun n k hk hP => by
      simp only [decide_eq_false_iff_not, ne_eq, Decidable.not_not] at hP
      rw [f_X5_spells_15]
      dsimp only
      unfold sw_sl
      rw [ck_t hS, if_neg (nI_ge hk (by omega)), nI_add, x_let h (by omega), bd_s, ck_t (pn_in hk (by omega)), if_pos hP, nI_1]) (by omega)
    refine Eq.trans this ?_
    cases hf : fst1 (fun i => decide (nI (t (p + i)) ≠ sw_sc id (nI i))) (sw_sn id) with
    | none =>
      have hn := fst1_n hf
      have : ((List.range (sw_sn id)).all (fun i => decide (nI (t (p + i)) = sw_sc id (nI i)))) = true := by
        rw [List.all_eq_true]
        intro i hi
        have := hn i (List.mem_range.mp hi)
        simpa using this
      rw [this]
      simp [z]
    | some j =>
      obtain ⟨j1, j2, -⟩ := fst1_s hf
      have : ¬ ((List.range (sw_sn id)).all (fun i => decide (nI (t (p + i)) = sw_sc id (nI i)))) = true := by
        rw [List.all_eq_true]
        intro q
        have := q j (List.mem_range.mpr j1)
        simp at this j2
        exact j2 this
      dsimp only
      rw [if_neg (fun q => this ((Bool.and_eq_true _ _).mp q).2)]
  · rw [if_neg (fun q => z ((nI_eq (by omega) (by omega)).mp q)), if_neg (fun q => z (by simpa using ((Bool.and_eq_true _ _).mp q).1))]
theorem x_verb {x : sw_St} {n p m : Nat} {t : Nat → Nat} (h : TX x n t) (hp : p + m < 2 ^ 30) : f_X5_verbOf x (nI p) (nI (p + m)) = some (if vb t p m = 4 then -1 else nI (vb t p m)) := by
  unfold f_X5_verbOf vb
  rw [x_spells h (by omega) hp, x_spells h (by omega) hp, x_spells h (by omega) hp, x_spells h (by omega) hp]
  simp only [bd_s]
  by_cases z0 : sp t p m 105 = true
  · simp only [if_pos z0, if_neg n10]; rfl
  by_cases z1 : sp t p m 106 = true
  · simp only [if_neg z0, if_pos z1, if_neg n10, if_true]; rfl
  by_cases z2 : sp t p m 107 = true
  · simp only [if_neg z0, if_neg z1, if_pos z2, if_neg n10, if_true]; rfl
  by_cases z3 : sp t p m 108 = true
  · simp only [if_neg z0, if_neg z1, if_neg z2, if_pos z3, if_neg n10, if_true]; rfl
  · simp only [if_neg z0, if_neg z1, if_neg z2, if_neg z3, if_true]
theorem x_tn_go {x : sw_St} {n q i D : Nat} {t : Nat → Nat} (h : TX x n t) (hq : q < 2 ^ 20) (hD : D = min (runL isFg t 5 (q + 1)) 4) : ∀ (fu j : Nat), j ≤ D → D - j < fu → f_X5_takeNumber_31 fu x (nI q) (nI i) (nI (q + 1 + j)) (nI (vP t (q + 1) j)) (nI j) = f_X5_takeNumber_73 x (nI q) (nI i) (nI (q + 1 + D)) (nI (vP t (q + 1) D)) := by
  intro fu
  induction fu with
  | zero => intro j _ w; omega
  | succ fu ih =>
    intro j hj hf
    have hr5 := run_le (f := isFg) (t := t) 5 (q + 1)
    rw [f_X5_takeNumber_31]
    dsimp only
    rw [show (4 : Int32) = nI 4 from rfl]
    by_cases z : j = D
    · subst z
      by_cases z4 : 4 ≤ j
      · rw [if_pos (nI_le z4 (by omega))]
      · rw [if_neg (nI_ge (by omega) (by omega)), x_let h (by omega), bd_s, x_figure _ (by have := t_126 h (q + 1 + j); omega), bd_s]
        have hs := run_stop (f := isFg) (t := t) 5 (q + 1) (by omega)
        rw [show runL isFg t 5 (q + 1) = j by omega] at hs
        rw [if_pos (by rw [hs]; rfl)]
    · have hfg := run_all (f := isFg) (t := t) 5 (q + 1) j (by omega)
      have hfg2 := hfg
      unfold isFg at hfg2
      simp only [Bool.and_eq_true, decide_eq_true_eq] at hfg2
      rw [if_neg (nI_ge (by omega) (by omega)), x_let h (by omega), bd_s, x_figure _ (by omega), bd_s, if_pos hfg, if_neg n10, bd_s]
      have e1 : nI (vP t (q + 1) j) * 10 + (nI (t (q + 1 + j)) - 48) = nI (vP t (q + 1) (j + 1)) := by
        rw [show (10 : Int32) = nI 10 from rfl, show (48 : Int32) = nI 48 from rfl, pn_mul, pn_sub hfg2.1, nI_add, Nat.mul_comm]
        rfl
      rw [e1, nI_1, nI_1, show q + 1 + j + 1 = q + 1 + (j + 1) by omega]
      exact ih (j + 1) (by omega) (by omega)
theorem x_takeN {x : sw_St} {n q i : Nat} {t : Nat → Nat} (h : TX x n t) (hq : q < 2 ^ 20) (hi : i < 3) : wp (f_X5_takeNumber x (nI q) (nI i)) (fun r => (∀ a, a ≠ 46 → r.2 a = x a) ∧ (∀ j, j ≠ i → r.2 46 j = x 46 j) ∧ ((∃ v e, num t q = some (v, e) ∧ r.1 = nI e ∧ r.2 46 i = nI v) ∨ (num t q = none ∧ (r.1 = -1 ∨ ∃ e, e < 2 ^ 30 ∧ r.1 = nI e ∧ isFg (t e) = true)))) := by
  unfold f_X5_takeNumber
  have ht := t_126 h q
  rw [x_let h (by omega), bd_s, show (32 : Int32) = nI 32 from rfl]
  by_cases z : t q = 32
  · rw [if_pos (by rw [z]), if_neg (nI_pos (by omega)), show (3 : Int32) = nI 3 from rfl, if_pos (nI_lt hi (by omega)), nI_1]
    have hr5 := run_le (f := isFg) (t := t) 5 (q + 1)
    have hg := x_tn_go (i := i) h hq (D := min (runL isFg t 5 (q + 1)) 4) rfl sw_fuel 0 (Nat.zero_le _) (by unfold sw_fuel; omega)
    have hg' : f_X5_takeNumber_31 sw_fuel x (nI q) (nI i) (nI (q + 1)) 0 0 = _ := hg
    rw [hg']
    unfold f_X5_takeNumber_73
    rw [ck_t (pn_in hi (by omega)), pn_ix (by omega), nI_1]
    simp only [sw_pt]
    have fr1 : ∀ a, a ≠ 46 → sw_up x 46 i (nI (vP t (q + 1) (min (runL isFg t 5 (q + 1)) 4))) a = x a := fun a ha => up_ne ha
    have fr2 : ∀ j, j ≠ i → sw_up x 46 i (nI (vP t (q + 1) (min (runL isFg t 5 (q + 1)) 4))) 46 j = x 46 j := fun j hj => up_nj hj
    by_cases z0 : runL isFg t 5 (q + 1) = 0
    · rw [if_pos (by rw [z0]; rfl)]
      refine wp_some ⟨fr1, fr2, Or.inr ⟨?_, Or.inl rfl⟩⟩
      unfold num
      rw [if_neg (by omega)]
    · rw [if_neg (fun w => by have := (nI_eq (by omega) (by omega)).mp w; omega)]
      by_cases z5 : runL isFg t 5 (q + 1) = 5
      · refine wp_some ⟨fr1, fr2, Or.inr ⟨?_, Or.inr ⟨q + 1 + 4, by omega, by rw [z5]; rfl, run_all (f := isFg) (t := t) 5 (q + 1) 4 (by omega)⟩⟩⟩
        unfold num
        rw [if_neg (by omega)]
      · have em : min (runL isFg t 5 (q + 1)) 4 = runL isFg t 5 (q + 1) := by omega
        refine wp_some ⟨fr1, fr2, Or.inl ⟨vP t (q + 1) (runL isFg t 5 (q + 1)), q + 1 + runL isFg t 5 (q + 1), ?_, by rw [em], by dsimp only; rw [up_eq, em]⟩⟩
        unfold num
        rw [if_pos ⟨z, by omega, by omega⟩]
  · rw [if_neg (fun w => z ((nI_eq (by omega) (by omega)).mp w))]
    refine wp_some ⟨fun _ _ => rfl, fun _ _ => rfl, Or.inr ⟨?_, Or.inl rfl⟩⟩
    unfold num
    rw [if_neg (fun w => z w.1)]
theorem x_65fig {x : sw_St} {n e w i k : Nat} {t : Nat → Nat} {C : Int32} (h : TX x n t) (he : e < 2 ^ 30) (hf : isFg (t e) = true) (hi : i ≤ w) (hw : w ≤ 3) : wp (f_X5_understand_65 (k + 1) x C (nI e) (nI w) (nI i)) (fun r => r.1 = 0 ∧ FX x r.2) := by
  unfold isFg at hf
  simp only [Bool.and_eq_true, decide_eq_true_eq] at hf
  rw [f_X5_understand_65]
  dsimp only
  by_cases z : w ≤ i
  · rw [if_pos (nI_le z (by omega))]
    simp only [sw_pt]
    have hF : FX x (sw_up x 44 4 (nI e + 1)) := FX_44 (Or.inr rfl)
    rw [x_let (FX_T hF h) (by omega), bd_s, show (59 : Int32) = nI 59 from rfl, if_neg (fun q => by have := (nI_eq (by omega) (by omega)).mp q; omega)]
    exact wp_some ⟨rfl, hF⟩
  · rw [if_neg (nI_ge (by omega) (by omega))]
    unfold f_X5_takeNumber
    rw [x_let h (by omega), bd_s, show (32 : Int32) = nI 32 from rfl, if_neg (fun q => by have := (nI_eq (by omega) (by omega)).mp q; omega), bd_s, if_pos rfl]
    exact wp_some ⟨rfl, FX_r x⟩
theorem x_65 {x : sw_St} {n q w i k : Nat} {t : Nat → Nat} {C : Int32} {Q : Int32 × sw_St → Prop} (h : TX x n t) (hi : i < w) (hw : w ≤ 3) (hq : q < 2 ^ 20) (h0 : num t q = none → ∀ r : Int32 × sw_St, r.1 = 0 → FX x r.2 → Q r) (h1 : ∀ v e z, num t q = some (v, e) → FX x z → z 44 3 = x 44 3 → (∀ j, j ≠ i → z 46 j = x 46 j) → z 46 i = nI v → wp (f_X5_understand_65 (k + 1) z C (nI e) (nI w) (nI (i + 1))) Q) : wp (f_X5_understand_65 (k + 2) x C (nI q) (nI w) (nI i)) Q := by
  rw [f_X5_understand_65]
  dsimp only
  rw [if_neg (nI_ge hi (by omega))]
  refine wp_bindM (x_takeN h hq (by omega)) (fun r hr => ?_)
  obtain ⟨f1, f2, f3⟩ := hr
  rcases f3 with ⟨v, e, n1, n2, n3⟩ | ⟨n1, n2⟩
  · obtain ⟨b1, b2, b3, b4⟩ := num_bd h.2.2.2.2 n1
    have hn := h.2.1
    rw [n2, if_neg (pn_m1 (by omega)), nI_1]
    exact h1 v e r.2 n1 (FX_46 f1) (by rw [f1 44 (by decide)]) f2 n3
  · rcases n2 with n2 | ⟨e, he, n2, n3⟩
    · rw [n2, if_pos rfl]
      exact wp_some (h0 n1 _ rfl (FX_46 f1))
    · rw [n2, if_neg (pn_m1 (by omega)), nI_1]
      refine wp_mono (x_65fig (FX_T (FX_46 f1) h) he n3 (by omega) hw) (fun r' hr' => h0 n1 r' hr'.1 (FX_t (FX_46 f1) hr'.2))
theorem x_65end {x : sw_St} {n q w k : Nat} {t : Nat → Nat} {C : Int32} {P : Prop} {iP : Decidable P} (h : TX x n t) (hw : w ≤ 3) (hq : q < 2 ^ 20) (hT : f_X5_areTold (sw_up x 44 4 (nI (q + 1))) C = some (if P then 1 else 0)) : f_X5_understand_65 (k + 1) x C (nI q) (nI w) (nI w) = some (if t q = 59 ∧ P then 1 else 0, sw_up x 44 4 (nI (q + 1))) := by
  rw [f_X5_understand_65]
  dsimp only
  have ht := t_126 h q
  rw [if_pos (nI_le (Nat.le_refl _) (by omega)), nI_1]
  simp only [sw_pt]
  rw [x_let (FX_T (FX_44 (Or.inr rfl)) h) (by omega), bd_s, show (59 : Int32) = nI 59 from rfl, hT, bd_s]
  by_cases z : t q = 59
  · rw [if_pos (by rw [z])]
    by_cases zP : P
    · rw [if_pos zP, if_neg n10, if_pos ⟨z, zP⟩]
    · rw [if_neg zP, if_pos rfl, if_neg (fun y => zP y.2)]
  · rw [if_neg (fun y => z ((nI_eq (by omega) (by omega)).mp y)), if_neg (fun y => z y.1)]
theorem x_w1 {x : sw_St} {a : Nat} (ha : a < 2 ^ 30) : f_X6_isWithin x (nI a) 1 99 = some (if 1 ≤ a ∧ a ≤ 99 then 1 else 0) := by
  have e : (1 : Int32).toInt = 1 ∧ (99 : Int32).toInt = 99 := by decide
  rw [x_within, e.1, e.2, nI_toInt (by omega)]
  by_cases z : 1 ≤ a ∧ a ≤ 99
  · rw [if_pos z, if_pos (by omega)]
  · rw [if_neg z, if_neg (by omega)]
theorem x_wC {x : sw_St} {a C : Nat} (ha : a < 2 ^ 30) (hC : 1 ≤ C ∧ C ≤ 4) : f_X6_isWithin x (nI a) 0 (nI C - 1) = some (if a < C then 1 else 0) := by
  have e : (0 : Int32).toInt = 0 := by decide
  rw [x_within, e, nl_1, pn_sub hC.1, nI_toInt (by omega), nI_toInt (by omega)]
  by_cases z : a < C
  · rw [if_pos z, if_pos (by omega)]
  · rw [if_neg z, if_neg (by omega)]
theorem x_wV {x : sw_St} {a : Nat} (ha : a ≤ 9999) : f_X6_isWithin x (nI a) 0 9999 = some 1 := by
  have e : (0 : Int32).toInt = 0 ∧ (9999 : Int32).toInt = 9999 := by decide
  rw [x_within, e.1, e.2, nI_toInt (by omega), if_pos (by omega)]
theorem x_wL {x : sw_St} {a : Nat} (ha : a < 2 ^ 30) : f_X6_isLine x (nI a) = some (if a < 8 then 1 else 0) := by
  rw [x_line]
  unfold okL
  rw [nI_toInt (by omega)]
  by_cases z : a < 8
  · rw [if_pos z, if_pos (by omega)]
  · rw [if_neg z, if_neg (by omega)]
theorem x_aT49 {x : sw_St} {a b C : Nat} (h0 : x 46 0 = nI a) (h1 : x 46 1 = nI b) (ha : a < 2 ^ 30) (hb : b < 2 ^ 30) (hC : 1 ≤ C ∧ C ≤ 4) : f_X5_areTold_49 x (nI C) 1 = some (if a < C ∧ b < 8 then 1 else 0) := by
  have i0 : sw_ix 0 = 0 := by decide
  have i1 : sw_ix 1 = 1 := by decide
  unfold f_X5_areTold_49
  rw [i0, i1, h0, h1, x_wC ha hC, bd_s, x_wL hb, bd_s]
  by_cases z : a < C
  · rw [if_pos z, if_neg n10]
    by_cases z2 : b < 8
    · rw [if_pos z2, if_neg n10, if_neg n10, if_pos ⟨z, z2⟩]
    · rw [if_neg z2, if_pos rfl, if_neg (fun y => z2 y.2)]
  · rw [if_neg z, if_pos rfl, if_neg (fun y => z y.1)]
theorem x_aT0 {x : sw_St} {a : Nat} {C : Int32} (hv : x 44 3 = nI 0) (h0 : x 46 0 = nI a) (ha : a < 2 ^ 30) : f_X5_areTold x C = some (if 1 ≤ a ∧ a ≤ 99 then 1 else 0) := by
  have i0 : sw_ix 0 = 0 := by decide
  unfold f_X5_areTold
  rw [hv, if_pos (show nI 0 = 0 from rfl), i0, h0, x_w1 ha, bd_s, ck_t (b01 _ _)]
theorem x_aT2 {x : sw_St} {a b c C : Nat} (hv : x 44 3 = nI 2) (h0 : x 46 0 = nI a) (h1 : x 46 1 = nI b) (h2 : x 46 2 = nI c) (ha : a < 2 ^ 30) (hb : b < 2 ^ 30) (hc : c ≤ 9999) (hC : 1 ≤ C ∧ C ≤ 4) : f_X5_areTold x (nI C) = some (if a < C ∧ b < 8 then 1 else 0) := by
  have i2 : sw_ix 2 = 2 := by decide
  unfold f_X5_areTold
  rw [hv, if_neg (show ¬ nI 2 = 0 by decide), if_pos (show nI 2 = 2 from rfl), i2, h2, x_wV hc, bd_s, if_neg n10]
  exact x_aT49 h0 h1 ha hb hC
theorem x_aT1 {x : sw_St} {a b v C : Nat} (hv : x 44 3 = nI v) (hv2 : v = 1 ∨ v = 3) (h0 : x 46 0 = nI a) (h1 : x 46 1 = nI b) (ha : a < 2 ^ 30) (hb : b < 2 ^ 30) (hC : 1 ≤ C ∧ C ≤ 4) : f_X5_areTold x (nI C) = some (if a < C ∧ b < 8 then 1 else 0) := by
  unfold f_X5_areTold
  rw [hv]
  rcases hv2 with rfl | rfl
  · rw [if_neg (show ¬ nI 1 = 0 by decide), if_neg (show ¬ nI 1 = 2 by decide)]
    exact x_aT49 h0 h1 ha hb hC
  · rw [if_neg (show ¬ nI 3 = 0 by decide), if_neg (show ¬ nI 3 = 2 by decide)]
    exact x_aT49 h0 h1 ha hb hC
/-- what was understood -/
def UX (x : sw_St) (res : Option (Nat × Nat × Nat × Nat × Nat)) (r : Int32 × sw_St) : Prop := FX x r.2 ∧ (res = none → r.1 = 0) ∧ (∀ w, res = some w → r.1 = 1 ∧ r.2 44 3 = nI w.1 ∧ r.2 46 0 = nI w.2.1 ∧ (w.1 ≠ 0 → r.2 46 1 = nI w.2.2.1) ∧ (w.1 = 2 → r.2 46 2 = nI w.2.2.2.1) ∧ r.2 44 4 = nI w.2.2.2.2)
theorem UX_0 {x : sw_St} {res : Option (Nat × Nat × Nat × Nat × Nat)} {r : Int32 × sw_St} (h : FX x r.2) (h0 : r.1 = 0) (hn : res = none) : UX x res r := ⟨h, fun _ => h0, fun w hw => by rw [hn] at hw; cases hw⟩
theorem x_65v0 {x x0 : sw_St} {n q k C : Nat} {t : Nat → Nat} (h : TX x n t) (hq : q < 2 ^ 20) (h0 : FX x0 x) (hv : x 44 3 = nI 0) : wp (f_X5_understand_65 (k + 2) x (nI C) (nI q) (nI 1) (nI 0)) (UX x0 (prsV t C q 0)) := by
  have hres : prsV t C q 0 = (num t q).bind (fin1 t C 0) := rfl
  rw [hres]
  refine x_65 h (by omega) (by omega) hq (fun hn r r0 hf => UX_0 (FX_t h0 hf) r0 (by rw [hn]; rfl)) (fun a e z hn f1 f2 f3 f4 => ?_)
  obtain ⟨b1, b2, b3, b4⟩ := num_bd h.2.2.2.2 hn
  have hz := FX_T f1 h
  have hn2 := h.2.1
  rw [x_65end hz (by omega) (by omega) (x_aT0 (by rw [up_nj (by decide), f2]; exact hv) (by rw [up_ne (by decide)]; exact f4) (by omega)), hn]
  refine wp_some ?_
  show UX x0 (fin1 t C 0 (a, e)) _
  have hF : FX x0 (sw_up z 44 4 (nI (e + 1))) := FX_t h0 (FX_t f1 (FX_44 (Or.inr rfl)))
  unfold fin1
  dsimp only
  by_cases zz : t e = 59 ∧ 1 ≤ a ∧ a ≤ 99
  · simp only [if_pos zz]
    refine ⟨hF, fun w => (by cases w), fun w hw => ?_⟩
    cases hw
    exact ⟨rfl, by dsimp only; rw [up_nj (by decide), f2]; exact hv, by dsimp only; rw [up_ne (by decide)]; exact f4, fun w => absurd rfl w, fun w => absurd (show (0 : Nat) = 2 from w) (by decide), by dsimp only; rw [up_eq]⟩
  · simp only [if_neg zz]
    exact UX_0 hF rfl rfl
theorem x_65v1 {x x0 : sw_St} {n q k v C : Nat} {t : Nat → Nat} (h : TX x n t) (hq : q < 2 ^ 20) (h0 : FX x0 x) (hv : x 44 3 = nI v) (hv2 : v = 1 ∨ v = 3) (hC : 1 ≤ C ∧ C ≤ 4) : wp (f_X5_understand_65 (k + 3) x (nI C) (nI q) (nI 2) (nI 0)) (UX x0 (prsV t C q v)) := by
  have hres : prsV t C q v = (num t q).bind fun a => (num t a.2).bind (fin2 t C v a) := by
    unfold prsV
    rw [if_neg (by omega), if_neg (by omega), if_neg (by omega)]
  rw [hres]
  refine x_65 h (by omega) (by omega) hq (fun hn r r0 hf => UX_0 (FX_t h0 hf) r0 (by rw [hn]; rfl)) (fun a e z hn f1 f2 f3 f4 => ?_)
  obtain ⟨b1, b2, b3, b4⟩ := num_bd h.2.2.2.2 hn
  have hz := FX_T f1 h
  have hn2 := h.2.1
  have e1 : ((num t q).bind fun a => (num t a.2).bind (fin2 t C v a)) = (num t e).bind (fin2 t C v (a, e)) := by rw [hn]; rfl
  rw [e1]
  refine x_65 hz (by omega) (by omega) (by omega) (fun hn' r r0 hf => UX_0 (FX_t h0 (FX_t f1 hf)) r0 (by rw [hn']; rfl)) (fun a' e' z' hn' f1' f2' f3' f4' => ?_)
  obtain ⟨c1, c2, c3, c4⟩ := num_bd h.2.2.2.2 hn'
  have hz' := FX_T f1' hz
  have k3 : z' 44 3 = nI v := by rw [f2', f2]; exact hv
  have k0 : z' 46 0 = nI a := by rw [f3' 0 (by decide)]; exact f4
  rw [x_65end hz' (by omega) (by omega) (x_aT1 (a := a) (b := a') (by rw [up_nj (by decide)]; exact k3) hv2 (by rw [up_ne (by decide)]; exact k0) (by rw [up_ne (by decide)]; exact f4') (by omega) (by omega) hC), hn']
  refine wp_some ?_
  show UX x0 (fin2 t C v (a, e) (a', e')) _
  have hF : FX x0 (sw_up z' 44 4 (nI (e' + 1))) := FX_t h0 (FX_t f1 (FX_t f1' (FX_44 (Or.inr rfl))))
  unfold fin2
  dsimp only
  by_cases zz : t e' = 59 ∧ a < C ∧ a' < 8
  · simp only [if_pos zz]
    refine ⟨hF, fun w => (by cases w), fun w hw => ?_⟩
    cases hw
    exact ⟨rfl, by dsimp only; rw [up_nj (by decide)]; exact k3, by dsimp only; rw [up_ne (by decide)]; exact k0, fun _ => by dsimp only; rw [up_ne (by decide)]; exact f4', fun w => by dsimp only at w; omega, by dsimp only; rw [up_eq]⟩
  · simp only [if_neg zz]
    exact UX_0 hF rfl rfl
theorem x_65v2 {x x0 : sw_St} {n q k C : Nat} {t : Nat → Nat} (h : TX x n t) (hq : q < 2 ^ 20) (h0 : FX x0 x) (hv : x 44 3 = nI 2) (hC : 1 ≤ C ∧ C ≤ 4) : wp (f_X5_understand_65 (k + 4) x (nI C) (nI q) (nI 3) (nI 0)) (UX x0 (prsV t C q 2)) := by
  have hres : prsV t C q 2 = (num t q).bind fun a => (num t a.2).bind fun b => (num t b.2).bind (fin3 t C 2 a b) := rfl
  rw [hres]
  refine x_65 h (by omega) (by omega) hq (fun hn r r0 hf => UX_0 (FX_t h0 hf) r0 (by rw [hn]; rfl)) (fun a e z hn f1 f2 f3 f4 => ?_)
  obtain ⟨b1, b2, b3, b4⟩ := num_bd h.2.2.2.2 hn
  have hz := FX_T f1 h
  have hn2 := h.2.1
  have e1 : ((num t q).bind fun a => (num t a.2).bind fun b => (num t b.2).bind (fin3 t C 2 a b)) = (num t e).bind fun b => (num t b.2).bind (fin3 t C 2 (a, e) b) := by rw [hn]; rfl
  rw [e1]
  refine x_65 hz (by omega) (by omega) (by omega) (fun hn' r r0 hf => UX_0 (FX_t h0 (FX_t f1 hf)) r0 (by rw [hn']; rfl)) (fun a' e' z' hn' f1' f2' f3' f4' => ?_)
  obtain ⟨c1, c2, c3, c4⟩ := num_bd h.2.2.2.2 hn'
  have hz' := FX_T f1' hz
  have e2 : ((num t e).bind fun b => (num t b.2).bind (fin3 t C 2 (a, e) b)) = (num t e').bind (fin3 t C 2 (a, e) (a', e')) := by rw [hn']; rfl
  rw [e2]
  refine x_65 hz' (by omega) (by omega) (by omega) (fun hn'' r r0 hf => UX_0 (FX_t h0 (FX_t f1 (FX_t f1' hf))) r0 (by rw [hn'']; rfl)) (fun a2 e2 z2 hn'' g1 g2 g3 g4 => ?_)
  obtain ⟨d1, d2, d3, d4⟩ := num_bd h.2.2.2.2 hn''
  have hz2 := FX_T g1 hz'
  have k3 : z2 44 3 = nI 2 := by rw [g2, f2', f2]; exact hv
  have k0 : z2 46 0 = nI a := by rw [g3 0 (by decide), f3' 0 (by decide)]; exact f4
  have k1 : z2 46 1 = nI a' := by rw [g3 1 (by decide)]; exact f4'
  rw [x_65end hz2 (by omega) (by omega) (x_aT2 (a := a) (b := a') (c := a2) (by rw [up_nj (by decide)]; exact k3) (by rw [up_ne (by decide)]; exact k0) (by rw [up_ne (by decide)]; exact k1) (by rw [up_ne (by decide)]; exact g4) (by omega) (by omega) (by omega) hC), hn'']
  refine wp_some ?_
  show UX x0 (fin3 t C 2 (a, e) (a', e') (a2, e2)) _
  have hF : FX x0 (sw_up z2 44 4 (nI (e2 + 1))) := FX_t h0 (FX_t f1 (FX_t f1' (FX_t g1 (FX_44 (Or.inr rfl)))))
  unfold fin3
  dsimp only
  by_cases zz : t e2 = 59 ∧ a < C ∧ a' < 8
  · simp only [if_pos zz]
    refine ⟨hF, fun w => (by cases w), fun w hw => ?_⟩
    cases hw
    exact ⟨rfl, by dsimp only; rw [up_nj (by decide)]; exact k3, by dsimp only; rw [up_ne (by decide)]; exact k0, fun _ => by dsimp only; rw [up_ne (by decide)]; exact k1, fun _ => by dsimp only; rw [up_ne (by decide)]; exact g4, by dsimp only; rw [up_eq]⟩
  · simp only [if_neg zz]
    exact UX_0 hF rfl rfl
theorem vb_4 (t : Nat → Nat) (p m : Nat) : vb t p m = 0 ∨ vb t p m = 1 ∨ vb t p m = 2 ∨ vb t p m = 3 ∨ vb t p m = 4 := by
  unfold vb
  split
  · exact Or.inl rfl
  split
  · exact Or.inr (Or.inl rfl)
  split
  · exact Or.inr (Or.inr (Or.inl rfl))
  split
  · exact Or.inr (Or.inr (Or.inr (Or.inl rfl)))
  · exact Or.inr (Or.inr (Or.inr (Or.inr rfl)))
theorem x_33 {x : sw_St} {n p m C : Nat} {t : Nat → Nat} (h : TX x n t) (hp : p + m ≤ n) (hC : 1 ≤ C ∧ C ≤ 4) : wp (f_X5_understand_33 x (nI p) (nI C) (nI (p + m))) (UX x (prsV t C (p + m) (vb t p m))) := by
  have hn := h.2.1
  unfold f_X5_understand_33
  rw [x_verb h (by omega), bd_s]
  simp only [sw_pt]
  rw [up_eq]
  rcases vb_4 t p m with z | z | z | z | z <;> rw [z]
  · have hF : FX x (sw_up x 44 3 (nI 0)) := FX_44 (Or.inl rfl)
    exact x_65v0 (k := 298) (FX_T hF h) (by omega) hF up_eq
  · have hF : FX x (sw_up x 44 3 (nI 1)) := FX_44 (Or.inl rfl)
    exact x_65v1 (k := 297) (v := 1) (FX_T hF h) (by omega) hF up_eq (Or.inl rfl) hC
  · have hF : FX x (sw_up x 44 3 (nI 2)) := FX_44 (Or.inl rfl)
    exact x_65v2 (k := 296) (FX_T hF h) (by omega) hF up_eq hC
  · have hF : FX x (sw_up x 44 3 (nI 3)) := FX_44 (Or.inl rfl)
    exact x_65v1 (k := 297) (v := 3) (FX_T hF h) (by omega) hF up_eq (Or.inr rfl) hC
  · rw [if_pos rfl]
    exact wp_some (UX_0 (FX_44 (Or.inl rfl)) rfl rfl)
theorem x_u5 {x : sw_St} {n p : Nat} {t : Nat → Nat} {C : Int32} (h : TX x n t) (hp : p ≤ n) : ∀ (fu j : Nat), j ≤ runL isSm t 300 p → runL isSm t 300 p - j < fu → f_X5_understand_5 fu x (nI p) C (nI (p + j)) (nI j) = f_X5_understand_33 x (nI p) C (nI (p + runL isSm t 300 p)) := by
  obtain ⟨r1, r2⟩ := run_n h.2.2.2.2 hp h.2.1
  have hn := h.2.1
  intro fu
  induction fu with
  | zero => intro j _ w; omega
  | succ fu ih =>
    intro j hj hf
    have ht := t_126 h (p + j)
    rw [f_X5_understand_5]
    dsimp only
    rw [show (200 : Int32) = nI 200 from rfl]
    by_cases z2 : 200 ≤ j
    · rw [if_pos (nI_le z2 (by omega)), show j = runL isSm t 300 p by omega]
    · rw [if_neg (nI_ge (by omega) (by omega)), x_let h (by omega), bd_s, x_small _ (by omega), bd_s]
      by_cases z : j = runL isSm t 300 p
      · rw [z, if_pos (by rw [r2]; rfl)]
      · rw [if_pos (run_all (f := isSm) (t := t) 300 p j (by omega)), if_neg n10, nI_1, nI_1]
        exact ih (j + 1) (by omega) (by omega)
theorem x_und {x : sw_St} {n p C : Nat} {t : Nat → Nat} (h : TX x n t) (hp : p ≤ n) (hC : 1 ≤ C ∧ C ≤ 4) : wp (f_X5_understand x (nI p) (nI C)) (UX x (prs t C p)) := by
  obtain ⟨r1, r2⟩ := run_n h.2.2.2.2 hp h.2.1
  have hn := h.2.1
  have e : f_X5_understand x (nI p) (nI C) = _ := x_u5 h hp sw_fuel 0 (Nat.zero_le _) (by unfold sw_fuel; omega)
  rw [e]
  exact x_33 h r1 hC
