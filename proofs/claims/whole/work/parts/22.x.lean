/-! SplitWatch$Bus.openAheadOf(LSplitWatch$Request;)I -/
def L_X0_openAheadOf : sw_Is := [(0, .iconst 0, 1, 1), (1, .istore_n 2, 1, 2), (2, .iconst 0, 1, 3), (3, .istore_n 3, 1, 4), (4, .iload_n 3, 1, 5), (5, .aload_n 0, 1, 6), (6, .getfield 19, 3, 9), (9, .arraylength, 1, 10), (10, .if_icmp .ge 41, 3, 13), (13, .aload_n 0, 1, 14), (14, .getfield 19, 3, 17), (17, .iload_n 3, 1, 18), (18, .aaload, 1, 19), (19, .getfield 98, 3, 22), (22, .iconst 2, 1, 23), (23, .if_icmp .ne 22, 3, 26), (26, .aload_n 0, 1, 27), (27, .getfield 19, 3, 30), (30, .iload_n 3, 1, 31), (31, .aaload, 1, 32), (32, .getfield 187, 3, 35), (35, .aload_n 1, 1, 36), (36, .getfield 187, 3, 39), (39, .if_icmp .ge 6, 3, 42), (42, .iinc 2 1, 3, 45), (45, .iinc 3 1, 3, 48), (48, .goto (-44), 3, 51), (51, .iload_n 2, 1, 52), (52, .ireturn, 1, 53)]
theorem dk_X0_openAheadOf : sw_dc cX0_openAheadOf L_X0_openAheadOf = true := by decide +kernel
def f_X0_openAheadOf_4 (σ : sw_St)  : Nat → Nat → Int32 → Int32 → Option Int32
  | 0 => fun _ _ _ => none
  | n + 1 => fun x1 x2 x3 => if 12 ≤ x3 then (some x2) else (sw_ck (sw_in x3 12) (if (σ (sw_rq (sw_ix x3)) 1) = 2 then (sw_ck (sw_isQ x1) (if (σ x1 8) ≤ (σ (sw_rq (sw_ix x3)) 8) then ((f_X0_openAheadOf_4 σ n) x1 x2 (x3 + 1)) else ((f_X0_openAheadOf_4 σ n) x1 (x2 + 1) (x3 + 1)))) else ((f_X0_openAheadOf_4 σ n) x1 x2 (x3 + 1))))
def f_X0_openAheadOf (σ : sw_St) (x1 : Nat) : Option Int32 := f_X0_openAheadOf_4 σ sw_fuel x1 0 0
set_option maxHeartbeats 1000000 in
set_option maxRecDepth 100000 in
theorem s_X0_openAheadOf_4 {V : sw_V} (C : sw_Cx sw_ZX V cX0_openAheadOf RX0 4 (some .int) L_X0_openAheadOf 0) (σ : sw_St) : ∀ (n : Nat) (x1 : Nat) (x2 : Int32) (x3 : Int32), sw_S sw_ZX V (sw_eP σ) [some (sw_r V 2), some (sw_r V x1), some (.int x2), some (.int x3)] [] 4 σ (f_X0_openAheadOf_4 σ n x1 x2 x3) := by
  intro n
  induction n with
  | zero =>
    intro x1 x2 x3
    exact g_none
  | succ n ih =>
    intro x1 x2 x3
    rw [f_X0_openAheadOf_4]
    refine g_iload_n C 4 rfl rfl ?_
    refine g_aload_n C 5 rfl rfl ?_
    refine g_getR C 6 rfl fl_X0_19 rfl rfl ?_
    refine g_alen C 7 rfl rfl (by decide) 12 (by decide) ?_
    refine g_icmp_ge C 8 rfl 51 (by decide) ?_ ?_
    · refine g_iload_n C 27 rfl rfl ?_
      skip
      exact g_iret C 28 rfl rfl
    · refine g_aload_n C 9 rfl rfl ?_
      refine g_getR C 10 rfl fl_X0_19 rfl rfl ?_
      refine g_iload_n C 11 rfl rfl ?_
      refine g_ck fun h1 => ?_
      refine g_aald C 12 rfl rfl rfl h1 (tg_reqs h1) ?_
      refine g_getI C 13 rfl fl_X0_98 (sh_Q (kd_reqs h1)) rfl ?_
      refine g_iconst C 14 rfl 2 (by decide) ?_
      refine g_icmp_ne C 15 rfl 45 (by decide) ?_ ?_
      · refine g_iinc C 25 rfl 1 (by decide) rfl (Nat.le_of_ble_eq_true rfl) (Or.inr (Or.inr (Or.inl ⟨_, rfl⟩))) ?_
        refine g_goto C 26 rfl 4 (by decide) ?_
        exact g_wk (ih x1 x2 (x3 + 1)) ⟨rfl, rfl, rfl, rfl, trivial⟩
      · refine g_aload_n C 16 rfl rfl ?_
        refine g_getR C 17 rfl fl_X0_19 rfl rfl ?_
        refine g_iload_n C 18 rfl rfl ?_
        refine g_aald C 19 rfl rfl rfl h1 (tg_reqs h1) ?_
        refine g_getI C 20 rfl fl_X0_187 (sh_Q (kd_reqs h1)) rfl ?_
        refine g_aload_n C 21 rfl rfl ?_
        refine g_ck fun h2 => ?_
        refine g_getI C 22 rfl fl_X0_187 (sh_Q h2) rfl ?_
        refine g_icmp_ge C 23 rfl 45 (by decide) ?_ ?_
        · refine g_iinc C 25 rfl 1 (by decide) rfl (Nat.le_of_ble_eq_true rfl) (Or.inr (Or.inr (Or.inl ⟨_, rfl⟩))) ?_
          refine g_goto C 26 rfl 4 (by decide) ?_
          exact g_wk (ih x1 x2 (x3 + 1)) ⟨rfl, rfl, rfl, rfl, trivial⟩
        · refine g_iinc C 24 rfl 1 (by decide) rfl (Nat.le_of_ble_eq_true rfl) (Or.inr (Or.inr (Or.inr ⟨_, rfl⟩))) ?_
          refine g_iinc C 25 rfl 1 (by decide) rfl (Nat.le_of_ble_eq_true rfl) (Or.inr (Or.inr (Or.inl ⟨_, rfl⟩))) ?_
          refine g_goto C 26 rfl 4 (by decide) ?_
          exact g_wk (ih x1 (x2 + 1) (x3 + 1)) ⟨rfl, rfl, rfl, rfl, trivial⟩
set_option maxHeartbeats 1000000 in
set_option maxRecDepth 100000 in
theorem s_X0_openAheadOf {V : sw_V} (C : sw_Cx sw_ZX V cX0_openAheadOf RX0 4 (some .int) L_X0_openAheadOf 0) (σ : sw_St) (x1 : Nat) : sw_S sw_ZX V (sw_eP σ) [some (sw_r V 2), some (sw_r V x1), none, none] [] 0 σ (f_X0_openAheadOf σ x1) := by
  unfold f_X0_openAheadOf
  refine g_iconst C 0 rfl 0 (by decide) ?_
  refine g_istore_n C 1 rfl (Nat.le_of_ble_eq_true rfl) (Or.inr (Or.inr (Or.inr ⟨_, rfl⟩))) ?_
  refine g_iconst C 2 rfl 0 (by decide) ?_
  refine g_istore_n C 3 rfl (Nat.le_of_ble_eq_true rfl) (Or.inr (Or.inr (Or.inl ⟨_, rfl⟩))) ?_
  exact g_wk (s_X0_openAheadOf_4 C σ sw_fuel x1 0 0) ⟨rfl, rfl, rfl, rfl, trivial⟩
set_option maxHeartbeats 1000000 in
set_option maxRecDepth 100000 in
theorem m_X0_openAheadOf (l : Launch) (dC : Nat → ClassId) (dI : Nat → Nat → Nat) (dA : Nat → ClassId) (ad : Nat → Nat) (hI : sw_inj sw_ZX ad) (σ : sw_St) (x1 : Nat) (b : Int32) (hb : f_X0_openAheadOf σ x1 = some b) : sw_M sw_ZX l yX0_openAheadOf cX0_openAheadOf 4 (some .int) 0 dC dI dA ad [(sw_rv ad 2), (sw_rv ad x1)] σ ((sw_eP σ) b) :=
  sw_mk1 (ψ := (sw_eP σ)) 2 (by decide) sw_ZXok hI dk_X0_openAheadOf rfl (sw_c1_all _ ⟨sw_rv_cat _ _, sw_rv_cat _ _, trivial⟩) hb (fun p e R M C => s_X0_openAheadOf C σ x1)
/-! SplitWatch$Bus.openAt(I)LSplitWatch$Request; -/
def L_X0_openAt : sw_Is := [(0, .iconst 0, 1, 1), (1, .istore_n 2, 1, 2), (2, .iload_n 2, 1, 3), (3, .aload_n 0, 1, 4), (4, .getfield 19, 3, 7), (7, .arraylength, 1, 8), (8, .if_icmp .ge 43, 3, 11), (11, .aload_n 0, 1, 12), (12, .getfield 19, 3, 15), (15, .iload_n 2, 1, 16), (16, .aaload, 1, 17), (17, .getfield 98, 3, 20), (20, .iconst 2, 1, 21), (21, .if_icmp .ne 24, 3, 24), (24, .aload_n 0, 1, 25), (25, .aload_n 0, 1, 26), (26, .getfield 19, 3, 29), (29, .iload_n 2, 1, 30), (30, .aaload, 1, 31), (31, .invokevirtual 244, 3, 34), (34, .iload_n 1, 1, 35), (35, .if_icmp .ne 10, 3, 38), (38, .aload_n 0, 1, 39), (39, .getfield 19, 3, 42), (42, .iload_n 2, 1, 43), (43, .aaload, 1, 44), (44, .areturn, 1, 45), (45, .iinc 2 1, 3, 48), (48, .goto (-46), 3, 51), (51, .aconst_null, 1, 52), (52, .areturn, 1, 53)]
theorem dk_X0_openAt : sw_dc cX0_openAt L_X0_openAt = true := by decide +kernel
def f_X0_openAt_2 (σ : sw_St)  : Nat → Int32 → Int32 → Option Nat
  | 0 => fun _ _ => none
  | n + 1 => fun x1 x2 => if 12 ≤ x2 then (some 0) else (sw_ck (sw_in x2 12) (if (σ (sw_rq (sw_ix x2)) 1) = 2 then ((f_X0_openAheadOf σ (sw_rq (sw_ix x2))).bind fun r2 => (if r2 = x1 then (some (sw_rq (sw_ix x2))) else ((f_X0_openAt_2 σ n) x1 (x2 + 1)))) else ((f_X0_openAt_2 σ n) x1 (x2 + 1))))
def f_X0_openAt (σ : sw_St) (x1 : Int32) : Option Nat := f_X0_openAt_2 σ sw_fuel x1 0
set_option maxHeartbeats 1000000 in
set_option maxRecDepth 100000 in
theorem s_X0_openAt_2 {V : sw_V} (C : sw_Cx sw_ZX V cX0_openAt RX0 3 (some (.object "SplitWatch$Request")) L_X0_openAt 1) (σ : sw_St) : ∀ (n : Nat) (x1 : Int32) (x2 : Int32), sw_S sw_ZX V (sw_eR V.2.2.2.2.2 σ) [some (sw_r V 2), some (.int x1), some (.int x2)] [] 2 σ (f_X0_openAt_2 σ n x1 x2) := by
  intro n
  induction n with
  | zero =>
    intro x1 x2
    exact g_none
  | succ n ih =>
    intro x1 x2
    rw [f_X0_openAt_2]
    refine g_iload_n C 2 rfl rfl ?_
    refine g_aload_n C 3 rfl rfl ?_
    refine g_getR C 4 rfl fl_X0_19 rfl rfl ?_
    refine g_alen C 5 rfl rfl (by decide) 12 (by decide) ?_
    refine g_icmp_ge C 6 rfl 51 (by decide) ?_ ?_
    · refine g_null C 29 rfl ?_
      exact g_aret C 30 rfl rfl
    · refine g_aload_n C 7 rfl rfl ?_
      refine g_getR C 8 rfl fl_X0_19 rfl rfl ?_
      refine g_iload_n C 9 rfl rfl ?_
      refine g_ck fun h1 => ?_
      refine g_aald C 10 rfl rfl rfl h1 (tg_reqs h1) ?_
      refine g_getI C 11 rfl fl_X0_98 (sh_Q (kd_reqs h1)) rfl ?_
      refine g_iconst C 12 rfl 2 (by decide) ?_
      refine g_icmp_ne C 13 rfl 45 (by decide) ?_ ?_
      · refine g_iinc C 27 rfl 1 (by decide) rfl (Nat.le_of_ble_eq_true rfl) (Or.inr (Or.inr (Or.inl ⟨_, rfl⟩))) ?_
        refine g_goto C 28 rfl 2 (by decide) ?_
        exact g_wk (ih x1 (x2 + 1)) ⟨rfl, rfl, rfl, trivial⟩
      · refine g_aload_n C 14 rfl rfl ?_
        refine g_aload_n C 15 rfl rfl ?_
        refine g_getR C 16 rfl fl_X0_19 rfl rfl ?_
        refine g_iload_n C 17 rfl rfl ?_
        refine g_aald C 18 rfl rfl rfl h1 (tg_reqs h1) ?_
        refine g_callV (ψ₁ := sw_eP σ) C 19 rfl [(sw_r V (sw_rq (sw_ix x2)))] [] ml_X0_244 rfl (Nat.le_of_ble_eq_true rfl) (by decide) rfl rfl (fun b hb => m_X0_openAheadOf V.1.2.1 _ _ _ _ C.inj σ (sw_rq (sw_ix x2)) b hb) rfl (g_cP fun r2 => ?_)
        refine g_iload_n C 20 rfl rfl ?_
        refine g_icmp_ne C 21 rfl 45 (by decide) ?_ ?_
        · refine g_iinc C 27 rfl 1 (by decide) rfl (Nat.le_of_ble_eq_true rfl) (Or.inr (Or.inr (Or.inl ⟨_, rfl⟩))) ?_
          refine g_goto C 28 rfl 2 (by decide) ?_
          exact g_wk (ih x1 (x2 + 1)) ⟨rfl, rfl, rfl, trivial⟩
        · refine g_aload_n C 22 rfl rfl ?_
          refine g_getR C 23 rfl fl_X0_19 rfl rfl ?_
          refine g_iload_n C 24 rfl rfl ?_
          refine g_aald C 25 rfl rfl rfl h1 (tg_reqs h1) ?_
          exact g_aret C 26 rfl rfl
set_option maxHeartbeats 1000000 in
set_option maxRecDepth 100000 in
theorem s_X0_openAt {V : sw_V} (C : sw_Cx sw_ZX V cX0_openAt RX0 3 (some (.object "SplitWatch$Request")) L_X0_openAt 1) (σ : sw_St) (x1 : Int32) : sw_S sw_ZX V (sw_eR V.2.2.2.2.2 σ) [some (sw_r V 2), some (.int x1), none] [] 0 σ (f_X0_openAt σ x1) := by
  unfold f_X0_openAt
  refine g_iconst C 0 rfl 0 (by decide) ?_
  refine g_istore_n C 1 rfl (Nat.le_of_ble_eq_true rfl) (Or.inr (Or.inr (Or.inl ⟨_, rfl⟩))) ?_
  exact g_wk (s_X0_openAt_2 C σ sw_fuel x1 0) ⟨rfl, rfl, rfl, trivial⟩
set_option maxHeartbeats 1000000 in
set_option maxRecDepth 100000 in
theorem m_X0_openAt (l : Launch) (dC : Nat → ClassId) (dI : Nat → Nat → Nat) (dA : Nat → ClassId) (ad : Nat → Nat) (hI : sw_inj sw_ZX ad) (σ : sw_St) (x1 : Int32) (b : Nat) (hb : f_X0_openAt σ x1 = some b) : sw_M sw_ZX l yX0_openAt cX0_openAt 3 (some (.object "SplitWatch$Request")) 1 dC dI dA ad [(sw_rv ad 2), (.int x1)] σ ((sw_eR ad σ) b) :=
  sw_mk1 (ψ := (sw_eR ad σ)) 1 (by decide) sw_ZXok hI dk_X0_openAt rfl (sw_c1_all _ ⟨sw_rv_cat _ _, rfl, trivial⟩) hb (fun p e R M C => s_X0_openAt C σ x1)
/-! SplitWatch$Bus.countAt(I)I -/
def L_X0_countAt : sw_Is := [(0, .iconst 0, 1, 1), (1, .istore_n 2, 1, 2), (2, .iconst 0, 1, 3), (3, .istore_n 3, 1, 4), (4, .iload_n 3, 1, 5), (5, .aload_n 0, 1, 6), (6, .getfield 19, 3, 9), (9, .arraylength, 1, 10), (10, .if_icmp .ge 25, 3, 13), (13, .aload_n 0, 1, 14), (14, .getfield 19, 3, 17), (17, .iload_n 3, 1, 18), (18, .aaload, 1, 19), (19, .getfield 98, 3, 22), (22, .iload_n 1, 1, 23), (23, .if_icmp .ne 6, 3, 26), (26, .iinc 2 1, 3, 29), (29, .iinc 3 1, 3, 32), (32, .goto (-28), 3, 35), (35, .iload_n 2, 1, 36), (36, .ireturn, 1, 37)]
theorem dk_X0_countAt : sw_dc cX0_countAt L_X0_countAt = true := by decide +kernel
def f_X0_countAt_4 (σ : sw_St)  : Nat → Int32 → Int32 → Int32 → Option Int32
  | 0 => fun _ _ _ => none
  | n + 1 => fun x1 x2 x3 => if 12 ≤ x3 then (some x2) else (sw_ck (sw_in x3 12) (if (σ (sw_rq (sw_ix x3)) 1) = x1 then ((f_X0_countAt_4 σ n) x1 (x2 + 1) (x3 + 1)) else ((f_X0_countAt_4 σ n) x1 x2 (x3 + 1))))
def f_X0_countAt (σ : sw_St) (x1 : Int32) : Option Int32 := f_X0_countAt_4 σ sw_fuel x1 0 0
set_option maxHeartbeats 1000000 in
set_option maxRecDepth 100000 in
theorem s_X0_countAt_4 {V : sw_V} (C : sw_Cx sw_ZX V cX0_countAt RX0 4 (some .int) L_X0_countAt 0) (σ : sw_St) : ∀ (n : Nat) (x1 : Int32) (x2 : Int32) (x3 : Int32), sw_S sw_ZX V (sw_eP σ) [some (sw_r V 2), some (.int x1), some (.int x2), some (.int x3)] [] 4 σ (f_X0_countAt_4 σ n x1 x2 x3) := by
  intro n
  induction n with
  | zero =>
    intro x1 x2 x3
    exact g_none
  | succ n ih =>
    intro x1 x2 x3
    rw [f_X0_countAt_4]
    refine g_iload_n C 4 rfl rfl ?_
    refine g_aload_n C 5 rfl rfl ?_
    refine g_getR C 6 rfl fl_X0_19 rfl rfl ?_
    refine g_alen C 7 rfl rfl (by decide) 12 (by decide) ?_
    refine g_icmp_ge C 8 rfl 35 (by decide) ?_ ?_
    · refine g_iload_n C 19 rfl rfl ?_
      skip
      exact g_iret C 20 rfl rfl
    · refine g_aload_n C 9 rfl rfl ?_
      refine g_getR C 10 rfl fl_X0_19 rfl rfl ?_
      refine g_iload_n C 11 rfl rfl ?_
      refine g_ck fun h1 => ?_
      refine g_aald C 12 rfl rfl rfl h1 (tg_reqs h1) ?_
      refine g_getI C 13 rfl fl_X0_98 (sh_Q (kd_reqs h1)) rfl ?_
      refine g_iload_n C 14 rfl rfl ?_
      refine g_icmp_ne C 15 rfl 29 (by decide) ?_ ?_
      · refine g_iinc C 17 rfl 1 (by decide) rfl (Nat.le_of_ble_eq_true rfl) (Or.inr (Or.inr (Or.inl ⟨_, rfl⟩))) ?_
        refine g_goto C 18 rfl 4 (by decide) ?_
        exact g_wk (ih x1 x2 (x3 + 1)) ⟨rfl, rfl, rfl, rfl, trivial⟩
      · refine g_iinc C 16 rfl 1 (by decide) rfl (Nat.le_of_ble_eq_true rfl) (Or.inr (Or.inr (Or.inl ⟨_, rfl⟩))) ?_
        refine g_iinc C 17 rfl 1 (by decide) rfl (Nat.le_of_ble_eq_true rfl) (Or.inr (Or.inr (Or.inl ⟨_, rfl⟩))) ?_
        refine g_goto C 18 rfl 4 (by decide) ?_
        exact g_wk (ih x1 (x2 + 1) (x3 + 1)) ⟨rfl, rfl, rfl, rfl, trivial⟩
set_option maxHeartbeats 1000000 in
set_option maxRecDepth 100000 in
theorem s_X0_countAt {V : sw_V} (C : sw_Cx sw_ZX V cX0_countAt RX0 4 (some .int) L_X0_countAt 0) (σ : sw_St) (x1 : Int32) : sw_S sw_ZX V (sw_eP σ) [some (sw_r V 2), some (.int x1), none, none] [] 0 σ (f_X0_countAt σ x1) := by
  unfold f_X0_countAt
  refine g_iconst C 0 rfl 0 (by decide) ?_
  refine g_istore_n C 1 rfl (Nat.le_of_ble_eq_true rfl) (Or.inr (Or.inr (Or.inl ⟨_, rfl⟩))) ?_
  refine g_iconst C 2 rfl 0 (by decide) ?_
  refine g_istore_n C 3 rfl (Nat.le_of_ble_eq_true rfl) (Or.inr (Or.inr (Or.inl ⟨_, rfl⟩))) ?_
  exact g_wk (s_X0_countAt_4 C σ sw_fuel x1 0 0) ⟨rfl, rfl, rfl, rfl, trivial⟩
set_option maxHeartbeats 1000000 in
set_option maxRecDepth 100000 in
theorem m_X0_countAt (l : Launch) (dC : Nat → ClassId) (dI : Nat → Nat → Nat) (dA : Nat → ClassId) (ad : Nat → Nat) (hI : sw_inj sw_ZX ad) (σ : sw_St) (x1 : Int32) (b : Int32) (hb : f_X0_countAt σ x1 = some b) : sw_M sw_ZX l yX0_countAt cX0_countAt 4 (some .int) 0 dC dI dA ad [(sw_rv ad 2), (.int x1)] σ ((sw_eP σ) b) :=
  sw_mk1 (ψ := (sw_eP σ)) 2 (by decide) sw_ZXok hI dk_X0_countAt rfl (sw_c1_all _ ⟨sw_rv_cat _ _, rfl, trivial⟩) hb (fun p e R M C => s_X0_countAt C σ x1)
/-! SplitWatch$Bus.trueValue(I)I -/
def L_X0_trueValue : sw_Is := [(0, .aload_n 0, 1, 1), (1, .iload_n 1, 1, 2), (2, .invokevirtual 199, 3, 5), (5, .astore_n 2, 1, 6), (6, .aload_n 2, 1, 7), (7, .ifnull 16, 3, 10), (10, .aload_n 2, 1, 11), (11, .getfield 148, 3, 14), (14, .iconst 1, 1, 15), (15, .if_icmp .ne 8, 3, 18), (18, .aload_n 2, 1, 19), (19, .getfield 154, 3, 22), (22, .ireturn, 1, 23), (23, .iconst 0, 1, 24), (24, .istore_n 3, 1, 25), (25, .iload_n 3, 1, 26), (26, .aload_n 0, 1, 27), (27, .getfield 44, 3, 30), (30, .if_icmp .ge 40, 3, 33), (33, .aload_n 0, 1, 34), (34, .getfield 11, 3, 37), (37, .iload_n 3, 1, 38), (38, .aaload, 1, 39), (39, .getfield 105, 3, 42), (42, .iload_n 1, 1, 43), (43, .invokevirtual 127, 3, 46), (46, .ifCond .eq 18, 3, 49), (49, .aload_n 0, 1, 50), (50, .getfield 11, 3, 53), (53, .iload_n 3, 1, 54), (54, .aaload, 1, 55), (55, .getfield 105, 3, 58), (58, .getfield 121, 3, 61), (61, .iload_n 1, 1, 62), (62, .iaload, 1, 63), (63, .ireturn, 1, 64), (64, .iinc 3 1, 3, 67), (67, .goto (-42), 3, 70), (70, .iconst 0, 1, 71), (71, .istore_n 3, 1, 72), (72, .iload_n 3, 1, 73), (73, .aload_n 0, 1, 74), (74, .getfield 44, 3, 77), (77, .if_icmp .ge 32, 3, 80), (80, .aload_n 0, 1, 81), (81, .getfield 11, 3, 84), (84, .iload_n 3, 1, 85), (85, .aaload, 1, 86), (86, .iload_n 1, 1, 87), (87, .invokevirtual 165, 3, 90), (90, .astore 4, 2, 92), (92, .aload 4, 2, 94), (94, .ifnull 9, 3, 97), (97, .aload 4, 2, 99), (99, .getfield 154, 3, 102), (102, .ireturn, 1, 103), (103, .iinc 3 1, 3, 106), (106, .goto (-34), 3, 109), (109, .aload_n 0, 1, 110), (110, .getfield 23, 3, 113), (113, .iload_n 1, 1, 114), (114, .iaload, 1, 115), (115, .ireturn, 1, 116)]
theorem dk_X0_trueValue : sw_dc cX0_trueValue L_X0_trueValue = true := by decide +kernel
def f_X0_trueValue_72 (σ : sw_St)  : Nat → Int32 → Int32 → Option Int32
  | 0 => fun _ _ => none
  | n + 1 => fun x1 x3 => if (σ 2 4) ≤ x3 then (sw_ck (sw_in x1 8) (some (σ 5 (sw_ix x1)))) else (sw_ck (sw_in x3 4) ((f_X2_backOf σ (8 + 9 * sw_ix x3) x1).bind fun r3 => (if r3 = 0 then ((f_X0_trueValue_72 σ n) x1 (x3 + 1)) else (sw_ck (sw_isQ r3) (some (σ r3 4))))))
def f_X0_trueValue_25 (σ : sw_St)  : Nat → Int32 → Int32 → Option Int32
  | 0 => fun _ _ => none
  | n + 1 => fun x1 x3 => if (σ 2 4) ≤ x3 then (f_X0_trueValue_72 σ sw_fuel x1 0) else (sw_ck (sw_in x3 4) ((f_X1_isSole σ ((8 + 9 * sw_ix x3) + 1) x1).bind fun r2 => (if r2 = 0 then ((f_X0_trueValue_25 σ n) x1 (x3 + 1)) else (sw_ck (sw_in x1 8) (some (σ (((8 + 9 * sw_ix x3) + 1) + 2) (sw_ix x1)))))))
def f_X0_trueValue (σ : sw_St) (x1 : Int32) : Option Int32 := (f_X0_openOf σ x1).bind fun r1 => (if r1 = 0 then (f_X0_trueValue_25 σ sw_fuel x1 0) else (sw_ck (sw_isQ r1) (if (σ r1 2) = 1 then (some (σ r1 4)) else (f_X0_trueValue_25 σ sw_fuel x1 0))))
set_option maxHeartbeats 1000000 in
set_option maxRecDepth 100000 in
theorem s_X0_trueValue_72 {V : sw_V} (C : sw_Cx sw_ZX V cX0_trueValue RX0 5 (some .int) L_X0_trueValue 1) (σ : sw_St) : ∀ (n : Nat) (x1 : Int32) (x3 : Int32), sw_S sw_ZX V (sw_eP σ) [some (sw_r V 2), some (.int x1), none, some (.int x3), none] [] 72 σ (f_X0_trueValue_72 σ n x1 x3) := by
  intro n
  induction n with
  | zero =>
    intro x1 x3
    exact g_none
  | succ n ih =>
    intro x1 x3
    rw [f_X0_trueValue_72]
    refine g_iload_n C 40 rfl rfl ?_
    refine g_aload_n C 41 rfl rfl ?_
    refine g_getI C 42 rfl fl_X0_44 rfl rfl ?_
    refine g_icmp_ge C 43 rfl 109 (by decide) ?_ ?_
    · refine g_aload_n C 58 rfl rfl ?_
      refine g_getR C 59 rfl fl_X0_23 rfl rfl ?_
      refine g_iload_n C 60 rfl rfl ?_
      refine g_ck fun h1 => ?_
      refine g_iald C 61 rfl rfl h1 ?_
      skip
      exact g_iret C 62 rfl rfl
    · refine g_aload_n C 44 rfl rfl ?_
      refine g_getR C 45 rfl fl_X0_11 rfl rfl ?_
      refine g_iload_n C 46 rfl rfl ?_
      refine g_ck fun h2 => ?_
      refine g_aald C 47 rfl rfl rfl h2 (tg_cores h2) ?_
      refine g_iload_n C 48 rfl rfl ?_
      refine g_callV (ψ₁ := sw_eR V.2.2.2.2.2 σ) C 49 rfl [(.int x1)] [] ml_X0_165 rfl (Nat.le_of_ble_eq_true rfl) (by decide) (sh_C (kd_cores h2)) rfl (fun b hb => m_X2_backOf V.1.2.1 _ _ _ _ C.inj σ (8 + 9 * sw_ix x3) x1 b hb) rfl (g_cR fun r3 => ?_)
      refine g_astore C 50 rfl (Nat.le_of_ble_eq_true rfl) (Or.inr (Or.inr (Or.inl ⟨_, rfl⟩))) ?_
      refine g_aload C 51 rfl rfl ?_
      refine g_ifnull C 52 rfl 103 (by decide) ?_ ?_
      · refine g_iinc C 56 rfl 1 (by decide) rfl (Nat.le_of_ble_eq_true rfl) (Or.inr (Or.inl rfl)) ?_
        refine g_goto C 57 rfl 72 (by decide) ?_
        exact g_wk (ih x1 (x3 + 1)) ⟨rfl, rfl, rfl, trivial⟩
      · refine g_aload C 53 rfl rfl ?_
        refine g_ck fun h4 => ?_
        refine g_getI C 54 rfl fl_X0_154 (sh_Q h4) rfl ?_
        skip
        exact g_iret C 55 rfl rfl
set_option maxHeartbeats 1000000 in
set_option maxRecDepth 100000 in
theorem s_X0_trueValue_25 {V : sw_V} (C : sw_Cx sw_ZX V cX0_trueValue RX0 5 (some .int) L_X0_trueValue 1) (σ : sw_St) : ∀ (n : Nat) (x1 : Int32) (x3 : Int32), sw_S sw_ZX V (sw_eP σ) [some (sw_r V 2), some (.int x1), none, some (.int x3), none] [] 25 σ (f_X0_trueValue_25 σ n x1 x3) := by
  intro n
  induction n with
  | zero =>
    intro x1 x3
    exact g_none
  | succ n ih =>
    intro x1 x3
    rw [f_X0_trueValue_25]
    refine g_iload_n C 15 rfl rfl ?_
    refine g_aload_n C 16 rfl rfl ?_
    refine g_getI C 17 rfl fl_X0_44 rfl rfl ?_
    refine g_icmp_ge C 18 rfl 70 (by decide) ?_ ?_
    · refine g_iconst C 38 rfl 0 (by decide) ?_
      refine g_istore_n C 39 rfl (Nat.le_of_ble_eq_true rfl) (Or.inr (Or.inl rfl)) ?_
      exact g_wk (s_X0_trueValue_72 C σ sw_fuel x1 0) ⟨rfl, rfl, rfl, trivial⟩
    · refine g_aload_n C 19 rfl rfl ?_
      refine g_getR C 20 rfl fl_X0_11 rfl rfl ?_
      refine g_iload_n C 21 rfl rfl ?_
      refine g_ck fun h1 => ?_
      refine g_aald C 22 rfl rfl rfl h1 (tg_cores h1) ?_
      refine g_getR C 23 rfl fl_X0_105 (sh_C (kd_cores h1)) rfl ?_
      refine g_iload_n C 24 rfl rfl ?_
      refine g_callV (ψ₁ := sw_eP σ) C 25 rfl [(.int x1)] [] ml_X0_127 rfl (Nat.le_of_ble_eq_true rfl) (by decide) (sh_K (kd_CK (kd_cores h1))) rfl (fun b hb => m_X1_isSole V.1.2.1 _ _ _ _ C.inj σ ((8 + 9 * sw_ix x3) + 1) x1 b hb) rfl (g_cP fun r2 => ?_)
      refine g_if_eq C 26 rfl 64 (by decide) ?_ ?_
      · refine g_iinc C 36 rfl 1 (by decide) rfl (Nat.le_of_ble_eq_true rfl) (Or.inr (Or.inl rfl)) ?_
        refine g_goto C 37 rfl 25 (by decide) ?_
        exact g_wk (ih x1 (x3 + 1)) ⟨rfl, rfl, rfl, trivial⟩
      · refine g_aload_n C 27 rfl rfl ?_
        refine g_getR C 28 rfl fl_X0_11 rfl rfl ?_
        refine g_iload_n C 29 rfl rfl ?_
        refine g_aald C 30 rfl rfl rfl h1 (tg_cores h1) ?_
        refine g_getR C 31 rfl fl_X0_105 (sh_C (kd_cores h1)) rfl ?_
        refine g_getR C 32 rfl fl_X0_121 (sh_K (kd_CK (kd_cores h1))) rfl ?_
        refine g_iload_n C 33 rfl rfl ?_
        refine g_ck fun h3 => ?_
        refine g_iald C 34 rfl (sh_K1 (kd_CK (kd_cores h1))) h3 ?_
        skip
        exact g_iret C 35 rfl rfl
set_option maxHeartbeats 1000000 in
set_option maxRecDepth 100000 in
theorem s_X0_trueValue {V : sw_V} (C : sw_Cx sw_ZX V cX0_trueValue RX0 5 (some .int) L_X0_trueValue 1) (σ : sw_St) (x1 : Int32) : sw_S sw_ZX V (sw_eP σ) [some (sw_r V 2), some (.int x1), none, none, none] [] 0 σ (f_X0_trueValue σ x1) := by
  unfold f_X0_trueValue
  refine g_aload_n C 0 rfl rfl ?_
  refine g_iload_n C 1 rfl rfl ?_
  refine g_callV (ψ₁ := sw_eR V.2.2.2.2.2 σ) C 2 rfl [(.int x1)] [] ml_X0_199 rfl (Nat.le_of_ble_eq_true rfl) (by decide) rfl rfl (fun b hb => m_X0_openOf V.1.2.1 _ _ _ _ C.inj σ x1 b hb) rfl (g_cR fun r1 => ?_)
  refine g_astore_n C 3 rfl (Nat.le_of_ble_eq_true rfl) (Or.inr (Or.inr (Or.inl ⟨_, rfl⟩))) ?_
  refine g_aload_n C 4 rfl rfl ?_
  refine g_ifnull C 5 rfl 23 (by decide) ?_ ?_
  · refine g_iconst C 13 rfl 0 (by decide) ?_
    refine g_istore_n C 14 rfl (Nat.le_of_ble_eq_true rfl) (Or.inr (Or.inr (Or.inr ⟨_, rfl⟩))) ?_
    exact g_wk (s_X0_trueValue_25 C σ sw_fuel x1 0) ⟨rfl, rfl, rfl, trivial⟩
  · refine g_aload_n C 6 rfl rfl ?_
    refine g_ck fun h2 => ?_
    refine g_getI C 7 rfl fl_X0_148 (sh_Q h2) rfl ?_
    refine g_iconst C 8 rfl 1 (by decide) ?_
    refine g_icmp_ne C 9 rfl 23 (by decide) ?_ ?_
    · refine g_iconst C 13 rfl 0 (by decide) ?_
      refine g_istore_n C 14 rfl (Nat.le_of_ble_eq_true rfl) (Or.inr (Or.inr (Or.inr ⟨_, rfl⟩))) ?_
      exact g_wk (s_X0_trueValue_25 C σ sw_fuel x1 0) ⟨rfl, rfl, rfl, trivial⟩
    · refine g_aload_n C 10 rfl rfl ?_
      refine g_getI C 11 rfl fl_X0_154 (sh_Q h2) rfl ?_
      skip
      exact g_iret C 12 rfl rfl
set_option maxHeartbeats 1000000 in
set_option maxRecDepth 100000 in
theorem m_X0_trueValue (l : Launch) (dC : Nat → ClassId) (dI : Nat → Nat → Nat) (dA : Nat → ClassId) (ad : Nat → Nat) (hI : sw_inj sw_ZX ad) (σ : sw_St) (x1 : Int32) (b : Int32) (hb : f_X0_trueValue σ x1 = some b) : sw_M sw_ZX l yX0_trueValue cX0_trueValue 5 (some .int) 1 dC dI dA ad [(sw_rv ad 2), (.int x1)] σ ((sw_eP σ) b) :=
  sw_mk1 (ψ := (sw_eP σ)) 3 (by decide) sw_ZXok hI dk_X0_trueValue rfl (sw_c1_all _ ⟨sw_rv_cat _ _, rfl, trivial⟩) hb (fun p e R M C => s_X0_trueValue C σ x1)
/-! SplitWatch$Bus.nameOf(II)Ljava/lang/String; -/
def L_X0_nameOf : sw_Is := [(0, .aload_n 0, 1, 1), (1, .getfield 11, 3, 4), (4, .iload_n 1, 1, 5), (5, .aaload, 1, 6), (6, .getfield 105, 3, 9), (9, .getfield 109, 3, 12), (12, .iload_n 2, 1, 13), (13, .iaload, 1, 14), (14, .tableswitch 35 1 3 #[26, 29, 32], 26, 40), (40, .ldc 247, 2, 42), (42, .areturn, 1, 43), (43, .ldc 249, 2, 45), (45, .areturn, 1, 46), (46, .ldc 251, 2, 48), (48, .areturn, 1, 49), (49, .aload_n 0, 1, 50), (50, .getfield 11, 3, 53), (53, .iload_n 1, 1, 54), (54, .aaload, 1, 55), (55, .iload_n 2, 1, 56), (56, .invokevirtual 165, 3, 59), (59, .ifnull 8, 3, 62), (62, .ldc 253, 2, 64), (64, .goto 5, 3, 67), (67, .ldc 255, 2, 69), (69, .areturn, 1, 70)]
theorem dk_X0_nameOf : sw_dc cX0_nameOf L_X0_nameOf = true := by decide +kernel
def f_X0_nameOf (σ : sw_St) (x1 : Int32) (x2 : Int32) : Option Nat := sw_ck (sw_in x1 4) (sw_ck (sw_in x2 8) (if (σ (((8 + 9 * sw_ix x1) + 1) + 1) (sw_ix x2)) = 1 then (some 100) else (if (σ (((8 + 9 * sw_ix x1) + 1) + 1) (sw_ix x2)) = 2 then (some 101) else (if (σ (((8 + 9 * sw_ix x1) + 1) + 1) (sw_ix x2)) = 3 then (some 102) else ((f_X2_backOf σ (8 + 9 * sw_ix x1) x2).bind fun r6 => (if r6 = 0 then (some 104) else (some 103)))))))
set_option maxHeartbeats 1000000 in
set_option maxRecDepth 100000 in
theorem s_X0_nameOf {V : sw_V} (C : sw_Cx sw_ZX V cX0_nameOf RX0 3 (some (.object "java/lang/String")) L_X0_nameOf 1) (σ : sw_St) (x1 : Int32) (x2 : Int32) : sw_S sw_ZX V (sw_eR V.2.2.2.2.2 σ) [some (sw_r V 2), some (.int x1), some (.int x2)] [] 0 σ (f_X0_nameOf σ x1 x2) := by
  unfold f_X0_nameOf
  refine g_aload_n C 0 rfl rfl ?_
  refine g_getR C 1 rfl fl_X0_11 rfl rfl ?_
  refine g_iload_n C 2 rfl rfl ?_
  refine g_ck fun h1 => ?_
  refine g_aald C 3 rfl rfl rfl h1 (tg_cores h1) ?_
  refine g_getR C 4 rfl fl_X0_105 (sh_C (kd_cores h1)) rfl ?_
  refine g_getR C 5 rfl fl_X0_109 (sh_K (kd_CK (kd_cores h1))) rfl ?_
  refine g_iload_n C 6 rfl rfl ?_
  refine g_ck fun h2 => ?_
  refine g_iald C 7 rfl (sh_K0 (kd_CK (kd_cores h1))) h2 ?_
  skip
  refine g_tin C 8 rfl 1 40 (by decide) 26 (by decide) (by decide) ?_ (fun h3 => ?_)
  · refine g_ldcS C 9 rfl 0 (by decide) rfl rfl ?_
    exact g_aret C 10 rfl rfl
  refine g_tin C 8 rfl 2 43 (by decide) 29 (by decide) (by decide) ?_ (fun h4 => ?_)
  · refine g_ldcS C 11 rfl 1 (by decide) rfl rfl ?_
    exact g_aret C 12 rfl rfl
  refine g_tin C 8 rfl 3 46 (by decide) 32 (by decide) (by decide) ?_ (fun h5 => ?_)
  · refine g_ldcS C 13 rfl 2 (by decide) rfl rfl ?_
    exact g_aret C 14 rfl rfl
  refine g_tout C 8 rfl 49 (by have a0 := lv_neT (a := 1) h3 (by decide); have a1 := lv_neT (a := 2) h4 (by decide); have a2 := lv_neT (a := 3) h5 (by decide); omega) (by decide) ?_
  refine g_aload_n C 15 rfl rfl ?_
  refine g_getR C 16 rfl fl_X0_11 rfl rfl ?_
  refine g_iload_n C 17 rfl rfl ?_
  refine g_aald C 18 rfl rfl rfl h1 (tg_cores h1) ?_
  refine g_iload_n C 19 rfl rfl ?_
  refine g_callV (ψ₁ := sw_eR V.2.2.2.2.2 σ) C 20 rfl [(.int x2)] [] ml_X0_165 rfl (Nat.le_of_ble_eq_true rfl) (by decide) (sh_C (kd_cores h1)) rfl (fun b hb => m_X2_backOf V.1.2.1 _ _ _ _ C.inj σ (8 + 9 * sw_ix x1) x2 b hb) rfl (g_cR fun r6 => ?_)
  refine g_ifnull C 21 rfl 67 (by decide) ?_ ?_
  · refine g_ldcS C 24 rfl 4 (by decide) rfl rfl ?_
    exact g_aret C 25 rfl rfl
  · refine g_ldcS C 22 rfl 3 (by decide) rfl rfl ?_
    refine g_goto C 23 rfl 69 (by decide) ?_
    exact g_aret C 25 rfl rfl
set_option maxHeartbeats 1000000 in
set_option maxRecDepth 100000 in
theorem m_X0_nameOf (l : Launch) (dC : Nat → ClassId) (dI : Nat → Nat → Nat) (dA : Nat → ClassId) (ad : Nat → Nat) (hI : sw_inj sw_ZX ad) (σ : sw_St) (x1 : Int32) (x2 : Int32) (b : Nat) (hb : f_X0_nameOf σ x1 x2 = some b) : sw_M sw_ZX l yX0_nameOf cX0_nameOf 3 (some (.object "java/lang/String")) 1 dC dI dA ad [(sw_rv ad 2), (.int x1), (.int x2)] σ ((sw_eR ad σ) b) :=
  sw_mk1 (ψ := (sw_eR ad σ)) 0 (by decide) sw_ZXok hI dk_X0_nameOf rfl (sw_c1_all _ ⟨sw_rv_cat _ _, rfl, rfl, trivial⟩) hb (fun p e R M C => s_X0_nameOf C σ x1 x2)
/-! SplitWatch$Cache.usedLater(I)I -/
def L_X1_usedLater : sw_Is := [(0, .iconst 0, 1, 1), (1, .istore_n 2, 1, 2), (2, .iconst 0, 1, 3), (3, .istore_n 3, 1, 4), (4, .iload_n 3, 1, 5), (5, .bipush 8, 2, 7), (7, .if_icmp .ge 36, 3, 10), (10, .aload_n 0, 1, 11), (11, .getfield 9, 3, 14), (14, .iload_n 3, 1, 15), (15, .iaload, 1, 16), (16, .ifCond .eq 21, 3, 19), (19, .aload_n 0, 1, 20), (20, .getfield 18, 3, 23), (23, .iload_n 3, 1, 24), (24, .iaload, 1, 25), (25, .aload_n 0, 1, 26), (26, .getfield 18, 3, 29), (29, .iload_n 1, 1, 30), (30, .iaload, 1, 31), (31, .if_icmp .le 6, 3, 34), (34, .iinc 2 1, 3, 37), (37, .iinc 3 1, 3, 40), (40, .goto (-36), 3, 43), (43, .iload_n 2, 1, 44), (44, .ireturn, 1, 45)]
theorem dk_X1_usedLater : sw_dc cX1_usedLater L_X1_usedLater = true := by decide +kernel
def f_X1_usedLater_4 (σ : sw_St)  : Nat → Nat → Int32 → Int32 → Int32 → Option Int32
  | 0 => fun _ _ _ _ => none
  | n + 1 => fun x0 x1 x2 x3 => if 8 ≤ x3 then (some x2) else (sw_ck (sw_isK x0) (sw_ck (sw_in x3 8) (if (σ (x0 + 1) (sw_ix x3)) = 0 then ((f_X1_usedLater_4 σ n) x0 x1 x2 (x3 + 1)) else (sw_ck (sw_in x1 8) (if (σ (x0 + 3) (sw_ix x3)) ≤ (σ (x0 + 3) (sw_ix x1)) then ((f_X1_usedLater_4 σ n) x0 x1 x2 (x3 + 1)) else ((f_X1_usedLater_4 σ n) x0 x1 (x2 + 1) (x3 + 1)))))))
def f_X1_usedLater (σ : sw_St) (x0 : Nat) (x1 : Int32) : Option Int32 := f_X1_usedLater_4 σ sw_fuel x0 x1 0 0
set_option maxHeartbeats 1000000 in
set_option maxRecDepth 100000 in
theorem s_X1_usedLater_4 {V : sw_V} (C : sw_Cx sw_ZX V cX1_usedLater RX1 4 (some .int) L_X1_usedLater 0) (σ : sw_St) : ∀ (n : Nat) (x0 : Nat) (x1 : Int32) (x2 : Int32) (x3 : Int32), sw_S sw_ZX V (sw_eP σ) [some (sw_r V x0), some (.int x1), some (.int x2), some (.int x3)] [] 4 σ (f_X1_usedLater_4 σ n x0 x1 x2 x3) := by
  intro n
  induction n with
  | zero =>
    intro x0 x1 x2 x3
    exact g_none
  | succ n ih =>
    intro x0 x1 x2 x3
    rw [f_X1_usedLater_4]
    refine g_iload_n C 4 rfl rfl ?_
    refine g_bipush C 5 rfl 8 (by decide) ?_
    refine g_icmp_ge C 6 rfl 43 (by decide) ?_ ?_
    · refine g_iload_n C 24 rfl rfl ?_
      skip
      exact g_iret C 25 rfl rfl
    · refine g_aload_n C 7 rfl rfl ?_
      refine g_ck fun h1 => ?_
      refine g_getR C 8 rfl fl_X1_9 (sh_K h1) rfl ?_
      refine g_iload_n C 9 rfl rfl ?_
      refine g_ck fun h2 => ?_
      refine g_iald C 10 rfl (sh_K0 h1) h2 ?_
      refine g_if_eq C 11 rfl 37 (by decide) ?_ ?_
      · refine g_iinc C 22 rfl 1 (by decide) rfl (Nat.le_of_ble_eq_true rfl) (Or.inr (Or.inr (Or.inl ⟨_, rfl⟩))) ?_
        refine g_goto C 23 rfl 4 (by decide) ?_
        exact g_wk (ih x0 x1 x2 (x3 + 1)) ⟨rfl, rfl, rfl, rfl, trivial⟩
      · refine g_aload_n C 12 rfl rfl ?_
        refine g_getR C 13 rfl fl_X1_18 (sh_K h1) rfl ?_
        refine g_iload_n C 14 rfl rfl ?_
        refine g_iald C 15 rfl (sh_K2 h1) h2 ?_
        refine g_aload_n C 16 rfl rfl ?_
        refine g_getR C 17 rfl fl_X1_18 (sh_K h1) rfl ?_
        refine g_iload_n C 18 rfl rfl ?_
        refine g_ck fun h3 => ?_
        refine g_iald C 19 rfl (sh_K2 h1) h3 ?_
        refine g_icmp_le C 20 rfl 37 (by decide) ?_ ?_
        · refine g_iinc C 22 rfl 1 (by decide) rfl (Nat.le_of_ble_eq_true rfl) (Or.inr (Or.inr (Or.inl ⟨_, rfl⟩))) ?_
          refine g_goto C 23 rfl 4 (by decide) ?_
          exact g_wk (ih x0 x1 x2 (x3 + 1)) ⟨rfl, rfl, rfl, rfl, trivial⟩
        · refine g_iinc C 21 rfl 1 (by decide) rfl (Nat.le_of_ble_eq_true rfl) (Or.inr (Or.inr (Or.inl ⟨_, rfl⟩))) ?_
          refine g_iinc C 22 rfl 1 (by decide) rfl (Nat.le_of_ble_eq_true rfl) (Or.inr (Or.inr (Or.inl ⟨_, rfl⟩))) ?_
          refine g_goto C 23 rfl 4 (by decide) ?_
          exact g_wk (ih x0 x1 (x2 + 1) (x3 + 1)) ⟨rfl, rfl, rfl, rfl, trivial⟩
set_option maxHeartbeats 1000000 in
set_option maxRecDepth 100000 in
theorem s_X1_usedLater {V : sw_V} (C : sw_Cx sw_ZX V cX1_usedLater RX1 4 (some .int) L_X1_usedLater 0) (σ : sw_St) (x0 : Nat) (x1 : Int32) : sw_S sw_ZX V (sw_eP σ) [some (sw_r V x0), some (.int x1), none, none] [] 0 σ (f_X1_usedLater σ x0 x1) := by
  unfold f_X1_usedLater
  refine g_iconst C 0 rfl 0 (by decide) ?_
  refine g_istore_n C 1 rfl (Nat.le_of_ble_eq_true rfl) (Or.inr (Or.inr (Or.inl ⟨_, rfl⟩))) ?_
  refine g_iconst C 2 rfl 0 (by decide) ?_
  refine g_istore_n C 3 rfl (Nat.le_of_ble_eq_true rfl) (Or.inr (Or.inr (Or.inl ⟨_, rfl⟩))) ?_
  exact g_wk (s_X1_usedLater_4 C σ sw_fuel x0 x1 0 0) ⟨rfl, rfl, rfl, rfl, trivial⟩
set_option maxHeartbeats 1000000 in
set_option maxRecDepth 100000 in
theorem m_X1_usedLater (l : Launch) (dC : Nat → ClassId) (dI : Nat → Nat → Nat) (dA : Nat → ClassId) (ad : Nat → Nat) (hI : sw_inj sw_ZX ad) (σ : sw_St) (x0 : Nat) (x1 : Int32) (b : Int32) (hb : f_X1_usedLater σ x0 x1 = some b) : sw_M sw_ZX l yX1_usedLater cX1_usedLater 4 (some .int) 0 dC dI dA ad [(sw_rv ad x0), (.int x1)] σ ((sw_eP σ) b) :=
  sw_mk1 (ψ := (sw_eP σ)) 2 (by decide) sw_ZXok hI dk_X1_usedLater rfl (sw_c1_all _ ⟨sw_rv_cat _ _, rfl, trivial⟩) hb (fun p e R M C => s_X1_usedLater C σ x0 x1)
/-! SplitWatch$Core.bufferSize()I -/
def L_X2_bufferSize : sw_Is := [(0, .iconst 0, 1, 1), (1, .istore_n 1, 1, 2), (2, .iconst 0, 1, 3), (3, .istore_n 2, 1, 4), (4, .iload_n 2, 1, 5), (5, .iconst 2, 1, 6), (6, .if_icmp .ge 25, 3, 9), (9, .aload_n 0, 1, 10), (10, .getfield 20, 3, 13), (13, .iload_n 2, 1, 14), (14, .aaload, 1, 15), (15, .getfield 34, 3, 18), (18, .iconst 1, 1, 19), (19, .if_icmp .ne 6, 3, 22), (22, .iinc 1 1, 3, 25), (25, .iinc 2 1, 3, 28), (28, .goto (-24), 3, 31), (31, .iload_n 1, 1, 32), (32, .ireturn, 1, 33)]
theorem dk_X2_bufferSize : sw_dc cX2_bufferSize L_X2_bufferSize = true := by decide +kernel
def f_X2_bufferSize_4 (σ : sw_St)  : Nat → Nat → Int32 → Int32 → Option Int32
  | 0 => fun _ _ _ => none
  | n + 1 => fun x0 x1 x2 => if 2 ≤ x2 then (some x1) else (sw_ck (sw_isC x0) (sw_ck (sw_in x2 2) (if (σ (x0 + 7 + sw_ix x2) 1) = 1 then ((f_X2_bufferSize_4 σ n) x0 (x1 + 1) (x2 + 1)) else ((f_X2_bufferSize_4 σ n) x0 x1 (x2 + 1)))))
def f_X2_bufferSize (σ : sw_St) (x0 : Nat) : Option Int32 := f_X2_bufferSize_4 σ sw_fuel x0 0 0
set_option maxHeartbeats 1000000 in
set_option maxRecDepth 100000 in
theorem s_X2_bufferSize_4 {V : sw_V} (C : sw_Cx sw_ZX V cX2_bufferSize RX2 3 (some .int) L_X2_bufferSize 0) (σ : sw_St) : ∀ (n : Nat) (x0 : Nat) (x1 : Int32) (x2 : Int32), sw_S sw_ZX V (sw_eP σ) [some (sw_r V x0), some (.int x1), some (.int x2)] [] 4 σ (f_X2_bufferSize_4 σ n x0 x1 x2) := by
  intro n
  induction n with
  | zero =>
    intro x0 x1 x2
    exact g_none
  | succ n ih =>
    intro x0 x1 x2
    rw [f_X2_bufferSize_4]
    refine g_iload_n C 4 rfl rfl ?_
    refine g_iconst C 5 rfl 2 (by decide) ?_
    refine g_icmp_ge C 6 rfl 31 (by decide) ?_ ?_
    · refine g_iload_n C 17 rfl rfl ?_
      skip
      exact g_iret C 18 rfl rfl
    · refine g_aload_n C 7 rfl rfl ?_
      refine g_ck fun h1 => ?_
      refine g_getR C 8 rfl fl_X2_20 (sh_C h1) rfl ?_
      refine g_iload_n C 9 rfl rfl ?_
      refine g_ck fun h2 => ?_
      refine g_aald C 10 rfl (sh_CB h1) rfl h2 (tg_backs h2) ?_
      refine g_getI C 11 rfl fl_X2_34 (sh_Q (kd_backs h1 h2)) rfl ?_
      refine g_iconst C 12 rfl 1 (by decide) ?_
      refine g_icmp_ne C 13 rfl 25 (by decide) ?_ ?_
      · refine g_iinc C 15 rfl 1 (by decide) rfl (Nat.le_of_ble_eq_true rfl) (Or.inr (Or.inr (Or.inl ⟨_, rfl⟩))) ?_
        refine g_goto C 16 rfl 4 (by decide) ?_
        exact g_wk (ih x0 x1 (x2 + 1)) ⟨rfl, rfl, rfl, trivial⟩
      · refine g_iinc C 14 rfl 1 (by decide) rfl (Nat.le_of_ble_eq_true rfl) (Or.inr (Or.inr (Or.inr ⟨_, rfl⟩))) ?_
        refine g_iinc C 15 rfl 1 (by decide) rfl (Nat.le_of_ble_eq_true rfl) (Or.inr (Or.inr (Or.inl ⟨_, rfl⟩))) ?_
        refine g_goto C 16 rfl 4 (by decide) ?_
        exact g_wk (ih x0 (x1 + 1) (x2 + 1)) ⟨rfl, rfl, rfl, trivial⟩
set_option maxHeartbeats 1000000 in
set_option maxRecDepth 100000 in
theorem s_X2_bufferSize {V : sw_V} (C : sw_Cx sw_ZX V cX2_bufferSize RX2 3 (some .int) L_X2_bufferSize 0) (σ : sw_St) (x0 : Nat) : sw_S sw_ZX V (sw_eP σ) [some (sw_r V x0), none, none] [] 0 σ (f_X2_bufferSize σ x0) := by
  unfold f_X2_bufferSize
  refine g_iconst C 0 rfl 0 (by decide) ?_
  refine g_istore_n C 1 rfl (Nat.le_of_ble_eq_true rfl) (Or.inr (Or.inr (Or.inr ⟨_, rfl⟩))) ?_
  refine g_iconst C 2 rfl 0 (by decide) ?_
  refine g_istore_n C 3 rfl (Nat.le_of_ble_eq_true rfl) (Or.inr (Or.inr (Or.inl ⟨_, rfl⟩))) ?_
  exact g_wk (s_X2_bufferSize_4 C σ sw_fuel x0 0 0) ⟨rfl, rfl, rfl, trivial⟩
set_option maxHeartbeats 1000000 in
set_option maxRecDepth 100000 in
theorem m_X2_bufferSize (l : Launch) (dC : Nat → ClassId) (dI : Nat → Nat → Nat) (dA : Nat → ClassId) (ad : Nat → Nat) (hI : sw_inj sw_ZX ad) (σ : sw_St) (x0 : Nat) (b : Int32) (hb : f_X2_bufferSize σ x0 = some b) : sw_M sw_ZX l yX2_bufferSize cX2_bufferSize 3 (some .int) 0 dC dI dA ad [(sw_rv ad x0)] σ ((sw_eP σ) b) :=
  sw_mk1 (ψ := (sw_eP σ)) 2 (by decide) sw_ZXok hI dk_X2_bufferSize rfl (sw_c1_all _ ⟨sw_rv_cat _ _, trivial⟩) hb (fun p e R M C => s_X2_bufferSize C σ x0)
/-! SplitWatch$Core.earlierBacks(I)I -/
def L_X2_earlierBacks : sw_Is := [(0, .iconst 0, 1, 1), (1, .istore_n 2, 1, 2), (2, .iconst 0, 1, 3), (3, .istore_n 3, 1, 4), (4, .iload_n 3, 1, 5), (5, .iconst 2, 1, 6), (6, .if_icmp .ge 38, 3, 9), (9, .aload_n 0, 1, 10), (10, .getfield 20, 3, 13), (13, .iload_n 3, 1, 14), (14, .aaload, 1, 15), (15, .getfield 34, 3, 18), (18, .iconst 1, 1, 19), (19, .if_icmp .ne 19, 3, 22), (22, .aload_n 0, 1, 23), (23, .getfield 20, 3, 26), (26, .iload_n 3, 1, 27), (27, .aaload, 1, 28), (28, .getfield 44, 3, 31), (31, .iload_n 1, 1, 32), (32, .if_icmp .ge 6, 3, 35), (35, .iinc 2 1, 3, 38), (38, .iinc 3 1, 3, 41), (41, .goto (-37), 3, 44), (44, .iload_n 2, 1, 45), (45, .ireturn, 1, 46)]
theorem dk_X2_earlierBacks : sw_dc cX2_earlierBacks L_X2_earlierBacks = true := by decide +kernel
def f_X2_earlierBacks_4 (σ : sw_St)  : Nat → Nat → Int32 → Int32 → Int32 → Option Int32
  | 0 => fun _ _ _ _ => none
  | n + 1 => fun x0 x1 x2 x3 => if 2 ≤ x3 then (some x2) else (sw_ck (sw_isC x0) (sw_ck (sw_in x3 2) (if (σ (x0 + 7 + sw_ix x3) 1) = 1 then (if x1 ≤ (σ (x0 + 7 + sw_ix x3) 6) then ((f_X2_earlierBacks_4 σ n) x0 x1 x2 (x3 + 1)) else ((f_X2_earlierBacks_4 σ n) x0 x1 (x2 + 1) (x3 + 1))) else ((f_X2_earlierBacks_4 σ n) x0 x1 x2 (x3 + 1)))))
def f_X2_earlierBacks (σ : sw_St) (x0 : Nat) (x1 : Int32) : Option Int32 := f_X2_earlierBacks_4 σ sw_fuel x0 x1 0 0
set_option maxHeartbeats 1000000 in
set_option maxRecDepth 100000 in
theorem s_X2_earlierBacks_4 {V : sw_V} (C : sw_Cx sw_ZX V cX2_earlierBacks RX2 4 (some .int) L_X2_earlierBacks 0) (σ : sw_St) : ∀ (n : Nat) (x0 : Nat) (x1 : Int32) (x2 : Int32) (x3 : Int32), sw_S sw_ZX V (sw_eP σ) [some (sw_r V x0), some (.int x1), some (.int x2), some (.int x3)] [] 4 σ (f_X2_earlierBacks_4 σ n x0 x1 x2 x3) := by
  intro n
  induction n with
  | zero =>
    intro x0 x1 x2 x3
    exact g_none
  | succ n ih =>
    intro x0 x1 x2 x3
    rw [f_X2_earlierBacks_4]
    refine g_iload_n C 4 rfl rfl ?_
    refine g_iconst C 5 rfl 2 (by decide) ?_
    refine g_icmp_ge C 6 rfl 44 (by decide) ?_ ?_
    · refine g_iload_n C 24 rfl rfl ?_
      skip
      exact g_iret C 25 rfl rfl
    · refine g_aload_n C 7 rfl rfl ?_
      refine g_ck fun h1 => ?_
      refine g_getR C 8 rfl fl_X2_20 (sh_C h1) rfl ?_
      refine g_iload_n C 9 rfl rfl ?_
      refine g_ck fun h2 => ?_
      refine g_aald C 10 rfl (sh_CB h1) rfl h2 (tg_backs h2) ?_
      refine g_getI C 11 rfl fl_X2_34 (sh_Q (kd_backs h1 h2)) rfl ?_
      refine g_iconst C 12 rfl 1 (by decide) ?_
      refine g_icmp_ne C 13 rfl 38 (by decide) ?_ ?_
      · refine g_iinc C 22 rfl 1 (by decide) rfl (Nat.le_of_ble_eq_true rfl) (Or.inr (Or.inr (Or.inl ⟨_, rfl⟩))) ?_
        refine g_goto C 23 rfl 4 (by decide) ?_
        exact g_wk (ih x0 x1 x2 (x3 + 1)) ⟨rfl, rfl, rfl, rfl, trivial⟩
      · refine g_aload_n C 14 rfl rfl ?_
        refine g_getR C 15 rfl fl_X2_20 (sh_C h1) rfl ?_
        refine g_iload_n C 16 rfl rfl ?_
        refine g_aald C 17 rfl (sh_CB h1) rfl h2 (tg_backs h2) ?_
        refine g_getI C 18 rfl fl_X2_44 (sh_Q (kd_backs h1 h2)) rfl ?_
        refine g_iload_n C 19 rfl rfl ?_
        refine g_icmp_ge C 20 rfl 38 (by decide) ?_ ?_
        · refine g_iinc C 22 rfl 1 (by decide) rfl (Nat.le_of_ble_eq_true rfl) (Or.inr (Or.inr (Or.inl ⟨_, rfl⟩))) ?_
          refine g_goto C 23 rfl 4 (by decide) ?_
          exact g_wk (ih x0 x1 x2 (x3 + 1)) ⟨rfl, rfl, rfl, rfl, trivial⟩
        · refine g_iinc C 21 rfl 1 (by decide) rfl (Nat.le_of_ble_eq_true rfl) (Or.inr (Or.inr (Or.inl ⟨_, rfl⟩))) ?_
          refine g_iinc C 22 rfl 1 (by decide) rfl (Nat.le_of_ble_eq_true rfl) (Or.inr (Or.inr (Or.inl ⟨_, rfl⟩))) ?_
          refine g_goto C 23 rfl 4 (by decide) ?_
          exact g_wk (ih x0 x1 (x2 + 1) (x3 + 1)) ⟨rfl, rfl, rfl, rfl, trivial⟩
set_option maxHeartbeats 1000000 in
set_option maxRecDepth 100000 in
theorem s_X2_earlierBacks {V : sw_V} (C : sw_Cx sw_ZX V cX2_earlierBacks RX2 4 (some .int) L_X2_earlierBacks 0) (σ : sw_St) (x0 : Nat) (x1 : Int32) : sw_S sw_ZX V (sw_eP σ) [some (sw_r V x0), some (.int x1), none, none] [] 0 σ (f_X2_earlierBacks σ x0 x1) := by
  unfold f_X2_earlierBacks
  refine g_iconst C 0 rfl 0 (by decide) ?_
  refine g_istore_n C 1 rfl (Nat.le_of_ble_eq_true rfl) (Or.inr (Or.inr (Or.inl ⟨_, rfl⟩))) ?_
  refine g_iconst C 2 rfl 0 (by decide) ?_
  refine g_istore_n C 3 rfl (Nat.le_of_ble_eq_true rfl) (Or.inr (Or.inr (Or.inl ⟨_, rfl⟩))) ?_
  exact g_wk (s_X2_earlierBacks_4 C σ sw_fuel x0 x1 0 0) ⟨rfl, rfl, rfl, rfl, trivial⟩
set_option maxHeartbeats 1000000 in
set_option maxRecDepth 100000 in
theorem m_X2_earlierBacks (l : Launch) (dC : Nat → ClassId) (dI : Nat → Nat → Nat) (dA : Nat → ClassId) (ad : Nat → Nat) (hI : sw_inj sw_ZX ad) (σ : sw_St) (x0 : Nat) (x1 : Int32) (b : Int32) (hb : f_X2_earlierBacks σ x0 x1 = some b) : sw_M sw_ZX l yX2_earlierBacks cX2_earlierBacks 4 (some .int) 0 dC dI dA ad [(sw_rv ad x0), (.int x1)] σ ((sw_eP σ) b) :=
  sw_mk1 (ψ := (sw_eP σ)) 2 (by decide) sw_ZXok hI dk_X2_earlierBacks rfl (sw_c1_all _ ⟨sw_rv_cat _ _, rfl, trivial⟩) hb (fun p e R M C => s_X2_earlierBacks C σ x0 x1)
/-! SplitWatch$Core.backAt(I)LSplitWatch$Request; -/
def L_X2_backAt : sw_Is := [(0, .iconst 0, 1, 1), (1, .istore_n 2, 1, 2), (2, .iload_n 2, 1, 3), (3, .iconst 2, 1, 4), (4, .if_icmp .ge 46, 3, 7), (7, .aload_n 0, 1, 8), (8, .getfield 20, 3, 11), (11, .iload_n 2, 1, 12), (12, .aaload, 1, 13), (13, .getfield 34, 3, 16), (16, .iconst 1, 1, 17), (17, .if_icmp .ne 27, 3, 20), (20, .aload_n 0, 1, 21), (21, .aload_n 0, 1, 22), (22, .getfield 20, 3, 25), (25, .iload_n 2, 1, 26), (26, .aaload, 1, 27), (27, .getfield 44, 3, 30), (30, .invokevirtual 47, 3, 33), (33, .iload_n 1, 1, 34), (34, .if_icmp .ne 10, 3, 37), (37, .aload_n 0, 1, 38), (38, .getfield 20, 3, 41), (41, .iload_n 2, 1, 42), (42, .aaload, 1, 43), (43, .areturn, 1, 44), (44, .iinc 2 1, 3, 47), (47, .goto (-45), 3, 50), (50, .aconst_null, 1, 51), (51, .areturn, 1, 52)]
theorem dk_X2_backAt : sw_dc cX2_backAt L_X2_backAt = true := by decide +kernel
def f_X2_backAt_2 (σ : sw_St)  : Nat → Nat → Int32 → Int32 → Option Nat
  | 0 => fun _ _ _ => none
  | n + 1 => fun x0 x1 x2 => if 2 ≤ x2 then (some 0) else (sw_ck (sw_isC x0) (sw_ck (sw_in x2 2) (if (σ (x0 + 7 + sw_ix x2) 1) = 1 then ((f_X2_earlierBacks σ x0 (σ (x0 + 7 + sw_ix x2) 6)).bind fun r3 => (if r3 = x1 then (some (x0 + 7 + sw_ix x2)) else ((f_X2_backAt_2 σ n) x0 x1 (x2 + 1)))) else ((f_X2_backAt_2 σ n) x0 x1 (x2 + 1)))))
def f_X2_backAt (σ : sw_St) (x0 : Nat) (x1 : Int32) : Option Nat := f_X2_backAt_2 σ sw_fuel x0 x1 0
set_option maxHeartbeats 1000000 in
set_option maxRecDepth 100000 in
theorem s_X2_backAt_2 {V : sw_V} (C : sw_Cx sw_ZX V cX2_backAt RX2 3 (some (.object "SplitWatch$Request")) L_X2_backAt 1) (σ : sw_St) : ∀ (n : Nat) (x0 : Nat) (x1 : Int32) (x2 : Int32), sw_S sw_ZX V (sw_eR V.2.2.2.2.2 σ) [some (sw_r V x0), some (.int x1), some (.int x2)] [] 2 σ (f_X2_backAt_2 σ n x0 x1 x2) := by
  intro n
  induction n with
  | zero =>
    intro x0 x1 x2
    exact g_none
  | succ n ih =>
    intro x0 x1 x2
    rw [f_X2_backAt_2]
    refine g_iload_n C 2 rfl rfl ?_
    refine g_iconst C 3 rfl 2 (by decide) ?_
    refine g_icmp_ge C 4 rfl 50 (by decide) ?_ ?_
    · refine g_null C 28 rfl ?_
      exact g_aret C 29 rfl rfl
    · refine g_aload_n C 5 rfl rfl ?_
      refine g_ck fun h1 => ?_
      refine g_getR C 6 rfl fl_X2_20 (sh_C h1) rfl ?_
      refine g_iload_n C 7 rfl rfl ?_
      refine g_ck fun h2 => ?_
      refine g_aald C 8 rfl (sh_CB h1) rfl h2 (tg_backs h2) ?_
      refine g_getI C 9 rfl fl_X2_34 (sh_Q (kd_backs h1 h2)) rfl ?_
      refine g_iconst C 10 rfl 1 (by decide) ?_
      refine g_icmp_ne C 11 rfl 44 (by decide) ?_ ?_
      · refine g_iinc C 26 rfl 1 (by decide) rfl (Nat.le_of_ble_eq_true rfl) (Or.inr (Or.inr (Or.inl ⟨_, rfl⟩))) ?_
        refine g_goto C 27 rfl 2 (by decide) ?_
        exact g_wk (ih x0 x1 (x2 + 1)) ⟨rfl, rfl, rfl, trivial⟩
      · refine g_aload_n C 12 rfl rfl ?_
        refine g_aload_n C 13 rfl rfl ?_
        refine g_getR C 14 rfl fl_X2_20 (sh_C h1) rfl ?_
        refine g_iload_n C 15 rfl rfl ?_
        refine g_aald C 16 rfl (sh_CB h1) rfl h2 (tg_backs h2) ?_
        refine g_getI C 17 rfl fl_X2_44 (sh_Q (kd_backs h1 h2)) rfl ?_
        refine g_callV (ψ₁ := sw_eP σ) C 18 rfl [(.int (σ (x0 + 7 + sw_ix x2) 6))] [] ml_X2_47 rfl (Nat.le_of_ble_eq_true rfl) (by decide) (sh_C h1) rfl (fun b hb => m_X2_earlierBacks V.1.2.1 _ _ _ _ C.inj σ x0 (σ (x0 + 7 + sw_ix x2) 6) b hb) rfl (g_cP fun r3 => ?_)
        refine g_iload_n C 19 rfl rfl ?_
        refine g_icmp_ne C 20 rfl 44 (by decide) ?_ ?_
        · refine g_iinc C 26 rfl 1 (by decide) rfl (Nat.le_of_ble_eq_true rfl) (Or.inr (Or.inr (Or.inl ⟨_, rfl⟩))) ?_
          refine g_goto C 27 rfl 2 (by decide) ?_
          exact g_wk (ih x0 x1 (x2 + 1)) ⟨rfl, rfl, rfl, trivial⟩
        · refine g_aload_n C 21 rfl rfl ?_
          refine g_getR C 22 rfl fl_X2_20 (sh_C h1) rfl ?_
          refine g_iload_n C 23 rfl rfl ?_
          refine g_aald C 24 rfl (sh_CB h1) rfl h2 (tg_backs h2) ?_
          exact g_aret C 25 rfl rfl
set_option maxHeartbeats 1000000 in
set_option maxRecDepth 100000 in
theorem s_X2_backAt {V : sw_V} (C : sw_Cx sw_ZX V cX2_backAt RX2 3 (some (.object "SplitWatch$Request")) L_X2_backAt 1) (σ : sw_St) (x0 : Nat) (x1 : Int32) : sw_S sw_ZX V (sw_eR V.2.2.2.2.2 σ) [some (sw_r V x0), some (.int x1), none] [] 0 σ (f_X2_backAt σ x0 x1) := by
  unfold f_X2_backAt
  refine g_iconst C 0 rfl 0 (by decide) ?_
  refine g_istore_n C 1 rfl (Nat.le_of_ble_eq_true rfl) (Or.inr (Or.inr (Or.inl ⟨_, rfl⟩))) ?_
  exact g_wk (s_X2_backAt_2 C σ sw_fuel x0 x1 0) ⟨rfl, rfl, rfl, trivial⟩
set_option maxHeartbeats 1000000 in
set_option maxRecDepth 100000 in
theorem m_X2_backAt (l : Launch) (dC : Nat → ClassId) (dI : Nat → Nat → Nat) (dA : Nat → ClassId) (ad : Nat → Nat) (hI : sw_inj sw_ZX ad) (σ : sw_St) (x0 : Nat) (x1 : Int32) (b : Nat) (hb : f_X2_backAt σ x0 x1 = some b) : sw_M sw_ZX l yX2_backAt cX2_backAt 3 (some (.object "SplitWatch$Request")) 1 dC dI dA ad [(sw_rv ad x0), (.int x1)] σ ((sw_eR ad σ) b) :=
  sw_mk1 (ψ := (sw_eR ad σ)) 1 (by decide) sw_ZXok hI dk_X2_backAt rfl (sw_c1_all _ ⟨sw_rv_cat _ _, rfl, trivial⟩) hb (fun p e R M C => s_X2_backAt C σ x0 x1)
/-! SplitWatch$Log.lineLength()I -/
def L_X3_lineLength : sw_Is := [(0, .aload_n 0, 1, 1), (1, .getfield 19, 3, 4), (4, .ifCond .ne 7, 3, 7), (7, .iconst 0, 1, 8), (8, .goto 11, 3, 11), (11, .aload_n 0, 1, 12), (12, .getfield 19, 3, 15), (15, .iconst 4, 1, 16), (16, .imul, 1, 17), (17, .iconst 1, 1, 18), (18, .isub, 1, 19), (19, .ireturn, 1, 20)]
theorem dk_X3_lineLength : sw_dc cX3_lineLength L_X3_lineLength = true := by decide +kernel
def f_X3_lineLength (σ : sw_St)  : Option Int32 := if (σ 6 2) = 0 then (some 0) else (some (((σ 6 2) * 4) - 1))
set_option maxHeartbeats 1000000 in
set_option maxRecDepth 100000 in
theorem s_X3_lineLength {V : sw_V} (C : sw_Cx sw_ZX V cX3_lineLength RX3 1 (some .int) L_X3_lineLength 0) (σ : sw_St)  : sw_S sw_ZX V (sw_eP σ) [some (sw_r V 6)] [] 0 σ (f_X3_lineLength σ) := by
  unfold f_X3_lineLength
  refine g_aload_n C 0 rfl rfl ?_
  refine g_getI C 1 rfl fl_X3_19 rfl rfl ?_
  refine g_if_ne C 2 rfl 11 (by decide) ?_ ?_
  · refine g_aload_n C 5 rfl rfl ?_
    refine g_getI C 6 rfl fl_X3_19 rfl rfl ?_
    refine g_iconst C 7 rfl 4 (by decide) ?_
    refine g_imul C 8 rfl ?_
    refine g_iconst C 9 rfl 1 (by decide) ?_
    refine g_isub C 10 rfl ?_
    skip
    exact g_iret C 11 rfl rfl
  · refine g_iconst C 3 rfl 0 (by decide) ?_
    refine g_goto C 4 rfl 19 (by decide) ?_
    skip
    exact g_iret C 11 rfl rfl
set_option maxHeartbeats 1000000 in
set_option maxRecDepth 100000 in
theorem m_X3_lineLength (l : Launch) (dC : Nat → ClassId) (dI : Nat → Nat → Nat) (dA : Nat → ClassId) (ad : Nat → Nat) (hI : sw_inj sw_ZX ad) (σ : sw_St)  (b : Int32) (hb : f_X3_lineLength σ = some b) : sw_M sw_ZX l yX3_lineLength cX3_lineLength 1 (some .int) 0 dC dI dA ad [(sw_rv ad 6)] σ ((sw_eP σ) b) :=
  sw_mk1 (ψ := (sw_eP σ)) 0 (by decide) sw_ZXok hI dk_X3_lineLength rfl (sw_c1_all _ ⟨sw_rv_cat _ _, trivial⟩) hb (fun p e R M C => s_X3_lineLength C σ)
/-! SplitWatch$Log.letterAt(I)I -/
def L_X3_letterAt : sw_Is := [(0, .iload_n 1, 1, 1), (1, .iconst 4, 1, 2), (2, .irem, 1, 3), (3, .istore_n 2, 1, 4), (4, .iload_n 2, 1, 5), (5, .iconst 3, 1, 6), (6, .if_icmp .ne 6, 3, 9), (9, .bipush 32, 2, 11), (11, .ireturn, 1, 12), (12, .bipush 16, 2, 14), (14, .aload_n 0, 1, 15), (15, .getfield 22, 3, 18), (18, .iadd, 1, 19), (19, .aload_n 0, 1, 20), (20, .getfield 19, 3, 23), (23, .isub, 1, 24), (24, .iload_n 1, 1, 25), (25, .iconst 4, 1, 26), (26, .idiv, 1, 27), (27, .iadd, 1, 28), (28, .bipush 16, 2, 30), (30, .irem, 1, 31), (31, .istore_n 3, 1, 32), (32, .aload_n 0, 1, 33), (33, .getfield 11, 3, 36), (36, .iload_n 3, 1, 37), (37, .iconst 3, 1, 38), (38, .imul, 1, 39), (39, .iload_n 2, 1, 40), (40, .iadd, 1, 41), (41, .caload, 1, 42), (42, .ireturn, 1, 43)]
theorem dk_X3_letterAt : sw_dc cX3_letterAt L_X3_letterAt = true := by decide +kernel
def f_X3_letterAt (σ : sw_St) (x1 : Int32) : Option Int32 := if (sw_rem x1 4) = 3 then (some 32) else (sw_ck (sw_in (((sw_rem (((16 + (σ 6 3)) - (σ 6 2)) + (x1 / 4)) 16) * 3) + (sw_rem x1 4)) 48) (some (σ 7 (sw_ix (((sw_rem (((16 + (σ 6 3)) - (σ 6 2)) + (x1 / 4)) 16) * 3) + (sw_rem x1 4))))))
set_option maxHeartbeats 1000000 in
set_option maxRecDepth 100000 in
theorem s_X3_letterAt {V : sw_V} (C : sw_Cx sw_ZX V cX3_letterAt RX3 4 (some .int) L_X3_letterAt 0) (σ : sw_St) (x1 : Int32) : sw_S sw_ZX V (sw_eP σ) [some (sw_r V 6), some (.int x1), none, none] [] 0 σ (f_X3_letterAt σ x1) := by
  unfold f_X3_letterAt
  refine g_iload_n C 0 rfl rfl ?_
  refine g_iconst C 1 rfl 4 (by decide) ?_
  refine g_irem C 2 rfl (by decide) ?_
  refine g_istore_n C 3 rfl (Nat.le_of_ble_eq_true rfl) (Or.inr (Or.inr (Or.inl ⟨_, rfl⟩))) ?_
  refine g_iload_n C 4 rfl rfl ?_
  refine g_iconst C 5 rfl 3 (by decide) ?_
  refine g_icmp_ne C 6 rfl 12 (by decide) ?_ ?_
  · refine g_bipush C 9 rfl 16 (by decide) ?_
    refine g_aload_n C 10 rfl rfl ?_
    refine g_getI C 11 rfl fl_X3_22 rfl rfl ?_
    refine g_iadd C 12 rfl ?_
    refine g_aload_n C 13 rfl rfl ?_
    refine g_getI C 14 rfl fl_X3_19 rfl rfl ?_
    refine g_isub C 15 rfl ?_
    refine g_iload_n C 16 rfl rfl ?_
    refine g_iconst C 17 rfl 4 (by decide) ?_
    refine g_idiv C 18 rfl (by decide) ?_
    refine g_iadd C 19 rfl ?_
    refine g_bipush C 20 rfl 16 (by decide) ?_
    refine g_irem C 21 rfl (by decide) ?_
    refine g_istore_n C 22 rfl (Nat.le_of_ble_eq_true rfl) (Or.inr (Or.inr (Or.inl ⟨_, rfl⟩))) ?_
    refine g_aload_n C 23 rfl rfl ?_
    refine g_getR C 24 rfl fl_X3_11 rfl rfl ?_
    refine g_iload_n C 25 rfl rfl ?_
    refine g_iconst C 26 rfl 3 (by decide) ?_
    refine g_imul C 27 rfl ?_
    refine g_iload_n C 28 rfl rfl ?_
    refine g_iadd C 29 rfl ?_
    refine g_ck fun h1 => ?_
    refine g_cald C 30 rfl rfl h1 ?_
    skip
    exact g_iret C 31 rfl rfl
  · refine g_bipush C 7 rfl 32 (by decide) ?_
    skip
    exact g_iret C 8 rfl rfl
set_option maxHeartbeats 1000000 in
set_option maxRecDepth 100000 in
theorem m_X3_letterAt (l : Launch) (dC : Nat → ClassId) (dI : Nat → Nat → Nat) (dA : Nat → ClassId) (ad : Nat → Nat) (hI : sw_inj sw_ZX ad) (σ : sw_St) (x1 : Int32) (b : Int32) (hb : f_X3_letterAt σ x1 = some b) : sw_M sw_ZX l yX3_letterAt cX3_letterAt 4 (some .int) 0 dC dI dA ad [(sw_rv ad 6), (.int x1)] σ ((sw_eP σ) b) :=
  sw_mk1 (ψ := (sw_eP σ)) 2 (by decide) sw_ZXok hI dk_X3_letterAt rfl (sw_c1_all _ ⟨sw_rv_cat _ _, rfl, trivial⟩) hb (fun p e R M C => s_X3_letterAt C σ x1)
/-! SplitWatch$Log.fits(IC)Z -/
def L_X3_fits : sw_Is := [(0, .iload_n 0, 1, 1), (1, .bipush 42, 2, 3), (3, .if_icmp .eq 8, 3, 6), (6, .iload_n 0, 1, 7), (7, .iload_n 1, 1, 8), (8, .if_icmp .ne 7, 3, 11), (11, .iconst 1, 1, 12), (12, .goto 4, 3, 15), (15, .iconst 0, 1, 16), (16, .ireturn, 1, 17)]
theorem dk_X3_fits : sw_dc cX3_fits L_X3_fits = true := by decide +kernel
def f_X3_fits (σ : sw_St) (x0 : Int32) (x1 : Int32) : Option Int32 := if x0 = 42 then (some 1) else (if x0 = x1 then (some 1) else (some 0))
set_option maxHeartbeats 1000000 in
set_option maxRecDepth 100000 in
theorem s_X3_fits {V : sw_V} (C : sw_Cx sw_ZX V cX3_fits RX3 2 (some .boolean) L_X3_fits 0) (σ : sw_St) (x0 : Int32) (x1 : Int32) : sw_S sw_ZX V (sw_eP σ) [some (.int x0), some (.int x1)] [] 0 σ (f_X3_fits σ x0 x1) := by
  unfold f_X3_fits
  refine g_iload_n C 0 rfl rfl ?_
  refine g_bipush C 1 rfl 42 (by decide) ?_
  refine g_icmp_eq C 2 rfl 11 (by decide) ?_ ?_
  · refine g_iconst C 6 rfl 1 (by decide) ?_
    refine g_goto C 7 rfl 16 (by decide) ?_
    skip
    exact g_zret C 9 rfl rfl rfl
  · refine g_iload_n C 3 rfl rfl ?_
    refine g_iload_n C 4 rfl rfl ?_
    refine g_icmp_ne C 5 rfl 15 (by decide) ?_ ?_
    · refine g_iconst C 8 rfl 0 (by decide) ?_
      skip
      exact g_zret C 9 rfl rfl rfl
    · refine g_iconst C 6 rfl 1 (by decide) ?_
      refine g_goto C 7 rfl 16 (by decide) ?_
      skip
      exact g_zret C 9 rfl rfl rfl
set_option maxHeartbeats 1000000 in
set_option maxRecDepth 100000 in
theorem m_X3_fits (l : Launch) (dC : Nat → ClassId) (dI : Nat → Nat → Nat) (dA : Nat → ClassId) (ad : Nat → Nat) (hI : sw_inj sw_ZX ad) (σ : sw_St) (x0 : Int32) (x1 : Int32) (b : Int32) (hb : f_X3_fits σ x0 x1 = some b) : sw_M sw_ZX l yX3_fits cX3_fits 2 (some .boolean) 0 dC dI dA ad [(.int x0), (.int x1)] σ ((sw_eP σ) b) :=
  sw_mk1 (ψ := (sw_eP σ)) 0 (by decide) sw_ZXok hI dk_X3_fits rfl (sw_c1_all _ ⟨rfl, rfl, trivial⟩) hb (fun p e R M C => s_X3_fits C σ x0 x1)
/-! SplitWatch$Log.matches(III)I -/
def L_X3_matches : sw_Is := [(0, .iconst 0, 1, 1), (1, .istore 4, 2, 3), (3, .iconst 0, 1, 4), (4, .istore 5, 2, 6), (6, .iload 5, 2, 8), (8, .aload_n 0, 1, 9), (9, .getfield 19, 3, 12), (12, .if_icmp .ge 64, 3, 15), (15, .iload 5, 2, 17), (17, .iconst 3, 1, 18), (18, .imul, 1, 19), (19, .istore 6, 2, 21), (21, .iload_n 1, 1, 22), (22, .aload_n 0, 1, 23), (23, .getfield 11, 3, 26), (26, .iload 6, 2, 28), (28, .caload, 1, 29), (29, .invokestatic 31, 3, 32), (32, .ifCond .eq 38, 3, 35), (35, .iload_n 2, 1, 36), (36, .aload_n 0, 1, 37), (37, .getfield 11, 3, 40), (40, .iload 6, 2, 42), (42, .iconst 1, 1, 43), (43, .iadd, 1, 44), (44, .caload, 1, 45), (45, .invokestatic 31, 3, 48), (48, .ifCond .eq 22, 3, 51), (51, .iload_n 3, 1, 52), (52, .aload_n 0, 1, 53), (53, .getfield 11, 3, 56), (56, .iload 6, 2, 58), (58, .iconst 2, 1, 59), (59, .iadd, 1, 60), (60, .caload, 1, 61), (61, .invokestatic 31, 3, 64), (64, .ifCond .eq 6, 3, 67), (67, .iinc 4 1, 3, 70), (70, .iinc 5 1, 3, 73), (73, .goto (-67), 3, 76), (76, .iload 4, 2, 78), (78, .ireturn, 1, 79)]
theorem dk_X3_matches : sw_dc cX3_matches L_X3_matches = true := by decide +kernel
def f_X3_matches_6 (σ : sw_St)  : Nat → Int32 → Int32 → Int32 → Int32 → Int32 → Option Int32
  | 0 => fun _ _ _ _ _ => none
  | n + 1 => fun x1 x2 x3 x4 x5 => if (σ 6 2) ≤ x5 then (some x4) else (sw_ck (sw_in (x5 * 3) 48) ((f_X3_fits σ x1 (σ 7 (sw_ix (x5 * 3)))).bind fun r2 => (if r2 = 0 then ((f_X3_matches_6 σ n) x1 x2 x3 x4 (x5 + 1)) else (sw_ck (sw_in ((x5 * 3) + 1) 48) ((f_X3_fits σ x2 (σ 7 (sw_ix ((x5 * 3) + 1)))).bind fun r4 => (if r4 = 0 then ((f_X3_matches_6 σ n) x1 x2 x3 x4 (x5 + 1)) else (sw_ck (sw_in ((x5 * 3) + 2) 48) ((f_X3_fits σ x3 (σ 7 (sw_ix ((x5 * 3) + 2)))).bind fun r6 => (if r6 = 0 then ((f_X3_matches_6 σ n) x1 x2 x3 x4 (x5 + 1)) else ((f_X3_matches_6 σ n) x1 x2 x3 (x4 + 1) (x5 + 1)))))))))))
def f_X3_matches (σ : sw_St) (x1 : Int32) (x2 : Int32) (x3 : Int32) : Option Int32 := f_X3_matches_6 σ sw_fuel x1 x2 x3 0 0
set_option maxHeartbeats 1000000 in
set_option maxRecDepth 100000 in
theorem s_X3_matches_6 {V : sw_V} (C : sw_Cx sw_ZX V cX3_matches RX3 7 (some .int) L_X3_matches 1) (σ : sw_St) : ∀ (n : Nat) (x1 : Int32) (x2 : Int32) (x3 : Int32) (x4 : Int32) (x5 : Int32), sw_S sw_ZX V (sw_eP σ) [some (sw_r V 6), some (.int x1), some (.int x2), some (.int x3), some (.int x4), some (.int x5), none] [] 6 σ (f_X3_matches_6 σ n x1 x2 x3 x4 x5) := by
  intro n
  induction n with
  | zero =>
    intro x1 x2 x3 x4 x5
    exact g_none
  | succ n ih =>
    intro x1 x2 x3 x4 x5
    rw [f_X3_matches_6]
    refine g_iload C 4 rfl rfl ?_
    refine g_aload_n C 5 rfl rfl ?_
    refine g_getI C 6 rfl fl_X3_19 rfl rfl ?_
    refine g_icmp_ge C 7 rfl 76 (by decide) ?_ ?_
    · refine g_iload C 40 rfl rfl ?_
      skip
      exact g_iret C 41 rfl rfl
    · refine g_iload C 8 rfl rfl ?_
      refine g_iconst C 9 rfl 3 (by decide) ?_
      refine g_imul C 10 rfl ?_
      refine g_istore C 11 rfl (Nat.le_of_ble_eq_true rfl) (Or.inr (Or.inr (Or.inl ⟨_, rfl⟩))) ?_
      refine g_iload_n C 12 rfl rfl ?_
      refine g_aload_n C 13 rfl rfl ?_
      refine g_getR C 14 rfl fl_X3_11 rfl rfl ?_
      refine g_iload C 15 rfl rfl ?_
      refine g_ck fun h1 => ?_
      refine g_cald C 16 rfl rfl h1 ?_
      refine g_callS (ψ₁ := sw_eP σ) C 17 rfl [(.int x1), (.int (σ 7 (sw_ix (x5 * 3))))] [] ml_X3_31 rfl (Nat.le_of_ble_eq_true rfl) (by decide) (fun b hb => m_X3_fits V.1.2.1 _ _ _ _ C.inj σ x1 (σ 7 (sw_ix (x5 * 3))) b hb) rfl (g_cP fun r2 => ?_)
      refine g_if_eq C 18 rfl 70 (by decide) ?_ ?_
      · refine g_iinc C 38 rfl 1 (by decide) rfl (Nat.le_of_ble_eq_true rfl) (Or.inr (Or.inr (Or.inl ⟨_, rfl⟩))) ?_
        refine g_goto C 39 rfl 6 (by decide) ?_
        exact g_wk (ih x1 x2 x3 x4 (x5 + 1)) ⟨rfl, rfl, rfl, rfl, rfl, rfl, trivial⟩
      · refine g_iload_n C 19 rfl rfl ?_
        refine g_aload_n C 20 rfl rfl ?_
        refine g_getR C 21 rfl fl_X3_11 rfl rfl ?_
        refine g_iload C 22 rfl rfl ?_
        refine g_iconst C 23 rfl 1 (by decide) ?_
        refine g_iadd C 24 rfl ?_
        refine g_ck fun h3 => ?_
        refine g_cald C 25 rfl rfl h3 ?_
        refine g_callS (ψ₁ := sw_eP σ) C 26 rfl [(.int x2), (.int (σ 7 (sw_ix ((x5 * 3) + 1))))] [] ml_X3_31 rfl (Nat.le_of_ble_eq_true rfl) (by decide) (fun b hb => m_X3_fits V.1.2.1 _ _ _ _ C.inj σ x2 (σ 7 (sw_ix ((x5 * 3) + 1))) b hb) rfl (g_cP fun r4 => ?_)
        refine g_if_eq C 27 rfl 70 (by decide) ?_ ?_
        · refine g_iinc C 38 rfl 1 (by decide) rfl (Nat.le_of_ble_eq_true rfl) (Or.inr (Or.inr (Or.inl ⟨_, rfl⟩))) ?_
          refine g_goto C 39 rfl 6 (by decide) ?_
          exact g_wk (ih x1 x2 x3 x4 (x5 + 1)) ⟨rfl, rfl, rfl, rfl, rfl, rfl, trivial⟩
        · refine g_iload_n C 28 rfl rfl ?_
          refine g_aload_n C 29 rfl rfl ?_
          refine g_getR C 30 rfl fl_X3_11 rfl rfl ?_
          refine g_iload C 31 rfl rfl ?_
          refine g_iconst C 32 rfl 2 (by decide) ?_
          refine g_iadd C 33 rfl ?_
          refine g_ck fun h5 => ?_
          refine g_cald C 34 rfl rfl h5 ?_
          refine g_callS (ψ₁ := sw_eP σ) C 35 rfl [(.int x3), (.int (σ 7 (sw_ix ((x5 * 3) + 2))))] [] ml_X3_31 rfl (Nat.le_of_ble_eq_true rfl) (by decide) (fun b hb => m_X3_fits V.1.2.1 _ _ _ _ C.inj σ x3 (σ 7 (sw_ix ((x5 * 3) + 2))) b hb) rfl (g_cP fun r6 => ?_)
          refine g_if_eq C 36 rfl 70 (by decide) ?_ ?_
          · refine g_iinc C 38 rfl 1 (by decide) rfl (Nat.le_of_ble_eq_true rfl) (Or.inr (Or.inr (Or.inl ⟨_, rfl⟩))) ?_
            refine g_goto C 39 rfl 6 (by decide) ?_
            exact g_wk (ih x1 x2 x3 x4 (x5 + 1)) ⟨rfl, rfl, rfl, rfl, rfl, rfl, trivial⟩
          · refine g_iinc C 37 rfl 1 (by decide) rfl (Nat.le_of_ble_eq_true rfl) (Or.inr (Or.inr (Or.inl ⟨_, rfl⟩))) ?_
            refine g_iinc C 38 rfl 1 (by decide) rfl (Nat.le_of_ble_eq_true rfl) (Or.inr (Or.inr (Or.inl ⟨_, rfl⟩))) ?_
            refine g_goto C 39 rfl 6 (by decide) ?_
            exact g_wk (ih x1 x2 x3 (x4 + 1) (x5 + 1)) ⟨rfl, rfl, rfl, rfl, rfl, rfl, trivial⟩
set_option maxHeartbeats 1000000 in
set_option maxRecDepth 100000 in
theorem s_X3_matches {V : sw_V} (C : sw_Cx sw_ZX V cX3_matches RX3 7 (some .int) L_X3_matches 1) (σ : sw_St) (x1 : Int32) (x2 : Int32) (x3 : Int32) : sw_S sw_ZX V (sw_eP σ) [some (sw_r V 6), some (.int x1), some (.int x2), some (.int x3), none, none, none] [] 0 σ (f_X3_matches σ x1 x2 x3) := by
  unfold f_X3_matches
  refine g_iconst C 0 rfl 0 (by decide) ?_
  refine g_istore C 1 rfl (Nat.le_of_ble_eq_true rfl) (Or.inr (Or.inr (Or.inl ⟨_, rfl⟩))) ?_
  refine g_iconst C 2 rfl 0 (by decide) ?_
  refine g_istore C 3 rfl (Nat.le_of_ble_eq_true rfl) (Or.inr (Or.inr (Or.inl ⟨_, rfl⟩))) ?_
  exact g_wk (s_X3_matches_6 C σ sw_fuel x1 x2 x3 0 0) ⟨rfl, rfl, rfl, rfl, rfl, rfl, trivial⟩
set_option maxHeartbeats 1000000 in
set_option maxRecDepth 100000 in
theorem m_X3_matches (l : Launch) (dC : Nat → ClassId) (dI : Nat → Nat → Nat) (dA : Nat → ClassId) (ad : Nat → Nat) (hI : sw_inj sw_ZX ad) (σ : sw_St) (x1 : Int32) (x2 : Int32) (x3 : Int32) (b : Int32) (hb : f_X3_matches σ x1 x2 x3 = some b) : sw_M sw_ZX l yX3_matches cX3_matches 7 (some .int) 1 dC dI dA ad [(sw_rv ad 6), (.int x1), (.int x2), (.int x3)] σ ((sw_eP σ) b) :=
  sw_mk1 (ψ := (sw_eP σ)) 3 (by decide) sw_ZXok hI dk_X3_matches rfl (sw_c1_all _ ⟨sw_rv_cat _ _, rfl, rfl, rfl, trivial⟩) hb (fun p e R M C => s_X3_matches C σ x1 x2 x3)
/-! SplitWatch$Script.append(C)I -/
def L_X5_append : sw_Is := [(0, .aload_n 0, 1, 1), (1, .getfield 19, 3, 4), (4, .sipush 200, 3, 7), (7, .if_icmp .lt 6, 3, 10), (10, .bipush (-3), 2, 12), (12, .ireturn, 1, 13), (13, .aload_n 0, 1, 14), (14, .getfield 11, 3, 17), (17, .aload_n 0, 1, 18), (18, .getfield 19, 3, 21), (21, .iload_n 1, 1, 22), (22, .castore, 1, 23), (23, .aload_n 0, 1, 24), (24, .dup, 1, 25), (25, .getfield 19, 3, 28), (28, .iconst 1, 1, 29), (29, .iadd, 1, 30), (30, .putfield 19, 3, 33), (33, .aload_n 0, 1, 34), (34, .getfield 19, 3, 37), (37, .ireturn, 1, 38)]
theorem dk_X5_append : sw_dc cX5_append L_X5_append = true := by decide +kernel
def f_X5_append (σ : sw_St) (x1 : Int32) : Option (Int32 × sw_St) := if (σ 44 2) < 200 then (sw_ck (sw_in (σ 44 2) 200) (sw_pt σ 45 (sw_ix (σ 44 2)) (vp_nar .char x1) fun s2 => (sw_pt s2 44 2 ((s2 44 2) + 1) fun s3 => (some ((s3 44 2), s3))))) else (some ((-3), σ))
set_option maxHeartbeats 1000000 in
set_option maxRecDepth 100000 in
theorem s_X5_append {V : sw_V} (C : sw_Cx sw_ZX V cX5_append RX5 2 (some .int) L_X5_append 0) (σ : sw_St) (x1 : Int32) : sw_S sw_ZX V sw_eI [some (sw_r V 44), some (.int x1)] [] 0 σ (f_X5_append σ x1) := by
  unfold f_X5_append
  refine g_aload_n C 0 rfl rfl ?_
  refine g_getI C 1 rfl fl_X5_19 rfl rfl ?_
  refine g_sipush C 2 rfl 200 (by decide) ?_
  refine g_icmp_lt C 3 rfl 13 (by decide) ?_ ?_
  · refine g_aload_n C 6 rfl rfl ?_
    refine g_getR C 7 rfl fl_X5_11 rfl rfl ?_
    refine g_aload_n C 8 rfl rfl ?_
    refine g_getI C 9 rfl fl_X5_19 rfl rfl ?_
    refine g_iload_n C 10 rfl rfl ?_
    refine g_ck fun h1 => ?_
    refine g_cast C 11 rfl rfl h1 (fun s2 => ?_)
    refine g_aload_n C 12 rfl rfl ?_
    refine g_dupR C 13 rfl ?_
    refine g_getI C 14 rfl fl_X5_19 rfl rfl ?_
    refine g_iconst C 15 rfl 1 (by decide) ?_
    refine g_iadd C 16 rfl ?_
    refine g_put C 17 rfl fp_X5_19 rfl rfl (fun s3 => ?_)
    refine g_aload_n C 18 rfl rfl ?_
    refine g_getI C 19 rfl fl_X5_19 rfl rfl ?_
    skip
    exact g_iret C 20 rfl rfl
  · refine g_bipush C 4 rfl (-3) (by decide) ?_
    skip
    exact g_iret C 5 rfl rfl
set_option maxHeartbeats 1000000 in
set_option maxRecDepth 100000 in
theorem m_X5_append (l : Launch) (dC : Nat → ClassId) (dI : Nat → Nat → Nat) (dA : Nat → ClassId) (ad : Nat → Nat) (hI : sw_inj sw_ZX ad) (σ : sw_St) (x1 : Int32) (b : (Int32 × sw_St)) (hb : f_X5_append σ x1 = some b) : sw_M sw_ZX l yX5_append cX5_append 2 (some .int) 0 dC dI dA ad [(sw_rv ad 44), (.int x1)] σ (sw_eI b) :=
  sw_mk1 (ψ := sw_eI) 0 (by decide) sw_ZXok hI dk_X5_append rfl (sw_c1_all _ ⟨sw_rv_cat _ _, rfl, trivial⟩) hb (fun p e R M C => s_X5_append C σ x1)
/-! SplitWatch$Script.letterAt(I)C -/
def L_X5_letterAt : sw_Is := [(0, .iload_n 1, 1, 1), (1, .ifCond .lt 20, 3, 4), (4, .iload_n 1, 1, 5), (5, .aload_n 0, 1, 6), (6, .getfield 19, 3, 9), (9, .if_icmp .ge 12, 3, 12), (12, .aload_n 0, 1, 13), (13, .getfield 11, 3, 16), (16, .iload_n 1, 1, 17), (17, .caload, 1, 18), (18, .goto 4, 3, 21), (21, .iconst 0, 1, 22), (22, .ireturn, 1, 23)]
theorem dk_X5_letterAt : sw_dc cX5_letterAt L_X5_letterAt = true := by decide +kernel
def f_X5_letterAt (σ : sw_St) (x1 : Int32) : Option Int32 := if x1 < 0 then (some 0) else (if (σ 44 2) ≤ x1 then (some 0) else (sw_ck (sw_in x1 200) (sw_ck (sw_fz .char (σ 45 (sw_ix x1))) (some (σ 45 (sw_ix x1))))))
set_option maxHeartbeats 1000000 in
set_option maxRecDepth 100000 in
theorem s_X5_letterAt {V : sw_V} (C : sw_Cx sw_ZX V cX5_letterAt RX5 2 (some .char) L_X5_letterAt 0) (σ : sw_St) (x1 : Int32) : sw_S sw_ZX V (sw_eP σ) [some (sw_r V 44), some (.int x1)] [] 0 σ (f_X5_letterAt σ x1) := by
  unfold f_X5_letterAt
  refine g_iload_n C 0 rfl rfl ?_
  refine g_if_lt C 1 rfl 21 (by decide) ?_ ?_
  · refine g_iconst C 11 rfl 0 (by decide) ?_
    skip
    exact g_zret C 12 rfl rfl rfl
  · refine g_iload_n C 2 rfl rfl ?_
    refine g_aload_n C 3 rfl rfl ?_
    refine g_getI C 4 rfl fl_X5_19 rfl rfl ?_
    refine g_icmp_ge C 5 rfl 21 (by decide) ?_ ?_
    · refine g_iconst C 11 rfl 0 (by decide) ?_
      skip
      exact g_zret C 12 rfl rfl rfl
    · refine g_aload_n C 6 rfl rfl ?_
      refine g_getR C 7 rfl fl_X5_11 rfl rfl ?_
      refine g_iload_n C 8 rfl rfl ?_
      refine g_ck fun h1 => ?_
      refine g_cald C 9 rfl rfl h1 ?_
      refine g_goto C 10 rfl 22 (by decide) ?_
      refine g_ck fun h2 => ?_
      skip
      exact g_zret C 12 rfl (sw_fz_n h2 ⟨_, rfl⟩) rfl
set_option maxHeartbeats 1000000 in
set_option maxRecDepth 100000 in
theorem m_X5_letterAt (l : Launch) (dC : Nat → ClassId) (dI : Nat → Nat → Nat) (dA : Nat → ClassId) (ad : Nat → Nat) (hI : sw_inj sw_ZX ad) (σ : sw_St) (x1 : Int32) (b : Int32) (hb : f_X5_letterAt σ x1 = some b) : sw_M sw_ZX l yX5_letterAt cX5_letterAt 2 (some .char) 0 dC dI dA ad [(sw_rv ad 44), (.int x1)] σ ((sw_eP σ) b) :=
  sw_mk1 (ψ := (sw_eP σ)) 0 (by decide) sw_ZXok hI dk_X5_letterAt rfl (sw_c1_all _ ⟨sw_rv_cat _ _, rfl, trivial⟩) hb (fun p e R M C => s_X5_letterAt C σ x1)
/-! SplitWatch$Script.isSmall(C)Z -/
def L_X5_isSmall : sw_Is := [(0, .iload_n 0, 1, 1), (1, .bipush 97, 2, 3), (3, .if_icmp .lt 13, 3, 6), (6, .iload_n 0, 1, 7), (7, .bipush 122, 2, 9), (9, .if_icmp .gt 7, 3, 12), (12, .iconst 1, 1, 13), (13, .goto 4, 3, 16), (16, .iconst 0, 1, 17), (17, .ireturn, 1, 18)]
theorem dk_X5_isSmall : sw_dc cX5_isSmall L_X5_isSmall = true := by decide +kernel
def f_X5_isSmall (σ : sw_St) (x0 : Int32) : Option Int32 := if x0 < 97 then (some 0) else (if 122 < x0 then (some 0) else (some 1))
set_option maxHeartbeats 1000000 in
set_option maxRecDepth 100000 in
theorem s_X5_isSmall {V : sw_V} (C : sw_Cx sw_ZX V cX5_isSmall RX5 1 (some .boolean) L_X5_isSmall 0) (σ : sw_St) (x0 : Int32) : sw_S sw_ZX V (sw_eP σ) [some (.int x0)] [] 0 σ (f_X5_isSmall σ x0) := by
  unfold f_X5_isSmall
  refine g_iload_n C 0 rfl rfl ?_
  refine g_bipush C 1 rfl 97 (by decide) ?_
  refine g_icmp_lt C 2 rfl 16 (by decide) ?_ ?_
  · refine g_iconst C 8 rfl 0 (by decide) ?_
    skip
    exact g_zret C 9 rfl rfl rfl
  · refine g_iload_n C 3 rfl rfl ?_
    refine g_bipush C 4 rfl 122 (by decide) ?_
    refine g_icmp_gt C 5 rfl 16 (by decide) ?_ ?_
    · refine g_iconst C 8 rfl 0 (by decide) ?_
      skip
      exact g_zret C 9 rfl rfl rfl
    · refine g_iconst C 6 rfl 1 (by decide) ?_
      refine g_goto C 7 rfl 17 (by decide) ?_
      skip
      exact g_zret C 9 rfl rfl rfl
set_option maxHeartbeats 1000000 in
set_option maxRecDepth 100000 in
theorem m_X5_isSmall (l : Launch) (dC : Nat → ClassId) (dI : Nat → Nat → Nat) (dA : Nat → ClassId) (ad : Nat → Nat) (hI : sw_inj sw_ZX ad) (σ : sw_St) (x0 : Int32) (b : Int32) (hb : f_X5_isSmall σ x0 = some b) : sw_M sw_ZX l yX5_isSmall cX5_isSmall 1 (some .boolean) 0 dC dI dA ad [(.int x0)] σ ((sw_eP σ) b) :=
  sw_mk1 (ψ := (sw_eP σ)) 0 (by decide) sw_ZXok hI dk_X5_isSmall rfl (sw_c1_all _ ⟨rfl, trivial⟩) hb (fun p e R M C => s_X5_isSmall C σ x0)
/-! SplitWatch$Script.spells(IILjava/lang/String;)Z -/
def L_X5_spells : sw_Is := [(0, .iload_n 2, 1, 1), (1, .iload_n 1, 1, 2), (2, .isub, 1, 3), (3, .aload_n 3, 1, 4), (4, .invokevirtual 78, 3, 7), (7, .if_icmp .eq 5, 3, 10), (10, .iconst 0, 1, 11), (11, .ireturn, 1, 12), (12, .iconst 0, 1, 13), (13, .istore 4, 2, 15), (15, .iload 4, 2, 17), (17, .aload_n 3, 1, 18), (18, .invokevirtual 78, 3, 21), (21, .if_icmp .ge 28, 3, 24), (24, .aload_n 0, 1, 25), (25, .iload_n 1, 1, 26), (26, .iload 4, 2, 28), (28, .iadd, 1, 29), (29, .invokevirtual 30, 3, 32), (32, .aload_n 3, 1, 33), (33, .iload 4, 2, 35), (35, .invokevirtual 83, 3, 38), (38, .if_icmp .eq 5, 3, 41), (41, .iconst 0, 1, 42), (42, .ireturn, 1, 43), (43, .iinc 4 1, 3, 46), (46, .goto (-31), 3, 49), (49, .iconst 1, 1, 50), (50, .ireturn, 1, 51)]
theorem dk_X5_spells : sw_dc cX5_spells L_X5_spells = true := by decide +kernel
def f_X5_spells_15 (σ : sw_St)  : Nat → Int32 → Nat → Int32 → Option Int32
  | 0 => fun _ _ _ => none
  | n + 1 => fun x1 x3 x4 => sw_ck (sw_isS x3) (if (sw_sl x3) ≤ x4 then (some 1) else ((f_X5_letterAt σ (x1 + x4)).bind fun r2 => (sw_ck (sw_in x4 (sw_sn x3)) (if r2 = (sw_sc x3 x4) then ((f_X5_spells_15 σ n) x1 x3 (x4 + 1)) else (some 0)))))
def f_X5_spells (σ : sw_St) (x1 : Int32) (x2 : Int32) (x3 : Nat) : Option Int32 := sw_ck (sw_isS x3) (if (x2 - x1) = (sw_sl x3) then (f_X5_spells_15 σ sw_fuel x1 x3 0) else (some 0))
set_option maxHeartbeats 1000000 in
set_option maxRecDepth 100000 in
theorem s_X5_spells_15 {V : sw_V} (C : sw_Cx sw_ZX V cX5_spells RX5 5 (some .boolean) L_X5_spells 5) (σ : sw_St) : ∀ (n : Nat) (x1 : Int32) (x3 : Nat) (x4 : Int32), sw_S sw_ZX V (sw_eP σ) [some (sw_r V 44), some (.int x1), none, some (sw_r V x3), some (.int x4)] [] 15 σ (f_X5_spells_15 σ n x1 x3 x4) := by
  intro n
  induction n with
  | zero =>
    intro x1 x3 x4
    exact g_none
  | succ n ih =>
    intro x1 x3 x4
    rw [f_X5_spells_15]
    refine g_iload C 10 rfl rfl ?_
    refine g_aload_n C 11 rfl rfl ?_
    refine g_ck fun h1 => ?_
    refine g_slen C 12 rfl ml_X5_78 h1 (by decide) (Nat.le_of_ble_eq_true rfl) ?_
    refine g_icmp_ge C 13 rfl 49 (by decide) ?_ ?_
    · refine g_iconst C 27 rfl 1 (by decide) ?_
      skip
      exact g_zret C 28 rfl rfl rfl
    · refine g_aload_n C 14 rfl rfl ?_
      refine g_iload_n C 15 rfl rfl ?_
      refine g_iload C 16 rfl rfl ?_
      refine g_iadd C 17 rfl ?_
      refine g_callV (ψ₁ := sw_eP σ) C 18 rfl [(.int (x1 + x4))] [] ml_X5_30 rfl (Nat.le_of_ble_eq_true rfl) (by decide) rfl rfl (fun b hb => m_X5_letterAt V.1.2.1 _ _ _ _ C.inj σ (x1 + x4) b hb) rfl (g_cP fun r2 => ?_)
      refine g_aload_n C 19 rfl rfl ?_
      refine g_iload C 20 rfl rfl ?_
      refine g_ck fun h3 => ?_
      refine g_schr C 21 rfl ml_X5_83 h1 h3 (by decide) (Nat.le_of_ble_eq_true rfl) ?_
      refine g_icmp_eq C 22 rfl 43 (by decide) ?_ ?_
      · refine g_iinc C 25 rfl 1 (by decide) rfl (Nat.le_of_ble_eq_true rfl) (Or.inr (Or.inr (Or.inr ⟨_, rfl⟩))) ?_
        refine g_goto C 26 rfl 15 (by decide) ?_
        exact g_wk (ih x1 x3 (x4 + 1)) ⟨rfl, rfl, rfl, rfl, trivial⟩
      · refine g_iconst C 23 rfl 0 (by decide) ?_
        skip
        exact g_zret C 24 rfl rfl rfl
set_option maxHeartbeats 1000000 in
set_option maxRecDepth 100000 in
theorem s_X5_spells {V : sw_V} (C : sw_Cx sw_ZX V cX5_spells RX5 5 (some .boolean) L_X5_spells 5) (σ : sw_St) (x1 : Int32) (x2 : Int32) (x3 : Nat) : sw_S sw_ZX V (sw_eP σ) [some (sw_r V 44), some (.int x1), some (.int x2), some (sw_r V x3), none] [] 0 σ (f_X5_spells σ x1 x2 x3) := by
  unfold f_X5_spells
  refine g_iload_n C 0 rfl rfl ?_
  refine g_iload_n C 1 rfl rfl ?_
  refine g_isub C 2 rfl ?_
  refine g_aload_n C 3 rfl rfl ?_
  refine g_ck fun h1 => ?_
  refine g_slen C 4 rfl ml_X5_78 h1 (by decide) (Nat.le_of_ble_eq_true rfl) ?_
  refine g_icmp_eq C 5 rfl 12 (by decide) ?_ ?_
  · refine g_iconst C 8 rfl 0 (by decide) ?_
    refine g_istore C 9 rfl (Nat.le_of_ble_eq_true rfl) (Or.inr (Or.inr (Or.inr ⟨_, rfl⟩))) ?_
    exact g_wk (s_X5_spells_15 C σ sw_fuel x1 x3 0) ⟨rfl, rfl, rfl, rfl, trivial⟩
  · refine g_iconst C 6 rfl 0 (by decide) ?_
    skip
    exact g_zret C 7 rfl rfl rfl
set_option maxHeartbeats 1000000 in
set_option maxRecDepth 100000 in
theorem m_X5_spells (l : Launch) (dC : Nat → ClassId) (dI : Nat → Nat → Nat) (dA : Nat → ClassId) (ad : Nat → Nat) (hI : sw_inj sw_ZX ad) (σ : sw_St) (x1 : Int32) (x2 : Int32) (x3 : Nat) (b : Int32) (hb : f_X5_spells σ x1 x2 x3 = some b) : sw_M sw_ZX l yX5_spells cX5_spells 5 (some .boolean) 5 dC dI dA ad [(sw_rv ad 44), (.int x1), (.int x2), (sw_rv ad x3)] σ ((sw_eP σ) b) :=
  sw_mk1 (ψ := (sw_eP σ)) 1 (by decide) sw_ZXok hI dk_X5_spells rfl (sw_c1_all _ ⟨sw_rv_cat _ _, rfl, rfl, sw_rv_cat _ _, trivial⟩) hb (fun p e R M C => s_X5_spells C σ x1 x2 x3)
/-! SplitWatch$Script.verbOf(II)I -/
def L_X5_verbOf : sw_Is := [(0, .aload_n 0, 1, 1), (1, .iload_n 1, 1, 2), (2, .iload_n 2, 1, 3), (3, .ldc 66, 2, 5), (5, .invokevirtual 68, 3, 8), (8, .ifCond .eq 5, 3, 11), (11, .iconst 0, 1, 12), (12, .ireturn, 1, 13), (13, .aload_n 0, 1, 14), (14, .iload_n 1, 1, 15), (15, .iload_n 2, 1, 16), (16, .ldc 72, 2, 18), (18, .invokevirtual 68, 3, 21), (21, .ifCond .eq 5, 3, 24), (24, .iconst 1, 1, 25), (25, .ireturn, 1, 26), (26, .aload_n 0, 1, 27), (27, .iload_n 1, 1, 28), (28, .iload_n 2, 1, 29), (29, .ldc 74, 2, 31), (31, .invokevirtual 68, 3, 34), (34, .ifCond .eq 5, 3, 37), (37, .iconst 2, 1, 38), (38, .ireturn, 1, 39), (39, .aload_n 0, 1, 40), (40, .iload_n 1, 1, 41), (41, .iload_n 2, 1, 42), (42, .ldc 76, 2, 44), (44, .invokevirtual 68, 3, 47), (47, .ifCond .eq 7, 3, 50), (50, .iconst 3, 1, 51), (51, .goto 4, 3, 54), (54, .iconst (-1), 1, 55), (55, .ireturn, 1, 56)]
theorem dk_X5_verbOf : sw_dc cX5_verbOf L_X5_verbOf = true := by decide +kernel
def f_X5_verbOf (σ : sw_St) (x1 : Int32) (x2 : Int32) : Option Int32 := (f_X5_spells σ x1 x2 105).bind fun r1 => (if r1 = 0 then ((f_X5_spells σ x1 x2 106).bind fun r2 => (if r2 = 0 then ((f_X5_spells σ x1 x2 107).bind fun r3 => (if r3 = 0 then ((f_X5_spells σ x1 x2 108).bind fun r4 => (if r4 = 0 then (some (-1)) else (some 3))) else (some 2))) else (some 1))) else (some 0))
set_option maxHeartbeats 1000000 in
set_option maxRecDepth 100000 in
theorem s_X5_verbOf {V : sw_V} (C : sw_Cx sw_ZX V cX5_verbOf RX5 3 (some .int) L_X5_verbOf 6) (σ : sw_St) (x1 : Int32) (x2 : Int32) : sw_S sw_ZX V (sw_eP σ) [some (sw_r V 44), some (.int x1), some (.int x2)] [] 0 σ (f_X5_verbOf σ x1 x2) := by
  unfold f_X5_verbOf
  refine g_aload_n C 0 rfl rfl ?_
  refine g_iload_n C 1 rfl rfl ?_
  refine g_iload_n C 2 rfl rfl ?_
  refine g_ldcS C 3 rfl 5 (by decide) rfl rfl ?_
  refine g_callV (ψ₁ := sw_eP σ) C 4 rfl [(.int x1), (.int x2), (sw_r V 105)] [] ml_X5_68 rfl (Nat.le_of_ble_eq_true rfl) (by decide) rfl rfl (fun b hb => m_X5_spells V.1.2.1 _ _ _ _ C.inj σ x1 x2 105 b hb) rfl (g_cP fun r1 => ?_)
  refine g_if_eq C 5 rfl 13 (by decide) ?_ ?_
  · refine g_aload_n C 8 rfl rfl ?_
    refine g_iload_n C 9 rfl rfl ?_
    refine g_iload_n C 10 rfl rfl ?_
    refine g_ldcS C 11 rfl 6 (by decide) rfl rfl ?_
    refine g_callV (ψ₁ := sw_eP σ) C 12 rfl [(.int x1), (.int x2), (sw_r V 106)] [] ml_X5_68 rfl (Nat.le_of_ble_eq_true rfl) (by decide) rfl rfl (fun b hb => m_X5_spells V.1.2.1 _ _ _ _ C.inj σ x1 x2 106 b hb) rfl (g_cP fun r2 => ?_)
    refine g_if_eq C 13 rfl 26 (by decide) ?_ ?_
    · refine g_aload_n C 16 rfl rfl ?_
      refine g_iload_n C 17 rfl rfl ?_
      refine g_iload_n C 18 rfl rfl ?_
      refine g_ldcS C 19 rfl 7 (by decide) rfl rfl ?_
      refine g_callV (ψ₁ := sw_eP σ) C 20 rfl [(.int x1), (.int x2), (sw_r V 107)] [] ml_X5_68 rfl (Nat.le_of_ble_eq_true rfl) (by decide) rfl rfl (fun b hb => m_X5_spells V.1.2.1 _ _ _ _ C.inj σ x1 x2 107 b hb) rfl (g_cP fun r3 => ?_)
      refine g_if_eq C 21 rfl 39 (by decide) ?_ ?_
      · refine g_aload_n C 24 rfl rfl ?_
        refine g_iload_n C 25 rfl rfl ?_
        refine g_iload_n C 26 rfl rfl ?_
        refine g_ldcS C 27 rfl 8 (by decide) rfl rfl ?_
        refine g_callV (ψ₁ := sw_eP σ) C 28 rfl [(.int x1), (.int x2), (sw_r V 108)] [] ml_X5_68 rfl (Nat.le_of_ble_eq_true rfl) (by decide) rfl rfl (fun b hb => m_X5_spells V.1.2.1 _ _ _ _ C.inj σ x1 x2 108 b hb) rfl (g_cP fun r4 => ?_)
        refine g_if_eq C 29 rfl 54 (by decide) ?_ ?_
        · refine g_iconst C 32 rfl (-1) (by decide) ?_
          skip
          exact g_iret C 33 rfl rfl
        · refine g_iconst C 30 rfl 3 (by decide) ?_
          refine g_goto C 31 rfl 55 (by decide) ?_
          skip
          exact g_iret C 33 rfl rfl
      · refine g_iconst C 22 rfl 2 (by decide) ?_
        skip
        exact g_iret C 23 rfl rfl
    · refine g_iconst C 14 rfl 1 (by decide) ?_
      skip
      exact g_iret C 15 rfl rfl
  · refine g_iconst C 6 rfl 0 (by decide) ?_
    skip
    exact g_iret C 7 rfl rfl
set_option maxHeartbeats 1000000 in
set_option maxRecDepth 100000 in
theorem m_X5_verbOf (l : Launch) (dC : Nat → ClassId) (dI : Nat → Nat → Nat) (dA : Nat → ClassId) (ad : Nat → Nat) (hI : sw_inj sw_ZX ad) (σ : sw_St) (x1 : Int32) (x2 : Int32) (b : Int32) (hb : f_X5_verbOf σ x1 x2 = some b) : sw_M sw_ZX l yX5_verbOf cX5_verbOf 3 (some .int) 6 dC dI dA ad [(sw_rv ad 44), (.int x1), (.int x2)] σ ((sw_eP σ) b) :=
  sw_mk1 (ψ := (sw_eP σ)) 0 (by decide) sw_ZXok hI dk_X5_verbOf rfl (sw_c1_all _ ⟨sw_rv_cat _ _, rfl, rfl, trivial⟩) hb (fun p e R M C => s_X5_verbOf C σ x1 x2)
/-! SplitWatch$Script.numbersOf(I)I -/
def L_X5_numbersOf : sw_Is := [(0, .iload_n 0, 1, 1), (1, .lookupswitch 31 #[(0, 27), (2, 29)], 27, 28), (28, .iconst 1, 1, 29), (29, .ireturn, 1, 30), (30, .iconst 3, 1, 31), (31, .ireturn, 1, 32), (32, .iconst 2, 1, 33), (33, .ireturn, 1, 34)]
theorem dk_X5_numbersOf : sw_dc cX5_numbersOf L_X5_numbersOf = true := by decide +kernel
def f_X5_numbersOf (σ : sw_St) (x0 : Int32) : Option Int32 := if x0 = 0 then (some 1) else (if x0 = 2 then (some 3) else (some 2))
set_option maxHeartbeats 1000000 in
set_option maxRecDepth 100000 in
theorem s_X5_numbersOf {V : sw_V} (C : sw_Cx sw_ZX V cX5_numbersOf RX5 1 (some .int) L_X5_numbersOf 0) (σ : sw_St) (x0 : Int32) : sw_S sw_ZX V (sw_eP σ) [some (.int x0)] [] 0 σ (f_X5_numbersOf σ x0) := by
  unfold f_X5_numbersOf
  refine g_iload_n C 0 rfl rfl ?_
  skip
  refine g_lsw C 1 rfl (by decide) 0 28 27 (by decide) (by decide) ?_ (fun h1 => ?_)
  · refine g_iconst C 2 rfl 1 (by decide) ?_
    skip
    exact g_iret C 3 rfl rfl
  refine g_lsw C 1 rfl (by decide) 2 30 29 (by decide) (by decide) ?_ (fun h2 => ?_)
  · refine g_iconst C 4 rfl 3 (by decide) ?_
    skip
    exact g_iret C 5 rfl rfl
  refine g_lswd C 1 rfl (by decide) 32 31 ((lv_osw h1 (by decide)).trans ((lv_osw h2 (by decide)).trans rfl)) (by decide) ?_
  refine g_iconst C 6 rfl 2 (by decide) ?_
  skip
  exact g_iret C 7 rfl rfl
set_option maxHeartbeats 1000000 in
set_option maxRecDepth 100000 in
theorem m_X5_numbersOf (l : Launch) (dC : Nat → ClassId) (dI : Nat → Nat → Nat) (dA : Nat → ClassId) (ad : Nat → Nat) (hI : sw_inj sw_ZX ad) (σ : sw_St) (x0 : Int32) (b : Int32) (hb : f_X5_numbersOf σ x0 = some b) : sw_M sw_ZX l yX5_numbersOf cX5_numbersOf 1 (some .int) 0 dC dI dA ad [(.int x0)] σ ((sw_eP σ) b) :=
  sw_mk1 (ψ := (sw_eP σ)) 0 (by decide) sw_ZXok hI dk_X5_numbersOf rfl (sw_c1_all _ ⟨rfl, trivial⟩) hb (fun p e R M C => s_X5_numbersOf C σ x0)
/-! SplitWatch$Script.isFigure(C)Z -/
def L_X5_isFigure : sw_Is := [(0, .iload_n 0, 1, 1), (1, .bipush 48, 2, 3), (3, .if_icmp .lt 13, 3, 6), (6, .iload_n 0, 1, 7), (7, .bipush 57, 2, 9), (9, .if_icmp .gt 7, 3, 12), (12, .iconst 1, 1, 13), (13, .goto 4, 3, 16), (16, .iconst 0, 1, 17), (17, .ireturn, 1, 18)]
theorem dk_X5_isFigure : sw_dc cX5_isFigure L_X5_isFigure = true := by decide +kernel
def f_X5_isFigure (σ : sw_St) (x0 : Int32) : Option Int32 := if x0 < 48 then (some 0) else (if 57 < x0 then (some 0) else (some 1))
set_option maxHeartbeats 1000000 in
set_option maxRecDepth 100000 in
theorem s_X5_isFigure {V : sw_V} (C : sw_Cx sw_ZX V cX5_isFigure RX5 1 (some .boolean) L_X5_isFigure 0) (σ : sw_St) (x0 : Int32) : sw_S sw_ZX V (sw_eP σ) [some (.int x0)] [] 0 σ (f_X5_isFigure σ x0) := by
  unfold f_X5_isFigure
  refine g_iload_n C 0 rfl rfl ?_
  refine g_bipush C 1 rfl 48 (by decide) ?_
  refine g_icmp_lt C 2 rfl 16 (by decide) ?_ ?_
  · refine g_iconst C 8 rfl 0 (by decide) ?_
    skip
    exact g_zret C 9 rfl rfl rfl
  · refine g_iload_n C 3 rfl rfl ?_
    refine g_bipush C 4 rfl 57 (by decide) ?_
    refine g_icmp_gt C 5 rfl 16 (by decide) ?_ ?_
    · refine g_iconst C 8 rfl 0 (by decide) ?_
      skip
      exact g_zret C 9 rfl rfl rfl
    · refine g_iconst C 6 rfl 1 (by decide) ?_
      refine g_goto C 7 rfl 17 (by decide) ?_
      skip
      exact g_zret C 9 rfl rfl rfl
set_option maxHeartbeats 1000000 in
set_option maxRecDepth 100000 in
theorem m_X5_isFigure (l : Launch) (dC : Nat → ClassId) (dI : Nat → Nat → Nat) (dA : Nat → ClassId) (ad : Nat → Nat) (hI : sw_inj sw_ZX ad) (σ : sw_St) (x0 : Int32) (b : Int32) (hb : f_X5_isFigure σ x0 = some b) : sw_M sw_ZX l yX5_isFigure cX5_isFigure 1 (some .boolean) 0 dC dI dA ad [(.int x0)] σ ((sw_eP σ) b) :=
  sw_mk1 (ψ := (sw_eP σ)) 0 (by decide) sw_ZXok hI dk_X5_isFigure rfl (sw_c1_all _ ⟨rfl, trivial⟩) hb (fun p e R M C => s_X5_isFigure C σ x0)
/-! SplitWatch$Script.takeNumber(II)I -/
def L_X5_takeNumber : sw_Is := [(0, .aload_n 0, 1, 1), (1, .iload_n 1, 1, 2), (2, .invokevirtual 30, 3, 5), (5, .bipush 32, 2, 7), (7, .if_icmp .ne 12, 3, 10), (10, .iload_n 2, 1, 11), (11, .ifCond .lt 8, 3, 14), (14, .iload_n 2, 1, 15), (15, .iconst 3, 1, 16), (16, .if_icmp .lt 5, 3, 19), (19, .iconst (-1), 1, 20), (20, .ireturn, 1, 21), (21, .iload_n 1, 1, 22), (22, .iconst 1, 1, 23), (23, .iadd, 1, 24), (24, .istore_n 3, 1, 25), (25, .iconst 0, 1, 26), (26, .istore 4, 2, 28), (28, .iconst 0, 1, 29), (29, .istore 5, 2, 31), (31, .iload 5, 2, 33), (33, .iconst 4, 1, 34), (34, .if_icmp .ge 39, 3, 37), (37, .aload_n 0, 1, 38), (38, .iload_n 3, 1, 39), (39, .invokevirtual 30, 3, 42), (42, .invokestatic 56, 3, 45), (45, .ifCond .eq 28, 3, 48), (48, .iload 4, 2, 50), (50, .bipush 10, 2, 52), (52, .imul, 1, 53), (53, .aload_n 0, 1, 54), (54, .iload_n 3, 1, 55), (55, .invokevirtual 30, 3, 58), (58, .bipush 48, 2, 60), (60, .isub, 1, 61), (61, .iadd, 1, 62), (62, .istore 4, 2, 64), (64, .iinc 3 1, 3, 67), (67, .iinc 5 1, 3, 70), (70, .goto (-39), 3, 73), (73, .aload_n 0, 1, 74), (74, .getfield 15, 3, 77), (77, .iload_n 2, 1, 78), (78, .iload 4, 2, 80), (80, .iastore, 1, 81), (81, .iload_n 3, 1, 82), (82, .iload_n 1, 1, 83), (83, .iconst 1, 1, 84), (84, .iadd, 1, 85), (85, .if_icmp .ne 7, 3, 88), (88, .iconst (-1), 1, 89), (89, .goto 4, 3, 92), (92, .iload_n 3, 1, 93), (93, .ireturn, 1, 94)]
theorem dk_X5_takeNumber : sw_dc cX5_takeNumber L_X5_takeNumber = true := by decide +kernel
def f_X5_takeNumber_73  (σ : sw_St) (x1 : Int32) (x2 : Int32) (x3 : Int32) (x4 : Int32) : Option (Int32 × sw_St) := sw_ck (sw_in x2 3) (sw_pt σ 46 (sw_ix x2) x4 fun s2 => (if x3 = (x1 + 1) then (some ((-1), s2)) else (some (x3, s2))))
def f_X5_takeNumber_31  : Nat → sw_St → Int32 → Int32 → Int32 → Int32 → Int32 → Option (Int32 × sw_St)
  | 0 => fun _ _ _ _ _ _ => none
  | n + 1 => fun σ x1 x2 x3 x4 x5 => if 4 ≤ x5 then (f_X5_takeNumber_73 σ x1 x2 x3 x4) else ((f_X5_letterAt σ x3).bind fun r1 => ((f_X5_isFigure σ r1).bind fun r2 => (if r2 = 0 then (f_X5_takeNumber_73 σ x1 x2 x3 x4) else ((f_X5_letterAt σ x3).bind fun r3 => ((f_X5_takeNumber_31 n) σ x1 x2 (x3 + 1) ((x4 * 10) + (r3 - 48)) (x5 + 1))))))
def f_X5_takeNumber (σ : sw_St) (x1 : Int32) (x2 : Int32) : Option (Int32 × sw_St) := (f_X5_letterAt σ x1).bind fun r1 => (if r1 = 32 then (if x2 < 0 then (some ((-1), σ)) else (if x2 < 3 then (f_X5_takeNumber_31 sw_fuel σ x1 x2 (x1 + 1) 0 0) else (some ((-1), σ)))) else (some ((-1), σ)))
set_option maxHeartbeats 1000000 in
set_option maxRecDepth 100000 in
theorem s_X5_takeNumber_73 {V : sw_V} (C : sw_Cx sw_ZX V cX5_takeNumber RX5 6 (some .int) L_X5_takeNumber 1) (σ : sw_St) (x1 : Int32) (x2 : Int32) (x3 : Int32) (x4 : Int32) : sw_S sw_ZX V sw_eI [some (sw_r V 44), some (.int x1), some (.int x2), some (.int x3), some (.int x4), none] [] 73 σ (f_X5_takeNumber_73 σ x1 x2 x3 x4) := by
  unfold f_X5_takeNumber_73
  refine g_aload_n C 41 rfl rfl ?_
  refine g_getR C 42 rfl fl_X5_15 rfl rfl ?_
  refine g_iload_n C 43 rfl rfl ?_
  refine g_iload C 44 rfl rfl ?_
  refine g_ck fun h1 => ?_
  refine g_iast C 45 rfl rfl h1 (fun s2 => ?_)
  refine g_iload_n C 46 rfl rfl ?_
  refine g_iload_n C 47 rfl rfl ?_
  refine g_iconst C 48 rfl 1 (by decide) ?_
  refine g_iadd C 49 rfl ?_
  refine g_icmp_ne C 50 rfl 92 (by decide) ?_ ?_
  · refine g_iload_n C 53 rfl rfl ?_
    skip
    exact g_iret C 54 rfl rfl
  · refine g_iconst C 51 rfl (-1) (by decide) ?_
    refine g_goto C 52 rfl 93 (by decide) ?_
    skip
    exact g_iret C 54 rfl rfl
set_option maxHeartbeats 1000000 in
set_option maxRecDepth 100000 in
theorem s_X5_takeNumber_31 {V : sw_V} (C : sw_Cx sw_ZX V cX5_takeNumber RX5 6 (some .int) L_X5_takeNumber 1) : ∀ (n : Nat) (σ : sw_St) (x1 : Int32) (x2 : Int32) (x3 : Int32) (x4 : Int32) (x5 : Int32), sw_S sw_ZX V sw_eI [some (sw_r V 44), some (.int x1), some (.int x2), some (.int x3), some (.int x4), some (.int x5)] [] 31 σ (f_X5_takeNumber_31 n σ x1 x2 x3 x4 x5) := by
  intro n
  induction n with
  | zero =>
    intro σ x1 x2 x3 x4 x5
    exact g_none
  | succ n ih =>
    intro σ x1 x2 x3 x4 x5
    rw [f_X5_takeNumber_31]
    refine g_iload C 20 rfl rfl ?_
    refine g_iconst C 21 rfl 4 (by decide) ?_
    refine g_icmp_ge C 22 rfl 73 (by decide) ?_ ?_
    · exact g_wk (s_X5_takeNumber_73 C σ x1 x2 x3 x4) ⟨rfl, rfl, rfl, rfl, rfl, trivial⟩
    · refine g_aload_n C 23 rfl rfl ?_
      refine g_iload_n C 24 rfl rfl ?_
      refine g_callV (ψ₁ := sw_eP σ) C 25 rfl [(.int x3)] [] ml_X5_30 rfl (Nat.le_of_ble_eq_true rfl) (by decide) rfl rfl (fun b hb => m_X5_letterAt V.1.2.1 _ _ _ _ C.inj σ x3 b hb) rfl (g_cP fun r1 => ?_)
      refine g_callS (ψ₁ := sw_eP σ) C 26 rfl [(.int r1)] [] ml_X5_56 rfl (Nat.le_of_ble_eq_true rfl) (by decide) (fun b hb => m_X5_isFigure V.1.2.1 _ _ _ _ C.inj σ r1 b hb) rfl (g_cP fun r2 => ?_)
      refine g_if_eq C 27 rfl 73 (by decide) ?_ ?_
      · exact g_wk (s_X5_takeNumber_73 C σ x1 x2 x3 x4) ⟨rfl, rfl, rfl, rfl, rfl, trivial⟩
      · refine g_iload C 28 rfl rfl ?_
        refine g_bipush C 29 rfl 10 (by decide) ?_
        refine g_imul C 30 rfl ?_
        refine g_aload_n C 31 rfl rfl ?_
        refine g_iload_n C 32 rfl rfl ?_
        refine g_callV (ψ₁ := sw_eP σ) C 33 rfl [(.int x3)] [(.int (x4 * 10))] ml_X5_30 rfl (Nat.le_of_ble_eq_true rfl) (by decide) rfl rfl (fun b hb => m_X5_letterAt V.1.2.1 _ _ _ _ C.inj σ x3 b hb) rfl (g_cP fun r3 => ?_)
        refine g_bipush C 34 rfl 48 (by decide) ?_
        refine g_isub C 35 rfl ?_
        refine g_iadd C 36 rfl ?_
        refine g_istore C 37 rfl (Nat.le_of_ble_eq_true rfl) (Or.inr (Or.inr (Or.inl ⟨_, rfl⟩))) ?_
        refine g_iinc C 38 rfl 1 (by decide) rfl (Nat.le_of_ble_eq_true rfl) (Or.inr (Or.inr (Or.inl ⟨_, rfl⟩))) ?_
        refine g_iinc C 39 rfl 1 (by decide) rfl (Nat.le_of_ble_eq_true rfl) (Or.inr (Or.inr (Or.inl ⟨_, rfl⟩))) ?_
        refine g_goto C 40 rfl 31 (by decide) ?_
        exact g_wk (ih σ x1 x2 (x3 + 1) ((x4 * 10) + (r3 - 48)) (x5 + 1)) ⟨rfl, rfl, rfl, rfl, rfl, rfl, trivial⟩
set_option maxHeartbeats 1000000 in
set_option maxRecDepth 100000 in
theorem s_X5_takeNumber {V : sw_V} (C : sw_Cx sw_ZX V cX5_takeNumber RX5 6 (some .int) L_X5_takeNumber 1) (σ : sw_St) (x1 : Int32) (x2 : Int32) : sw_S sw_ZX V sw_eI [some (sw_r V 44), some (.int x1), some (.int x2), none, none, none] [] 0 σ (f_X5_takeNumber σ x1 x2) := by
  unfold f_X5_takeNumber
  refine g_aload_n C 0 rfl rfl ?_
  refine g_iload_n C 1 rfl rfl ?_
  refine g_callV (ψ₁ := sw_eP σ) C 2 rfl [(.int x1)] [] ml_X5_30 rfl (Nat.le_of_ble_eq_true rfl) (by decide) rfl rfl (fun b hb => m_X5_letterAt V.1.2.1 _ _ _ _ C.inj σ x1 b hb) rfl (g_cP fun r1 => ?_)
  refine g_bipush C 3 rfl 32 (by decide) ?_
  refine g_icmp_ne C 4 rfl 19 (by decide) ?_ ?_
  · refine g_iconst C 10 rfl (-1) (by decide) ?_
    skip
    exact g_iret C 11 rfl rfl
  · refine g_iload_n C 5 rfl rfl ?_
    refine g_if_lt C 6 rfl 19 (by decide) ?_ ?_
    · refine g_iconst C 10 rfl (-1) (by decide) ?_
      skip
      exact g_iret C 11 rfl rfl
    · refine g_iload_n C 7 rfl rfl ?_
      refine g_iconst C 8 rfl 3 (by decide) ?_
      refine g_icmp_lt C 9 rfl 21 (by decide) ?_ ?_
      · refine g_iload_n C 12 rfl rfl ?_
        refine g_iconst C 13 rfl 1 (by decide) ?_
        refine g_iadd C 14 rfl ?_
        refine g_istore_n C 15 rfl (Nat.le_of_ble_eq_true rfl) (Or.inr (Or.inr (Or.inl ⟨_, rfl⟩))) ?_
        refine g_iconst C 16 rfl 0 (by decide) ?_
        refine g_istore C 17 rfl (Nat.le_of_ble_eq_true rfl) (Or.inr (Or.inr (Or.inl ⟨_, rfl⟩))) ?_
        refine g_iconst C 18 rfl 0 (by decide) ?_
        refine g_istore C 19 rfl (Nat.le_of_ble_eq_true rfl) (Or.inr (Or.inr (Or.inl ⟨_, rfl⟩))) ?_
        exact g_wk (s_X5_takeNumber_31 C sw_fuel σ x1 x2 (x1 + 1) 0 0) ⟨rfl, rfl, rfl, rfl, rfl, rfl, trivial⟩
      · refine g_iconst C 10 rfl (-1) (by decide) ?_
        skip
        exact g_iret C 11 rfl rfl
set_option maxHeartbeats 1000000 in
set_option maxRecDepth 100000 in
theorem m_X5_takeNumber (l : Launch) (dC : Nat → ClassId) (dI : Nat → Nat → Nat) (dA : Nat → ClassId) (ad : Nat → Nat) (hI : sw_inj sw_ZX ad) (σ : sw_St) (x1 : Int32) (x2 : Int32) (b : (Int32 × sw_St)) (hb : f_X5_takeNumber σ x1 x2 = some b) : sw_M sw_ZX l yX5_takeNumber cX5_takeNumber 6 (some .int) 1 dC dI dA ad [(sw_rv ad 44), (.int x1), (.int x2)] σ (sw_eI b) :=
  sw_mk1 (ψ := sw_eI) 3 (by decide) sw_ZXok hI dk_X5_takeNumber rfl (sw_c1_all _ ⟨sw_rv_cat _ _, rfl, rfl, trivial⟩) hb (fun p e R M C => s_X5_takeNumber C σ x1 x2)
/-! SplitWatch.isLine(I)Z -/
def L_X6_isLine : sw_Is := [(0, .iload_n 0, 1, 1), (1, .iconst 0, 1, 2), (2, .bipush 7, 2, 4), (4, .invokestatic 27, 3, 7), (7, .ireturn, 1, 8)]
theorem dk_X6_isLine : sw_dc cX6_isLine L_X6_isLine = true := by decide +kernel
def f_X6_isLine (σ : sw_St) (x0 : Int32) : Option Int32 := (f_X6_isWithin σ x0 0 7).bind fun r1 => (sw_ck (sw_fz .boolean r1) (some r1))
set_option maxHeartbeats 1000000 in
set_option maxRecDepth 100000 in
theorem s_X6_isLine {V : sw_V} (C : sw_Cx sw_ZX V cX6_isLine RX6 1 (some .boolean) L_X6_isLine 1) (σ : sw_St) (x0 : Int32) : sw_S sw_ZX V (sw_eP σ) [some (.int x0)] [] 0 σ (f_X6_isLine σ x0) := by
  unfold f_X6_isLine
  refine g_iload_n C 0 rfl rfl ?_
  refine g_iconst C 1 rfl 0 (by decide) ?_
  refine g_bipush C 2 rfl 7 (by decide) ?_
  refine g_callS (ψ₁ := sw_eP σ) C 3 rfl [(.int x0), (.int 0), (.int 7)] [] ml_X6_27 rfl (Nat.le_of_ble_eq_true rfl) (by decide) (fun b hb => m_X6_isWithin V.1.2.1 _ _ _ _ C.inj σ x0 0 7 b hb) rfl (g_cP fun r1 => ?_)
  refine g_ck fun h2 => ?_
  skip
  exact g_zret C 4 rfl (sw_fz_n h2 ⟨_, rfl⟩) rfl
set_option maxHeartbeats 1000000 in
set_option maxRecDepth 100000 in
theorem m_X6_isLine (l : Launch) (dC : Nat → ClassId) (dI : Nat → Nat → Nat) (dA : Nat → ClassId) (ad : Nat → Nat) (hI : sw_inj sw_ZX ad) (σ : sw_St) (x0 : Int32) (b : Int32) (hb : f_X6_isLine σ x0 = some b) : sw_M sw_ZX l yX6_isLine cX6_isLine 1 (some .boolean) 1 dC dI dA ad [(.int x0)] σ ((sw_eP σ) b) :=
  sw_mk1 (ψ := (sw_eP σ)) 0 (by decide) sw_ZXok hI dk_X6_isLine rfl (sw_c1_all _ ⟨rfl, trivial⟩) hb (fun p e R M C => s_X6_isLine C σ x0)
/-! SplitWatch$Script.areTold(I)Z -/
def L_X5_areTold : sw_Is := [(0, .aload_n 0, 1, 1), (1, .getfield 42, 3, 4), (4, .ifCond .ne 16, 3, 7), (7, .aload_n 0, 1, 8), (8, .getfield 15, 3, 11), (11, .iconst 0, 1, 12), (12, .iaload, 1, 13), (13, .iconst 1, 1, 14), (14, .bipush 99, 2, 16), (16, .invokestatic 59, 3, 19), (19, .ireturn, 1, 20), (20, .aload_n 0, 1, 21), (21, .getfield 42, 3, 24), (24, .iconst 2, 1, 25), (25, .if_icmp .ne 19, 3, 28), (28, .aload_n 0, 1, 29), (29, .getfield 15, 3, 32), (32, .iconst 2, 1, 33), (33, .iaload, 1, 34), (34, .iconst 0, 1, 35), (35, .sipush 9999, 3, 38), (38, .invokestatic 59, 3, 41), (41, .ifCond .eq 7, 3, 44), (44, .iconst 1, 1, 45), (45, .goto 4, 3, 48), (48, .iconst 0, 1, 49), (49, .istore_n 2, 1, 50), (50, .aload_n 0, 1, 51), (51, .getfield 15, 3, 54), (54, .iconst 0, 1, 55), (55, .iaload, 1, 56), (56, .iconst 0, 1, 57), (57, .iload_n 1, 1, 58), (58, .iconst 1, 1, 59), (59, .isub, 1, 60), (60, .invokestatic 59, 3, 63), (63, .ifCond .eq 23, 3, 66), (66, .aload_n 0, 1, 67), (67, .getfield 15, 3, 70), (70, .iconst 1, 1, 71), (71, .iaload, 1, 72), (72, .invokestatic 63, 3, 75), (75, .ifCond .eq 11, 3, 78), (78, .iload_n 2, 1, 79), (79, .ifCond .eq 7, 3, 82), (82, .iconst 1, 1, 83), (83, .goto 4, 3, 86), (86, .iconst 0, 1, 87), (87, .ireturn, 1, 88)]
theorem dk_X5_areTold : sw_dc cX5_areTold L_X5_areTold = true := by decide +kernel
def f_X5_areTold_49 (σ : sw_St)  (x1 : Int32) (y0 : Int32) : Option Int32 := (f_X6_isWithin σ (σ 46 (sw_ix 0)) 0 (x1 - 1)).bind fun r1 => (if r1 = 0 then (some 0) else ((f_X6_isLine σ (σ 46 (sw_ix 1))).bind fun r2 => (if r2 = 0 then (some 0) else (if y0 = 0 then (some 0) else (some 1)))))
def f_X5_areTold_44 (σ : sw_St)  (x1 : Int32) : Option Int32 := f_X5_areTold_49 σ x1 1
def f_X5_areTold (σ : sw_St) (x1 : Int32) : Option Int32 := if (σ 44 3) = 0 then ((f_X6_isWithin σ (σ 46 (sw_ix 0)) 1 99).bind fun r2 => (sw_ck (sw_fz .boolean r2) (some r2))) else (if (σ 44 3) = 2 then ((f_X6_isWithin σ (σ 46 (sw_ix 2)) 0 9999).bind fun r1 => (if r1 = 0 then (f_X5_areTold_49 σ x1 0) else (f_X5_areTold_44 σ x1))) else (f_X5_areTold_44 σ x1))
set_option maxHeartbeats 1000000 in
set_option maxRecDepth 100000 in
theorem s_X5_areTold_49 {V : sw_V} (C : sw_Cx sw_ZX V cX5_areTold RX5 3 (some .boolean) L_X5_areTold 2) (σ : sw_St) (x1 : Int32) (y0 : Int32) : sw_S sw_ZX V (sw_eP σ) [some (sw_r V 44), some (.int x1), none] [(.int y0)] 49 σ (f_X5_areTold_49 σ x1 y0) := by
  unfold f_X5_areTold_49
  refine g_istore_n C 26 rfl (Nat.le_of_ble_eq_true rfl) (Or.inr (Or.inr (Or.inl ⟨_, rfl⟩))) ?_
  refine g_aload_n C 27 rfl rfl ?_
  refine g_getR C 28 rfl fl_X5_15 rfl rfl ?_
  refine g_iconst C 29 rfl 0 (by decide) ?_
  refine g_iald C 30 rfl rfl (by decide) ?_
  refine g_iconst C 31 rfl 0 (by decide) ?_
  refine g_iload_n C 32 rfl rfl ?_
  refine g_iconst C 33 rfl 1 (by decide) ?_
  refine g_isub C 34 rfl ?_
  refine g_callS (ψ₁ := sw_eP σ) C 35 rfl [(.int (σ 46 (sw_ix 0))), (.int 0), (.int (x1 - 1))] [] ml_X5_59 rfl (Nat.le_of_ble_eq_true rfl) (by decide) (fun b hb => m_X6_isWithin V.1.2.1 _ _ _ _ C.inj σ (σ 46 (sw_ix 0)) 0 (x1 - 1) b hb) rfl (g_cP fun r1 => ?_)
  refine g_if_eq C 36 rfl 86 (by decide) ?_ ?_
  · refine g_iconst C 47 rfl 0 (by decide) ?_
    skip
    exact g_zret C 48 rfl rfl rfl
  · refine g_aload_n C 37 rfl rfl ?_
    refine g_getR C 38 rfl fl_X5_15 rfl rfl ?_
    refine g_iconst C 39 rfl 1 (by decide) ?_
    refine g_iald C 40 rfl rfl (by decide) ?_
    refine g_callS (ψ₁ := sw_eP σ) C 41 rfl [(.int (σ 46 (sw_ix 1)))] [] ml_X5_63 rfl (Nat.le_of_ble_eq_true rfl) (by decide) (fun b hb => m_X6_isLine V.1.2.1 _ _ _ _ C.inj σ (σ 46 (sw_ix 1)) b hb) rfl (g_cP fun r2 => ?_)
    refine g_if_eq C 42 rfl 86 (by decide) ?_ ?_
    · refine g_iconst C 47 rfl 0 (by decide) ?_
      skip
      exact g_zret C 48 rfl rfl rfl
    · refine g_iload_n C 43 rfl rfl ?_
      refine g_if_eq C 44 rfl 86 (by decide) ?_ ?_
      · refine g_iconst C 47 rfl 0 (by decide) ?_
        skip
        exact g_zret C 48 rfl rfl rfl
      · refine g_iconst C 45 rfl 1 (by decide) ?_
        refine g_goto C 46 rfl 87 (by decide) ?_
        skip
        exact g_zret C 48 rfl rfl rfl
set_option maxHeartbeats 1000000 in
set_option maxRecDepth 100000 in
theorem s_X5_areTold_44 {V : sw_V} (C : sw_Cx sw_ZX V cX5_areTold RX5 3 (some .boolean) L_X5_areTold 2) (σ : sw_St) (x1 : Int32) : sw_S sw_ZX V (sw_eP σ) [some (sw_r V 44), some (.int x1), none] [] 44 σ (f_X5_areTold_44 σ x1) := by
  unfold f_X5_areTold_44
  refine g_iconst C 23 rfl 1 (by decide) ?_
  refine g_goto C 24 rfl 49 (by decide) ?_
  exact g_wk (s_X5_areTold_49 C σ x1 1) ⟨rfl, rfl, trivial⟩
set_option maxHeartbeats 1000000 in
set_option maxRecDepth 100000 in
theorem s_X5_areTold {V : sw_V} (C : sw_Cx sw_ZX V cX5_areTold RX5 3 (some .boolean) L_X5_areTold 2) (σ : sw_St) (x1 : Int32) : sw_S sw_ZX V (sw_eP σ) [some (sw_r V 44), some (.int x1), none] [] 0 σ (f_X5_areTold σ x1) := by
  unfold f_X5_areTold
  refine g_aload_n C 0 rfl rfl ?_
  refine g_getI C 1 rfl fl_X5_42 rfl rfl ?_
  refine g_if_ne C 2 rfl 20 (by decide) ?_ ?_
  · refine g_aload_n C 11 rfl rfl ?_
    refine g_getI C 12 rfl fl_X5_42 rfl rfl ?_
    refine g_iconst C 13 rfl 2 (by decide) ?_
    refine g_icmp_ne C 14 rfl 44 (by decide) ?_ ?_
    · exact g_wk (s_X5_areTold_44 C σ x1) ⟨rfl, rfl, trivial⟩
    · refine g_aload_n C 15 rfl rfl ?_
      refine g_getR C 16 rfl fl_X5_15 rfl rfl ?_
      refine g_iconst C 17 rfl 2 (by decide) ?_
      refine g_iald C 18 rfl rfl (by decide) ?_
      refine g_iconst C 19 rfl 0 (by decide) ?_
      refine g_sipush C 20 rfl 9999 (by decide) ?_
      refine g_callS (ψ₁ := sw_eP σ) C 21 rfl [(.int (σ 46 (sw_ix 2))), (.int 0), (.int 9999)] [] ml_X5_59 rfl (Nat.le_of_ble_eq_true rfl) (by decide) (fun b hb => m_X6_isWithin V.1.2.1 _ _ _ _ C.inj σ (σ 46 (sw_ix 2)) 0 9999 b hb) rfl (g_cP fun r1 => ?_)
      refine g_if_eq C 22 rfl 48 (by decide) ?_ ?_
      · refine g_iconst C 25 rfl 0 (by decide) ?_
        exact g_wk (s_X5_areTold_49 C σ x1 0) ⟨rfl, rfl, trivial⟩
      · exact g_wk (s_X5_areTold_44 C σ x1) ⟨rfl, rfl, trivial⟩
  · refine g_aload_n C 3 rfl rfl ?_
    refine g_getR C 4 rfl fl_X5_15 rfl rfl ?_
    refine g_iconst C 5 rfl 0 (by decide) ?_
    refine g_iald C 6 rfl rfl (by decide) ?_
    refine g_iconst C 7 rfl 1 (by decide) ?_
    refine g_bipush C 8 rfl 99 (by decide) ?_
    refine g_callS (ψ₁ := sw_eP σ) C 9 rfl [(.int (σ 46 (sw_ix 0))), (.int 1), (.int 99)] [] ml_X5_59 rfl (Nat.le_of_ble_eq_true rfl) (by decide) (fun b hb => m_X6_isWithin V.1.2.1 _ _ _ _ C.inj σ (σ 46 (sw_ix 0)) 1 99 b hb) rfl (g_cP fun r2 => ?_)
    refine g_ck fun h3 => ?_
    skip
    exact g_zret C 10 rfl (sw_fz_n h3 ⟨_, rfl⟩) rfl
set_option maxHeartbeats 1000000 in
set_option maxRecDepth 100000 in
theorem m_X5_areTold (l : Launch) (dC : Nat → ClassId) (dI : Nat → Nat → Nat) (dA : Nat → ClassId) (ad : Nat → Nat) (hI : sw_inj sw_ZX ad) (σ : sw_St) (x1 : Int32) (b : Int32) (hb : f_X5_areTold σ x1 = some b) : sw_M sw_ZX l yX5_areTold cX5_areTold 3 (some .boolean) 2 dC dI dA ad [(sw_rv ad 44), (.int x1)] σ ((sw_eP σ) b) :=
  sw_mk1 (ψ := (sw_eP σ)) 1 (by decide) sw_ZXok hI dk_X5_areTold rfl (sw_c1_all _ ⟨sw_rv_cat _ _, rfl, trivial⟩) hb (fun p e R M C => s_X5_areTold C σ x1)
