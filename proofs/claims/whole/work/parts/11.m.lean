/-! SplitWatchModel.isUrgent(I)Z -/
def L_X7_isUrgent : sw_Is := [(0, .aload_n 0, 1, 1), (1, .getfield 49, 3, 4), (4, .iconst 5, 1, 5), (5, .iload_n 1, 1, 6), (6, .imul, 1, 7), (7, .iconst 4, 1, 8), (8, .iadd, 1, 9), (9, .iaload, 1, 10), (10, .iconst 3, 1, 11), (11, .if_icmp .lt 24, 3, 14), (14, .aload_n 0, 1, 15), (15, .aload_n 0, 1, 16), (16, .getfield 49, 3, 19), (19, .iconst 5, 1, 20), (20, .iload_n 1, 1, 21), (21, .imul, 1, 22), (22, .iconst 2, 1, 23), (23, .iadd, 1, 24), (24, .iaload, 1, 25), (25, .invokevirtual 149, 3, 28), (28, .ifCond .ne 7, 3, 31), (31, .iconst 1, 1, 32), (32, .goto 4, 3, 35), (35, .iconst 0, 1, 36), (36, .ireturn, 1, 37)]
theorem dk_X7_isUrgent : sw_dc cX7_isUrgent L_X7_isUrgent = true := by decide +kernel
def f_X7_isUrgent (σ : sw_St) (x1 : Int32) : Option Int32 := sw_ck (sw_in ((5 * x1) + 4) 80) (if (σ 15 (sw_ix ((5 * x1) + 4))) < 3 then (some 0) else (sw_ck (sw_in ((5 * x1) + 2) 80) ((f_X7_isOpen σ (σ 15 (sw_ix ((5 * x1) + 2)))).bind fun r3 => (if r3 = 0 then (some 1) else (some 0)))))
set_option maxHeartbeats 1000000 in
set_option maxRecDepth 100000 in
theorem s_X7_isUrgent {V : sw_V} (C : sw_Cx sw_ZM V cX7_isUrgent RX7 2 (some .boolean) L_X7_isUrgent 1) (σ : sw_St) (x1 : Int32) : sw_S sw_ZM V (sw_eP σ) [some (sw_r V 1), some (.int x1)] [] 0 σ (f_X7_isUrgent σ x1) := by
  unfold f_X7_isUrgent
  refine g_aload_n C 0 rfl rfl ?_
  refine g_getR C 1 rfl fl_X7_49 rfl rfl ?_
  refine g_iconst C 2 rfl 5 (by decide) ?_
  refine g_iload_n C 3 rfl rfl ?_
  refine g_imul C 4 rfl ?_
  refine g_iconst C 5 rfl 4 (by decide) ?_
  refine g_iadd C 6 rfl ?_
  refine g_ck fun h1 => ?_
  refine g_iald C 7 rfl rfl h1 ?_
  refine g_iconst C 8 rfl 3 (by decide) ?_
  refine g_icmp_lt C 9 rfl 35 (by decide) ?_ ?_
  · refine g_iconst C 23 rfl 0 (by decide) ?_
    skip
    exact g_zret C 24 rfl rfl rfl
  · refine g_aload_n C 10 rfl rfl ?_
    refine g_aload_n C 11 rfl rfl ?_
    refine g_getR C 12 rfl fl_X7_49 rfl rfl ?_
    refine g_iconst C 13 rfl 5 (by decide) ?_
    refine g_iload_n C 14 rfl rfl ?_
    refine g_imul C 15 rfl ?_
    refine g_iconst C 16 rfl 2 (by decide) ?_
    refine g_iadd C 17 rfl ?_
    refine g_ck fun h2 => ?_
    refine g_iald C 18 rfl rfl h2 ?_
    refine g_callV (ψ₁ := sw_eP σ) C 19 rfl [(.int (σ 15 (sw_ix ((5 * x1) + 2))))] [] ml_X7_149 rfl (Nat.le_of_ble_eq_true rfl) (by decide) rfl rfl (fun b hb => m_X7_isOpen V.1.2.1 _ _ _ _ C.inj σ (σ 15 (sw_ix ((5 * x1) + 2))) b hb) rfl (g_cP fun r3 => ?_)
    refine g_if_ne C 20 rfl 35 (by decide) ?_ ?_
    · refine g_iconst C 23 rfl 0 (by decide) ?_
      skip
      exact g_zret C 24 rfl rfl rfl
    · refine g_iconst C 21 rfl 1 (by decide) ?_
      refine g_goto C 22 rfl 36 (by decide) ?_
      skip
      exact g_zret C 24 rfl rfl rfl
set_option maxHeartbeats 1000000 in
set_option maxRecDepth 100000 in
theorem m_X7_isUrgent (l : Launch) (dC : Nat → ClassId) (dI : Nat → Nat → Nat) (dA : Nat → ClassId) (ad : Nat → Nat) (hI : sw_inj sw_ZM ad) (σ : sw_St) (x1 : Int32) (b : Int32) (hb : f_X7_isUrgent σ x1 = some b) : sw_M sw_ZM l yX7_isUrgent cX7_isUrgent 2 (some .boolean) 1 dC dI dA ad [(sw_rv ad 1), (.int x1)] σ ((sw_eP σ) b) :=
  sw_mk1 (ψ := (sw_eP σ)) 0 (by decide) sw_ZMok hI dk_X7_isUrgent rfl (sw_c1_all _ ⟨sw_rv_cat _ _, rfl, trivial⟩) hb (fun p e R M C => s_X7_isUrgent C σ x1)
/-! SplitWatchModel.isAhead(II)Z -/
def L_X7_isAhead : sw_Is := [(0, .aload_n 0, 1, 1), (1, .iload_n 1, 1, 2), (2, .invokevirtual 153, 3, 5), (5, .aload_n 0, 1, 6), (6, .iload_n 2, 1, 7), (7, .invokevirtual 153, 3, 10), (10, .if_icmp .eq 11, 3, 13), (13, .aload_n 0, 1, 14), (14, .iload_n 1, 1, 15), (15, .invokevirtual 153, 3, 18), (18, .goto 31, 3, 21), (21, .aload_n 0, 1, 22), (22, .getfield 49, 3, 25), (25, .iconst 5, 1, 26), (26, .iload_n 1, 1, 27), (27, .imul, 1, 28), (28, .iconst 3, 1, 29), (29, .iadd, 1, 30), (30, .iaload, 1, 31), (31, .aload_n 0, 1, 32), (32, .getfield 49, 3, 35), (35, .iconst 5, 1, 36), (36, .iload_n 2, 1, 37), (37, .imul, 1, 38), (38, .iconst 3, 1, 39), (39, .iadd, 1, 40), (40, .iaload, 1, 41), (41, .if_icmp .ge 7, 3, 44), (44, .iconst 1, 1, 45), (45, .goto 4, 3, 48), (48, .iconst 0, 1, 49), (49, .ireturn, 1, 50)]
theorem dk_X7_isAhead : sw_dc cX7_isAhead L_X7_isAhead = true := by decide +kernel
def f_X7_isAhead (σ : sw_St) (x1 : Int32) (x2 : Int32) : Option Int32 := (f_X7_isUrgent σ x1).bind fun r1 => ((f_X7_isUrgent σ x2).bind fun r2 => (if r1 = r2 then (sw_ck (sw_in ((5 * x1) + 3) 80) (sw_ck (sw_in ((5 * x2) + 3) 80) (if (σ 15 (sw_ix ((5 * x2) + 3))) ≤ (σ 15 (sw_ix ((5 * x1) + 3))) then (some 0) else (some 1)))) else ((f_X7_isUrgent σ x1).bind fun r5 => (sw_ck (sw_fz .boolean r5) (some r5)))))
set_option maxHeartbeats 1000000 in
set_option maxRecDepth 100000 in
theorem s_X7_isAhead {V : sw_V} (C : sw_Cx sw_ZM V cX7_isAhead RX7 3 (some .boolean) L_X7_isAhead 2) (σ : sw_St) (x1 : Int32) (x2 : Int32) : sw_S sw_ZM V (sw_eP σ) [some (sw_r V 1), some (.int x1), some (.int x2)] [] 0 σ (f_X7_isAhead σ x1 x2) := by
  unfold f_X7_isAhead
  refine g_aload_n C 0 rfl rfl ?_
  refine g_iload_n C 1 rfl rfl ?_
  refine g_callV (ψ₁ := sw_eP σ) C 2 rfl [(.int x1)] [] ml_X7_153 rfl (Nat.le_of_ble_eq_true rfl) (by decide) rfl rfl (fun b hb => m_X7_isUrgent V.1.2.1 _ _ _ _ C.inj σ x1 b hb) rfl (g_cP fun r1 => ?_)
  refine g_aload_n C 3 rfl rfl ?_
  refine g_iload_n C 4 rfl rfl ?_
  refine g_callV (ψ₁ := sw_eP σ) C 5 rfl [(.int x2)] [(.int r1)] ml_X7_153 rfl (Nat.le_of_ble_eq_true rfl) (by decide) rfl rfl (fun b hb => m_X7_isUrgent V.1.2.1 _ _ _ _ C.inj σ x2 b hb) rfl (g_cP fun r2 => ?_)
  refine g_icmp_eq C 6 rfl 21 (by decide) ?_ ?_
  · refine g_aload_n C 11 rfl rfl ?_
    refine g_getR C 12 rfl fl_X7_49 rfl rfl ?_
    refine g_iconst C 13 rfl 5 (by decide) ?_
    refine g_iload_n C 14 rfl rfl ?_
    refine g_imul C 15 rfl ?_
    refine g_iconst C 16 rfl 3 (by decide) ?_
    refine g_iadd C 17 rfl ?_
    refine g_ck fun h3 => ?_
    refine g_iald C 18 rfl rfl h3 ?_
    refine g_aload_n C 19 rfl rfl ?_
    refine g_getR C 20 rfl fl_X7_49 rfl rfl ?_
    refine g_iconst C 21 rfl 5 (by decide) ?_
    refine g_iload_n C 22 rfl rfl ?_
    refine g_imul C 23 rfl ?_
    refine g_iconst C 24 rfl 3 (by decide) ?_
    refine g_iadd C 25 rfl ?_
    refine g_ck fun h4 => ?_
    refine g_iald C 26 rfl rfl h4 ?_
    refine g_icmp_ge C 27 rfl 48 (by decide) ?_ ?_
    · refine g_iconst C 30 rfl 0 (by decide) ?_
      skip
      exact g_zret C 31 rfl rfl rfl
    · refine g_iconst C 28 rfl 1 (by decide) ?_
      refine g_goto C 29 rfl 49 (by decide) ?_
      skip
      exact g_zret C 31 rfl rfl rfl
  · refine g_aload_n C 7 rfl rfl ?_
    refine g_iload_n C 8 rfl rfl ?_
    refine g_callV (ψ₁ := sw_eP σ) C 9 rfl [(.int x1)] [] ml_X7_153 rfl (Nat.le_of_ble_eq_true rfl) (by decide) rfl rfl (fun b hb => m_X7_isUrgent V.1.2.1 _ _ _ _ C.inj σ x1 b hb) rfl (g_cP fun r5 => ?_)
    refine g_goto C 10 rfl 49 (by decide) ?_
    refine g_ck fun h6 => ?_
    skip
    exact g_zret C 31 rfl (sw_fz_n h6 ⟨_, rfl⟩) rfl
set_option maxHeartbeats 1000000 in
set_option maxRecDepth 100000 in
theorem m_X7_isAhead (l : Launch) (dC : Nat → ClassId) (dI : Nat → Nat → Nat) (dA : Nat → ClassId) (ad : Nat → Nat) (hI : sw_inj sw_ZM ad) (σ : sw_St) (x1 : Int32) (x2 : Int32) (b : Int32) (hb : f_X7_isAhead σ x1 x2 = some b) : sw_M sw_ZM l yX7_isAhead cX7_isAhead 3 (some .boolean) 2 dC dI dA ad [(sw_rv ad 1), (.int x1), (.int x2)] σ ((sw_eP σ) b) :=
  sw_mk1 (ψ := (sw_eP σ)) 0 (by decide) sw_ZMok hI dk_X7_isAhead rfl (sw_c1_all _ ⟨sw_rv_cat _ _, rfl, rfl, trivial⟩) hb (fun p e R M C => s_X7_isAhead C σ x1 x2)
/-! SplitWatchModel.waitingAt(I)I -/
def L_X7_waitingAt : sw_Is := [(0, .iconst 0, 1, 1), (1, .istore_n 2, 1, 2), (2, .iload_n 2, 1, 3), (3, .aload_n 0, 1, 4), (4, .getfield 97, 3, 7), (7, .if_icmp .ge 60, 3, 10), (10, .iconst 0, 1, 11), (11, .istore_n 3, 1, 12), (12, .iconst 0, 1, 13), (13, .istore 4, 2, 15), (15, .iload 4, 2, 17), (17, .aload_n 0, 1, 18), (18, .getfield 97, 3, 21), (21, .if_icmp .ge 33, 3, 24), (24, .iload_n 3, 1, 25), (25, .iload 4, 2, 27), (27, .iload_n 2, 1, 28), (28, .if_icmp .eq 17, 3, 31), (31, .aload_n 0, 1, 32), (32, .iload 4, 2, 34), (34, .iload_n 2, 1, 35), (35, .invokevirtual 156, 3, 38), (38, .ifCond .eq 7, 3, 41), (41, .iconst 1, 1, 42), (42, .goto 4, 3, 45), (45, .iconst 0, 1, 46), (46, .iadd, 1, 47), (47, .istore_n 3, 1, 48), (48, .iinc 4 1, 3, 51), (51, .goto (-36), 3, 54), (54, .iload_n 3, 1, 55), (55, .iload_n 1, 1, 56), (56, .if_icmp .ne 5, 3, 59), (59, .iload_n 2, 1, 60), (60, .ireturn, 1, 61), (61, .iinc 2 1, 3, 64), (64, .goto (-62), 3, 67), (67, .bipush (-4), 2, 69), (69, .ireturn, 1, 70)]
theorem dk_X7_waitingAt : sw_dc cX7_waitingAt L_X7_waitingAt = true := by decide +kernel
def f_X7_waitingAt_46 (σ : sw_St) (k2 : Int32 → Int32 → Option Int32) (k15 : Int32 → Int32 → Int32 → Int32 → Option Int32) (x1 : Int32) (x2 : Int32) (x4 : Int32) (y0 : Int32) (y1 : Int32) : Option Int32 := k15 x1 x2 (y1 + y0) (x4 + 1)
def f_X7_waitingAt_45 (σ : sw_St) (k2 : Int32 → Int32 → Option Int32) (k15 : Int32 → Int32 → Int32 → Int32 → Option Int32) (x1 : Int32) (x2 : Int32) (x4 : Int32) (y0 : Int32) : Option Int32 := f_X7_waitingAt_46 σ k2 k15 x1 x2 x4 0 y0
def f_X7_waitingAt_15 (σ : sw_St) (k2 : Int32 → Int32 → Option Int32) : Nat → Int32 → Int32 → Int32 → Int32 → Option Int32
  | 0 => fun _ _ _ _ => none
  | n + 1 => fun x1 x2 x3 x4 => if (σ 1 18) ≤ x4 then (if x3 = x1 then (some x2) else (k2 x1 (x2 + 1))) else (if x4 = x2 then (f_X7_waitingAt_45 σ k2 (f_X7_waitingAt_15 σ k2 n) x1 x2 x4 x3) else ((f_X7_isAhead σ x4 x2).bind fun r1 => (if r1 = 0 then (f_X7_waitingAt_45 σ k2 (f_X7_waitingAt_15 σ k2 n) x1 x2 x4 x3) else (f_X7_waitingAt_46 σ k2 (f_X7_waitingAt_15 σ k2 n) x1 x2 x4 1 x3))))
def f_X7_waitingAt_2 (σ : sw_St)  : Nat → Int32 → Int32 → Option Int32
  | 0 => fun _ _ => none
  | n + 1 => fun x1 x2 => if (σ 1 18) ≤ x2 then (some (-4)) else (f_X7_waitingAt_15 σ (f_X7_waitingAt_2 σ n) sw_fuel x1 x2 0 0)
def f_X7_waitingAt (σ : sw_St) (x1 : Int32) : Option Int32 := f_X7_waitingAt_2 σ sw_fuel x1 0
set_option maxHeartbeats 1000000 in
set_option maxRecDepth 100000 in
theorem s_X7_waitingAt_46 {V : sw_V} (C : sw_Cx sw_ZM V cX7_waitingAt RX7 5 (some .int) L_X7_waitingAt 3) (σ : sw_St) (k2 : Int32 → Int32 → Option Int32) (hk2 : ∀ (x1 : Int32) (x2 : Int32), sw_S sw_ZM V (sw_eP σ) [some (sw_r V 1), some (.int x1), some (.int x2), none, none] [] 2 σ (k2 x1 x2)) (k15 : Int32 → Int32 → Int32 → Int32 → Option Int32) (hk15 : ∀ (x1 : Int32) (x2 : Int32) (x3 : Int32) (x4 : Int32), sw_S sw_ZM V (sw_eP σ) [some (sw_r V 1), some (.int x1), some (.int x2), some (.int x3), some (.int x4)] [] 15 σ (k15 x1 x2 x3 x4)) (x1 : Int32) (x2 : Int32) (x4 : Int32) (y0 : Int32) (y1 : Int32) : sw_S sw_ZM V (sw_eP σ) [some (sw_r V 1), some (.int x1), some (.int x2), none, some (.int x4)] [(.int y0), (.int y1)] 46 σ (f_X7_waitingAt_46 σ k2 k15 x1 x2 x4 y0 y1) := by
  unfold f_X7_waitingAt_46
  refine g_iadd C 26 rfl ?_
  refine g_istore_n C 27 rfl (Nat.le_of_ble_eq_true rfl) (Or.inr (Or.inr (Or.inl ⟨_, rfl⟩))) ?_
  refine g_iinc C 28 rfl 1 (by decide) rfl (Nat.le_of_ble_eq_true rfl) (Or.inr (Or.inr (Or.inl ⟨_, rfl⟩))) ?_
  refine g_goto C 29 rfl 15 (by decide) ?_
  exact g_wk (hk15 x1 x2 (y1 + y0) (x4 + 1)) ⟨rfl, rfl, rfl, rfl, rfl, trivial⟩
set_option maxHeartbeats 1000000 in
set_option maxRecDepth 100000 in
theorem s_X7_waitingAt_45 {V : sw_V} (C : sw_Cx sw_ZM V cX7_waitingAt RX7 5 (some .int) L_X7_waitingAt 3) (σ : sw_St) (k2 : Int32 → Int32 → Option Int32) (hk2 : ∀ (x1 : Int32) (x2 : Int32), sw_S sw_ZM V (sw_eP σ) [some (sw_r V 1), some (.int x1), some (.int x2), none, none] [] 2 σ (k2 x1 x2)) (k15 : Int32 → Int32 → Int32 → Int32 → Option Int32) (hk15 : ∀ (x1 : Int32) (x2 : Int32) (x3 : Int32) (x4 : Int32), sw_S sw_ZM V (sw_eP σ) [some (sw_r V 1), some (.int x1), some (.int x2), some (.int x3), some (.int x4)] [] 15 σ (k15 x1 x2 x3 x4)) (x1 : Int32) (x2 : Int32) (x4 : Int32) (y0 : Int32) : sw_S sw_ZM V (sw_eP σ) [some (sw_r V 1), some (.int x1), some (.int x2), none, some (.int x4)] [(.int y0)] 45 σ (f_X7_waitingAt_45 σ k2 k15 x1 x2 x4 y0) := by
  unfold f_X7_waitingAt_45
  refine g_iconst C 25 rfl 0 (by decide) ?_
  exact g_wk (s_X7_waitingAt_46 C σ k2 hk2 k15 hk15 x1 x2 x4 0 y0) ⟨rfl, rfl, rfl, rfl, trivial⟩
set_option maxHeartbeats 1000000 in
set_option maxRecDepth 100000 in
theorem s_X7_waitingAt_15 {V : sw_V} (C : sw_Cx sw_ZM V cX7_waitingAt RX7 5 (some .int) L_X7_waitingAt 3) (σ : sw_St) (k2 : Int32 → Int32 → Option Int32) (hk2 : ∀ (x1 : Int32) (x2 : Int32), sw_S sw_ZM V (sw_eP σ) [some (sw_r V 1), some (.int x1), some (.int x2), none, none] [] 2 σ (k2 x1 x2)) : ∀ (n : Nat) (x1 : Int32) (x2 : Int32) (x3 : Int32) (x4 : Int32), sw_S sw_ZM V (sw_eP σ) [some (sw_r V 1), some (.int x1), some (.int x2), some (.int x3), some (.int x4)] [] 15 σ (f_X7_waitingAt_15 σ k2 n x1 x2 x3 x4) := by
  intro n
  induction n with
  | zero =>
    intro x1 x2 x3 x4
    exact g_none
  | succ n ih =>
    intro x1 x2 x3 x4
    rw [f_X7_waitingAt_15]
    refine g_iload C 10 rfl rfl ?_
    refine g_aload_n C 11 rfl rfl ?_
    refine g_getI C 12 rfl fl_X7_97 rfl rfl ?_
    refine g_icmp_ge C 13 rfl 54 (by decide) ?_ ?_
    · refine g_iload_n C 30 rfl rfl ?_
      refine g_iload_n C 31 rfl rfl ?_
      refine g_icmp_ne C 32 rfl 61 (by decide) ?_ ?_
      · refine g_iinc C 35 rfl 1 (by decide) rfl (Nat.le_of_ble_eq_true rfl) (Or.inr (Or.inr (Or.inl ⟨_, rfl⟩))) ?_
        refine g_goto C 36 rfl 2 (by decide) ?_
        exact g_wk (hk2 x1 (x2 + 1)) ⟨rfl, rfl, rfl, trivial⟩
      · refine g_iload_n C 33 rfl rfl ?_
        skip
        exact g_iret C 34 rfl rfl
    · refine g_iload_n C 14 rfl rfl ?_
      refine g_iload C 15 rfl rfl ?_
      refine g_iload_n C 16 rfl rfl ?_
      refine g_icmp_eq C 17 rfl 45 (by decide) ?_ ?_
      · exact g_wk (s_X7_waitingAt_45 C σ k2 hk2 (f_X7_waitingAt_15 σ k2 n) ih x1 x2 x4 x3) ⟨rfl, rfl, rfl, rfl, trivial⟩
      · refine g_aload_n C 18 rfl rfl ?_
        refine g_iload C 19 rfl rfl ?_
        refine g_iload_n C 20 rfl rfl ?_
        refine g_callV (ψ₁ := sw_eP σ) C 21 rfl [(.int x4), (.int x2)] [(.int x3)] ml_X7_156 rfl (Nat.le_of_ble_eq_true rfl) (by decide) rfl rfl (fun b hb => m_X7_isAhead V.1.2.1 _ _ _ _ C.inj σ x4 x2 b hb) rfl (g_cP fun r1 => ?_)
        refine g_if_eq C 22 rfl 45 (by decide) ?_ ?_
        · exact g_wk (s_X7_waitingAt_45 C σ k2 hk2 (f_X7_waitingAt_15 σ k2 n) ih x1 x2 x4 x3) ⟨rfl, rfl, rfl, rfl, trivial⟩
        · refine g_iconst C 23 rfl 1 (by decide) ?_
          refine g_goto C 24 rfl 46 (by decide) ?_
          exact g_wk (s_X7_waitingAt_46 C σ k2 hk2 (f_X7_waitingAt_15 σ k2 n) ih x1 x2 x4 1 x3) ⟨rfl, rfl, rfl, rfl, trivial⟩
set_option maxHeartbeats 1000000 in
set_option maxRecDepth 100000 in
theorem s_X7_waitingAt_2 {V : sw_V} (C : sw_Cx sw_ZM V cX7_waitingAt RX7 5 (some .int) L_X7_waitingAt 3) (σ : sw_St) : ∀ (n : Nat) (x1 : Int32) (x2 : Int32), sw_S sw_ZM V (sw_eP σ) [some (sw_r V 1), some (.int x1), some (.int x2), none, none] [] 2 σ (f_X7_waitingAt_2 σ n x1 x2) := by
  intro n
  induction n with
  | zero =>
    intro x1 x2
    exact g_none
  | succ n ih =>
    intro x1 x2
    rw [f_X7_waitingAt_2]
    refine g_iload_n C 2 rfl rfl ?_
    refine g_aload_n C 3 rfl rfl ?_
    refine g_getI C 4 rfl fl_X7_97 rfl rfl ?_
    refine g_icmp_ge C 5 rfl 67 (by decide) ?_ ?_
    · refine g_bipush C 37 rfl (-4) (by decide) ?_
      skip
      exact g_iret C 38 rfl rfl
    · refine g_iconst C 6 rfl 0 (by decide) ?_
      refine g_istore_n C 7 rfl (Nat.le_of_ble_eq_true rfl) (Or.inr (Or.inr (Or.inl ⟨_, rfl⟩))) ?_
      refine g_iconst C 8 rfl 0 (by decide) ?_
      refine g_istore C 9 rfl (Nat.le_of_ble_eq_true rfl) (Or.inr (Or.inr (Or.inl ⟨_, rfl⟩))) ?_
      exact g_wk (s_X7_waitingAt_15 C σ (f_X7_waitingAt_2 σ n) ih sw_fuel x1 x2 0 0) ⟨rfl, rfl, rfl, rfl, rfl, trivial⟩
set_option maxHeartbeats 1000000 in
set_option maxRecDepth 100000 in
theorem s_X7_waitingAt {V : sw_V} (C : sw_Cx sw_ZM V cX7_waitingAt RX7 5 (some .int) L_X7_waitingAt 3) (σ : sw_St) (x1 : Int32) : sw_S sw_ZM V (sw_eP σ) [some (sw_r V 1), some (.int x1), none, none, none] [] 0 σ (f_X7_waitingAt σ x1) := by
  unfold f_X7_waitingAt
  refine g_iconst C 0 rfl 0 (by decide) ?_
  refine g_istore_n C 1 rfl (Nat.le_of_ble_eq_true rfl) (Or.inr (Or.inr (Or.inl ⟨_, rfl⟩))) ?_
  exact g_wk (s_X7_waitingAt_2 C σ sw_fuel x1 0) ⟨rfl, rfl, rfl, trivial⟩
set_option maxHeartbeats 1000000 in
set_option maxRecDepth 100000 in
theorem m_X7_waitingAt (l : Launch) (dC : Nat → ClassId) (dI : Nat → Nat → Nat) (dA : Nat → ClassId) (ad : Nat → Nat) (hI : sw_inj sw_ZM ad) (σ : sw_St) (x1 : Int32) (b : Int32) (hb : f_X7_waitingAt σ x1 = some b) : sw_M sw_ZM l yX7_waitingAt cX7_waitingAt 5 (some .int) 3 dC dI dA ad [(sw_rv ad 1), (.int x1)] σ ((sw_eP σ) b) :=
  sw_mk1 (ψ := (sw_eP σ)) 3 (by decide) sw_ZMok hI dk_X7_waitingAt rfl (sw_c1_all _ ⟨sw_rv_cat _ _, rfl, trivial⟩) hb (fun p e R M C => s_X7_waitingAt C σ x1)
/-! SplitWatchModel.begins(IIII)V -/
def L_X7_begins : sw_Is := [(0, .aload_n 0, 1, 1), (1, .getfield 37, 3, 4), (4, .iload_n 1, 1, 5), (5, .iload_n 2, 1, 6), (6, .iastore, 1, 7), (7, .aload_n 0, 1, 8), (8, .getfield 40, 3, 11), (11, .iload_n 1, 1, 12), (12, .iload_n 3, 1, 13), (13, .iastore, 1, 14), (14, .aload_n 0, 1, 15), (15, .getfield 43, 3, 18), (18, .iload_n 1, 1, 19), (19, .iload 4, 2, 21), (21, .iastore, 1, 22), (22, .aload_n 0, 1, 23), (23, .getfield 46, 3, 26), (26, .iload_n 1, 1, 27), (27, .aload_n 0, 1, 28), (28, .getfield 94, 3, 31), (31, .iastore, 1, 32), (32, .return_, 1, 33)]
theorem dk_X7_begins : sw_dc cX7_begins L_X7_begins = true := by decide +kernel
def f_X7_begins (σ : sw_St) (x1 : Int32) (x2 : Int32) (x3 : Int32) (x4 : Int32) : Option sw_St := sw_ck (sw_in x1 4) (sw_pt σ 11 (sw_ix x1) x2 fun s2 => (sw_pt s2 12 (sw_ix x1) x3 fun s3 => (sw_pt s3 13 (sw_ix x1) x4 fun s4 => (sw_pt s4 14 (sw_ix x1) (s4 1 4) fun s5 => (some s5)))))
set_option maxHeartbeats 1000000 in
set_option maxRecDepth 100000 in
theorem s_X7_begins {V : sw_V} (C : sw_Cx sw_ZM V cX7_begins RX7 5 none L_X7_begins 0) (σ : sw_St) (x1 : Int32) (x2 : Int32) (x3 : Int32) (x4 : Int32) : sw_S sw_ZM V sw_eV [some (sw_r V 1), some (.int x1), some (.int x2), some (.int x3), some (.int x4)] [] 0 σ (f_X7_begins σ x1 x2 x3 x4) := by
  unfold f_X7_begins
  refine g_aload_n C 0 rfl rfl ?_
  refine g_getR C 1 rfl fl_X7_37 rfl rfl ?_
  refine g_iload_n C 2 rfl rfl ?_
  refine g_iload_n C 3 rfl rfl ?_
  refine g_ck fun h1 => ?_
  refine g_iast C 4 rfl rfl h1 (fun s2 => ?_)
  refine g_aload_n C 5 rfl rfl ?_
  refine g_getR C 6 rfl fl_X7_40 rfl rfl ?_
  refine g_iload_n C 7 rfl rfl ?_
  refine g_iload_n C 8 rfl rfl ?_
  refine g_iast C 9 rfl rfl h1 (fun s3 => ?_)
  refine g_aload_n C 10 rfl rfl ?_
  refine g_getR C 11 rfl fl_X7_43 rfl rfl ?_
  refine g_iload_n C 12 rfl rfl ?_
  refine g_iload C 13 rfl rfl ?_
  refine g_iast C 14 rfl rfl h1 (fun s4 => ?_)
  refine g_aload_n C 15 rfl rfl ?_
  refine g_getR C 16 rfl fl_X7_46 rfl rfl ?_
  refine g_iload_n C 17 rfl rfl ?_
  refine g_aload_n C 18 rfl rfl ?_
  refine g_getI C 19 rfl fl_X7_94 rfl rfl ?_
  refine g_iast C 20 rfl rfl h1 (fun s5 => ?_)
  exact g_vret C 21 rfl rfl
set_option maxHeartbeats 1000000 in
set_option maxRecDepth 100000 in
theorem m_X7_begins (l : Launch) (dC : Nat → ClassId) (dI : Nat → Nat → Nat) (dA : Nat → ClassId) (ad : Nat → Nat) (hI : sw_inj sw_ZM ad) (σ : sw_St) (x1 : Int32) (x2 : Int32) (x3 : Int32) (x4 : Int32) (b : sw_St) (hb : f_X7_begins σ x1 x2 x3 x4 = some b) : sw_M sw_ZM l yX7_begins cX7_begins 5 none 0 dC dI dA ad [(sw_rv ad 1), (.int x1), (.int x2), (.int x3), (.int x4)] σ (sw_eV b) :=
  sw_mk1 (ψ := sw_eV) 0 (by decide) sw_ZMok hI dk_X7_begins rfl (sw_c1_all _ ⟨sw_rv_cat _ _, rfl, rfl, rfl, rfl, trivial⟩) hb (fun p e R M C => s_X7_begins C σ x1 x2 x3 x4)
/-! SplitWatchModel.isHere(II)Z -/
def L_X7_isHere : sw_Is := [(0, .aload_n 0, 1, 1), (1, .iload_n 1, 1, 2), (2, .iload_n 2, 1, 3), (3, .invokevirtual 123, 3, 6), (6, .bipush (-4), 2, 8), (8, .if_icmp .ne 35, 3, 11), (11, .aload_n 0, 1, 12), (12, .iload_n 1, 1, 13), (13, .iload_n 2, 1, 14), (14, .invokevirtual 142, 3, 17), (17, .bipush (-4), 2, 19), (19, .if_icmp .eq 24, 3, 22), (22, .aload_n 0, 1, 23), (23, .iload_n 1, 1, 24), (24, .iload_n 2, 1, 25), (25, .invokevirtual 175, 3, 28), (28, .istore_n 3, 1, 29), (29, .aload_n 0, 1, 30), (30, .iload_n 1, 1, 31), (31, .iload_n 2, 1, 32), (32, .invokevirtual 178, 3, 35), (35, .aload_n 0, 1, 36), (36, .iload_n 1, 1, 37), (37, .iload_n 2, 1, 38), (38, .iload_n 3, 1, 39), (39, .iconst 3, 1, 40), (40, .invokevirtual 181, 3, 43), (43, .aload_n 0, 1, 44), (44, .iload_n 1, 1, 45), (45, .iload_n 2, 1, 46), (46, .invokevirtual 123, 3, 49), (49, .bipush (-4), 2, 51), (51, .if_icmp .eq 7, 3, 54), (54, .iconst 1, 1, 55), (55, .goto 4, 3, 58), (58, .iconst 0, 1, 59), (59, .ireturn, 1, 60)]
theorem dk_X7_isHere : sw_dc cX7_isHere L_X7_isHere = true := by decide +kernel
def f_X7_isHere_43  (σ : sw_St) (x1 : Int32) (x2 : Int32) : Option (Int32 × sw_St) := (f_X7_at σ x1 x2).bind fun r1 => (if r1 = (-4) then (some (0, σ)) else (some (1, σ)))
def f_X7_isHere (σ : sw_St) (x1 : Int32) (x2 : Int32) : Option (Int32 × sw_St) := (f_X7_at σ x1 x2).bind fun r1 => (if r1 = (-4) then ((f_X7_backAt σ x1 x2).bind fun r2 => (if r2 = (-4) then (f_X7_isHere_43 σ x1 x2) else ((f_X7_outOfBuffer σ x1 x2).bind fun r3 => ((f_X7_noBack r3.2 x1 x2).bind fun r4 => ((f_X7_fill r4 x1 x2 r3.1 3).bind fun r5 => (f_X7_isHere_43 r5 x1 x2)))))) else (f_X7_isHere_43 σ x1 x2))
set_option maxHeartbeats 1000000 in
set_option maxRecDepth 100000 in
theorem s_X7_isHere_43 {V : sw_V} (C : sw_Cx sw_ZM V cX7_isHere RX7 4 (some .boolean) L_X7_isHere 4) (σ : sw_St) (x1 : Int32) (x2 : Int32) : sw_S sw_ZM V sw_eI [some (sw_r V 1), some (.int x1), some (.int x2), none] [] 43 σ (f_X7_isHere_43 σ x1 x2) := by
  unfold f_X7_isHere_43
  refine g_aload_n C 27 rfl rfl ?_
  refine g_iload_n C 28 rfl rfl ?_
  refine g_iload_n C 29 rfl rfl ?_
  refine g_callV (ψ₁ := sw_eP σ) C 30 rfl [(.int x1), (.int x2)] [] ml_X7_123 rfl (Nat.le_of_ble_eq_true rfl) (by decide) rfl rfl (fun b hb => m_X7_at V.1.2.1 _ _ _ _ C.inj σ x1 x2 b hb) rfl (g_cP fun r1 => ?_)
  refine g_bipush C 31 rfl (-4) (by decide) ?_
  refine g_icmp_eq C 32 rfl 58 (by decide) ?_ ?_
  · refine g_iconst C 35 rfl 0 (by decide) ?_
    skip
    exact g_zret C 36 rfl rfl rfl
  · refine g_iconst C 33 rfl 1 (by decide) ?_
    refine g_goto C 34 rfl 59 (by decide) ?_
    skip
    exact g_zret C 36 rfl rfl rfl
set_option maxHeartbeats 1000000 in
set_option maxRecDepth 100000 in
theorem s_X7_isHere {V : sw_V} (C : sw_Cx sw_ZM V cX7_isHere RX7 4 (some .boolean) L_X7_isHere 4) (σ : sw_St) (x1 : Int32) (x2 : Int32) : sw_S sw_ZM V sw_eI [some (sw_r V 1), some (.int x1), some (.int x2), none] [] 0 σ (f_X7_isHere σ x1 x2) := by
  unfold f_X7_isHere
  refine g_aload_n C 0 rfl rfl ?_
  refine g_iload_n C 1 rfl rfl ?_
  refine g_iload_n C 2 rfl rfl ?_
  refine g_callV (ψ₁ := sw_eP σ) C 3 rfl [(.int x1), (.int x2)] [] ml_X7_123 rfl (Nat.le_of_ble_eq_true rfl) (by decide) rfl rfl (fun b hb => m_X7_at V.1.2.1 _ _ _ _ C.inj σ x1 x2 b hb) rfl (g_cP fun r1 => ?_)
  refine g_bipush C 4 rfl (-4) (by decide) ?_
  refine g_icmp_ne C 5 rfl 43 (by decide) ?_ ?_
  · exact g_wk (s_X7_isHere_43 C σ x1 x2) ⟨rfl, rfl, rfl, trivial⟩
  · refine g_aload_n C 6 rfl rfl ?_
    refine g_iload_n C 7 rfl rfl ?_
    refine g_iload_n C 8 rfl rfl ?_
    refine g_callV (ψ₁ := sw_eP σ) C 9 rfl [(.int x1), (.int x2)] [] ml_X7_142 rfl (Nat.le_of_ble_eq_true rfl) (by decide) rfl rfl (fun b hb => m_X7_backAt V.1.2.1 _ _ _ _ C.inj σ x1 x2 b hb) rfl (g_cP fun r2 => ?_)
    refine g_bipush C 10 rfl (-4) (by decide) ?_
    refine g_icmp_eq C 11 rfl 43 (by decide) ?_ ?_
    · exact g_wk (s_X7_isHere_43 C σ x1 x2) ⟨rfl, rfl, rfl, trivial⟩
    · refine g_aload_n C 12 rfl rfl ?_
      refine g_iload_n C 13 rfl rfl ?_
      refine g_iload_n C 14 rfl rfl ?_
      refine g_callV (ψ₁ := sw_eI) C 15 rfl [(.int x1), (.int x2)] [] ml_X7_175 rfl (Nat.le_of_ble_eq_true rfl) (by decide) rfl rfl (fun b hb => m_X7_outOfBuffer V.1.2.1 _ _ _ _ C.inj σ x1 x2 b hb) rfl (g_cI fun r3 => ?_)
      refine g_istore_n C 16 rfl (Nat.le_of_ble_eq_true rfl) (Or.inr (Or.inr (Or.inl ⟨_, rfl⟩))) ?_
      refine g_aload_n C 17 rfl rfl ?_
      refine g_iload_n C 18 rfl rfl ?_
      refine g_iload_n C 19 rfl rfl ?_
      refine g_callV (ψ₁ := sw_eV) C 20 rfl [(.int x1), (.int x2)] [] ml_X7_178 rfl (Nat.le_of_ble_eq_true rfl) (by decide) rfl rfl (fun b hb => m_X7_noBack V.1.2.1 _ _ _ _ C.inj r3.2 x1 x2 b hb) rfl (g_cV fun r4 => ?_)
      refine g_aload_n C 21 rfl rfl ?_
      refine g_iload_n C 22 rfl rfl ?_
      refine g_iload_n C 23 rfl rfl ?_
      refine g_iload_n C 24 rfl rfl ?_
      refine g_iconst C 25 rfl 3 (by decide) ?_
      refine g_callV (ψ₁ := sw_eV) C 26 rfl [(.int x1), (.int x2), (.int r3.1), (.int 3)] [] ml_X7_181 rfl (Nat.le_of_ble_eq_true rfl) (by decide) rfl rfl (fun b hb => m_X7_fill V.1.2.1 _ _ _ _ C.inj r4 x1 x2 r3.1 3 b hb) rfl (g_cV fun r5 => ?_)
      exact g_wk (s_X7_isHere_43 C r5 x1 x2) ⟨rfl, rfl, rfl, trivial⟩
set_option maxHeartbeats 1000000 in
set_option maxRecDepth 100000 in
theorem m_X7_isHere (l : Launch) (dC : Nat → ClassId) (dI : Nat → Nat → Nat) (dA : Nat → ClassId) (ad : Nat → Nat) (hI : sw_inj sw_ZM ad) (σ : sw_St) (x1 : Int32) (x2 : Int32) (b : (Int32 × sw_St)) (hb : f_X7_isHere σ x1 x2 = some b) : sw_M sw_ZM l yX7_isHere cX7_isHere 4 (some .boolean) 4 dC dI dA ad [(sw_rv ad 1), (.int x1), (.int x2)] σ (sw_eI b) :=
  sw_mk1 (ψ := sw_eI) 1 (by decide) sw_ZMok hI dk_X7_isHere rfl (sw_c1_all _ ⟨sw_rv_cat _ _, rfl, rfl, trivial⟩) hb (fun p e R M C => s_X7_isHere C σ x1 x2)
/-! SplitWatchModel.read(II)I -/
def L_X7_read : sw_Is := [(0, .aload_n 0, 1, 1), (1, .iload_n 1, 1, 2), (2, .invokevirtual 160, 3, 5), (5, .ifCond .eq 10, 3, 8), (8, .iload_n 2, 1, 9), (9, .invokestatic 163, 3, 12), (12, .ifCond .ne 5, 3, 15), (15, .iconst (-1), 1, 16), (16, .ireturn, 1, 17), (17, .aload_n 0, 1, 18), (18, .getfield 37, 3, 21), (21, .iload_n 1, 1, 22), (22, .iaload, 1, 23), (23, .ifCond .eq 6, 3, 26), (26, .bipush (-2), 2, 28), (28, .ireturn, 1, 29), (29, .aload_n 0, 1, 30), (30, .iload_n 1, 1, 31), (31, .iload_n 2, 1, 32), (32, .invokevirtual 166, 3, 35), (35, .ifCond .ne 21, 3, 38), (38, .aload_n 0, 1, 39), (39, .iload_n 1, 1, 40), (40, .iconst 1, 1, 41), (41, .iload_n 2, 1, 42), (42, .iconst 0, 1, 43), (43, .invokevirtual 169, 3, 46), (46, .aload_n 0, 1, 47), (47, .iconst 0, 1, 48), (48, .iload_n 1, 1, 49), (49, .iload_n 2, 1, 50), (50, .invokevirtual 138, 3, 53), (53, .bipush (-5), 2, 55), (55, .ireturn, 1, 56), (56, .aload_n 0, 1, 57), (57, .iload_n 1, 1, 58), (58, .iload_n 2, 1, 59), (59, .invokevirtual 123, 3, 62), (62, .istore_n 3, 1, 63), (63, .aload_n 0, 1, 64), (64, .getfield 34, 3, 67), (67, .iload_n 1, 1, 68), (68, .aload_n 0, 1, 69), (69, .getfield 19, 3, 72), (72, .iload_n 3, 1, 73), (73, .iaload, 1, 74), (74, .iastore, 1, 75), (75, .aload_n 0, 1, 76), (76, .iload_n 1, 1, 77), (77, .iload_n 2, 1, 78), (78, .aload_n 0, 1, 79), (79, .getfield 19, 3, 82), (82, .iload_n 3, 1, 83), (83, .iaload, 1, 84), (84, .aload_n 0, 1, 85), (85, .getfield 22, 3, 88), (88, .iload_n 3, 1, 89), (89, .iaload, 1, 90), (90, .invokevirtual 172, 3, 93), (93, .aload_n 0, 1, 94), (94, .dup, 1, 95), (95, .getfield 115, 3, 98), (98, .iconst 1, 1, 99), (99, .iadd, 1, 100), (100, .putfield 115, 3, 103), (103, .aload_n 0, 1, 104), (104, .getfield 34, 3, 107), (107, .iload_n 1, 1, 108), (108, .iaload, 1, 109), (109, .ireturn, 1, 110)]
theorem dk_X7_read : sw_dc cX7_read L_X7_read = true := by decide +kernel
def f_X7_read (σ : sw_St) (x1 : Int32) (x2 : Int32) : Option (Int32 × sw_St) := (f_X7_isCore σ x1).bind fun r1 => (if r1 = 0 then (some ((-1), σ)) else ((f_X7_isLine σ x2).bind fun r2 => (if r2 = 0 then (some ((-1), σ)) else (sw_ck (sw_in x1 4) (if (σ 11 (sw_ix x1)) = 0 then ((f_X7_isHere σ x1 x2).bind fun r4 => (if r4.1 = 0 then ((f_X7_begins r4.2 x1 1 x2 0).bind fun r10 => ((f_X7_asks r10 0 x1 x2).bind fun r11 => (some ((-5), r11)))) else ((f_X7_at r4.2 x1 x2).bind fun r5 => (sw_ck (sw_in r5 16) (sw_pt r4.2 10 (sw_ix x1) (r4.2 5 (sw_ix r5)) fun s7 => ((f_X7_use s7 x1 x2 (s7 5 (sw_ix r5)) (s7 6 (sw_ix r5))).bind fun r8 => (sw_pt r8 1 27 ((r8 1 27) + 1) fun s9 => (some ((s9 10 (sw_ix x1)), s9))))))))) else (some ((-2), σ)))))))
set_option maxHeartbeats 1000000 in
set_option maxRecDepth 100000 in
theorem s_X7_read {V : sw_V} (C : sw_Cx sw_ZM V cX7_read RX7 4 (some .int) L_X7_read 5) (σ : sw_St) (x1 : Int32) (x2 : Int32) : sw_S sw_ZM V sw_eI [some (sw_r V 1), some (.int x1), some (.int x2), none] [] 0 σ (f_X7_read σ x1 x2) := by
  unfold f_X7_read
  refine g_aload_n C 0 rfl rfl ?_
  refine g_iload_n C 1 rfl rfl ?_
  refine g_callV (ψ₁ := sw_eP σ) C 2 rfl [(.int x1)] [] ml_X7_160 rfl (Nat.le_of_ble_eq_true rfl) (by decide) rfl rfl (fun b hb => m_X7_isCore V.1.2.1 _ _ _ _ C.inj σ x1 b hb) rfl (g_cP fun r1 => ?_)
  refine g_if_eq C 3 rfl 15 (by decide) ?_ ?_
  · refine g_iconst C 7 rfl (-1) (by decide) ?_
    skip
    exact g_iret C 8 rfl rfl
  · refine g_iload_n C 4 rfl rfl ?_
    refine g_callS (ψ₁ := sw_eP σ) C 5 rfl [(.int x2)] [] ml_X7_163 rfl (Nat.le_of_ble_eq_true rfl) (by decide) (fun b hb => m_X7_isLine V.1.2.1 _ _ _ _ C.inj σ x2 b hb) rfl (g_cP fun r2 => ?_)
    refine g_if_ne C 6 rfl 17 (by decide) ?_ ?_
    · refine g_aload_n C 9 rfl rfl ?_
      refine g_getR C 10 rfl fl_X7_37 rfl rfl ?_
      refine g_iload_n C 11 rfl rfl ?_
      refine g_ck fun h3 => ?_
      refine g_iald C 12 rfl rfl h3 ?_
      refine g_if_eq C 13 rfl 29 (by decide) ?_ ?_
      · refine g_aload_n C 16 rfl rfl ?_
        refine g_iload_n C 17 rfl rfl ?_
        refine g_iload_n C 18 rfl rfl ?_
        refine g_callV (ψ₁ := sw_eI) C 19 rfl [(.int x1), (.int x2)] [] ml_X7_166 rfl (Nat.le_of_ble_eq_true rfl) (by decide) rfl rfl (fun b hb => m_X7_isHere V.1.2.1 _ _ _ _ C.inj σ x1 x2 b hb) rfl (g_cI fun r4 => ?_)
        refine g_if_ne C 20 rfl 56 (by decide) ?_ ?_
        · refine g_aload_n C 34 rfl rfl ?_
          refine g_iload_n C 35 rfl rfl ?_
          refine g_iload_n C 36 rfl rfl ?_
          refine g_callV (ψ₁ := sw_eP r4.2) C 37 rfl [(.int x1), (.int x2)] [] ml_X7_123 rfl (Nat.le_of_ble_eq_true rfl) (by decide) rfl rfl (fun b hb => m_X7_at V.1.2.1 _ _ _ _ C.inj r4.2 x1 x2 b hb) rfl (g_cP fun r5 => ?_)
          refine g_istore_n C 38 rfl (Nat.le_of_ble_eq_true rfl) (Or.inr (Or.inr (Or.inl ⟨_, rfl⟩))) ?_
          refine g_aload_n C 39 rfl rfl ?_
          refine g_getR C 40 rfl fl_X7_34 rfl rfl ?_
          refine g_iload_n C 41 rfl rfl ?_
          refine g_aload_n C 42 rfl rfl ?_
          refine g_getR C 43 rfl fl_X7_19 rfl rfl ?_
          refine g_iload_n C 44 rfl rfl ?_
          refine g_ck fun h6 => ?_
          refine g_iald C 45 rfl rfl h6 ?_
          refine g_iast C 46 rfl rfl h3 (fun s7 => ?_)
          refine g_aload_n C 47 rfl rfl ?_
          refine g_iload_n C 48 rfl rfl ?_
          refine g_iload_n C 49 rfl rfl ?_
          refine g_aload_n C 50 rfl rfl ?_
          refine g_getR C 51 rfl fl_X7_19 rfl rfl ?_
          refine g_iload_n C 52 rfl rfl ?_
          refine g_iald C 53 rfl rfl h6 ?_
          refine g_aload_n C 54 rfl rfl ?_
          refine g_getR C 55 rfl fl_X7_22 rfl rfl ?_
          refine g_iload_n C 56 rfl rfl ?_
          refine g_iald C 57 rfl rfl h6 ?_
          refine g_callV (ψ₁ := sw_eV) C 58 rfl [(.int x1), (.int x2), (.int (s7 5 (sw_ix r5))), (.int (s7 6 (sw_ix r5)))] [] ml_X7_172 rfl (Nat.le_of_ble_eq_true rfl) (by decide) rfl rfl (fun b hb => m_X7_use V.1.2.1 _ _ _ _ C.inj s7 x1 x2 (s7 5 (sw_ix r5)) (s7 6 (sw_ix r5)) b hb) rfl (g_cV fun r8 => ?_)
          refine g_aload_n C 59 rfl rfl ?_
          refine g_dupR C 60 rfl ?_
          refine g_getI C 61 rfl fl_X7_115 rfl rfl ?_
          refine g_iconst C 62 rfl 1 (by decide) ?_
          refine g_iadd C 63 rfl ?_
          refine g_put C 64 rfl fp_X7_115 rfl rfl (fun s9 => ?_)
          refine g_aload_n C 65 rfl rfl ?_
          refine g_getR C 66 rfl fl_X7_34 rfl rfl ?_
          refine g_iload_n C 67 rfl rfl ?_
          refine g_iald C 68 rfl rfl h3 ?_
          skip
          exact g_iret C 69 rfl rfl
        · refine g_aload_n C 21 rfl rfl ?_
          refine g_iload_n C 22 rfl rfl ?_
          refine g_iconst C 23 rfl 1 (by decide) ?_
          refine g_iload_n C 24 rfl rfl ?_
          refine g_iconst C 25 rfl 0 (by decide) ?_
          refine g_callV (ψ₁ := sw_eV) C 26 rfl [(.int x1), (.int 1), (.int x2), (.int 0)] [] ml_X7_169 rfl (Nat.le_of_ble_eq_true rfl) (by decide) rfl rfl (fun b hb => m_X7_begins V.1.2.1 _ _ _ _ C.inj r4.2 x1 1 x2 0 b hb) rfl (g_cV fun r10 => ?_)
          refine g_aload_n C 27 rfl rfl ?_
          refine g_iconst C 28 rfl 0 (by decide) ?_
          refine g_iload_n C 29 rfl rfl ?_
          refine g_iload_n C 30 rfl rfl ?_
          refine g_callV (ψ₁ := sw_eV) C 31 rfl [(.int 0), (.int x1), (.int x2)] [] ml_X7_138 rfl (Nat.le_of_ble_eq_true rfl) (by decide) rfl rfl (fun b hb => m_X7_asks V.1.2.1 _ _ _ _ C.inj r10 0 x1 x2 b hb) rfl (g_cV fun r11 => ?_)
          refine g_bipush C 32 rfl (-5) (by decide) ?_
          skip
          exact g_iret C 33 rfl rfl
      · refine g_bipush C 14 rfl (-2) (by decide) ?_
        skip
        exact g_iret C 15 rfl rfl
    · refine g_iconst C 7 rfl (-1) (by decide) ?_
      skip
      exact g_iret C 8 rfl rfl
set_option maxHeartbeats 1000000 in
set_option maxRecDepth 100000 in
theorem m_X7_read (l : Launch) (dC : Nat → ClassId) (dI : Nat → Nat → Nat) (dA : Nat → ClassId) (ad : Nat → Nat) (hI : sw_inj sw_ZM ad) (σ : sw_St) (x1 : Int32) (x2 : Int32) (b : (Int32 × sw_St)) (hb : f_X7_read σ x1 x2 = some b) : sw_M sw_ZM l yX7_read cX7_read 4 (some .int) 5 dC dI dA ad [(sw_rv ad 1), (.int x1), (.int x2)] σ (sw_eI b) :=
  sw_mk1 (ψ := sw_eI) 1 (by decide) sw_ZMok hI dk_X7_read rfl (sw_c1_all _ ⟨sw_rv_cat _ _, rfl, rfl, trivial⟩) hb (fun p e R M C => s_X7_read C σ x1 x2)
/-! SplitWatchModel.store(III)I -/
def L_X7_store : sw_Is := [(0, .aload_n 0, 1, 1), (1, .iload_n 1, 1, 2), (2, .invokevirtual 160, 3, 5), (5, .ifCond .eq 22, 3, 8), (8, .iload_n 2, 1, 9), (9, .invokestatic 163, 3, 12), (12, .ifCond .eq 15, 3, 15), (15, .iload_n 3, 1, 16), (16, .i2l, 1, 17), (17, .lconst 0, 1, 18), (18, .ldc2_w 184, 3, 21), (21, .invokestatic 75, 3, 24), (24, .ifCond .ne 5, 3, 27), (27, .iconst (-1), 1, 28), (28, .ireturn, 1, 29), (29, .aload_n 0, 1, 30), (30, .getfield 37, 3, 33), (33, .iload_n 1, 1, 34), (34, .iaload, 1, 35), (35, .ifCond .eq 6, 3, 38), (38, .bipush (-2), 2, 40), (40, .ireturn, 1, 41), (41, .aload_n 0, 1, 42), (42, .iload_n 1, 1, 43), (43, .iload_n 2, 1, 44), (44, .invokevirtual 166, 3, 47), (47, .istore 4, 2, 49), (49, .iload 4, 2, 51), (51, .ifCond .eq 33, 3, 54), (54, .aload_n 0, 1, 55), (55, .iload_n 1, 1, 56), (56, .iload_n 2, 1, 57), (57, .invokevirtual 186, 3, 60), (60, .iconst 2, 1, 61), (61, .if_icmp .lt 23, 3, 64), (64, .aload_n 0, 1, 65), (65, .iload_n 1, 1, 66), (66, .iload_n 2, 1, 67), (67, .iload_n 3, 1, 68), (68, .iconst 3, 1, 69), (69, .invokevirtual 172, 3, 72), (72, .aload_n 0, 1, 73), (73, .dup, 1, 74), (74, .getfield 115, 3, 77), (77, .iconst 1, 1, 78), (78, .iadd, 1, 79), (79, .putfield 115, 3, 82), (82, .iconst 0, 1, 83), (83, .ireturn, 1, 84), (84, .aload_n 0, 1, 85), (85, .iload_n 1, 1, 86), (86, .iconst 2, 1, 87), (87, .iload_n 2, 1, 88), (88, .iload_n 3, 1, 89), (89, .invokevirtual 169, 3, 92), (92, .aload_n 0, 1, 93), (93, .iload 4, 2, 95), (95, .ifCond .eq 7, 3, 98), (98, .iconst 2, 1, 99), (99, .goto 4, 3, 102), (102, .iconst 1, 1, 103), (103, .iload_n 1, 1, 104), (104, .iload_n 2, 1, 105), (105, .invokevirtual 138, 3, 108), (108, .bipush (-5), 2, 110), (110, .ireturn, 1, 111)]
theorem dk_X7_store : sw_dc cX7_store L_X7_store = true := by decide +kernel
def f_X7_store_103  (σ : sw_St) (x1 : Int32) (x2 : Int32) (y0 : Int32) : Option (Int32 × sw_St) := (f_X7_asks σ y0 x1 x2).bind fun r1 => (some ((-5), r1))
def f_X7_store_84  (σ : sw_St) (x1 : Int32) (x2 : Int32) (x3 : Int32) (x4 : Int32) : Option (Int32 × sw_St) := (f_X7_begins σ x1 2 x2 x3).bind fun r1 => (if x4 = 0 then (f_X7_store_103 r1 x1 x2 1) else (f_X7_store_103 r1 x1 x2 2))
def f_X7_store (σ : sw_St) (x1 : Int32) (x2 : Int32) (x3 : Int32) : Option (Int32 × sw_St) := (f_X7_isCore σ x1).bind fun r1 => (if r1 = 0 then (some ((-1), σ)) else ((f_X7_isLine σ x2).bind fun r2 => (if r2 = 0 then (some ((-1), σ)) else ((f_X7_in σ (Int32.toInt64 x3) (0 : Int64) (9999 : Int64)).bind fun r3 => (if r3 = 0 then (some ((-1), σ)) else (sw_ck (sw_in x1 4) (if (σ 11 (sw_ix x1)) = 0 then ((f_X7_isHere σ x1 x2).bind fun r5 => (if r5.1 = 0 then (f_X7_store_84 r5.2 x1 x2 x3 r5.1) else ((f_X7_howOf r5.2 x1 x2).bind fun r6 => (if r6 < 2 then (f_X7_store_84 r5.2 x1 x2 x3 r5.1) else ((f_X7_use r5.2 x1 x2 x3 3).bind fun r7 => (sw_pt r7 1 27 ((r7 1 27) + 1) fun s8 => (some (0, s8)))))))) else (some ((-2), σ)))))))))
set_option maxHeartbeats 1000000 in
set_option maxRecDepth 100000 in
theorem s_X7_store_103 {V : sw_V} (C : sw_Cx sw_ZM V cX7_store RX7 5 (some .int) L_X7_store 5) (σ : sw_St) (x1 : Int32) (x2 : Int32) (y0 : Int32) : sw_S sw_ZM V sw_eI [none, some (.int x1), some (.int x2), none, none] [(.int y0), (sw_r V 1)] 103 σ (f_X7_store_103 σ x1 x2 y0) := by
  unfold f_X7_store_103
  refine g_iload_n C 61 rfl rfl ?_
  refine g_iload_n C 62 rfl rfl ?_
  refine g_callV (ψ₁ := sw_eV) C 63 rfl [(.int y0), (.int x1), (.int x2)] [] ml_X7_138 rfl (Nat.le_of_ble_eq_true rfl) (by decide) rfl rfl (fun b hb => m_X7_asks V.1.2.1 _ _ _ _ C.inj σ y0 x1 x2 b hb) rfl (g_cV fun r1 => ?_)
  refine g_bipush C 64 rfl (-5) (by decide) ?_
  skip
  exact g_iret C 65 rfl rfl
set_option maxHeartbeats 1000000 in
set_option maxRecDepth 100000 in
theorem s_X7_store_84 {V : sw_V} (C : sw_Cx sw_ZM V cX7_store RX7 5 (some .int) L_X7_store 5) (σ : sw_St) (x1 : Int32) (x2 : Int32) (x3 : Int32) (x4 : Int32) : sw_S sw_ZM V sw_eI [some (sw_r V 1), some (.int x1), some (.int x2), some (.int x3), some (.int x4)] [] 84 σ (f_X7_store_84 σ x1 x2 x3 x4) := by
  unfold f_X7_store_84
  refine g_aload_n C 49 rfl rfl ?_
  refine g_iload_n C 50 rfl rfl ?_
  refine g_iconst C 51 rfl 2 (by decide) ?_
  refine g_iload_n C 52 rfl rfl ?_
  refine g_iload_n C 53 rfl rfl ?_
  refine g_callV (ψ₁ := sw_eV) C 54 rfl [(.int x1), (.int 2), (.int x2), (.int x3)] [] ml_X7_169 rfl (Nat.le_of_ble_eq_true rfl) (by decide) rfl rfl (fun b hb => m_X7_begins V.1.2.1 _ _ _ _ C.inj σ x1 2 x2 x3 b hb) rfl (g_cV fun r1 => ?_)
  refine g_aload_n C 55 rfl rfl ?_
  refine g_iload C 56 rfl rfl ?_
  refine g_if_eq C 57 rfl 102 (by decide) ?_ ?_
  · refine g_iconst C 60 rfl 1 (by decide) ?_
    exact g_wk (s_X7_store_103 C r1 x1 x2 1) ⟨rfl, rfl, trivial⟩
  · refine g_iconst C 58 rfl 2 (by decide) ?_
    refine g_goto C 59 rfl 103 (by decide) ?_
    exact g_wk (s_X7_store_103 C r1 x1 x2 2) ⟨rfl, rfl, trivial⟩
set_option maxHeartbeats 1000000 in
set_option maxRecDepth 100000 in
theorem s_X7_store {V : sw_V} (C : sw_Cx sw_ZM V cX7_store RX7 5 (some .int) L_X7_store 5) (σ : sw_St) (x1 : Int32) (x2 : Int32) (x3 : Int32) : sw_S sw_ZM V sw_eI [some (sw_r V 1), some (.int x1), some (.int x2), some (.int x3), none] [] 0 σ (f_X7_store σ x1 x2 x3) := by
  unfold f_X7_store
  refine g_aload_n C 0 rfl rfl ?_
  refine g_iload_n C 1 rfl rfl ?_
  refine g_callV (ψ₁ := sw_eP σ) C 2 rfl [(.int x1)] [] ml_X7_160 rfl (Nat.le_of_ble_eq_true rfl) (by decide) rfl rfl (fun b hb => m_X7_isCore V.1.2.1 _ _ _ _ C.inj σ x1 b hb) rfl (g_cP fun r1 => ?_)
  refine g_if_eq C 3 rfl 27 (by decide) ?_ ?_
  · refine g_iconst C 13 rfl (-1) (by decide) ?_
    skip
    exact g_iret C 14 rfl rfl
  · refine g_iload_n C 4 rfl rfl ?_
    refine g_callS (ψ₁ := sw_eP σ) C 5 rfl [(.int x2)] [] ml_X7_163 rfl (Nat.le_of_ble_eq_true rfl) (by decide) (fun b hb => m_X7_isLine V.1.2.1 _ _ _ _ C.inj σ x2 b hb) rfl (g_cP fun r2 => ?_)
    refine g_if_eq C 6 rfl 27 (by decide) ?_ ?_
    · refine g_iconst C 13 rfl (-1) (by decide) ?_
      skip
      exact g_iret C 14 rfl rfl
    · refine g_iload_n C 7 rfl rfl ?_
      refine g_i2l C 8 rfl ?_
      refine g_lconst C 9 rfl (0 : Int64) (by decide) ?_
      refine g_ldc2 C 10 rfl (9999 : Int64) q_950 ?_
      refine g_callS (ψ₁ := sw_eP σ) C 11 rfl [(.long (Int32.toInt64 x3)), (.long (0 : Int64)), (.long (9999 : Int64))] [] ml_X7_75 rfl (Nat.le_of_ble_eq_true rfl) (by decide) (fun b hb => m_X7_in V.1.2.1 _ _ _ _ C.inj σ (Int32.toInt64 x3) (0 : Int64) (9999 : Int64) b hb) rfl (g_cP fun r3 => ?_)
      refine g_if_ne C 12 rfl 29 (by decide) ?_ ?_
      · refine g_aload_n C 15 rfl rfl ?_
        refine g_getR C 16 rfl fl_X7_37 rfl rfl ?_
        refine g_iload_n C 17 rfl rfl ?_
        refine g_ck fun h4 => ?_
        refine g_iald C 18 rfl rfl h4 ?_
        refine g_if_eq C 19 rfl 41 (by decide) ?_ ?_
        · refine g_aload_n C 22 rfl rfl ?_
          refine g_iload_n C 23 rfl rfl ?_
          refine g_iload_n C 24 rfl rfl ?_
          refine g_callV (ψ₁ := sw_eI) C 25 rfl [(.int x1), (.int x2)] [] ml_X7_166 rfl (Nat.le_of_ble_eq_true rfl) (by decide) rfl rfl (fun b hb => m_X7_isHere V.1.2.1 _ _ _ _ C.inj σ x1 x2 b hb) rfl (g_cI fun r5 => ?_)
          refine g_istore C 26 rfl (Nat.le_of_ble_eq_true rfl) (Or.inr (Or.inr (Or.inl ⟨_, rfl⟩))) ?_
          refine g_iload C 27 rfl rfl ?_
          refine g_if_eq C 28 rfl 84 (by decide) ?_ ?_
          · exact g_wk (s_X7_store_84 C r5.2 x1 x2 x3 r5.1) ⟨rfl, rfl, rfl, rfl, rfl, trivial⟩
          · refine g_aload_n C 29 rfl rfl ?_
            refine g_iload_n C 30 rfl rfl ?_
            refine g_iload_n C 31 rfl rfl ?_
            refine g_callV (ψ₁ := sw_eP r5.2) C 32 rfl [(.int x1), (.int x2)] [] ml_X7_186 rfl (Nat.le_of_ble_eq_true rfl) (by decide) rfl rfl (fun b hb => m_X7_howOf V.1.2.1 _ _ _ _ C.inj r5.2 x1 x2 b hb) rfl (g_cP fun r6 => ?_)
            refine g_iconst C 33 rfl 2 (by decide) ?_
            refine g_icmp_lt C 34 rfl 84 (by decide) ?_ ?_
            · exact g_wk (s_X7_store_84 C r5.2 x1 x2 x3 r5.1) ⟨rfl, rfl, rfl, rfl, rfl, trivial⟩
            · refine g_aload_n C 35 rfl rfl ?_
              refine g_iload_n C 36 rfl rfl ?_
              refine g_iload_n C 37 rfl rfl ?_
              refine g_iload_n C 38 rfl rfl ?_
              refine g_iconst C 39 rfl 3 (by decide) ?_
              refine g_callV (ψ₁ := sw_eV) C 40 rfl [(.int x1), (.int x2), (.int x3), (.int 3)] [] ml_X7_172 rfl (Nat.le_of_ble_eq_true rfl) (by decide) rfl rfl (fun b hb => m_X7_use V.1.2.1 _ _ _ _ C.inj r5.2 x1 x2 x3 3 b hb) rfl (g_cV fun r7 => ?_)
              refine g_aload_n C 41 rfl rfl ?_
              refine g_dupR C 42 rfl ?_
              refine g_getI C 43 rfl fl_X7_115 rfl rfl ?_
              refine g_iconst C 44 rfl 1 (by decide) ?_
              refine g_iadd C 45 rfl ?_
              refine g_put C 46 rfl fp_X7_115 rfl rfl (fun s8 => ?_)
              refine g_iconst C 47 rfl 0 (by decide) ?_
              skip
              exact g_iret C 48 rfl rfl
        · refine g_bipush C 20 rfl (-2) (by decide) ?_
          skip
          exact g_iret C 21 rfl rfl
      · refine g_iconst C 13 rfl (-1) (by decide) ?_
        skip
        exact g_iret C 14 rfl rfl
set_option maxHeartbeats 1000000 in
set_option maxRecDepth 100000 in
theorem m_X7_store (l : Launch) (dC : Nat → ClassId) (dI : Nat → Nat → Nat) (dA : Nat → ClassId) (ad : Nat → Nat) (hI : sw_inj sw_ZM ad) (σ : sw_St) (x1 : Int32) (x2 : Int32) (x3 : Int32) (b : (Int32 × sw_St)) (hb : f_X7_store σ x1 x2 x3 = some b) : sw_M sw_ZM l yX7_store cX7_store 5 (some .int) 5 dC dI dA ad [(sw_rv ad 1), (.int x1), (.int x2), (.int x3)] σ (sw_eI b) :=
  sw_mk1 (ψ := sw_eI) 1 (by decide) sw_ZMok hI dk_X7_store rfl (sw_c1_all _ ⟨sw_rv_cat _ _, rfl, rfl, rfl, trivial⟩) hb (fun p e R M C => s_X7_store C σ x1 x2 x3)
/-! SplitWatchModel.drop(II)I -/
def L_X7_drop : sw_Is := [(0, .aload_n 0, 1, 1), (1, .iload_n 1, 1, 2), (2, .invokevirtual 160, 3, 5), (5, .ifCond .eq 10, 3, 8), (8, .iload_n 2, 1, 9), (9, .invokestatic 163, 3, 12), (12, .ifCond .ne 5, 3, 15), (15, .iconst (-1), 1, 16), (16, .ireturn, 1, 17), (17, .aload_n 0, 1, 18), (18, .iload_n 1, 1, 19), (19, .iload_n 2, 1, 20), (20, .invokevirtual 186, 3, 23), (23, .istore_n 3, 1, 24), (24, .iload_n 3, 1, 25), (25, .ifCond .ne 6, 3, 28), (28, .bipush (-2), 2, 30), (30, .ireturn, 1, 31), (31, .iload_n 3, 1, 32), (32, .iconst 3, 1, 33), (33, .if_icmp .ne 16, 3, 36), (36, .aload_n 0, 1, 37), (37, .getfield 25, 3, 40), (40, .iload_n 1, 1, 41), (41, .iaload, 1, 42), (42, .iconst 2, 1, 43), (43, .if_icmp .ne 6, 3, 46), (46, .bipush (-3), 2, 48), (48, .ireturn, 1, 49), (49, .aload_n 0, 1, 50), (50, .iload_n 1, 1, 51), (51, .iload_n 2, 1, 52), (52, .invokevirtual 135, 3, 55), (55, .iload_n 3, 1, 56), (56, .ireturn, 1, 57)]
theorem dk_X7_drop : sw_dc cX7_drop L_X7_drop = true := by decide +kernel
def f_X7_drop_49  (σ : sw_St) (x1 : Int32) (x2 : Int32) (x3 : Int32) : Option (Int32 × sw_St) := (f_X7_giveUp σ x1 x2).bind fun r1 => (some (x3, r1))
def f_X7_drop (σ : sw_St) (x1 : Int32) (x2 : Int32) : Option (Int32 × sw_St) := (f_X7_isCore σ x1).bind fun r1 => (if r1 = 0 then (some ((-1), σ)) else ((f_X7_isLine σ x2).bind fun r2 => (if r2 = 0 then (some ((-1), σ)) else ((f_X7_howOf σ x1 x2).bind fun r3 => (if r3 = 0 then (some ((-2), σ)) else (if r3 = 3 then (sw_ck (sw_in x1 4) (if (σ 7 (sw_ix x1)) = 2 then (some ((-3), σ)) else (f_X7_drop_49 σ x1 x2 r3))) else (f_X7_drop_49 σ x1 x2 r3)))))))
set_option maxHeartbeats 1000000 in
set_option maxRecDepth 100000 in
theorem s_X7_drop_49 {V : sw_V} (C : sw_Cx sw_ZM V cX7_drop RX7 4 (some .int) L_X7_drop 3) (σ : sw_St) (x1 : Int32) (x2 : Int32) (x3 : Int32) : sw_S sw_ZM V sw_eI [some (sw_r V 1), some (.int x1), some (.int x2), some (.int x3)] [] 49 σ (f_X7_drop_49 σ x1 x2 x3) := by
  unfold f_X7_drop_49
  refine g_aload_n C 29 rfl rfl ?_
  refine g_iload_n C 30 rfl rfl ?_
  refine g_iload_n C 31 rfl rfl ?_
  refine g_callV (ψ₁ := sw_eV) C 32 rfl [(.int x1), (.int x2)] [] ml_X7_135 rfl (Nat.le_of_ble_eq_true rfl) (by decide) rfl rfl (fun b hb => m_X7_giveUp V.1.2.1 _ _ _ _ C.inj σ x1 x2 b hb) rfl (g_cV fun r1 => ?_)
  refine g_iload_n C 33 rfl rfl ?_
  skip
  exact g_iret C 34 rfl rfl
set_option maxHeartbeats 1000000 in
set_option maxRecDepth 100000 in
theorem s_X7_drop {V : sw_V} (C : sw_Cx sw_ZM V cX7_drop RX7 4 (some .int) L_X7_drop 3) (σ : sw_St) (x1 : Int32) (x2 : Int32) : sw_S sw_ZM V sw_eI [some (sw_r V 1), some (.int x1), some (.int x2), none] [] 0 σ (f_X7_drop σ x1 x2) := by
  unfold f_X7_drop
  refine g_aload_n C 0 rfl rfl ?_
  refine g_iload_n C 1 rfl rfl ?_
  refine g_callV (ψ₁ := sw_eP σ) C 2 rfl [(.int x1)] [] ml_X7_160 rfl (Nat.le_of_ble_eq_true rfl) (by decide) rfl rfl (fun b hb => m_X7_isCore V.1.2.1 _ _ _ _ C.inj σ x1 b hb) rfl (g_cP fun r1 => ?_)
  refine g_if_eq C 3 rfl 15 (by decide) ?_ ?_
  · refine g_iconst C 7 rfl (-1) (by decide) ?_
    skip
    exact g_iret C 8 rfl rfl
  · refine g_iload_n C 4 rfl rfl ?_
    refine g_callS (ψ₁ := sw_eP σ) C 5 rfl [(.int x2)] [] ml_X7_163 rfl (Nat.le_of_ble_eq_true rfl) (by decide) (fun b hb => m_X7_isLine V.1.2.1 _ _ _ _ C.inj σ x2 b hb) rfl (g_cP fun r2 => ?_)
    refine g_if_ne C 6 rfl 17 (by decide) ?_ ?_
    · refine g_aload_n C 9 rfl rfl ?_
      refine g_iload_n C 10 rfl rfl ?_
      refine g_iload_n C 11 rfl rfl ?_
      refine g_callV (ψ₁ := sw_eP σ) C 12 rfl [(.int x1), (.int x2)] [] ml_X7_186 rfl (Nat.le_of_ble_eq_true rfl) (by decide) rfl rfl (fun b hb => m_X7_howOf V.1.2.1 _ _ _ _ C.inj σ x1 x2 b hb) rfl (g_cP fun r3 => ?_)
      refine g_istore_n C 13 rfl (Nat.le_of_ble_eq_true rfl) (Or.inr (Or.inr (Or.inl ⟨_, rfl⟩))) ?_
      refine g_iload_n C 14 rfl rfl ?_
      refine g_if_ne C 15 rfl 31 (by decide) ?_ ?_
      · refine g_iload_n C 18 rfl rfl ?_
        refine g_iconst C 19 rfl 3 (by decide) ?_
        refine g_icmp_ne C 20 rfl 49 (by decide) ?_ ?_
        · exact g_wk (s_X7_drop_49 C σ x1 x2 r3) ⟨rfl, rfl, rfl, rfl, trivial⟩
        · refine g_aload_n C 21 rfl rfl ?_
          refine g_getR C 22 rfl fl_X7_25 rfl rfl ?_
          refine g_iload_n C 23 rfl rfl ?_
          refine g_ck fun h4 => ?_
          refine g_iald C 24 rfl rfl h4 ?_
          refine g_iconst C 25 rfl 2 (by decide) ?_
          refine g_icmp_ne C 26 rfl 49 (by decide) ?_ ?_
          · exact g_wk (s_X7_drop_49 C σ x1 x2 r3) ⟨rfl, rfl, rfl, rfl, trivial⟩
          · refine g_bipush C 27 rfl (-3) (by decide) ?_
            skip
            exact g_iret C 28 rfl rfl
      · refine g_bipush C 16 rfl (-2) (by decide) ?_
        skip
        exact g_iret C 17 rfl rfl
    · refine g_iconst C 7 rfl (-1) (by decide) ?_
      skip
      exact g_iret C 8 rfl rfl
set_option maxHeartbeats 1000000 in
set_option maxRecDepth 100000 in
theorem m_X7_drop (l : Launch) (dC : Nat → ClassId) (dI : Nat → Nat → Nat) (dA : Nat → ClassId) (ad : Nat → Nat) (hI : sw_inj sw_ZM ad) (σ : sw_St) (x1 : Int32) (x2 : Int32) (b : (Int32 × sw_St)) (hb : f_X7_drop σ x1 x2 = some b) : sw_M sw_ZM l yX7_drop cX7_drop 4 (some .int) 3 dC dI dA ad [(sw_rv ad 1), (.int x1), (.int x2)] σ (sw_eI b) :=
  sw_mk1 (ψ := sw_eI) 1 (by decide) sw_ZMok hI dk_X7_drop rfl (sw_c1_all _ ⟨sw_rv_cat _ _, rfl, rfl, trivial⟩) hb (fun p e R M C => s_X7_drop C σ x1 x2)
/-! SplitWatchModel.ends(I)V -/
def L_X7_ends : sw_Is := [(0, .aload_n 0, 1, 1), (1, .getfield 37, 3, 4), (4, .iload_n 1, 1, 5), (5, .iconst 0, 1, 6), (6, .iastore, 1, 7), (7, .aload_n 0, 1, 8), (8, .dup, 1, 9), (9, .getfield 115, 3, 12), (12, .iconst 1, 1, 13), (13, .iadd, 1, 14), (14, .putfield 115, 3, 17), (17, .return_, 1, 18)]
theorem dk_X7_ends : sw_dc cX7_ends L_X7_ends = true := by decide +kernel
def f_X7_ends (σ : sw_St) (x1 : Int32) : Option sw_St := sw_ck (sw_in x1 4) (sw_pt σ 11 (sw_ix x1) 0 fun s2 => (sw_pt s2 1 27 ((s2 1 27) + 1) fun s3 => (some s3)))
set_option maxHeartbeats 1000000 in
set_option maxRecDepth 100000 in
theorem s_X7_ends {V : sw_V} (C : sw_Cx sw_ZM V cX7_ends RX7 2 none L_X7_ends 0) (σ : sw_St) (x1 : Int32) : sw_S sw_ZM V sw_eV [some (sw_r V 1), some (.int x1)] [] 0 σ (f_X7_ends σ x1) := by
  unfold f_X7_ends
  refine g_aload_n C 0 rfl rfl ?_
  refine g_getR C 1 rfl fl_X7_37 rfl rfl ?_
  refine g_iload_n C 2 rfl rfl ?_
  refine g_iconst C 3 rfl 0 (by decide) ?_
  refine g_ck fun h1 => ?_
  refine g_iast C 4 rfl rfl h1 (fun s2 => ?_)
  refine g_aload_n C 5 rfl rfl ?_
  refine g_dupR C 6 rfl ?_
  refine g_getI C 7 rfl fl_X7_115 rfl rfl ?_
  refine g_iconst C 8 rfl 1 (by decide) ?_
  refine g_iadd C 9 rfl ?_
  refine g_put C 10 rfl fp_X7_115 rfl rfl (fun s3 => ?_)
  exact g_vret C 11 rfl rfl
set_option maxHeartbeats 1000000 in
set_option maxRecDepth 100000 in
theorem m_X7_ends (l : Launch) (dC : Nat → ClassId) (dI : Nat → Nat → Nat) (dA : Nat → ClassId) (ad : Nat → Nat) (hI : sw_inj sw_ZM ad) (σ : sw_St) (x1 : Int32) (b : sw_St) (hb : f_X7_ends σ x1 = some b) : sw_M sw_ZM l yX7_ends cX7_ends 2 none 0 dC dI dA ad [(sw_rv ad 1), (.int x1)] σ (sw_eV b) :=
  sw_mk1 (ψ := sw_eV) 0 (by decide) sw_ZMok hI dk_X7_ends rfl (sw_c1_all _ ⟨sw_rv_cat _ _, rfl, trivial⟩) hb (fun p e R M C => s_X7_ends C σ x1)
/-! SplitWatchModel.answer()Z -/
def L_X7_answer : sw_Is := [(0, .iconst 0, 1, 1), (1, .istore_n 1, 1, 2), (2, .iload_n 1, 1, 3), (3, .aload_n 0, 1, 4), (4, .getfield 103, 3, 7), (7, .if_icmp .ge 212, 3, 10), (10, .aload_n 0, 1, 11), (11, .getfield 52, 3, 14), (14, .bipush 7, 2, 16), (16, .iload_n 1, 1, 17), (17, .imul, 1, 18), (18, .iconst 1, 1, 19), (19, .iadd, 1, 20), (20, .iaload, 1, 21), (21, .istore_n 2, 1, 22), (22, .aload_n 0, 1, 23), (23, .getfield 52, 3, 26), (26, .bipush 7, 2, 28), (28, .iload_n 1, 1, 29), (29, .imul, 1, 30), (30, .iconst 3, 1, 31), (31, .iadd, 1, 32), (32, .iaload, 1, 33), (33, .aload_n 0, 1, 34), (34, .getfield 94, 3, 37), (37, .if_icmp .gt 176, 3, 40), (40, .aload_n 0, 1, 41), (41, .iload_n 2, 1, 42), (42, .invokevirtual 189, 3, 45), (45, .ifCond .eq 168, 3, 48), (48, .aload_n 0, 1, 49), (49, .getfield 52, 3, 52), (52, .bipush 7, 2, 54), (54, .iload_n 1, 1, 55), (55, .imul, 1, 56), (56, .iconst 2, 1, 57), (57, .iadd, 1, 58), (58, .iaload, 1, 59), (59, .istore_n 3, 1, 60), (60, .aload_n 0, 1, 61), (61, .getfield 52, 3, 64), (64, .bipush 7, 2, 66), (66, .iload_n 1, 1, 67), (67, .imul, 1, 68), (68, .iconst 4, 1, 69), (69, .iadd, 1, 70), (70, .iaload, 1, 71), (71, .istore 4, 2, 73), (73, .aload_n 0, 1, 74), (74, .getfield 52, 3, 77), (77, .bipush 7, 2, 79), (79, .iload_n 1, 1, 80), (80, .imul, 1, 81), (81, .iaload, 1, 82), (82, .iconst 1, 1, 83), (83, .if_icmp .ne 12, 3, 86), (86, .aload_n 0, 1, 87), (87, .getfield 43, 3, 90), (90, .iload_n 2, 1, 91), (91, .iaload, 1, 92), (92, .goto 14, 3, 95), (95, .aload_n 0, 1, 96), (96, .getfield 52, 3, 99), (99, .bipush 7, 2, 101), (101, .iload_n 1, 1, 102), (102, .imul, 1, 103), (103, .iconst 5, 1, 104), (104, .iadd, 1, 105), (105, .iaload, 1, 106), (106, .istore 5, 2, 108), (108, .aload_n 0, 1, 109), (109, .dup, 1, 110), (110, .getfield 103, 3, 113), (113, .iconst 1, 1, 114), (114, .isub, 1, 115), (115, .putfield 103, 3, 118), (118, .bipush 7, 2, 120), (120, .iload_n 1, 1, 121), (121, .imul, 1, 122), (122, .istore 6, 2, 124), (124, .iload 6, 2, 126), (126, .bipush 7, 2, 128), (128, .aload_n 0, 1, 129), (129, .getfield 103, 3, 132), (132, .imul, 1, 133), (133, .if_icmp .ge 26, 3, 136), (136, .aload_n 0, 1, 137), (137, .getfield 52, 3, 140), (140, .iload 6, 2, 142), (142, .aload_n 0, 1, 143), (143, .getfield 52, 3, 146), (146, .iload 6, 2, 148), (148, .bipush 7, 2, 150), (150, .iadd, 1, 151), (151, .iaload, 1, 152), (152, .iastore, 1, 153), (153, .iinc 6 1, 3, 156), (156, .goto (-32), 3, 159), (159, .aload_n 0, 1, 160), (160, .iload_n 2, 1, 161), (161, .iload_n 3, 1, 162), (162, .iload 5, 2, 164), (164, .iload 4, 2, 166), (166, .invokevirtual 181, 3, 169), (169, .aload_n 0, 1, 170), (170, .getfield 34, 3, 173), (173, .iload_n 2, 1, 174), (174, .aload_n 0, 1, 175), (175, .getfield 37, 3, 178), (178, .iload_n 2, 1, 179), (179, .iaload, 1, 180), (180, .iconst 1, 1, 181), (181, .if_icmp .ne 8, 3, 184), (184, .iload 5, 2, 186), (186, .goto 9, 3, 189), (189, .aload_n 0, 1, 190), (190, .getfield 34, 3, 193), (193, .iload_n 2, 1, 194), (194, .iaload, 1, 195), (195, .iastore, 1, 196), (196, .aload_n 0, 1, 197), (197, .iload_n 2, 1, 198), (198, .invokevirtual 192, 3, 201), (201, .aload_n 0, 1, 202), (202, .dup, 1, 203), (203, .getfield 118, 3, 206), (206, .iconst 1, 1, 207), (207, .iadd, 1, 208), (208, .putfield 118, 3, 211), (211, .iconst 1, 1, 212), (212, .ireturn, 1, 213), (213, .iinc 1 1, 3, 216), (216, .goto (-214), 3, 219), (219, .iconst 0, 1, 220), (220, .ireturn, 1, 221)]
theorem dk_X7_answer : sw_dc cX7_answer L_X7_answer = true := by decide +kernel
def f_X7_answer_195  (σ : sw_St) (x2 : Int32) (y0 : Int32) (y1 : Int32) : Option (Int32 × sw_St) := sw_ck (sw_in y1 4) (sw_pt σ 10 (sw_ix y1) y0 fun s2 => ((f_X7_ends s2 x2).bind fun r3 => (sw_pt r3 1 28 ((r3 1 28) + 1) fun s4 => (some (1, s4)))))
def f_X7_answer_124  : Nat → sw_St → Int32 → Int32 → Int32 → Int32 → Int32 → Option (Int32 × sw_St)
  | 0 => fun _ _ _ _ _ _ => none
  | n + 1 => fun σ x2 x3 x4 x5 x6 => if (7 * (σ 1 21)) ≤ x6 then ((f_X7_fill σ x2 x3 x5 x4).bind fun r1 => (sw_ck (sw_in x2 4) (if (r1 11 (sw_ix x2)) = 1 then (f_X7_answer_195 r1 x2 x5 x2) else (f_X7_answer_195 r1 x2 (r1 10 (sw_ix x2)) x2)))) else (sw_ck (sw_in (x6 + 7) 28) (sw_ck (sw_in x6 28) (sw_pt σ 16 (sw_ix x6) (σ 16 (sw_ix (x6 + 7))) fun s5 => ((f_X7_answer_124 n) s5 x2 x3 x4 x5 (x6 + 1)))))
def f_X7_answer_106  (σ : sw_St) (x1 : Int32) (x2 : Int32) (x3 : Int32) (x4 : Int32) (y0 : Int32) : Option (Int32 × sw_St) := sw_pt σ 1 21 ((σ 1 21) - 1) fun s1 => (f_X7_answer_124 sw_fuel s1 x2 x3 x4 y0 (7 * x1))
def f_X7_answer_2  : Nat → sw_St → Int32 → Option (Int32 × sw_St)
  | 0 => fun _ _ => none
  | n + 1 => fun σ x1 => if (σ 1 21) ≤ x1 then (some (0, σ)) else (sw_ck (sw_in ((7 * x1) + 1) 28) (sw_ck (sw_in ((7 * x1) + 3) 28) (if (σ 1 4) < (σ 16 (sw_ix ((7 * x1) + 3))) then ((f_X7_answer_2 n) σ (x1 + 1)) else ((f_X7_canFill σ (σ 16 (sw_ix ((7 * x1) + 1)))).bind fun r3 => (if r3 = 0 then ((f_X7_answer_2 n) σ (x1 + 1)) else (sw_ck (sw_in ((7 * x1) + 2) 28) (sw_ck (sw_in ((7 * x1) + 4) 28) (sw_ck (sw_in (7 * x1) 28) (if (σ 16 (sw_ix (7 * x1))) = 1 then (sw_ck (sw_in (σ 16 (sw_ix ((7 * x1) + 1))) 4) (f_X7_answer_106 σ x1 (σ 16 (sw_ix ((7 * x1) + 1))) (σ 16 (sw_ix ((7 * x1) + 2))) (σ 16 (sw_ix ((7 * x1) + 4))) (σ 13 (sw_ix (σ 16 (sw_ix ((7 * x1) + 1))))))) else (sw_ck (sw_in ((7 * x1) + 5) 28) (f_X7_answer_106 σ x1 (σ 16 (sw_ix ((7 * x1) + 1))) (σ 16 (sw_ix ((7 * x1) + 2))) (σ 16 (sw_ix ((7 * x1) + 4))) (σ 16 (sw_ix ((7 * x1) + 5))))))))))))))
def f_X7_answer (σ : sw_St)  : Option (Int32 × sw_St) := f_X7_answer_2 sw_fuel σ 0
set_option maxHeartbeats 1000000 in
set_option maxRecDepth 100000 in
theorem s_X7_answer_195 {V : sw_V} (C : sw_Cx sw_ZM V cX7_answer RX7 7 (some .boolean) L_X7_answer 4) (σ : sw_St) (x2 : Int32) (y0 : Int32) (y1 : Int32) : sw_S sw_ZM V sw_eI [some (sw_r V 1), none, some (.int x2), none, none, none, none] [(.int y0), (.int y1), (sw_r V 10)] 195 σ (f_X7_answer_195 σ x2 y0 y1) := by
  unfold f_X7_answer_195
  refine g_ck fun h1 => ?_
  refine g_iast C 119 rfl rfl h1 (fun s2 => ?_)
  refine g_aload_n C 120 rfl rfl ?_
  refine g_iload_n C 121 rfl rfl ?_
  refine g_callV (ψ₁ := sw_eV) C 122 rfl [(.int x2)] [] ml_X7_192 rfl (Nat.le_of_ble_eq_true rfl) (by decide) rfl rfl (fun b hb => m_X7_ends V.1.2.1 _ _ _ _ C.inj s2 x2 b hb) rfl (g_cV fun r3 => ?_)
  refine g_aload_n C 123 rfl rfl ?_
  refine g_dupR C 124 rfl ?_
  refine g_getI C 125 rfl fl_X7_118 rfl rfl ?_
  refine g_iconst C 126 rfl 1 (by decide) ?_
  refine g_iadd C 127 rfl ?_
  refine g_put C 128 rfl fp_X7_118 rfl rfl (fun s4 => ?_)
  refine g_iconst C 129 rfl 1 (by decide) ?_
  skip
  exact g_zret C 130 rfl rfl rfl
set_option maxHeartbeats 1000000 in
set_option maxRecDepth 100000 in
theorem s_X7_answer_124 {V : sw_V} (C : sw_Cx sw_ZM V cX7_answer RX7 7 (some .boolean) L_X7_answer 4) : ∀ (n : Nat) (σ : sw_St) (x2 : Int32) (x3 : Int32) (x4 : Int32) (x5 : Int32) (x6 : Int32), sw_S sw_ZM V sw_eI [some (sw_r V 1), none, some (.int x2), some (.int x3), some (.int x4), some (.int x5), some (.int x6)] [] 124 σ (f_X7_answer_124 n σ x2 x3 x4 x5 x6) := by
  intro n
  induction n with
  | zero =>
    intro σ x2 x3 x4 x5 x6
    exact g_none
  | succ n ih =>
    intro σ x2 x3 x4 x5 x6
    rw [f_X7_answer_124]
    refine g_iload C 80 rfl rfl ?_
    refine g_bipush C 81 rfl 7 (by decide) ?_
    refine g_aload_n C 82 rfl rfl ?_
    refine g_getI C 83 rfl fl_X7_103 rfl rfl ?_
    refine g_imul C 84 rfl ?_
    refine g_icmp_ge C 85 rfl 159 (by decide) ?_ ?_
    · refine g_aload_n C 98 rfl rfl ?_
      refine g_iload_n C 99 rfl rfl ?_
      refine g_iload_n C 100 rfl rfl ?_
      refine g_iload C 101 rfl rfl ?_
      refine g_iload C 102 rfl rfl ?_
      refine g_callV (ψ₁ := sw_eV) C 103 rfl [(.int x2), (.int x3), (.int x5), (.int x4)] [] ml_X7_181 rfl (Nat.le_of_ble_eq_true rfl) (by decide) rfl rfl (fun b hb => m_X7_fill V.1.2.1 _ _ _ _ C.inj σ x2 x3 x5 x4 b hb) rfl (g_cV fun r1 => ?_)
      refine g_aload_n C 104 rfl rfl ?_
      refine g_getR C 105 rfl fl_X7_34 rfl rfl ?_
      refine g_iload_n C 106 rfl rfl ?_
      refine g_aload_n C 107 rfl rfl ?_
      refine g_getR C 108 rfl fl_X7_37 rfl rfl ?_
      refine g_iload_n C 109 rfl rfl ?_
      refine g_ck fun h2 => ?_
      refine g_iald C 110 rfl rfl h2 ?_
      refine g_iconst C 111 rfl 1 (by decide) ?_
      refine g_icmp_ne C 112 rfl 189 (by decide) ?_ ?_
      · refine g_aload_n C 115 rfl rfl ?_
        refine g_getR C 116 rfl fl_X7_34 rfl rfl ?_
        refine g_iload_n C 117 rfl rfl ?_
        refine g_iald C 118 rfl rfl h2 ?_
        exact g_wk (s_X7_answer_195 C r1 x2 (r1 10 (sw_ix x2)) x2) ⟨rfl, rfl, trivial⟩
      · refine g_iload C 113 rfl rfl ?_
        refine g_goto C 114 rfl 195 (by decide) ?_
        exact g_wk (s_X7_answer_195 C r1 x2 x5 x2) ⟨rfl, rfl, trivial⟩
    · refine g_aload_n C 86 rfl rfl ?_
      refine g_getR C 87 rfl fl_X7_52 rfl rfl ?_
      refine g_iload C 88 rfl rfl ?_
      refine g_aload_n C 89 rfl rfl ?_
      refine g_getR C 90 rfl fl_X7_52 rfl rfl ?_
      refine g_iload C 91 rfl rfl ?_
      refine g_bipush C 92 rfl 7 (by decide) ?_
      refine g_iadd C 93 rfl ?_
      refine g_ck fun h3 => ?_
      refine g_iald C 94 rfl rfl h3 ?_
      refine g_ck fun h4 => ?_
      refine g_iast C 95 rfl rfl h4 (fun s5 => ?_)
      refine g_iinc C 96 rfl 1 (by decide) rfl (Nat.le_of_ble_eq_true rfl) (Or.inr (Or.inr (Or.inl ⟨_, rfl⟩))) ?_
      refine g_goto C 97 rfl 124 (by decide) ?_
      exact g_wk (ih s5 x2 x3 x4 x5 (x6 + 1)) ⟨rfl, rfl, rfl, rfl, rfl, rfl, trivial⟩
set_option maxHeartbeats 1000000 in
set_option maxRecDepth 100000 in
theorem s_X7_answer_106 {V : sw_V} (C : sw_Cx sw_ZM V cX7_answer RX7 7 (some .boolean) L_X7_answer 4) (σ : sw_St) (x1 : Int32) (x2 : Int32) (x3 : Int32) (x4 : Int32) (y0 : Int32) : sw_S sw_ZM V sw_eI [some (sw_r V 1), some (.int x1), some (.int x2), some (.int x3), some (.int x4), none, none] [(.int y0)] 106 σ (f_X7_answer_106 σ x1 x2 x3 x4 y0) := by
  unfold f_X7_answer_106
  refine g_istore C 69 rfl (Nat.le_of_ble_eq_true rfl) (Or.inr (Or.inr (Or.inl ⟨_, rfl⟩))) ?_
  refine g_aload_n C 70 rfl rfl ?_
  refine g_dupR C 71 rfl ?_
  refine g_getI C 72 rfl fl_X7_103 rfl rfl ?_
  refine g_iconst C 73 rfl 1 (by decide) ?_
  refine g_isub C 74 rfl ?_
  refine g_put C 75 rfl fp_X7_103 rfl rfl (fun s1 => ?_)
  refine g_bipush C 76 rfl 7 (by decide) ?_
  refine g_iload_n C 77 rfl rfl ?_
  refine g_imul C 78 rfl ?_
  refine g_istore C 79 rfl (Nat.le_of_ble_eq_true rfl) (Or.inr (Or.inr (Or.inl ⟨_, rfl⟩))) ?_
  exact g_wk (s_X7_answer_124 C sw_fuel s1 x2 x3 x4 y0 (7 * x1)) ⟨rfl, rfl, rfl, rfl, rfl, rfl, trivial⟩
set_option maxHeartbeats 1000000 in
set_option maxRecDepth 100000 in
theorem s_X7_answer_2 {V : sw_V} (C : sw_Cx sw_ZM V cX7_answer RX7 7 (some .boolean) L_X7_answer 4) : ∀ (n : Nat) (σ : sw_St) (x1 : Int32), sw_S sw_ZM V sw_eI [some (sw_r V 1), some (.int x1), none, none, none, none, none] [] 2 σ (f_X7_answer_2 n σ x1) := by
  intro n
  induction n with
  | zero =>
    intro σ x1
    exact g_none
  | succ n ih =>
    intro σ x1
    rw [f_X7_answer_2]
    refine g_iload_n C 2 rfl rfl ?_
    refine g_aload_n C 3 rfl rfl ?_
    refine g_getI C 4 rfl fl_X7_103 rfl rfl ?_
    refine g_icmp_ge C 5 rfl 219 (by decide) ?_ ?_
    · refine g_iconst C 133 rfl 0 (by decide) ?_
      skip
      exact g_zret C 134 rfl rfl rfl
    · refine g_aload_n C 6 rfl rfl ?_
      refine g_getR C 7 rfl fl_X7_52 rfl rfl ?_
      refine g_bipush C 8 rfl 7 (by decide) ?_
      refine g_iload_n C 9 rfl rfl ?_
      refine g_imul C 10 rfl ?_
      refine g_iconst C 11 rfl 1 (by decide) ?_
      refine g_iadd C 12 rfl ?_
      refine g_ck fun h1 => ?_
      refine g_iald C 13 rfl rfl h1 ?_
      refine g_istore_n C 14 rfl (Nat.le_of_ble_eq_true rfl) (Or.inr (Or.inr (Or.inl ⟨_, rfl⟩))) ?_
      refine g_aload_n C 15 rfl rfl ?_
      refine g_getR C 16 rfl fl_X7_52 rfl rfl ?_
      refine g_bipush C 17 rfl 7 (by decide) ?_
      refine g_iload_n C 18 rfl rfl ?_
      refine g_imul C 19 rfl ?_
      refine g_iconst C 20 rfl 3 (by decide) ?_
      refine g_iadd C 21 rfl ?_
      refine g_ck fun h2 => ?_
      refine g_iald C 22 rfl rfl h2 ?_
      refine g_aload_n C 23 rfl rfl ?_
      refine g_getI C 24 rfl fl_X7_94 rfl rfl ?_
      refine g_icmp_gt C 25 rfl 213 (by decide) ?_ ?_
      · refine g_iinc C 131 rfl 1 (by decide) rfl (Nat.le_of_ble_eq_true rfl) (Or.inr (Or.inr (Or.inr ⟨_, rfl⟩))) ?_
        refine g_goto C 132 rfl 2 (by decide) ?_
        exact g_wk (ih σ (x1 + 1)) ⟨rfl, rfl, trivial⟩
      · refine g_aload_n C 26 rfl rfl ?_
        refine g_iload_n C 27 rfl rfl ?_
        refine g_callV (ψ₁ := sw_eP σ) C 28 rfl [(.int (σ 16 (sw_ix ((7 * x1) + 1))))] [] ml_X7_189 rfl (Nat.le_of_ble_eq_true rfl) (by decide) rfl rfl (fun b hb => m_X7_canFill V.1.2.1 _ _ _ _ C.inj σ (σ 16 (sw_ix ((7 * x1) + 1))) b hb) rfl (g_cP fun r3 => ?_)
        refine g_if_eq C 29 rfl 213 (by decide) ?_ ?_
        · refine g_iinc C 131 rfl 1 (by decide) rfl (Nat.le_of_ble_eq_true rfl) (Or.inr (Or.inr (Or.inr ⟨_, rfl⟩))) ?_
          refine g_goto C 132 rfl 2 (by decide) ?_
          exact g_wk (ih σ (x1 + 1)) ⟨rfl, rfl, trivial⟩
        · refine g_aload_n C 30 rfl rfl ?_
          refine g_getR C 31 rfl fl_X7_52 rfl rfl ?_
          refine g_bipush C 32 rfl 7 (by decide) ?_
          refine g_iload_n C 33 rfl rfl ?_
          refine g_imul C 34 rfl ?_
          refine g_iconst C 35 rfl 2 (by decide) ?_
          refine g_iadd C 36 rfl ?_
          refine g_ck fun h4 => ?_
          refine g_iald C 37 rfl rfl h4 ?_
          refine g_istore_n C 38 rfl (Nat.le_of_ble_eq_true rfl) (Or.inr (Or.inr (Or.inl ⟨_, rfl⟩))) ?_
          refine g_aload_n C 39 rfl rfl ?_
          refine g_getR C 40 rfl fl_X7_52 rfl rfl ?_
          refine g_bipush C 41 rfl 7 (by decide) ?_
          refine g_iload_n C 42 rfl rfl ?_
          refine g_imul C 43 rfl ?_
          refine g_iconst C 44 rfl 4 (by decide) ?_
          refine g_iadd C 45 rfl ?_
          refine g_ck fun h5 => ?_
          refine g_iald C 46 rfl rfl h5 ?_
          refine g_istore C 47 rfl (Nat.le_of_ble_eq_true rfl) (Or.inr (Or.inr (Or.inl ⟨_, rfl⟩))) ?_
          refine g_aload_n C 48 rfl rfl ?_
          refine g_getR C 49 rfl fl_X7_52 rfl rfl ?_
          refine g_bipush C 50 rfl 7 (by decide) ?_
          refine g_iload_n C 51 rfl rfl ?_
          refine g_imul C 52 rfl ?_
          refine g_ck fun h6 => ?_
          refine g_iald C 53 rfl rfl h6 ?_
          refine g_iconst C 54 rfl 1 (by decide) ?_
          refine g_icmp_ne C 55 rfl 95 (by decide) ?_ ?_
          · refine g_aload_n C 61 rfl rfl ?_
            refine g_getR C 62 rfl fl_X7_52 rfl rfl ?_
            refine g_bipush C 63 rfl 7 (by decide) ?_
            refine g_iload_n C 64 rfl rfl ?_
            refine g_imul C 65 rfl ?_
            refine g_iconst C 66 rfl 5 (by decide) ?_
            refine g_iadd C 67 rfl ?_
            refine g_ck fun h7 => ?_
            refine g_iald C 68 rfl rfl h7 ?_
            exact g_wk (s_X7_answer_106 C σ x1 (σ 16 (sw_ix ((7 * x1) + 1))) (σ 16 (sw_ix ((7 * x1) + 2))) (σ 16 (sw_ix ((7 * x1) + 4))) (σ 16 (sw_ix ((7 * x1) + 5)))) ⟨rfl, rfl, rfl, rfl, rfl, trivial⟩
          · refine g_aload_n C 56 rfl rfl ?_
            refine g_getR C 57 rfl fl_X7_43 rfl rfl ?_
            refine g_iload_n C 58 rfl rfl ?_
            refine g_ck fun h8 => ?_
            refine g_iald C 59 rfl rfl h8 ?_
            refine g_goto C 60 rfl 106 (by decide) ?_
            exact g_wk (s_X7_answer_106 C σ x1 (σ 16 (sw_ix ((7 * x1) + 1))) (σ 16 (sw_ix ((7 * x1) + 2))) (σ 16 (sw_ix ((7 * x1) + 4))) (σ 13 (sw_ix (σ 16 (sw_ix ((7 * x1) + 1)))))) ⟨rfl, rfl, rfl, rfl, rfl, trivial⟩
set_option maxHeartbeats 1000000 in
set_option maxRecDepth 100000 in
theorem s_X7_answer {V : sw_V} (C : sw_Cx sw_ZM V cX7_answer RX7 7 (some .boolean) L_X7_answer 4) (σ : sw_St)  : sw_S sw_ZM V sw_eI [some (sw_r V 1), none, none, none, none, none, none] [] 0 σ (f_X7_answer σ) := by
  unfold f_X7_answer
  refine g_iconst C 0 rfl 0 (by decide) ?_
  refine g_istore_n C 1 rfl (Nat.le_of_ble_eq_true rfl) (Or.inr (Or.inr (Or.inr ⟨_, rfl⟩))) ?_
  exact g_wk (s_X7_answer_2 C sw_fuel σ 0) ⟨rfl, rfl, trivial⟩
set_option maxHeartbeats 1000000 in
set_option maxRecDepth 100000 in
theorem m_X7_answer (l : Launch) (dC : Nat → ClassId) (dI : Nat → Nat → Nat) (dA : Nat → ClassId) (ad : Nat → Nat) (hI : sw_inj sw_ZM ad) (σ : sw_St)  (b : (Int32 × sw_St)) (hb : f_X7_answer σ = some b) : sw_M sw_ZM l yX7_answer cX7_answer 7 (some .boolean) 4 dC dI dA ad [(sw_rv ad 1)] σ (sw_eI b) :=
  sw_mk1 (ψ := sw_eI) 6 (by decide) sw_ZMok hI dk_X7_answer rfl (sw_c1_all _ ⟨sw_rv_cat _ _, trivial⟩) hb (fun p e R M C => s_X7_answer C σ)
/-! SplitWatchModel.orders(III)V -/
def L_X7_orders : sw_Is := [(0, .aload_n 0, 1, 1), (1, .getfield 106, 3, 4), (4, .bipush 16, 2, 6), (6, .if_icmp .lt 35, 3, 9), (9, .iconst 0, 1, 10), (10, .istore 4, 2, 12), (12, .iload 4, 2, 14), (14, .bipush 45, 2, 16), (16, .if_icmp .ge 25, 3, 19), (19, .aload_n 0, 1, 20), (20, .getfield 55, 3, 23), (23, .iload 4, 2, 25), (25, .aload_n 0, 1, 26), (26, .getfield 55, 3, 29), (29, .iload 4, 2, 31), (31, .iconst 3, 1, 32), (32, .iadd, 1, 33), (33, .iaload, 1, 34), (34, .iastore, 1, 35), (35, .iinc 4 1, 3, 38), (38, .goto (-26), 3, 41), (41, .aload_n 0, 1, 42), (42, .getfield 106, 3, 45), (45, .bipush 16, 2, 47), (47, .if_icmp .lt 8, 3, 50), (50, .bipush 45, 2, 52), (52, .goto 9, 3, 55), (55, .iconst 3, 1, 56), (56, .aload_n 0, 1, 57), (57, .getfield 106, 3, 60), (60, .imul, 1, 61), (61, .istore 4, 2, 63), (63, .aload_n 0, 1, 64), (64, .getfield 55, 3, 67), (67, .iload 4, 2, 69), (69, .bipush 48, 2, 71), (71, .iload_n 1, 1, 72), (72, .iadd, 1, 73), (73, .iastore, 1, 74), (74, .aload_n 0, 1, 75), (75, .getfield 55, 3, 78), (78, .iload 4, 2, 80), (80, .iconst 1, 1, 81), (81, .iadd, 1, 82), (82, .iload_n 2, 1, 83), (83, .iastore, 1, 84), (84, .aload_n 0, 1, 85), (85, .getfield 55, 3, 88), (88, .iload 4, 2, 90), (90, .iconst 2, 1, 91), (91, .iadd, 1, 92), (92, .bipush 48, 2, 94), (94, .iload_n 3, 1, 95), (95, .iadd, 1, 96), (96, .iastore, 1, 97), (97, .aload_n 0, 1, 98), (98, .dup, 1, 99), (99, .getfield 106, 3, 102), (102, .iconst 1, 1, 103), (103, .iadd, 1, 104), (104, .putfield 106, 3, 107), (107, .return_, 1, 108)]
theorem dk_X7_orders : sw_dc cX7_orders L_X7_orders = true := by decide +kernel
def f_X7_orders_61  (σ : sw_St) (x1 : Int32) (x2 : Int32) (x3 : Int32) (y0 : Int32) : Option sw_St := sw_ck (sw_in y0 48) (sw_pt σ 17 (sw_ix y0) (48 + x1) fun s2 => (sw_ck (sw_in (y0 + 1) 48) (sw_pt s2 17 (sw_ix (y0 + 1)) x2 fun s4 => (sw_ck (sw_in (y0 + 2) 48) (sw_pt s4 17 (sw_ix (y0 + 2)) (48 + x3) fun s6 => (sw_pt s6 1 23 ((s6 1 23) + 1) fun s7 => (some s7)))))))
def f_X7_orders_41  (σ : sw_St) (x1 : Int32) (x2 : Int32) (x3 : Int32) : Option sw_St := if (σ 1 23) < 16 then (f_X7_orders_61 σ x1 x2 x3 (3 * (σ 1 23))) else (f_X7_orders_61 σ x1 x2 x3 45)
def f_X7_orders_12  : Nat → sw_St → Int32 → Int32 → Int32 → Int32 → Option sw_St
  | 0 => fun _ _ _ _ _ => none
  | n + 1 => fun σ x1 x2 x3 x4 => if 45 ≤ x4 then (f_X7_orders_41 σ x1 x2 x3) else (sw_ck (sw_in (x4 + 3) 48) (sw_ck (sw_in x4 48) (sw_pt σ 17 (sw_ix x4) (σ 17 (sw_ix (x4 + 3))) fun s3 => ((f_X7_orders_12 n) s3 x1 x2 x3 (x4 + 1)))))
def f_X7_orders (σ : sw_St) (x1 : Int32) (x2 : Int32) (x3 : Int32) : Option sw_St := if (σ 1 23) < 16 then (f_X7_orders_41 σ x1 x2 x3) else (f_X7_orders_12 sw_fuel σ x1 x2 x3 0)
set_option maxHeartbeats 1000000 in
set_option maxRecDepth 100000 in
theorem s_X7_orders_61 {V : sw_V} (C : sw_Cx sw_ZM V cX7_orders RX7 5 none L_X7_orders 0) (σ : sw_St) (x1 : Int32) (x2 : Int32) (x3 : Int32) (y0 : Int32) : sw_S sw_ZM V sw_eV [some (sw_r V 1), some (.int x1), some (.int x2), some (.int x3), none] [(.int y0)] 61 σ (f_X7_orders_61 σ x1 x2 x3 y0) := by
  unfold f_X7_orders_61
  refine g_istore C 31 rfl (Nat.le_of_ble_eq_true rfl) (Or.inr (Or.inr (Or.inl ⟨_, rfl⟩))) ?_
  refine g_aload_n C 32 rfl rfl ?_
  refine g_getR C 33 rfl fl_X7_55 rfl rfl ?_
  refine g_iload C 34 rfl rfl ?_
  refine g_bipush C 35 rfl 48 (by decide) ?_
  refine g_iload_n C 36 rfl rfl ?_
  refine g_iadd C 37 rfl ?_
  refine g_ck fun h1 => ?_
  refine g_iast C 38 rfl rfl h1 (fun s2 => ?_)
  refine g_aload_n C 39 rfl rfl ?_
  refine g_getR C 40 rfl fl_X7_55 rfl rfl ?_
  refine g_iload C 41 rfl rfl ?_
  refine g_iconst C 42 rfl 1 (by decide) ?_
  refine g_iadd C 43 rfl ?_
  refine g_iload_n C 44 rfl rfl ?_
  refine g_ck fun h3 => ?_
  refine g_iast C 45 rfl rfl h3 (fun s4 => ?_)
  refine g_aload_n C 46 rfl rfl ?_
  refine g_getR C 47 rfl fl_X7_55 rfl rfl ?_
  refine g_iload C 48 rfl rfl ?_
  refine g_iconst C 49 rfl 2 (by decide) ?_
  refine g_iadd C 50 rfl ?_
  refine g_bipush C 51 rfl 48 (by decide) ?_
  refine g_iload_n C 52 rfl rfl ?_
  refine g_iadd C 53 rfl ?_
  refine g_ck fun h5 => ?_
  refine g_iast C 54 rfl rfl h5 (fun s6 => ?_)
  refine g_aload_n C 55 rfl rfl ?_
  refine g_dupR C 56 rfl ?_
  refine g_getI C 57 rfl fl_X7_106 rfl rfl ?_
  refine g_iconst C 58 rfl 1 (by decide) ?_
  refine g_iadd C 59 rfl ?_
  refine g_put C 60 rfl fp_X7_106 rfl rfl (fun s7 => ?_)
  exact g_vret C 61 rfl rfl
set_option maxHeartbeats 1000000 in
set_option maxRecDepth 100000 in
theorem s_X7_orders_41 {V : sw_V} (C : sw_Cx sw_ZM V cX7_orders RX7 5 none L_X7_orders 0) (σ : sw_St) (x1 : Int32) (x2 : Int32) (x3 : Int32) : sw_S sw_ZM V sw_eV [some (sw_r V 1), some (.int x1), some (.int x2), some (.int x3), none] [] 41 σ (f_X7_orders_41 σ x1 x2 x3) := by
  unfold f_X7_orders_41
  refine g_aload_n C 21 rfl rfl ?_
  refine g_getI C 22 rfl fl_X7_106 rfl rfl ?_
  refine g_bipush C 23 rfl 16 (by decide) ?_
  refine g_icmp_lt C 24 rfl 55 (by decide) ?_ ?_
  · refine g_iconst C 27 rfl 3 (by decide) ?_
    refine g_aload_n C 28 rfl rfl ?_
    refine g_getI C 29 rfl fl_X7_106 rfl rfl ?_
    refine g_imul C 30 rfl ?_
    exact g_wk (s_X7_orders_61 C σ x1 x2 x3 (3 * (σ 1 23))) ⟨rfl, rfl, rfl, rfl, trivial⟩
  · refine g_bipush C 25 rfl 45 (by decide) ?_
    refine g_goto C 26 rfl 61 (by decide) ?_
    exact g_wk (s_X7_orders_61 C σ x1 x2 x3 45) ⟨rfl, rfl, rfl, rfl, trivial⟩
set_option maxHeartbeats 1000000 in
set_option maxRecDepth 100000 in
theorem s_X7_orders_12 {V : sw_V} (C : sw_Cx sw_ZM V cX7_orders RX7 5 none L_X7_orders 0) : ∀ (n : Nat) (σ : sw_St) (x1 : Int32) (x2 : Int32) (x3 : Int32) (x4 : Int32), sw_S sw_ZM V sw_eV [some (sw_r V 1), some (.int x1), some (.int x2), some (.int x3), some (.int x4)] [] 12 σ (f_X7_orders_12 n σ x1 x2 x3 x4) := by
  intro n
  induction n with
  | zero =>
    intro σ x1 x2 x3 x4
    exact g_none
  | succ n ih =>
    intro σ x1 x2 x3 x4
    rw [f_X7_orders_12]
    refine g_iload C 6 rfl rfl ?_
    refine g_bipush C 7 rfl 45 (by decide) ?_
    refine g_icmp_ge C 8 rfl 41 (by decide) ?_ ?_
    · exact g_wk (s_X7_orders_41 C σ x1 x2 x3) ⟨rfl, rfl, rfl, rfl, trivial⟩
    · refine g_aload_n C 9 rfl rfl ?_
      refine g_getR C 10 rfl fl_X7_55 rfl rfl ?_
      refine g_iload C 11 rfl rfl ?_
      refine g_aload_n C 12 rfl rfl ?_
      refine g_getR C 13 rfl fl_X7_55 rfl rfl ?_
      refine g_iload C 14 rfl rfl ?_
      refine g_iconst C 15 rfl 3 (by decide) ?_
      refine g_iadd C 16 rfl ?_
      refine g_ck fun h1 => ?_
      refine g_iald C 17 rfl rfl h1 ?_
      refine g_ck fun h2 => ?_
      refine g_iast C 18 rfl rfl h2 (fun s3 => ?_)
      refine g_iinc C 19 rfl 1 (by decide) rfl (Nat.le_of_ble_eq_true rfl) (Or.inr (Or.inr (Or.inl ⟨_, rfl⟩))) ?_
      refine g_goto C 20 rfl 12 (by decide) ?_
      exact g_wk (ih s3 x1 x2 x3 (x4 + 1)) ⟨rfl, rfl, rfl, rfl, rfl, trivial⟩
set_option maxHeartbeats 1000000 in
set_option maxRecDepth 100000 in
theorem s_X7_orders {V : sw_V} (C : sw_Cx sw_ZM V cX7_orders RX7 5 none L_X7_orders 0) (σ : sw_St) (x1 : Int32) (x2 : Int32) (x3 : Int32) : sw_S sw_ZM V sw_eV [some (sw_r V 1), some (.int x1), some (.int x2), some (.int x3), none] [] 0 σ (f_X7_orders σ x1 x2 x3) := by
  unfold f_X7_orders
  refine g_aload_n C 0 rfl rfl ?_
  refine g_getI C 1 rfl fl_X7_106 rfl rfl ?_
  refine g_bipush C 2 rfl 16 (by decide) ?_
  refine g_icmp_lt C 3 rfl 41 (by decide) ?_ ?_
  · exact g_wk (s_X7_orders_41 C σ x1 x2 x3) ⟨rfl, rfl, rfl, rfl, trivial⟩
  · refine g_iconst C 4 rfl 0 (by decide) ?_
    refine g_istore C 5 rfl (Nat.le_of_ble_eq_true rfl) (Or.inr (Or.inr (Or.inl ⟨_, rfl⟩))) ?_
    exact g_wk (s_X7_orders_12 C sw_fuel σ x1 x2 x3 0) ⟨rfl, rfl, rfl, rfl, rfl, trivial⟩
set_option maxHeartbeats 1000000 in
set_option maxRecDepth 100000 in
theorem m_X7_orders (l : Launch) (dC : Nat → ClassId) (dI : Nat → Nat → Nat) (dA : Nat → ClassId) (ad : Nat → Nat) (hI : sw_inj sw_ZM ad) (σ : sw_St) (x1 : Int32) (x2 : Int32) (x3 : Int32) (b : sw_St) (hb : f_X7_orders σ x1 x2 x3 = some b) : sw_M sw_ZM l yX7_orders cX7_orders 5 none 0 dC dI dA ad [(sw_rv ad 1), (.int x1), (.int x2), (.int x3)] σ (sw_eV b) :=
  sw_mk1 (ψ := sw_eV) 1 (by decide) sw_ZMok hI dk_X7_orders rfl (sw_c1_all _ ⟨sw_rv_cat _ _, rfl, rfl, rfl, trivial⟩) hb (fun p e R M C => s_X7_orders C σ x1 x2 x3)
/-! SplitWatchModel.otherThat(III)I -/
def L_X7_otherThat : sw_Is := [(0, .iconst 0, 1, 1), (1, .istore 4, 2, 3), (3, .iload 4, 2, 5), (5, .aload_n 0, 1, 6), (6, .getfield 81, 3, 9), (9, .if_icmp .ge 29, 3, 12), (12, .iload 4, 2, 14), (14, .iload_n 1, 1, 15), (15, .if_icmp .eq 17, 3, 18), (18, .aload_n 0, 1, 19), (19, .iload 4, 2, 21), (21, .iload_n 2, 1, 22), (22, .invokevirtual 186, 3, 25), (25, .iload_n 3, 1, 26), (26, .if_icmp .lt 6, 3, 29), (29, .iload 4, 2, 31), (31, .ireturn, 1, 32), (32, .iinc 4 1, 3, 35), (35, .goto (-32), 3, 38), (38, .bipush (-4), 2, 40), (40, .ireturn, 1, 41)]
theorem dk_X7_otherThat : sw_dc cX7_otherThat L_X7_otherThat = true := by decide +kernel
def f_X7_otherThat_3 (σ : sw_St)  : Nat → Int32 → Int32 → Int32 → Int32 → Option Int32
  | 0 => fun _ _ _ _ => none
  | n + 1 => fun x1 x2 x3 x4 => if (σ 1 0) ≤ x4 then (some (-4)) else (if x4 = x1 then ((f_X7_otherThat_3 σ n) x1 x2 x3 (x4 + 1)) else ((f_X7_howOf σ x4 x2).bind fun r1 => (if r1 < x3 then ((f_X7_otherThat_3 σ n) x1 x2 x3 (x4 + 1)) else (some x4))))
def f_X7_otherThat (σ : sw_St) (x1 : Int32) (x2 : Int32) (x3 : Int32) : Option Int32 := f_X7_otherThat_3 σ sw_fuel x1 x2 x3 0
set_option maxHeartbeats 1000000 in
set_option maxRecDepth 100000 in
theorem s_X7_otherThat_3 {V : sw_V} (C : sw_Cx sw_ZM V cX7_otherThat RX7 5 (some .int) L_X7_otherThat 2) (σ : sw_St) : ∀ (n : Nat) (x1 : Int32) (x2 : Int32) (x3 : Int32) (x4 : Int32), sw_S sw_ZM V (sw_eP σ) [some (sw_r V 1), some (.int x1), some (.int x2), some (.int x3), some (.int x4)] [] 3 σ (f_X7_otherThat_3 σ n x1 x2 x3 x4) := by
  intro n
  induction n with
  | zero =>
    intro x1 x2 x3 x4
    exact g_none
  | succ n ih =>
    intro x1 x2 x3 x4
    rw [f_X7_otherThat_3]
    refine g_iload C 2 rfl rfl ?_
    refine g_aload_n C 3 rfl rfl ?_
    refine g_getI C 4 rfl fl_X7_81 rfl rfl ?_
    refine g_icmp_ge C 5 rfl 38 (by decide) ?_ ?_
    · refine g_bipush C 19 rfl (-4) (by decide) ?_
      skip
      exact g_iret C 20 rfl rfl
    · refine g_iload C 6 rfl rfl ?_
      refine g_iload_n C 7 rfl rfl ?_
      refine g_icmp_eq C 8 rfl 32 (by decide) ?_ ?_
      · refine g_iinc C 17 rfl 1 (by decide) rfl (Nat.le_of_ble_eq_true rfl) (Or.inr (Or.inr (Or.inl ⟨_, rfl⟩))) ?_
        refine g_goto C 18 rfl 3 (by decide) ?_
        exact g_wk (ih x1 x2 x3 (x4 + 1)) ⟨rfl, rfl, rfl, rfl, rfl, trivial⟩
      · refine g_aload_n C 9 rfl rfl ?_
        refine g_iload C 10 rfl rfl ?_
        refine g_iload_n C 11 rfl rfl ?_
        refine g_callV (ψ₁ := sw_eP σ) C 12 rfl [(.int x4), (.int x2)] [] ml_X7_186 rfl (Nat.le_of_ble_eq_true rfl) (by decide) rfl rfl (fun b hb => m_X7_howOf V.1.2.1 _ _ _ _ C.inj σ x4 x2 b hb) rfl (g_cP fun r1 => ?_)
        refine g_iload_n C 13 rfl rfl ?_
        refine g_icmp_lt C 14 rfl 32 (by decide) ?_ ?_
        · refine g_iinc C 17 rfl 1 (by decide) rfl (Nat.le_of_ble_eq_true rfl) (Or.inr (Or.inr (Or.inl ⟨_, rfl⟩))) ?_
          refine g_goto C 18 rfl 3 (by decide) ?_
          exact g_wk (ih x1 x2 x3 (x4 + 1)) ⟨rfl, rfl, rfl, rfl, rfl, trivial⟩
        · refine g_iload C 15 rfl rfl ?_
          skip
          exact g_iret C 16 rfl rfl
set_option maxHeartbeats 1000000 in
set_option maxRecDepth 100000 in
theorem s_X7_otherThat {V : sw_V} (C : sw_Cx sw_ZM V cX7_otherThat RX7 5 (some .int) L_X7_otherThat 2) (σ : sw_St) (x1 : Int32) (x2 : Int32) (x3 : Int32) : sw_S sw_ZM V (sw_eP σ) [some (sw_r V 1), some (.int x1), some (.int x2), some (.int x3), none] [] 0 σ (f_X7_otherThat σ x1 x2 x3) := by
  unfold f_X7_otherThat
  refine g_iconst C 0 rfl 0 (by decide) ?_
  refine g_istore C 1 rfl (Nat.le_of_ble_eq_true rfl) (Or.inr (Or.inr (Or.inl ⟨_, rfl⟩))) ?_
  exact g_wk (s_X7_otherThat_3 C σ sw_fuel x1 x2 x3 0) ⟨rfl, rfl, rfl, rfl, rfl, trivial⟩
set_option maxHeartbeats 1000000 in
set_option maxRecDepth 100000 in
theorem m_X7_otherThat (l : Launch) (dC : Nat → ClassId) (dI : Nat → Nat → Nat) (dA : Nat → ClassId) (ad : Nat → Nat) (hI : sw_inj sw_ZM ad) (σ : sw_St) (x1 : Int32) (x2 : Int32) (x3 : Int32) (b : Int32) (hb : f_X7_otherThat σ x1 x2 x3 = some b) : sw_M sw_ZM l yX7_otherThat cX7_otherThat 5 (some .int) 2 dC dI dA ad [(sw_rv ad 1), (.int x1), (.int x2), (.int x3)] σ ((sw_eP σ) b) :=
  sw_mk1 (ψ := (sw_eP σ)) 1 (by decide) sw_ZMok hI dk_X7_otherThat rfl (sw_c1_all _ ⟨sw_rv_cat _ _, rfl, rfl, rfl, trivial⟩) hb (fun p e R M C => s_X7_otherThat C σ x1 x2 x3)
/-! SplitWatchModel.bufferThat(I)I -/
def L_X7_bufferThat : sw_Is := [(0, .iconst 0, 1, 1), (1, .istore_n 2, 1, 2), (2, .iload_n 2, 1, 3), (3, .aload_n 0, 1, 4), (4, .getfield 81, 3, 7), (7, .if_icmp .ge 22, 3, 10), (10, .aload_n 0, 1, 11), (11, .iload_n 2, 1, 12), (12, .iload_n 1, 1, 13), (13, .invokevirtual 142, 3, 16), (16, .bipush (-4), 2, 18), (18, .if_icmp .eq 5, 3, 21), (21, .iload_n 2, 1, 22), (22, .ireturn, 1, 23), (23, .iinc 2 1, 3, 26), (26, .goto (-24), 3, 29), (29, .bipush (-4), 2, 31), (31, .ireturn, 1, 32)]
theorem dk_X7_bufferThat : sw_dc cX7_bufferThat L_X7_bufferThat = true := by decide +kernel
def f_X7_bufferThat_2 (σ : sw_St)  : Nat → Int32 → Int32 → Option Int32
  | 0 => fun _ _ => none
  | n + 1 => fun x1 x2 => if (σ 1 0) ≤ x2 then (some (-4)) else ((f_X7_backAt σ x2 x1).bind fun r1 => (if r1 = (-4) then ((f_X7_bufferThat_2 σ n) x1 (x2 + 1)) else (some x2)))
def f_X7_bufferThat (σ : sw_St) (x1 : Int32) : Option Int32 := f_X7_bufferThat_2 σ sw_fuel x1 0
set_option maxHeartbeats 1000000 in
set_option maxRecDepth 100000 in
theorem s_X7_bufferThat_2 {V : sw_V} (C : sw_Cx sw_ZM V cX7_bufferThat RX7 3 (some .int) L_X7_bufferThat 1) (σ : sw_St) : ∀ (n : Nat) (x1 : Int32) (x2 : Int32), sw_S sw_ZM V (sw_eP σ) [some (sw_r V 1), some (.int x1), some (.int x2)] [] 2 σ (f_X7_bufferThat_2 σ n x1 x2) := by
  intro n
  induction n with
  | zero =>
    intro x1 x2
    exact g_none
  | succ n ih =>
    intro x1 x2
    rw [f_X7_bufferThat_2]
    refine g_iload_n C 2 rfl rfl ?_
    refine g_aload_n C 3 rfl rfl ?_
    refine g_getI C 4 rfl fl_X7_81 rfl rfl ?_
    refine g_icmp_ge C 5 rfl 29 (by decide) ?_ ?_
    · refine g_bipush C 16 rfl (-4) (by decide) ?_
      skip
      exact g_iret C 17 rfl rfl
    · refine g_aload_n C 6 rfl rfl ?_
      refine g_iload_n C 7 rfl rfl ?_
      refine g_iload_n C 8 rfl rfl ?_
      refine g_callV (ψ₁ := sw_eP σ) C 9 rfl [(.int x2), (.int x1)] [] ml_X7_142 rfl (Nat.le_of_ble_eq_true rfl) (by decide) rfl rfl (fun b hb => m_X7_backAt V.1.2.1 _ _ _ _ C.inj σ x2 x1 b hb) rfl (g_cP fun r1 => ?_)
      refine g_bipush C 10 rfl (-4) (by decide) ?_
      refine g_icmp_eq C 11 rfl 23 (by decide) ?_ ?_
      · refine g_iinc C 14 rfl 1 (by decide) rfl (Nat.le_of_ble_eq_true rfl) (Or.inr (Or.inr (Or.inl ⟨_, rfl⟩))) ?_
        refine g_goto C 15 rfl 2 (by decide) ?_
        exact g_wk (ih x1 (x2 + 1)) ⟨rfl, rfl, rfl, trivial⟩
      · refine g_iload_n C 12 rfl rfl ?_
        skip
        exact g_iret C 13 rfl rfl
set_option maxHeartbeats 1000000 in
set_option maxRecDepth 100000 in
theorem s_X7_bufferThat {V : sw_V} (C : sw_Cx sw_ZM V cX7_bufferThat RX7 3 (some .int) L_X7_bufferThat 1) (σ : sw_St) (x1 : Int32) : sw_S sw_ZM V (sw_eP σ) [some (sw_r V 1), some (.int x1), none] [] 0 σ (f_X7_bufferThat σ x1) := by
  unfold f_X7_bufferThat
  refine g_iconst C 0 rfl 0 (by decide) ?_
  refine g_istore_n C 1 rfl (Nat.le_of_ble_eq_true rfl) (Or.inr (Or.inr (Or.inl ⟨_, rfl⟩))) ?_
  exact g_wk (s_X7_bufferThat_2 C σ sw_fuel x1 0) ⟨rfl, rfl, rfl, trivial⟩
set_option maxHeartbeats 1000000 in
set_option maxRecDepth 100000 in
theorem m_X7_bufferThat (l : Launch) (dC : Nat → ClassId) (dI : Nat → Nat → Nat) (dA : Nat → ClassId) (ad : Nat → Nat) (hI : sw_inj sw_ZM ad) (σ : sw_St) (x1 : Int32) (b : Int32) (hb : f_X7_bufferThat σ x1 = some b) : sw_M sw_ZM l yX7_bufferThat cX7_bufferThat 3 (some .int) 1 dC dI dA ad [(sw_rv ad 1), (.int x1)] σ ((sw_eP σ) b) :=
  sw_mk1 (ψ := (sw_eP σ)) 1 (by decide) sw_ZMok hI dk_X7_bufferThat rfl (sw_c1_all _ ⟨sw_rv_cat _ _, rfl, trivial⟩) hb (fun p e R M C => s_X7_bufferThat C σ x1)
/-! SplitWatchModel.noOther(II)V -/
def L_X7_noOther : sw_Is := [(0, .iconst 0, 1, 1), (1, .istore_n 3, 1, 2), (2, .iload_n 3, 1, 3), (3, .aload_n 0, 1, 4), (4, .getfield 81, 3, 7), (7, .if_icmp .ge 20, 3, 10), (10, .iload_n 3, 1, 11), (11, .iload_n 1, 1, 12), (12, .if_icmp .eq 9, 3, 15), (15, .aload_n 0, 1, 16), (16, .iload_n 3, 1, 17), (17, .iload_n 2, 1, 18), (18, .invokevirtual 127, 3, 21), (21, .iinc 3 1, 3, 24), (24, .goto (-22), 3, 27), (27, .return_, 1, 28)]
theorem dk_X7_noOther : sw_dc cX7_noOther L_X7_noOther = true := by decide +kernel
def f_X7_noOther_2  : Nat → sw_St → Int32 → Int32 → Int32 → Option sw_St
  | 0 => fun _ _ _ _ => none
  | n + 1 => fun σ x1 x2 x3 => if (σ 1 0) ≤ x3 then (some σ) else (if x3 = x1 then ((f_X7_noOther_2 n) σ x1 x2 (x3 + 1)) else ((f_X7_takeOut σ x3 x2).bind fun r1 => ((f_X7_noOther_2 n) r1 x1 x2 (x3 + 1))))
def f_X7_noOther (σ : sw_St) (x1 : Int32) (x2 : Int32) : Option sw_St := f_X7_noOther_2 sw_fuel σ x1 x2 0
set_option maxHeartbeats 1000000 in
set_option maxRecDepth 100000 in
theorem s_X7_noOther_2 {V : sw_V} (C : sw_Cx sw_ZM V cX7_noOther RX7 4 none L_X7_noOther 2) : ∀ (n : Nat) (σ : sw_St) (x1 : Int32) (x2 : Int32) (x3 : Int32), sw_S sw_ZM V sw_eV [some (sw_r V 1), some (.int x1), some (.int x2), some (.int x3)] [] 2 σ (f_X7_noOther_2 n σ x1 x2 x3) := by
  intro n
  induction n with
  | zero =>
    intro σ x1 x2 x3
    exact g_none
  | succ n ih =>
    intro σ x1 x2 x3
    rw [f_X7_noOther_2]
    refine g_iload_n C 2 rfl rfl ?_
    refine g_aload_n C 3 rfl rfl ?_
    refine g_getI C 4 rfl fl_X7_81 rfl rfl ?_
    refine g_icmp_ge C 5 rfl 27 (by decide) ?_ ?_
    · exact g_vret C 15 rfl rfl
    · refine g_iload_n C 6 rfl rfl ?_
      refine g_iload_n C 7 rfl rfl ?_
      refine g_icmp_eq C 8 rfl 21 (by decide) ?_ ?_
      · refine g_iinc C 13 rfl 1 (by decide) rfl (Nat.le_of_ble_eq_true rfl) (Or.inr (Or.inr (Or.inl ⟨_, rfl⟩))) ?_
        refine g_goto C 14 rfl 2 (by decide) ?_
        exact g_wk (ih σ x1 x2 (x3 + 1)) ⟨rfl, rfl, rfl, rfl, trivial⟩
      · refine g_aload_n C 9 rfl rfl ?_
        refine g_iload_n C 10 rfl rfl ?_
        refine g_iload_n C 11 rfl rfl ?_
        refine g_callV (ψ₁ := sw_eV) C 12 rfl [(.int x3), (.int x2)] [] ml_X7_127 rfl (Nat.le_of_ble_eq_true rfl) (by decide) rfl rfl (fun b hb => m_X7_takeOut V.1.2.1 _ _ _ _ C.inj σ x3 x2 b hb) rfl (g_cV fun r1 => ?_)
        refine g_iinc C 13 rfl 1 (by decide) rfl (Nat.le_of_ble_eq_true rfl) (Or.inr (Or.inr (Or.inl ⟨_, rfl⟩))) ?_
        refine g_goto C 14 rfl 2 (by decide) ?_
        exact g_wk (ih r1 x1 x2 (x3 + 1)) ⟨rfl, rfl, rfl, rfl, trivial⟩
set_option maxHeartbeats 1000000 in
set_option maxRecDepth 100000 in
theorem s_X7_noOther {V : sw_V} (C : sw_Cx sw_ZM V cX7_noOther RX7 4 none L_X7_noOther 2) (σ : sw_St) (x1 : Int32) (x2 : Int32) : sw_S sw_ZM V sw_eV [some (sw_r V 1), some (.int x1), some (.int x2), none] [] 0 σ (f_X7_noOther σ x1 x2) := by
  unfold f_X7_noOther
  refine g_iconst C 0 rfl 0 (by decide) ?_
  refine g_istore_n C 1 rfl (Nat.le_of_ble_eq_true rfl) (Or.inr (Or.inr (Or.inl ⟨_, rfl⟩))) ?_
  exact g_wk (s_X7_noOther_2 C sw_fuel σ x1 x2 0) ⟨rfl, rfl, rfl, rfl, trivial⟩
set_option maxHeartbeats 1000000 in
set_option maxRecDepth 100000 in
theorem m_X7_noOther (l : Launch) (dC : Nat → ClassId) (dI : Nat → Nat → Nat) (dA : Nat → ClassId) (ad : Nat → Nat) (hI : sw_inj sw_ZM ad) (σ : sw_St) (x1 : Int32) (x2 : Int32) (b : sw_St) (hb : f_X7_noOther σ x1 x2 = some b) : sw_M sw_ZM l yX7_noOther cX7_noOther 4 none 2 dC dI dA ad [(sw_rv ad 1), (.int x1), (.int x2)] σ (sw_eV b) :=
  sw_mk1 (ψ := sw_eV) 1 (by decide) sw_ZMok hI dk_X7_noOther rfl (sw_c1_all _ ⟨sw_rv_cat _ _, rfl, rfl, trivial⟩) hb (fun p e R M C => s_X7_noOther C σ x1 x2)
/-! SplitWatchModel.opens(IIII)V -/
def L_X7_opens : sw_Is := [(0, .aload_n 0, 1, 1), (1, .iload_n 2, 1, 2), (2, .iload_n 3, 1, 3), (3, .iconst 2, 1, 4), (4, .invokevirtual 195, 3, 7), (7, .istore 5, 2, 9), (9, .iload 5, 2, 11), (11, .bipush (-4), 2, 13), (13, .if_icmp .ne 11, 3, 16), (16, .aload_n 0, 1, 17), (17, .iload_n 3, 1, 18), (18, .invokevirtual 199, 3, 21), (21, .goto 5, 3, 24), (24, .bipush (-4), 2, 26), (26, .istore 6, 2, 28), (28, .iload 5, 2, 30), (30, .bipush (-4), 2, 32), (32, .if_icmp .eq 18, 3, 35), (35, .aload_n 0, 1, 36), (36, .getfield 19, 3, 39), (39, .aload_n 0, 1, 40), (40, .iload 5, 2, 42), (42, .iload_n 3, 1, 43), (43, .invokevirtual 123, 3, 46), (46, .iaload, 1, 47), (47, .goto 31, 3, 50), (50, .iload 6, 2, 52), (52, .bipush (-4), 2, 54), (54, .if_icmp .eq 18, 3, 57), (57, .aload_n 0, 1, 58), (58, .getfield 31, 3, 61), (61, .aload_n 0, 1, 62), (62, .iload 6, 2, 64), (64, .iload_n 3, 1, 65), (65, .invokevirtual 142, 3, 68), (68, .iaload, 1, 69), (69, .goto 9, 3, 72), (72, .aload_n 0, 1, 73), (73, .getfield 7, 3, 76), (76, .iload_n 3, 1, 77), (77, .iaload, 1, 78), (78, .istore 7, 2, 80), (80, .aload_n 0, 1, 81), (81, .getfield 94, 3, 84), (84, .iload 5, 2, 86), (86, .bipush (-4), 2, 88), (88, .if_icmp .ne 10, 3, 91), (91, .iload 6, 2, 93), (93, .bipush (-4), 2, 95), (95, .if_icmp .eq 10, 3, 98), (98, .aload_n 0, 1, 99), (99, .getfield 88, 3, 102), (102, .goto 7, 3, 105), (105, .aload_n 0, 1, 106), (106, .getfield 91, 3, 109), (109, .iadd, 1, 110), (110, .istore 8, 2, 112), (112, .iload 6, 2, 114), (114, .bipush (-4), 2, 116), (116, .if_icmp .eq 18, 3, 119), (119, .aload_n 0, 1, 120), (120, .iload 6, 2, 122), (122, .iload_n 3, 1, 123), (123, .invokevirtual 175, 3, 126), (126, .pop, 1, 127), (127, .aload_n 0, 1, 128), (128, .iload 6, 2, 130), (130, .iload_n 3, 1, 131), (131, .invokevirtual 178, 3, 134), (134, .iload_n 1, 1, 135), (135, .ifCond .ne 34, 3, 138), (138, .aload_n 0, 1, 139), (139, .getfield 7, 3, 142), (142, .iload_n 3, 1, 143), (143, .iload 7, 2, 145), (145, .iastore, 1, 146), (146, .iload 5, 2, 148), (148, .bipush (-4), 2, 150), (150, .if_icmp .eq 25, 3, 153), (153, .aload_n 0, 1, 154), (154, .getfield 22, 3, 157), (157, .aload_n 0, 1, 158), (158, .iload 5, 2, 160), (160, .iload_n 3, 1, 161), (161, .invokevirtual 123, 3, 164), (164, .iconst 1, 1, 165), (165, .iastore, 1, 166), (166, .goto 9, 3, 169), (169, .aload_n 0, 1, 170), (170, .iload_n 2, 1, 171), (171, .iload_n 3, 1, 172), (172, .invokevirtual 203, 3, 175), (175, .bipush 7, 2, 177), (177, .aload_n 0, 1, 178), (178, .getfield 103, 3, 181), (181, .imul, 1, 182), (182, .istore 9, 2, 184), (184, .aload_n 0, 1, 185), (185, .getfield 52, 3, 188), (188, .iload 9, 2, 190), (190, .iload_n 1, 1, 191), (191, .iastore, 1, 192), (192, .aload_n 0, 1, 193), (193, .getfield 52, 3, 196), (196, .iload 9, 2, 198), (198, .iconst 1, 1, 199), (199, .iadd, 1, 200), (200, .iload_n 2, 1, 201), (201, .iastore, 1, 202), (202, .aload_n 0, 1, 203), (203, .getfield 52, 3, 206), (206, .iload 9, 2, 208), (208, .iconst 2, 1, 209), (209, .iadd, 1, 210), (210, .iload_n 3, 1, 211), (211, .iastore, 1, 212), (212, .aload_n 0, 1, 213), (213, .getfield 52, 3, 216), (216, .iload 9, 2, 218), (218, .iconst 3, 1, 219), (219, .iadd, 1, 220), (220, .iload 8, 2, 222), (222, .iastore, 1, 223), (223, .aload_n 0, 1, 224), (224, .getfield 52, 3, 227), (227, .iload 9, 2, 229), (229, .iconst 4, 1, 230), (230, .iadd, 1, 231), (231, .iload_n 1, 1, 232), (232, .iconst 1, 1, 233), (233, .if_icmp .ne 7, 3, 236), (236, .iconst 3, 1, 237), (237, .goto 20, 3, 240), (240, .aload_n 0, 1, 241), (241, .iload_n 2, 1, 242), (242, .iload_n 3, 1, 243), (243, .iconst 1, 1, 244), (244, .invokevirtual 195, 3, 247), (247, .bipush (-4), 2, 249), (249, .if_icmp .eq 7, 3, 252), (252, .iconst 1, 1, 253), (253, .goto 4, 3, 256), (256, .iconst 2, 1, 257), (257, .iastore, 1, 258), (258, .aload_n 0, 1, 259), (259, .getfield 52, 3, 262), (262, .iload 9, 2, 264), (264, .iconst 5, 1, 265), (265, .iadd, 1, 266), (266, .iload 7, 2, 268), (268, .iastore, 1, 269), (269, .aload_n 0, 1, 270), (270, .getfield 52, 3, 273), (273, .iload 9, 2, 275), (275, .bipush 6, 2, 277), (277, .iadd, 1, 278), (278, .iload 4, 2, 280), (280, .iastore, 1, 281), (281, .aload_n 0, 1, 282), (282, .dup, 1, 283), (283, .getfield 103, 3, 286), (286, .iconst 1, 1, 287), (287, .iadd, 1, 288), (288, .putfield 103, 3, 291), (291, .return_, 1, 292)]
theorem dk_X7_opens : sw_dc cX7_opens L_X7_opens = true := by decide +kernel
def f_X7_opens_257  (σ : sw_St) (x4 : Int32) (x7 : Int32) (x9 : Int32) (y0 : Int32) (y1 : Int32) : Option sw_St := sw_ck (sw_in y1 28) (sw_pt σ 16 (sw_ix y1) y0 fun s2 => (sw_ck (sw_in (x9 + 5) 28) (sw_pt s2 16 (sw_ix (x9 + 5)) x7 fun s4 => (sw_ck (sw_in (x9 + 6) 28) (sw_pt s4 16 (sw_ix (x9 + 6)) x4 fun s6 => (sw_pt s6 1 21 ((s6 1 21) + 1) fun s7 => (some s7)))))))
def f_X7_opens_175  (σ : sw_St) (x1 : Int32) (x2 : Int32) (x3 : Int32) (x4 : Int32) (x7 : Int32) (x8 : Int32) : Option sw_St := sw_ck (sw_in (7 * (σ 1 21)) 28) (sw_pt σ 16 (sw_ix (7 * (σ 1 21))) x1 fun s2 => (sw_ck (sw_in ((7 * (σ 1 21)) + 1) 28) (sw_pt s2 16 (sw_ix ((7 * (σ 1 21)) + 1)) x2 fun s4 => (sw_ck (sw_in ((7 * (σ 1 21)) + 2) 28) (sw_pt s4 16 (sw_ix ((7 * (σ 1 21)) + 2)) x3 fun s6 => (sw_ck (sw_in ((7 * (σ 1 21)) + 3) 28) (sw_pt s6 16 (sw_ix ((7 * (σ 1 21)) + 3)) x8 fun s8 => (if x1 = 1 then (f_X7_opens_257 s8 x4 x7 (7 * (σ 1 21)) 3 ((7 * (σ 1 21)) + 4)) else ((f_X7_otherThat s8 x2 x3 1).bind fun r9 => (if r9 = (-4) then (f_X7_opens_257 s8 x4 x7 (7 * (σ 1 21)) 2 ((7 * (σ 1 21)) + 4)) else (f_X7_opens_257 s8 x4 x7 (7 * (σ 1 21)) 1 ((7 * (σ 1 21)) + 4))))))))))))
def f_X7_opens_134  (σ : sw_St) (x1 : Int32) (x2 : Int32) (x3 : Int32) (x4 : Int32) (x5 : Int32) (x7 : Int32) (x8 : Int32) : Option sw_St := if x1 = 0 then (sw_ck (sw_in x3 8) (sw_pt σ 2 (sw_ix x3) x7 fun s3 => (if x5 = (-4) then (f_X7_opens_175 s3 x1 x2 x3 x4 x7 x8) else ((f_X7_at s3 x5 x3).bind fun r4 => (sw_ck (sw_in r4 16) (sw_pt s3 6 (sw_ix r4) 1 fun s6 => (f_X7_opens_175 s6 x1 x2 x3 x4 x7 x8))))))) else ((f_X7_noOther σ x2 x3).bind fun r1 => (f_X7_opens_175 r1 x1 x2 x3 x4 x7 x8))
def f_X7_opens_109  (σ : sw_St) (x1 : Int32) (x2 : Int32) (x3 : Int32) (x4 : Int32) (x5 : Int32) (x6 : Int32) (x7 : Int32) (y0 : Int32) (y1 : Int32) : Option sw_St := if x6 = (-4) then (f_X7_opens_134 σ x1 x2 x3 x4 x5 x7 (y1 + y0)) else ((f_X7_outOfBuffer σ x6 x3).bind fun r1 => ((f_X7_noBack r1.2 x6 x3).bind fun r2 => (f_X7_opens_134 r2 x1 x2 x3 x4 x5 x7 (y1 + y0))))
def f_X7_opens_98  (σ : sw_St) (x1 : Int32) (x2 : Int32) (x3 : Int32) (x4 : Int32) (x5 : Int32) (x6 : Int32) (x7 : Int32) (y0 : Int32) : Option sw_St := f_X7_opens_109 σ x1 x2 x3 x4 x5 x6 x7 (σ 1 2) y0
def f_X7_opens_78  (σ : sw_St) (x1 : Int32) (x2 : Int32) (x3 : Int32) (x4 : Int32) (x5 : Int32) (x6 : Int32) (y0 : Int32) : Option sw_St := if x5 = (-4) then (if x6 = (-4) then (f_X7_opens_109 σ x1 x2 x3 x4 x5 x6 y0 (σ 1 3) (σ 1 4)) else (f_X7_opens_98 σ x1 x2 x3 x4 x5 x6 y0 (σ 1 4))) else (f_X7_opens_98 σ x1 x2 x3 x4 x5 x6 y0 (σ 1 4))
def f_X7_opens_26  (σ : sw_St) (x1 : Int32) (x2 : Int32) (x3 : Int32) (x4 : Int32) (x5 : Int32) (y0 : Int32) : Option sw_St := if x5 = (-4) then (if y0 = (-4) then (sw_ck (sw_in x3 8) (f_X7_opens_78 σ x1 x2 x3 x4 x5 y0 (σ 2 (sw_ix x3)))) else ((f_X7_backAt σ y0 x3).bind fun r2 => (sw_ck (sw_in r2 8) (f_X7_opens_78 σ x1 x2 x3 x4 x5 y0 (σ 9 (sw_ix r2)))))) else ((f_X7_at σ x5 x3).bind fun r4 => (sw_ck (sw_in r4 16) (f_X7_opens_78 σ x1 x2 x3 x4 x5 y0 (σ 5 (sw_ix r4)))))
def f_X7_opens (σ : sw_St) (x1 : Int32) (x2 : Int32) (x3 : Int32) (x4 : Int32) : Option sw_St := (f_X7_otherThat σ x2 x3 2).bind fun r1 => (if r1 = (-4) then ((f_X7_bufferThat σ x3).bind fun r2 => (f_X7_opens_26 σ x1 x2 x3 x4 r1 r2)) else (f_X7_opens_26 σ x1 x2 x3 x4 r1 (-4)))
set_option maxHeartbeats 1000000 in
set_option maxRecDepth 100000 in
theorem s_X7_opens_257 {V : sw_V} (C : sw_Cx sw_ZM V cX7_opens RX7 10 none L_X7_opens 3) (σ : sw_St) (x4 : Int32) (x7 : Int32) (x9 : Int32) (y0 : Int32) (y1 : Int32) : sw_S sw_ZM V sw_eV [some (sw_r V 1), none, none, none, some (.int x4), none, none, some (.int x7), none, some (.int x9)] [(.int y0), (.int y1), (sw_r V 16)] 257 σ (f_X7_opens_257 σ x4 x7 x9 y0 y1) := by
  unfold f_X7_opens_257
  refine g_ck fun h1 => ?_
  refine g_iast C 143 rfl rfl h1 (fun s2 => ?_)
  refine g_aload_n C 144 rfl rfl ?_
  refine g_getR C 145 rfl fl_X7_52 rfl rfl ?_
  refine g_iload C 146 rfl rfl ?_
  refine g_iconst C 147 rfl 5 (by decide) ?_
  refine g_iadd C 148 rfl ?_
  refine g_iload C 149 rfl rfl ?_
  refine g_ck fun h3 => ?_
  refine g_iast C 150 rfl rfl h3 (fun s4 => ?_)
  refine g_aload_n C 151 rfl rfl ?_
  refine g_getR C 152 rfl fl_X7_52 rfl rfl ?_
  refine g_iload C 153 rfl rfl ?_
  refine g_bipush C 154 rfl 6 (by decide) ?_
  refine g_iadd C 155 rfl ?_
  refine g_iload C 156 rfl rfl ?_
  refine g_ck fun h5 => ?_
  refine g_iast C 157 rfl rfl h5 (fun s6 => ?_)
  refine g_aload_n C 158 rfl rfl ?_
  refine g_dupR C 159 rfl ?_
  refine g_getI C 160 rfl fl_X7_103 rfl rfl ?_
  refine g_iconst C 161 rfl 1 (by decide) ?_
  refine g_iadd C 162 rfl ?_
  refine g_put C 163 rfl fp_X7_103 rfl rfl (fun s7 => ?_)
  exact g_vret C 164 rfl rfl
set_option maxHeartbeats 1000000 in
set_option maxRecDepth 100000 in
theorem s_X7_opens_175 {V : sw_V} (C : sw_Cx sw_ZM V cX7_opens RX7 10 none L_X7_opens 3) (σ : sw_St) (x1 : Int32) (x2 : Int32) (x3 : Int32) (x4 : Int32) (x7 : Int32) (x8 : Int32) : sw_S sw_ZM V sw_eV [some (sw_r V 1), some (.int x1), some (.int x2), some (.int x3), some (.int x4), none, none, some (.int x7), some (.int x8), none] [] 175 σ (f_X7_opens_175 σ x1 x2 x3 x4 x7 x8) := by
  unfold f_X7_opens_175
  refine g_bipush C 92 rfl 7 (by decide) ?_
  refine g_aload_n C 93 rfl rfl ?_
  refine g_getI C 94 rfl fl_X7_103 rfl rfl ?_
  refine g_imul C 95 rfl ?_
  refine g_istore C 96 rfl (Nat.le_of_ble_eq_true rfl) (Or.inr (Or.inr (Or.inl ⟨_, rfl⟩))) ?_
  refine g_aload_n C 97 rfl rfl ?_
  refine g_getR C 98 rfl fl_X7_52 rfl rfl ?_
  refine g_iload C 99 rfl rfl ?_
  refine g_iload_n C 100 rfl rfl ?_
  refine g_ck fun h1 => ?_
  refine g_iast C 101 rfl rfl h1 (fun s2 => ?_)
  refine g_aload_n C 102 rfl rfl ?_
  refine g_getR C 103 rfl fl_X7_52 rfl rfl ?_
  refine g_iload C 104 rfl rfl ?_
  refine g_iconst C 105 rfl 1 (by decide) ?_
  refine g_iadd C 106 rfl ?_
  refine g_iload_n C 107 rfl rfl ?_
  refine g_ck fun h3 => ?_
  refine g_iast C 108 rfl rfl h3 (fun s4 => ?_)
  refine g_aload_n C 109 rfl rfl ?_
  refine g_getR C 110 rfl fl_X7_52 rfl rfl ?_
  refine g_iload C 111 rfl rfl ?_
  refine g_iconst C 112 rfl 2 (by decide) ?_
  refine g_iadd C 113 rfl ?_
  refine g_iload_n C 114 rfl rfl ?_
  refine g_ck fun h5 => ?_
  refine g_iast C 115 rfl rfl h5 (fun s6 => ?_)
  refine g_aload_n C 116 rfl rfl ?_
  refine g_getR C 117 rfl fl_X7_52 rfl rfl ?_
  refine g_iload C 118 rfl rfl ?_
  refine g_iconst C 119 rfl 3 (by decide) ?_
  refine g_iadd C 120 rfl ?_
  refine g_iload C 121 rfl rfl ?_
  refine g_ck fun h7 => ?_
  refine g_iast C 122 rfl rfl h7 (fun s8 => ?_)
  refine g_aload_n C 123 rfl rfl ?_
  refine g_getR C 124 rfl fl_X7_52 rfl rfl ?_
  refine g_iload C 125 rfl rfl ?_
  refine g_iconst C 126 rfl 4 (by decide) ?_
  refine g_iadd C 127 rfl ?_
  refine g_iload_n C 128 rfl rfl ?_
  refine g_iconst C 129 rfl 1 (by decide) ?_
  refine g_icmp_ne C 130 rfl 240 (by decide) ?_ ?_
  · refine g_aload_n C 133 rfl rfl ?_
    refine g_iload_n C 134 rfl rfl ?_
    refine g_iload_n C 135 rfl rfl ?_
    refine g_iconst C 136 rfl 1 (by decide) ?_
    refine g_callV (ψ₁ := sw_eP s8) C 137 rfl [(.int x2), (.int x3), (.int 1)] [(.int ((7 * (σ 1 21)) + 4)), (sw_r V 16)] ml_X7_195 rfl (Nat.le_of_ble_eq_true rfl) (by decide) rfl rfl (fun b hb => m_X7_otherThat V.1.2.1 _ _ _ _ C.inj s8 x2 x3 1 b hb) rfl (g_cP fun r9 => ?_)
    refine g_bipush C 138 rfl (-4) (by decide) ?_
    refine g_icmp_eq C 139 rfl 256 (by decide) ?_ ?_
    · refine g_iconst C 142 rfl 2 (by decide) ?_
      exact g_wk (s_X7_opens_257 C s8 x4 x7 (7 * (σ 1 21)) 2 ((7 * (σ 1 21)) + 4)) ⟨rfl, rfl, rfl, rfl, trivial⟩
    · refine g_iconst C 140 rfl 1 (by decide) ?_
      refine g_goto C 141 rfl 257 (by decide) ?_
      exact g_wk (s_X7_opens_257 C s8 x4 x7 (7 * (σ 1 21)) 1 ((7 * (σ 1 21)) + 4)) ⟨rfl, rfl, rfl, rfl, trivial⟩
  · refine g_iconst C 131 rfl 3 (by decide) ?_
    refine g_goto C 132 rfl 257 (by decide) ?_
    exact g_wk (s_X7_opens_257 C s8 x4 x7 (7 * (σ 1 21)) 3 ((7 * (σ 1 21)) + 4)) ⟨rfl, rfl, rfl, rfl, trivial⟩
set_option maxHeartbeats 1000000 in
set_option maxRecDepth 100000 in
theorem s_X7_opens_134 {V : sw_V} (C : sw_Cx sw_ZM V cX7_opens RX7 10 none L_X7_opens 3) (σ : sw_St) (x1 : Int32) (x2 : Int32) (x3 : Int32) (x4 : Int32) (x5 : Int32) (x7 : Int32) (x8 : Int32) : sw_S sw_ZM V sw_eV [some (sw_r V 1), some (.int x1), some (.int x2), some (.int x3), some (.int x4), some (.int x5), none, some (.int x7), some (.int x8), none] [] 134 σ (f_X7_opens_134 σ x1 x2 x3 x4 x5 x7 x8) := by
  unfold f_X7_opens_134
  refine g_iload_n C 69 rfl rfl ?_
  refine g_if_ne C 70 rfl 169 (by decide) ?_ ?_
  · refine g_aload_n C 88 rfl rfl ?_
    refine g_iload_n C 89 rfl rfl ?_
    refine g_iload_n C 90 rfl rfl ?_
    refine g_callV (ψ₁ := sw_eV) C 91 rfl [(.int x2), (.int x3)] [] ml_X7_203 rfl (Nat.le_of_ble_eq_true rfl) (by decide) rfl rfl (fun b hb => m_X7_noOther V.1.2.1 _ _ _ _ C.inj σ x2 x3 b hb) rfl (g_cV fun r1 => ?_)
    exact g_wk (s_X7_opens_175 C r1 x1 x2 x3 x4 x7 x8) ⟨rfl, rfl, rfl, rfl, rfl, rfl, rfl, trivial⟩
  · refine g_aload_n C 71 rfl rfl ?_
    refine g_getR C 72 rfl fl_X7_7 rfl rfl ?_
    refine g_iload_n C 73 rfl rfl ?_
    refine g_iload C 74 rfl rfl ?_
    refine g_ck fun h2 => ?_
    refine g_iast C 75 rfl rfl h2 (fun s3 => ?_)
    refine g_iload C 76 rfl rfl ?_
    refine g_bipush C 77 rfl (-4) (by decide) ?_
    refine g_icmp_eq C 78 rfl 175 (by decide) ?_ ?_
    · exact g_wk (s_X7_opens_175 C s3 x1 x2 x3 x4 x7 x8) ⟨rfl, rfl, rfl, rfl, rfl, rfl, rfl, trivial⟩
    · refine g_aload_n C 79 rfl rfl ?_
      refine g_getR C 80 rfl fl_X7_22 rfl rfl ?_
      refine g_aload_n C 81 rfl rfl ?_
      refine g_iload C 82 rfl rfl ?_
      refine g_iload_n C 83 rfl rfl ?_
      refine g_callV (ψ₁ := sw_eP s3) C 84 rfl [(.int x5), (.int x3)] [(sw_r V 6)] ml_X7_123 rfl (Nat.le_of_ble_eq_true rfl) (by decide) rfl rfl (fun b hb => m_X7_at V.1.2.1 _ _ _ _ C.inj s3 x5 x3 b hb) rfl (g_cP fun r4 => ?_)
      refine g_iconst C 85 rfl 1 (by decide) ?_
      refine g_ck fun h5 => ?_
      refine g_iast C 86 rfl rfl h5 (fun s6 => ?_)
      refine g_goto C 87 rfl 175 (by decide) ?_
      exact g_wk (s_X7_opens_175 C s6 x1 x2 x3 x4 x7 x8) ⟨rfl, rfl, rfl, rfl, rfl, rfl, rfl, trivial⟩
set_option maxHeartbeats 1000000 in
set_option maxRecDepth 100000 in
theorem s_X7_opens_109 {V : sw_V} (C : sw_Cx sw_ZM V cX7_opens RX7 10 none L_X7_opens 3) (σ : sw_St) (x1 : Int32) (x2 : Int32) (x3 : Int32) (x4 : Int32) (x5 : Int32) (x6 : Int32) (x7 : Int32) (y0 : Int32) (y1 : Int32) : sw_S sw_ZM V sw_eV [some (sw_r V 1), some (.int x1), some (.int x2), some (.int x3), some (.int x4), some (.int x5), some (.int x6), some (.int x7), none, none] [(.int y0), (.int y1)] 109 σ (f_X7_opens_109 σ x1 x2 x3 x4 x5 x6 x7 y0 y1) := by
  unfold f_X7_opens_109
  refine g_iadd C 55 rfl ?_
  refine g_istore C 56 rfl (Nat.le_of_ble_eq_true rfl) (Or.inr (Or.inr (Or.inl ⟨_, rfl⟩))) ?_
  refine g_iload C 57 rfl rfl ?_
  refine g_bipush C 58 rfl (-4) (by decide) ?_
  refine g_icmp_eq C 59 rfl 134 (by decide) ?_ ?_
  · exact g_wk (s_X7_opens_134 C σ x1 x2 x3 x4 x5 x7 (y1 + y0)) ⟨rfl, rfl, rfl, rfl, rfl, rfl, rfl, rfl, trivial⟩
  · refine g_aload_n C 60 rfl rfl ?_
    refine g_iload C 61 rfl rfl ?_
    refine g_iload_n C 62 rfl rfl ?_
    refine g_callV (ψ₁ := sw_eI) C 63 rfl [(.int x6), (.int x3)] [] ml_X7_175 rfl (Nat.le_of_ble_eq_true rfl) (by decide) rfl rfl (fun b hb => m_X7_outOfBuffer V.1.2.1 _ _ _ _ C.inj σ x6 x3 b hb) rfl (g_cI fun r1 => ?_)
    refine g_popI C 64 rfl ?_
    refine g_aload_n C 65 rfl rfl ?_
    refine g_iload C 66 rfl rfl ?_
    refine g_iload_n C 67 rfl rfl ?_
    refine g_callV (ψ₁ := sw_eV) C 68 rfl [(.int x6), (.int x3)] [] ml_X7_178 rfl (Nat.le_of_ble_eq_true rfl) (by decide) rfl rfl (fun b hb => m_X7_noBack V.1.2.1 _ _ _ _ C.inj r1.2 x6 x3 b hb) rfl (g_cV fun r2 => ?_)
    exact g_wk (s_X7_opens_134 C r2 x1 x2 x3 x4 x5 x7 (y1 + y0)) ⟨rfl, rfl, rfl, rfl, rfl, rfl, rfl, rfl, trivial⟩
set_option maxHeartbeats 1000000 in
set_option maxRecDepth 100000 in
theorem s_X7_opens_98 {V : sw_V} (C : sw_Cx sw_ZM V cX7_opens RX7 10 none L_X7_opens 3) (σ : sw_St) (x1 : Int32) (x2 : Int32) (x3 : Int32) (x4 : Int32) (x5 : Int32) (x6 : Int32) (x7 : Int32) (y0 : Int32) : sw_S sw_ZM V sw_eV [some (sw_r V 1), some (.int x1), some (.int x2), some (.int x3), some (.int x4), some (.int x5), some (.int x6), some (.int x7), none, none] [(.int y0)] 98 σ (f_X7_opens_98 σ x1 x2 x3 x4 x5 x6 x7 y0) := by
  unfold f_X7_opens_98
  refine g_aload_n C 50 rfl rfl ?_
  refine g_getI C 51 rfl fl_X7_88 rfl rfl ?_
  refine g_goto C 52 rfl 109 (by decide) ?_
  exact g_wk (s_X7_opens_109 C σ x1 x2 x3 x4 x5 x6 x7 (σ 1 2) y0) ⟨rfl, rfl, rfl, rfl, rfl, rfl, rfl, rfl, trivial⟩
set_option maxHeartbeats 1000000 in
set_option maxRecDepth 100000 in
theorem s_X7_opens_78 {V : sw_V} (C : sw_Cx sw_ZM V cX7_opens RX7 10 none L_X7_opens 3) (σ : sw_St) (x1 : Int32) (x2 : Int32) (x3 : Int32) (x4 : Int32) (x5 : Int32) (x6 : Int32) (y0 : Int32) : sw_S sw_ZM V sw_eV [some (sw_r V 1), some (.int x1), some (.int x2), some (.int x3), some (.int x4), some (.int x5), some (.int x6), none, none, none] [(.int y0)] 78 σ (f_X7_opens_78 σ x1 x2 x3 x4 x5 x6 y0) := by
  unfold f_X7_opens_78
  refine g_istore C 41 rfl (Nat.le_of_ble_eq_true rfl) (Or.inr (Or.inr (Or.inl ⟨_, rfl⟩))) ?_
  refine g_aload_n C 42 rfl rfl ?_
  refine g_getI C 43 rfl fl_X7_94 rfl rfl ?_
  refine g_iload C 44 rfl rfl ?_
  refine g_bipush C 45 rfl (-4) (by decide) ?_
  refine g_icmp_ne C 46 rfl 98 (by decide) ?_ ?_
  · exact g_wk (s_X7_opens_98 C σ x1 x2 x3 x4 x5 x6 y0 (σ 1 4)) ⟨rfl, rfl, rfl, rfl, rfl, rfl, rfl, rfl, trivial⟩
  · refine g_iload C 47 rfl rfl ?_
    refine g_bipush C 48 rfl (-4) (by decide) ?_
    refine g_icmp_eq C 49 rfl 105 (by decide) ?_ ?_
    · refine g_aload_n C 53 rfl rfl ?_
      refine g_getI C 54 rfl fl_X7_91 rfl rfl ?_
      exact g_wk (s_X7_opens_109 C σ x1 x2 x3 x4 x5 x6 y0 (σ 1 3) (σ 1 4)) ⟨rfl, rfl, rfl, rfl, rfl, rfl, rfl, rfl, trivial⟩
    · exact g_wk (s_X7_opens_98 C σ x1 x2 x3 x4 x5 x6 y0 (σ 1 4)) ⟨rfl, rfl, rfl, rfl, rfl, rfl, rfl, rfl, trivial⟩
set_option maxHeartbeats 1000000 in
set_option maxRecDepth 100000 in
theorem s_X7_opens_26 {V : sw_V} (C : sw_Cx sw_ZM V cX7_opens RX7 10 none L_X7_opens 3) (σ : sw_St) (x1 : Int32) (x2 : Int32) (x3 : Int32) (x4 : Int32) (x5 : Int32) (y0 : Int32) : sw_S sw_ZM V sw_eV [some (sw_r V 1), some (.int x1), some (.int x2), some (.int x3), some (.int x4), some (.int x5), none, none, none, none] [(.int y0)] 26 σ (f_X7_opens_26 σ x1 x2 x3 x4 x5 y0) := by
  unfold f_X7_opens_26
  refine g_istore C 14 rfl (Nat.le_of_ble_eq_true rfl) (Or.inr (Or.inr (Or.inl ⟨_, rfl⟩))) ?_
  refine g_iload C 15 rfl rfl ?_
  refine g_bipush C 16 rfl (-4) (by decide) ?_
  refine g_icmp_eq C 17 rfl 50 (by decide) ?_ ?_
  · refine g_iload C 26 rfl rfl ?_
    refine g_bipush C 27 rfl (-4) (by decide) ?_
    refine g_icmp_eq C 28 rfl 72 (by decide) ?_ ?_
    · refine g_aload_n C 37 rfl rfl ?_
      refine g_getR C 38 rfl fl_X7_7 rfl rfl ?_
      refine g_iload_n C 39 rfl rfl ?_
      refine g_ck fun h1 => ?_
      refine g_iald C 40 rfl rfl h1 ?_
      exact g_wk (s_X7_opens_78 C σ x1 x2 x3 x4 x5 y0 (σ 2 (sw_ix x3))) ⟨rfl, rfl, rfl, rfl, rfl, rfl, rfl, trivial⟩
    · refine g_aload_n C 29 rfl rfl ?_
      refine g_getR C 30 rfl fl_X7_31 rfl rfl ?_
      refine g_aload_n C 31 rfl rfl ?_
      refine g_iload C 32 rfl rfl ?_
      refine g_iload_n C 33 rfl rfl ?_
      refine g_callV (ψ₁ := sw_eP σ) C 34 rfl [(.int y0), (.int x3)] [(sw_r V 9)] ml_X7_142 rfl (Nat.le_of_ble_eq_true rfl) (by decide) rfl rfl (fun b hb => m_X7_backAt V.1.2.1 _ _ _ _ C.inj σ y0 x3 b hb) rfl (g_cP fun r2 => ?_)
      refine g_ck fun h3 => ?_
      refine g_iald C 35 rfl rfl h3 ?_
      refine g_goto C 36 rfl 78 (by decide) ?_
      exact g_wk (s_X7_opens_78 C σ x1 x2 x3 x4 x5 y0 (σ 9 (sw_ix r2))) ⟨rfl, rfl, rfl, rfl, rfl, rfl, rfl, trivial⟩
  · refine g_aload_n C 18 rfl rfl ?_
    refine g_getR C 19 rfl fl_X7_19 rfl rfl ?_
    refine g_aload_n C 20 rfl rfl ?_
    refine g_iload C 21 rfl rfl ?_
    refine g_iload_n C 22 rfl rfl ?_
    refine g_callV (ψ₁ := sw_eP σ) C 23 rfl [(.int x5), (.int x3)] [(sw_r V 5)] ml_X7_123 rfl (Nat.le_of_ble_eq_true rfl) (by decide) rfl rfl (fun b hb => m_X7_at V.1.2.1 _ _ _ _ C.inj σ x5 x3 b hb) rfl (g_cP fun r4 => ?_)
    refine g_ck fun h5 => ?_
    refine g_iald C 24 rfl rfl h5 ?_
    refine g_goto C 25 rfl 78 (by decide) ?_
    exact g_wk (s_X7_opens_78 C σ x1 x2 x3 x4 x5 y0 (σ 5 (sw_ix r4))) ⟨rfl, rfl, rfl, rfl, rfl, rfl, rfl, trivial⟩
set_option maxHeartbeats 1000000 in
set_option maxRecDepth 100000 in
theorem s_X7_opens {V : sw_V} (C : sw_Cx sw_ZM V cX7_opens RX7 10 none L_X7_opens 3) (σ : sw_St) (x1 : Int32) (x2 : Int32) (x3 : Int32) (x4 : Int32) : sw_S sw_ZM V sw_eV [some (sw_r V 1), some (.int x1), some (.int x2), some (.int x3), some (.int x4), none, none, none, none, none] [] 0 σ (f_X7_opens σ x1 x2 x3 x4) := by
  unfold f_X7_opens
  refine g_aload_n C 0 rfl rfl ?_
  refine g_iload_n C 1 rfl rfl ?_
  refine g_iload_n C 2 rfl rfl ?_
  refine g_iconst C 3 rfl 2 (by decide) ?_
  refine g_callV (ψ₁ := sw_eP σ) C 4 rfl [(.int x2), (.int x3), (.int 2)] [] ml_X7_195 rfl (Nat.le_of_ble_eq_true rfl) (by decide) rfl rfl (fun b hb => m_X7_otherThat V.1.2.1 _ _ _ _ C.inj σ x2 x3 2 b hb) rfl (g_cP fun r1 => ?_)
  refine g_istore C 5 rfl (Nat.le_of_ble_eq_true rfl) (Or.inr (Or.inr (Or.inl ⟨_, rfl⟩))) ?_
  refine g_iload C 6 rfl rfl ?_
  refine g_bipush C 7 rfl (-4) (by decide) ?_
  refine g_icmp_ne C 8 rfl 24 (by decide) ?_ ?_
  · refine g_bipush C 13 rfl (-4) (by decide) ?_
    exact g_wk (s_X7_opens_26 C σ x1 x2 x3 x4 r1 (-4)) ⟨rfl, rfl, rfl, rfl, rfl, rfl, trivial⟩
  · refine g_aload_n C 9 rfl rfl ?_
    refine g_iload_n C 10 rfl rfl ?_
    refine g_callV (ψ₁ := sw_eP σ) C 11 rfl [(.int x3)] [] ml_X7_199 rfl (Nat.le_of_ble_eq_true rfl) (by decide) rfl rfl (fun b hb => m_X7_bufferThat V.1.2.1 _ _ _ _ C.inj σ x3 b hb) rfl (g_cP fun r2 => ?_)
    refine g_goto C 12 rfl 26 (by decide) ?_
    exact g_wk (s_X7_opens_26 C σ x1 x2 x3 x4 r1 r2) ⟨rfl, rfl, rfl, rfl, rfl, rfl, trivial⟩
set_option maxHeartbeats 1000000 in
set_option maxRecDepth 100000 in
theorem m_X7_opens (l : Launch) (dC : Nat → ClassId) (dI : Nat → Nat → Nat) (dA : Nat → ClassId) (ad : Nat → Nat) (hI : sw_inj sw_ZM ad) (σ : sw_St) (x1 : Int32) (x2 : Int32) (x3 : Int32) (x4 : Int32) (b : sw_St) (hb : f_X7_opens σ x1 x2 x3 x4 = some b) : sw_M sw_ZM l yX7_opens cX7_opens 10 none 3 dC dI dA ad [(sw_rv ad 1), (.int x1), (.int x2), (.int x3), (.int x4)] σ (sw_eV b) :=
  sw_mk1 (ψ := sw_eV) 5 (by decide) sw_ZMok hI dk_X7_opens rfl (sw_c1_all _ ⟨sw_rv_cat _ _, rfl, rfl, rfl, rfl, trivial⟩) hb (fun p e R M C => s_X7_opens C σ x1 x2 x3 x4)
