/-! SplitWatch$Script.understand(II)Z -/
def L_X5_understand : sw_Is := [(0, .iload_n 1, 1, 1), (1, .istore_n 3, 1, 2), (2, .iconst 0, 1, 3), (3, .istore 4, 2, 5), (5, .iload 4, 2, 7), (7, .sipush 200, 3, 10), (10, .if_icmp .ge 23, 3, 13), (13, .aload_n 0, 1, 14), (14, .iload_n 3, 1, 15), (15, .invokevirtual 30, 3, 18), (18, .invokestatic 34, 3, 21), (21, .ifCond .eq 12, 3, 24), (24, .iinc 3 1, 3, 27), (27, .iinc 4 1, 3, 30), (30, .goto (-25), 3, 33), (33, .aload_n 0, 1, 34), (34, .aload_n 0, 1, 35), (35, .iload_n 1, 1, 36), (36, .iload_n 3, 1, 37), (37, .invokevirtual 38, 3, 40), (40, .putfield 42, 3, 43), (43, .aload_n 0, 1, 44), (44, .getfield 42, 3, 47), (47, .iconst (-1), 1, 48), (48, .if_icmp .ne 5, 3, 51), (51, .iconst 0, 1, 52), (52, .ireturn, 1, 53), (53, .aload_n 0, 1, 54), (54, .getfield 42, 3, 57), (57, .invokestatic 45, 3, 60), (60, .istore 4, 2, 62), (62, .iconst 0, 1, 63), (63, .istore 5, 2, 65), (65, .iload 5, 2, 67), (67, .iload 4, 2, 69), (69, .if_icmp .ge 24, 3, 72), (72, .aload_n 0, 1, 73), (73, .iload_n 3, 1, 74), (74, .iload 5, 2, 76), (76, .invokevirtual 49, 3, 79), (79, .istore_n 3, 1, 80), (80, .iload_n 3, 1, 81), (81, .iconst (-1), 1, 82), (82, .if_icmp .ne 5, 3, 85), (85, .iconst 0, 1, 86), (86, .ireturn, 1, 87), (87, .iinc 5 1, 3, 90), (90, .goto (-25), 3, 93), (93, .aload_n 0, 1, 94), (94, .iload_n 3, 1, 95), (95, .iconst 1, 1, 96), (96, .iadd, 1, 97), (97, .putfield 27, 3, 100), (100, .aload_n 0, 1, 101), (101, .iload_n 3, 1, 102), (102, .invokevirtual 30, 3, 105), (105, .bipush 59, 2, 107), (107, .if_icmp .ne 15, 3, 110), (110, .aload_n 0, 1, 111), (111, .iload_n 2, 1, 112), (112, .invokevirtual 52, 3, 115), (115, .ifCond .eq 7, 3, 118), (118, .iconst 1, 1, 119), (119, .goto 4, 3, 122), (122, .iconst 0, 1, 123), (123, .ireturn, 1, 124)]
theorem dk_X5_understand : sw_dc cX5_understand L_X5_understand = true := by decide +kernel
def f_X5_understand_65  : Nat → sw_St → Int32 → Int32 → Int32 → Int32 → Option (Int32 × sw_St)
  | 0 => fun _ _ _ _ _ => none
  | n + 1 => fun σ x2 x3 x4 x5 => if x4 ≤ x5 then (sw_pt σ 44 4 (x3 + 1) fun s1 => ((f_X5_letterAt s1 x3).bind fun r2 => (if r2 = 59 then ((f_X5_areTold s1 x2).bind fun r3 => (if r3 = 0 then (some (0, s1)) else (some (1, s1)))) else (some (0, s1))))) else ((f_X5_takeNumber σ x3 x5).bind fun r4 => (if r4.1 = (-1) then (some (0, r4.2)) else ((f_X5_understand_65 n) r4.2 x2 r4.1 x4 (x5 + 1))))
def f_X5_understand_33  (σ : sw_St) (x1 : Int32) (x2 : Int32) (x3 : Int32) : Option (Int32 × sw_St) := (f_X5_verbOf σ x1 x3).bind fun r1 => (sw_pt σ 44 3 r1 fun s2 => (if (s2 44 3) = (-1) then (some (0, s2)) else ((f_X5_numbersOf s2 (s2 44 3)).bind fun r3 => (f_X5_understand_65 sw_fuel s2 x2 x3 r3 0))))
def f_X5_understand_5  : Nat → sw_St → Int32 → Int32 → Int32 → Int32 → Option (Int32 × sw_St)
  | 0 => fun _ _ _ _ _ => none
  | n + 1 => fun σ x1 x2 x3 x4 => if 200 ≤ x4 then (f_X5_understand_33 σ x1 x2 x3) else ((f_X5_letterAt σ x3).bind fun r1 => ((f_X5_isSmall σ r1).bind fun r2 => (if r2 = 0 then (f_X5_understand_33 σ x1 x2 x3) else ((f_X5_understand_5 n) σ x1 x2 (x3 + 1) (x4 + 1)))))
def f_X5_understand (σ : sw_St) (x1 : Int32) (x2 : Int32) : Option (Int32 × sw_St) := f_X5_understand_5 sw_fuel σ x1 x2 x1 0
set_option maxHeartbeats 1000000 in
set_option maxRecDepth 100000 in
theorem s_X5_understand_65 {V : sw_V} (C : sw_Cx sw_ZX V cX5_understand RX5 6 (some .boolean) L_X5_understand 7) : ∀ (n : Nat) (σ : sw_St) (x2 : Int32) (x3 : Int32) (x4 : Int32) (x5 : Int32), sw_S sw_ZX V sw_eI [some (sw_r V 44), none, some (.int x2), some (.int x3), some (.int x4), some (.int x5)] [] 65 σ (f_X5_understand_65 n σ x2 x3 x4 x5) := by
  intro n
  induction n with
  | zero =>
    intro σ x2 x3 x4 x5
    exact g_none
  | succ n ih =>
    intro σ x2 x3 x4 x5
    rw [f_X5_understand_65]
    refine g_iload C 33 rfl rfl ?_
    refine g_iload C 34 rfl rfl ?_
    refine g_icmp_ge C 35 rfl 93 (by decide) ?_ ?_
    · refine g_aload_n C 48 rfl rfl ?_
      refine g_iload_n C 49 rfl rfl ?_
      refine g_iconst C 50 rfl 1 (by decide) ?_
      refine g_iadd C 51 rfl ?_
      refine g_put C 52 rfl fp_X5_27 rfl rfl (fun s1 => ?_)
      refine g_aload_n C 53 rfl rfl ?_
      refine g_iload_n C 54 rfl rfl ?_
      refine g_callV (ψ₁ := sw_eP s1) C 55 rfl [(.int x3)] [] ml_X5_30 rfl (Nat.le_of_ble_eq_true rfl) (by decide) rfl rfl (fun b hb => m_X5_letterAt V.1.2.1 _ _ _ _ C.inj s1 x3 b hb) rfl (g_cP fun r2 => ?_)
      refine g_bipush C 56 rfl 59 (by decide) ?_
      refine g_icmp_ne C 57 rfl 122 (by decide) ?_ ?_
      · refine g_iconst C 64 rfl 0 (by decide) ?_
        skip
        exact g_zret C 65 rfl rfl rfl
      · refine g_aload_n C 58 rfl rfl ?_
        refine g_iload_n C 59 rfl rfl ?_
        refine g_callV (ψ₁ := sw_eP s1) C 60 rfl [(.int x2)] [] ml_X5_52 rfl (Nat.le_of_ble_eq_true rfl) (by decide) rfl rfl (fun b hb => m_X5_areTold V.1.2.1 _ _ _ _ C.inj s1 x2 b hb) rfl (g_cP fun r3 => ?_)
        refine g_if_eq C 61 rfl 122 (by decide) ?_ ?_
        · refine g_iconst C 64 rfl 0 (by decide) ?_
          skip
          exact g_zret C 65 rfl rfl rfl
        · refine g_iconst C 62 rfl 1 (by decide) ?_
          refine g_goto C 63 rfl 123 (by decide) ?_
          skip
          exact g_zret C 65 rfl rfl rfl
    · refine g_aload_n C 36 rfl rfl ?_
      refine g_iload_n C 37 rfl rfl ?_
      refine g_iload C 38 rfl rfl ?_
      refine g_callV (ψ₁ := sw_eI) C 39 rfl [(.int x3), (.int x5)] [] ml_X5_49 rfl (Nat.le_of_ble_eq_true rfl) (by decide) rfl rfl (fun b hb => m_X5_takeNumber V.1.2.1 _ _ _ _ C.inj σ x3 x5 b hb) rfl (g_cI fun r4 => ?_)
      refine g_istore_n C 40 rfl (Nat.le_of_ble_eq_true rfl) (Or.inr (Or.inr (Or.inl ⟨_, rfl⟩))) ?_
      refine g_iload_n C 41 rfl rfl ?_
      refine g_iconst C 42 rfl (-1) (by decide) ?_
      refine g_icmp_ne C 43 rfl 87 (by decide) ?_ ?_
      · refine g_iinc C 46 rfl 1 (by decide) rfl (Nat.le_of_ble_eq_true rfl) (Or.inr (Or.inr (Or.inl ⟨_, rfl⟩))) ?_
        refine g_goto C 47 rfl 65 (by decide) ?_
        exact g_wk (ih r4.2 x2 r4.1 x4 (x5 + 1)) ⟨rfl, rfl, rfl, rfl, rfl, trivial⟩
      · refine g_iconst C 44 rfl 0 (by decide) ?_
        skip
        exact g_zret C 45 rfl rfl rfl
set_option maxHeartbeats 1000000 in
set_option maxRecDepth 100000 in
theorem s_X5_understand_33 {V : sw_V} (C : sw_Cx sw_ZX V cX5_understand RX5 6 (some .boolean) L_X5_understand 7) (σ : sw_St) (x1 : Int32) (x2 : Int32) (x3 : Int32) : sw_S sw_ZX V sw_eI [some (sw_r V 44), some (.int x1), some (.int x2), some (.int x3), none, none] [] 33 σ (f_X5_understand_33 σ x1 x2 x3) := by
  unfold f_X5_understand_33
  refine g_aload_n C 15 rfl rfl ?_
  refine g_aload_n C 16 rfl rfl ?_
  refine g_iload_n C 17 rfl rfl ?_
  refine g_iload_n C 18 rfl rfl ?_
  refine g_callV (ψ₁ := sw_eP σ) C 19 rfl [(.int x1), (.int x3)] [(sw_r V 44)] ml_X5_38 rfl (Nat.le_of_ble_eq_true rfl) (by decide) rfl rfl (fun b hb => m_X5_verbOf V.1.2.1 _ _ _ _ C.inj σ x1 x3 b hb) rfl (g_cP fun r1 => ?_)
  refine g_put C 20 rfl fp_X5_42 rfl rfl (fun s2 => ?_)
  refine g_aload_n C 21 rfl rfl ?_
  refine g_getI C 22 rfl fl_X5_42 rfl rfl ?_
  refine g_iconst C 23 rfl (-1) (by decide) ?_
  refine g_icmp_ne C 24 rfl 53 (by decide) ?_ ?_
  · refine g_aload_n C 27 rfl rfl ?_
    refine g_getI C 28 rfl fl_X5_42 rfl rfl ?_
    refine g_callS (ψ₁ := sw_eP s2) C 29 rfl [(.int (s2 44 3))] [] ml_X5_45 rfl (Nat.le_of_ble_eq_true rfl) (by decide) (fun b hb => m_X5_numbersOf V.1.2.1 _ _ _ _ C.inj s2 (s2 44 3) b hb) rfl (g_cP fun r3 => ?_)
    refine g_istore C 30 rfl (Nat.le_of_ble_eq_true rfl) (Or.inr (Or.inr (Or.inl ⟨_, rfl⟩))) ?_
    refine g_iconst C 31 rfl 0 (by decide) ?_
    refine g_istore C 32 rfl (Nat.le_of_ble_eq_true rfl) (Or.inr (Or.inr (Or.inl ⟨_, rfl⟩))) ?_
    exact g_wk (s_X5_understand_65 C sw_fuel s2 x2 x3 r3 0) ⟨rfl, rfl, rfl, rfl, rfl, trivial⟩
  · refine g_iconst C 25 rfl 0 (by decide) ?_
    skip
    exact g_zret C 26 rfl rfl rfl
set_option maxHeartbeats 1000000 in
set_option maxRecDepth 100000 in
theorem s_X5_understand_5 {V : sw_V} (C : sw_Cx sw_ZX V cX5_understand RX5 6 (some .boolean) L_X5_understand 7) : ∀ (n : Nat) (σ : sw_St) (x1 : Int32) (x2 : Int32) (x3 : Int32) (x4 : Int32), sw_S sw_ZX V sw_eI [some (sw_r V 44), some (.int x1), some (.int x2), some (.int x3), some (.int x4), none] [] 5 σ (f_X5_understand_5 n σ x1 x2 x3 x4) := by
  intro n
  induction n with
  | zero =>
    intro σ x1 x2 x3 x4
    exact g_none
  | succ n ih =>
    intro σ x1 x2 x3 x4
    rw [f_X5_understand_5]
    refine g_iload C 4 rfl rfl ?_
    refine g_sipush C 5 rfl 200 (by decide) ?_
    refine g_icmp_ge C 6 rfl 33 (by decide) ?_ ?_
    · exact g_wk (s_X5_understand_33 C σ x1 x2 x3) ⟨rfl, rfl, rfl, rfl, trivial⟩
    · refine g_aload_n C 7 rfl rfl ?_
      refine g_iload_n C 8 rfl rfl ?_
      refine g_callV (ψ₁ := sw_eP σ) C 9 rfl [(.int x3)] [] ml_X5_30 rfl (Nat.le_of_ble_eq_true rfl) (by decide) rfl rfl (fun b hb => m_X5_letterAt V.1.2.1 _ _ _ _ C.inj σ x3 b hb) rfl (g_cP fun r1 => ?_)
      refine g_callS (ψ₁ := sw_eP σ) C 10 rfl [(.int r1)] [] ml_X5_34 rfl (Nat.le_of_ble_eq_true rfl) (by decide) (fun b hb => m_X5_isSmall V.1.2.1 _ _ _ _ C.inj σ r1 b hb) rfl (g_cP fun r2 => ?_)
      refine g_if_eq C 11 rfl 33 (by decide) ?_ ?_
      · exact g_wk (s_X5_understand_33 C σ x1 x2 x3) ⟨rfl, rfl, rfl, rfl, trivial⟩
      · refine g_iinc C 12 rfl 1 (by decide) rfl (Nat.le_of_ble_eq_true rfl) (Or.inr (Or.inr (Or.inl ⟨_, rfl⟩))) ?_
        refine g_iinc C 13 rfl 1 (by decide) rfl (Nat.le_of_ble_eq_true rfl) (Or.inr (Or.inr (Or.inl ⟨_, rfl⟩))) ?_
        refine g_goto C 14 rfl 5 (by decide) ?_
        exact g_wk (ih σ x1 x2 (x3 + 1) (x4 + 1)) ⟨rfl, rfl, rfl, rfl, rfl, trivial⟩
set_option maxHeartbeats 1000000 in
set_option maxRecDepth 100000 in
theorem s_X5_understand {V : sw_V} (C : sw_Cx sw_ZX V cX5_understand RX5 6 (some .boolean) L_X5_understand 7) (σ : sw_St) (x1 : Int32) (x2 : Int32) : sw_S sw_ZX V sw_eI [some (sw_r V 44), some (.int x1), some (.int x2), none, none, none] [] 0 σ (f_X5_understand σ x1 x2) := by
  unfold f_X5_understand
  refine g_iload_n C 0 rfl rfl ?_
  refine g_istore_n C 1 rfl (Nat.le_of_ble_eq_true rfl) (Or.inr (Or.inr (Or.inl ⟨_, rfl⟩))) ?_
  refine g_iconst C 2 rfl 0 (by decide) ?_
  refine g_istore C 3 rfl (Nat.le_of_ble_eq_true rfl) (Or.inr (Or.inr (Or.inl ⟨_, rfl⟩))) ?_
  exact g_wk (s_X5_understand_5 C sw_fuel σ x1 x2 x1 0) ⟨rfl, rfl, rfl, rfl, rfl, trivial⟩
set_option maxHeartbeats 1000000 in
set_option maxRecDepth 100000 in
theorem m_X5_understand (l : Launch) (dC : Nat → ClassId) (dI : Nat → Nat → Nat) (dA : Nat → ClassId) (ad : Nat → Nat) (hI : sw_inj sw_ZX ad) (σ : sw_St) (x1 : Int32) (x2 : Int32) (b : (Int32 × sw_St)) (hb : f_X5_understand σ x1 x2 = some b) : sw_M sw_ZX l yX5_understand cX5_understand 6 (some .boolean) 7 dC dI dA ad [(sw_rv ad 44), (.int x1), (.int x2)] σ (sw_eI b) :=
  sw_mk1 (ψ := sw_eI) 3 (by decide) sw_ZXok hI dk_X5_understand rfl (sw_c1_all _ ⟨sw_rv_cat _ _, rfl, rfl, trivial⟩) hb (fun p e R M C => s_X5_understand C σ x1 x2)
/-! SplitWatch$Script.findFault(I)I -/
def L_X5_findFault : sw_Is := [(0, .iconst 0, 1, 1), (1, .istore_n 2, 1, 2), (2, .iconst 0, 1, 3), (3, .istore_n 3, 1, 4), (4, .iload_n 3, 1, 5), (5, .sipush 200, 3, 8), (8, .if_icmp .ge 33, 3, 11), (11, .iload_n 2, 1, 12), (12, .aload_n 0, 1, 13), (13, .getfield 19, 3, 16), (16, .if_icmp .ge 25, 3, 19), (19, .aload_n 0, 1, 20), (20, .iload_n 2, 1, 21), (21, .iload_n 1, 1, 22), (22, .invokevirtual 23, 3, 25), (25, .ifCond .ne 5, 3, 28), (28, .iload_n 2, 1, 29), (29, .ireturn, 1, 30), (30, .aload_n 0, 1, 31), (31, .getfield 27, 3, 34), (34, .istore_n 2, 1, 35), (35, .iinc 3 1, 3, 38), (38, .goto (-34), 3, 41), (41, .bipush (-4), 2, 43), (43, .ireturn, 1, 44)]
theorem dk_X5_findFault : sw_dc cX5_findFault L_X5_findFault = true := by decide +kernel
def f_X5_findFault_4  : Nat → sw_St → Int32 → Int32 → Int32 → Option (Int32 × sw_St)
  | 0 => fun _ _ _ _ => none
  | n + 1 => fun σ x1 x2 x3 => if 200 ≤ x3 then (some ((-4), σ)) else (if (σ 44 2) ≤ x2 then (some ((-4), σ)) else ((f_X5_understand σ x2 x1).bind fun r1 => (if r1.1 = 0 then (some (x2, r1.2)) else ((f_X5_findFault_4 n) r1.2 x1 (r1.2 44 4) (x3 + 1)))))
def f_X5_findFault (σ : sw_St) (x1 : Int32) : Option (Int32 × sw_St) := f_X5_findFault_4 sw_fuel σ x1 0 0
set_option maxHeartbeats 1000000 in
set_option maxRecDepth 100000 in
theorem s_X5_findFault_4 {V : sw_V} (C : sw_Cx sw_ZX V cX5_findFault RX5 4 (some .int) L_X5_findFault 8) : ∀ (n : Nat) (σ : sw_St) (x1 : Int32) (x2 : Int32) (x3 : Int32), sw_S sw_ZX V sw_eI [some (sw_r V 44), some (.int x1), some (.int x2), some (.int x3)] [] 4 σ (f_X5_findFault_4 n σ x1 x2 x3) := by
  intro n
  induction n with
  | zero =>
    intro σ x1 x2 x3
    exact g_none
  | succ n ih =>
    intro σ x1 x2 x3
    rw [f_X5_findFault_4]
    refine g_iload_n C 4 rfl rfl ?_
    refine g_sipush C 5 rfl 200 (by decide) ?_
    refine g_icmp_ge C 6 rfl 41 (by decide) ?_ ?_
    · refine g_bipush C 23 rfl (-4) (by decide) ?_
      skip
      exact g_iret C 24 rfl rfl
    · refine g_iload_n C 7 rfl rfl ?_
      refine g_aload_n C 8 rfl rfl ?_
      refine g_getI C 9 rfl fl_X5_19 rfl rfl ?_
      refine g_icmp_ge C 10 rfl 41 (by decide) ?_ ?_
      · refine g_bipush C 23 rfl (-4) (by decide) ?_
        skip
        exact g_iret C 24 rfl rfl
      · refine g_aload_n C 11 rfl rfl ?_
        refine g_iload_n C 12 rfl rfl ?_
        refine g_iload_n C 13 rfl rfl ?_
        refine g_callV (ψ₁ := sw_eI) C 14 rfl [(.int x2), (.int x1)] [] ml_X5_23 rfl (Nat.le_of_ble_eq_true rfl) (by decide) rfl rfl (fun b hb => m_X5_understand V.1.2.1 _ _ _ _ C.inj σ x2 x1 b hb) rfl (g_cI fun r1 => ?_)
        refine g_if_ne C 15 rfl 30 (by decide) ?_ ?_
        · refine g_aload_n C 18 rfl rfl ?_
          refine g_getI C 19 rfl fl_X5_27 rfl rfl ?_
          refine g_istore_n C 20 rfl (Nat.le_of_ble_eq_true rfl) (Or.inr (Or.inr (Or.inl ⟨_, rfl⟩))) ?_
          refine g_iinc C 21 rfl 1 (by decide) rfl (Nat.le_of_ble_eq_true rfl) (Or.inr (Or.inr (Or.inl ⟨_, rfl⟩))) ?_
          refine g_goto C 22 rfl 4 (by decide) ?_
          exact g_wk (ih r1.2 x1 (r1.2 44 4) (x3 + 1)) ⟨rfl, rfl, rfl, rfl, trivial⟩
        · refine g_iload_n C 16 rfl rfl ?_
          skip
          exact g_iret C 17 rfl rfl
set_option maxHeartbeats 1000000 in
set_option maxRecDepth 100000 in
theorem s_X5_findFault {V : sw_V} (C : sw_Cx sw_ZX V cX5_findFault RX5 4 (some .int) L_X5_findFault 8) (σ : sw_St) (x1 : Int32) : sw_S sw_ZX V sw_eI [some (sw_r V 44), some (.int x1), none, none] [] 0 σ (f_X5_findFault σ x1) := by
  unfold f_X5_findFault
  refine g_iconst C 0 rfl 0 (by decide) ?_
  refine g_istore_n C 1 rfl (Nat.le_of_ble_eq_true rfl) (Or.inr (Or.inr (Or.inl ⟨_, rfl⟩))) ?_
  refine g_iconst C 2 rfl 0 (by decide) ?_
  refine g_istore_n C 3 rfl (Nat.le_of_ble_eq_true rfl) (Or.inr (Or.inr (Or.inl ⟨_, rfl⟩))) ?_
  exact g_wk (s_X5_findFault_4 C sw_fuel σ x1 0 0) ⟨rfl, rfl, rfl, rfl, trivial⟩
set_option maxHeartbeats 1000000 in
set_option maxRecDepth 100000 in
theorem m_X5_findFault (l : Launch) (dC : Nat → ClassId) (dI : Nat → Nat → Nat) (dA : Nat → ClassId) (ad : Nat → Nat) (hI : sw_inj sw_ZX ad) (σ : sw_St) (x1 : Int32) (b : (Int32 × sw_St)) (hb : f_X5_findFault σ x1 = some b) : sw_M sw_ZX l yX5_findFault cX5_findFault 4 (some .int) 8 dC dI dA ad [(sw_rv ad 44), (.int x1)] σ (sw_eI b) :=
  sw_mk1 (ψ := sw_eI) 2 (by decide) sw_ZXok hI dk_X5_findFault rfl (sw_c1_all _ ⟨sw_rv_cat _ _, rfl, trivial⟩) hb (fun p e R M C => s_X5_findFault C σ x1)
/-! SplitWatch.begin(IIII)I -/
def L_X6_begin : sw_Is := [(0, .iload_n 1, 1, 1), (1, .iconst 2, 1, 2), (2, .iconst 4, 1, 3), (3, .invokestatic 27, 3, 6), (6, .ifCond .eq 37, 3, 9), (9, .iload_n 2, 1, 10), (10, .iconst 1, 1, 11), (11, .iconst 4, 1, 12), (12, .invokestatic 27, 3, 15), (15, .ifCond .eq 28, 3, 18), (18, .iload_n 3, 1, 19), (19, .iconst 1, 1, 20), (20, .bipush 9, 2, 22), (22, .invokestatic 27, 3, 25), (25, .ifCond .eq 18, 3, 28), (28, .iload 4, 2, 30), (30, .iconst 1, 1, 31), (31, .bipush 9, 2, 33), (33, .invokestatic 27, 3, 36), (36, .ifCond .eq 7, 3, 39), (39, .iconst 1, 1, 40), (40, .goto 4, 3, 43), (43, .iconst 0, 1, 44), (44, .istore 5, 2, 46), (46, .iload 5, 2, 48), (48, .ifCond .ne 5, 3, 51), (51, .iconst (-1), 1, 52), (52, .ireturn, 1, 53), (53, .aload_n 0, 1, 54), (54, .getfield 10, 3, 57), (57, .iload_n 1, 1, 58), (58, .iload_n 2, 1, 59), (59, .iload_n 3, 1, 60), (60, .iload 4, 2, 62), (62, .invokevirtual 16, 3, 65), (65, .iload_n 1, 1, 66), (66, .ireturn, 1, 67)]
theorem dk_X6_begin : sw_dc cX6_begin L_X6_begin = true := by decide +kernel
def f_X6_begin_44  (σ : sw_St) (x1 : Int32) (x2 : Int32) (x3 : Int32) (x4 : Int32) (y0 : Int32) : Option (Int32 × sw_St) := if y0 = 0 then (some ((-1), σ)) else ((f_X0_reset σ x1 x2 x3 x4).bind fun r1 => (some (x1, r1)))
def f_X6_begin_43  (σ : sw_St) (x1 : Int32) (x2 : Int32) (x3 : Int32) (x4 : Int32) : Option (Int32 × sw_St) := f_X6_begin_44 σ x1 x2 x3 x4 0
def f_X6_begin (σ : sw_St) (x1 : Int32) (x2 : Int32) (x3 : Int32) (x4 : Int32) : Option (Int32 × sw_St) := (f_X6_isWithin σ x1 2 4).bind fun r1 => (if r1 = 0 then (f_X6_begin_43 σ x1 x2 x3 x4) else ((f_X6_isWithin σ x2 1 4).bind fun r2 => (if r2 = 0 then (f_X6_begin_43 σ x1 x2 x3 x4) else ((f_X6_isWithin σ x3 1 9).bind fun r3 => (if r3 = 0 then (f_X6_begin_43 σ x1 x2 x3 x4) else ((f_X6_isWithin σ x4 1 9).bind fun r4 => (if r4 = 0 then (f_X6_begin_43 σ x1 x2 x3 x4) else (f_X6_begin_44 σ x1 x2 x3 x4 1))))))))
set_option maxHeartbeats 1000000 in
set_option maxRecDepth 100000 in
theorem s_X6_begin_44 {V : sw_V} (C : sw_Cx sw_ZX V cX6_begin RX6 6 (some .int) L_X6_begin 3) (σ : sw_St) (x1 : Int32) (x2 : Int32) (x3 : Int32) (x4 : Int32) (y0 : Int32) : sw_S sw_ZX V sw_eI [some (sw_r V 1), some (.int x1), some (.int x2), some (.int x3), some (.int x4), none] [(.int y0)] 44 σ (f_X6_begin_44 σ x1 x2 x3 x4 y0) := by
  unfold f_X6_begin_44
  refine g_istore C 23 rfl (Nat.le_of_ble_eq_true rfl) (Or.inr (Or.inr (Or.inl ⟨_, rfl⟩))) ?_
  refine g_iload C 24 rfl rfl ?_
  refine g_if_ne C 25 rfl 53 (by decide) ?_ ?_
  · refine g_aload_n C 28 rfl rfl ?_
    refine g_getR C 29 rfl fl_X6_10 rfl rfl ?_
    refine g_iload_n C 30 rfl rfl ?_
    refine g_iload_n C 31 rfl rfl ?_
    refine g_iload_n C 32 rfl rfl ?_
    refine g_iload C 33 rfl rfl ?_
    refine g_callV (ψ₁ := sw_eV) C 34 rfl [(.int x1), (.int x2), (.int x3), (.int x4)] [] ml_X6_16 rfl (Nat.le_of_ble_eq_true rfl) (by decide) rfl rfl (fun b hb => m_X0_reset V.1.2.1 _ _ _ _ C.inj σ x1 x2 x3 x4 b hb) rfl (g_cV fun r1 => ?_)
    refine g_iload_n C 35 rfl rfl ?_
    skip
    exact g_iret C 36 rfl rfl
  · refine g_iconst C 26 rfl (-1) (by decide) ?_
    skip
    exact g_iret C 27 rfl rfl
set_option maxHeartbeats 1000000 in
set_option maxRecDepth 100000 in
theorem s_X6_begin_43 {V : sw_V} (C : sw_Cx sw_ZX V cX6_begin RX6 6 (some .int) L_X6_begin 3) (σ : sw_St) (x1 : Int32) (x2 : Int32) (x3 : Int32) (x4 : Int32) : sw_S sw_ZX V sw_eI [some (sw_r V 1), some (.int x1), some (.int x2), some (.int x3), some (.int x4), none] [] 43 σ (f_X6_begin_43 σ x1 x2 x3 x4) := by
  unfold f_X6_begin_43
  refine g_iconst C 22 rfl 0 (by decide) ?_
  exact g_wk (s_X6_begin_44 C σ x1 x2 x3 x4 0) ⟨rfl, rfl, rfl, rfl, rfl, trivial⟩
set_option maxHeartbeats 1000000 in
set_option maxRecDepth 100000 in
theorem s_X6_begin {V : sw_V} (C : sw_Cx sw_ZX V cX6_begin RX6 6 (some .int) L_X6_begin 3) (σ : sw_St) (x1 : Int32) (x2 : Int32) (x3 : Int32) (x4 : Int32) : sw_S sw_ZX V sw_eI [some (sw_r V 1), some (.int x1), some (.int x2), some (.int x3), some (.int x4), none] [] 0 σ (f_X6_begin σ x1 x2 x3 x4) := by
  unfold f_X6_begin
  refine g_iload_n C 0 rfl rfl ?_
  refine g_iconst C 1 rfl 2 (by decide) ?_
  refine g_iconst C 2 rfl 4 (by decide) ?_
  refine g_callS (ψ₁ := sw_eP σ) C 3 rfl [(.int x1), (.int 2), (.int 4)] [] ml_X6_27 rfl (Nat.le_of_ble_eq_true rfl) (by decide) (fun b hb => m_X6_isWithin V.1.2.1 _ _ _ _ C.inj σ x1 2 4 b hb) rfl (g_cP fun r1 => ?_)
  refine g_if_eq C 4 rfl 43 (by decide) ?_ ?_
  · exact g_wk (s_X6_begin_43 C σ x1 x2 x3 x4) ⟨rfl, rfl, rfl, rfl, rfl, trivial⟩
  · refine g_iload_n C 5 rfl rfl ?_
    refine g_iconst C 6 rfl 1 (by decide) ?_
    refine g_iconst C 7 rfl 4 (by decide) ?_
    refine g_callS (ψ₁ := sw_eP σ) C 8 rfl [(.int x2), (.int 1), (.int 4)] [] ml_X6_27 rfl (Nat.le_of_ble_eq_true rfl) (by decide) (fun b hb => m_X6_isWithin V.1.2.1 _ _ _ _ C.inj σ x2 1 4 b hb) rfl (g_cP fun r2 => ?_)
    refine g_if_eq C 9 rfl 43 (by decide) ?_ ?_
    · exact g_wk (s_X6_begin_43 C σ x1 x2 x3 x4) ⟨rfl, rfl, rfl, rfl, rfl, trivial⟩
    · refine g_iload_n C 10 rfl rfl ?_
      refine g_iconst C 11 rfl 1 (by decide) ?_
      refine g_bipush C 12 rfl 9 (by decide) ?_
      refine g_callS (ψ₁ := sw_eP σ) C 13 rfl [(.int x3), (.int 1), (.int 9)] [] ml_X6_27 rfl (Nat.le_of_ble_eq_true rfl) (by decide) (fun b hb => m_X6_isWithin V.1.2.1 _ _ _ _ C.inj σ x3 1 9 b hb) rfl (g_cP fun r3 => ?_)
      refine g_if_eq C 14 rfl 43 (by decide) ?_ ?_
      · exact g_wk (s_X6_begin_43 C σ x1 x2 x3 x4) ⟨rfl, rfl, rfl, rfl, rfl, trivial⟩
      · refine g_iload C 15 rfl rfl ?_
        refine g_iconst C 16 rfl 1 (by decide) ?_
        refine g_bipush C 17 rfl 9 (by decide) ?_
        refine g_callS (ψ₁ := sw_eP σ) C 18 rfl [(.int x4), (.int 1), (.int 9)] [] ml_X6_27 rfl (Nat.le_of_ble_eq_true rfl) (by decide) (fun b hb => m_X6_isWithin V.1.2.1 _ _ _ _ C.inj σ x4 1 9 b hb) rfl (g_cP fun r4 => ?_)
        refine g_if_eq C 19 rfl 43 (by decide) ?_ ?_
        · exact g_wk (s_X6_begin_43 C σ x1 x2 x3 x4) ⟨rfl, rfl, rfl, rfl, rfl, trivial⟩
        · refine g_iconst C 20 rfl 1 (by decide) ?_
          refine g_goto C 21 rfl 44 (by decide) ?_
          exact g_wk (s_X6_begin_44 C σ x1 x2 x3 x4 1) ⟨rfl, rfl, rfl, rfl, rfl, trivial⟩
set_option maxHeartbeats 1000000 in
set_option maxRecDepth 100000 in
theorem m_X6_begin (l : Launch) (dC : Nat → ClassId) (dI : Nat → Nat → Nat) (dA : Nat → ClassId) (ad : Nat → Nat) (hI : sw_inj sw_ZX ad) (σ : sw_St) (x1 : Int32) (x2 : Int32) (x3 : Int32) (x4 : Int32) (b : (Int32 × sw_St)) (hb : f_X6_begin σ x1 x2 x3 x4 = some b) : sw_M sw_ZX l yX6_begin cX6_begin 6 (some .int) 3 dC dI dA ad [(sw_rv ad 1), (.int x1), (.int x2), (.int x3), (.int x4)] σ (sw_eI b) :=
  sw_mk1 (ψ := sw_eI) 1 (by decide) sw_ZXok hI dk_X6_begin rfl (sw_c1_all _ ⟨sw_rv_cat _ _, rfl, rfl, rfl, rfl, trivial⟩) hb (fun p e R M C => s_X6_begin C σ x1 x2 x3 x4)
/-! SplitWatch.read(II)I -/
def L_X6_read : sw_Is := [(0, .aload_n 0, 1, 1), (1, .getfield 10, 3, 4), (4, .iload_n 1, 1, 5), (5, .invokevirtual 31, 3, 8), (8, .ifCond .eq 10, 3, 11), (11, .iload_n 2, 1, 12), (12, .invokestatic 35, 3, 15), (15, .ifCond .ne 5, 3, 18), (18, .iconst (-1), 1, 19), (19, .ireturn, 1, 20), (20, .aload_n 0, 1, 21), (21, .getfield 10, 3, 24), (24, .iload_n 1, 1, 25), (25, .iload_n 2, 1, 26), (26, .invokevirtual 38, 3, 29), (29, .ireturn, 1, 30)]
theorem dk_X6_read : sw_dc cX6_read L_X6_read = true := by decide +kernel
def f_X6_read (σ : sw_St) (x1 : Int32) (x2 : Int32) : Option (Int32 × sw_St) := (f_X0_hasCore σ x1).bind fun r1 => (if r1 = 0 then (some ((-1), σ)) else ((f_X6_isLine σ x2).bind fun r2 => (if r2 = 0 then (some ((-1), σ)) else ((f_X0_startRead σ x1 x2).bind fun r3 => (some (r3.1, r3.2))))))
set_option maxHeartbeats 1000000 in
set_option maxRecDepth 100000 in
theorem s_X6_read {V : sw_V} (C : sw_Cx sw_ZX V cX6_read RX6 3 (some .int) L_X6_read 5) (σ : sw_St) (x1 : Int32) (x2 : Int32) : sw_S sw_ZX V sw_eI [some (sw_r V 1), some (.int x1), some (.int x2)] [] 0 σ (f_X6_read σ x1 x2) := by
  unfold f_X6_read
  refine g_aload_n C 0 rfl rfl ?_
  refine g_getR C 1 rfl fl_X6_10 rfl rfl ?_
  refine g_iload_n C 2 rfl rfl ?_
  refine g_callV (ψ₁ := sw_eP σ) C 3 rfl [(.int x1)] [] ml_X6_31 rfl (Nat.le_of_ble_eq_true rfl) (by decide) rfl rfl (fun b hb => m_X0_hasCore V.1.2.1 _ _ _ _ C.inj σ x1 b hb) rfl (g_cP fun r1 => ?_)
  refine g_if_eq C 4 rfl 18 (by decide) ?_ ?_
  · refine g_iconst C 8 rfl (-1) (by decide) ?_
    skip
    exact g_iret C 9 rfl rfl
  · refine g_iload_n C 5 rfl rfl ?_
    refine g_callS (ψ₁ := sw_eP σ) C 6 rfl [(.int x2)] [] ml_X6_35 rfl (Nat.le_of_ble_eq_true rfl) (by decide) (fun b hb => m_X6_isLine V.1.2.1 _ _ _ _ C.inj σ x2 b hb) rfl (g_cP fun r2 => ?_)
    refine g_if_ne C 7 rfl 20 (by decide) ?_ ?_
    · refine g_aload_n C 10 rfl rfl ?_
      refine g_getR C 11 rfl fl_X6_10 rfl rfl ?_
      refine g_iload_n C 12 rfl rfl ?_
      refine g_iload_n C 13 rfl rfl ?_
      refine g_callV (ψ₁ := sw_eI) C 14 rfl [(.int x1), (.int x2)] [] ml_X6_38 rfl (Nat.le_of_ble_eq_true rfl) (by decide) rfl rfl (fun b hb => m_X0_startRead V.1.2.1 _ _ _ _ C.inj σ x1 x2 b hb) rfl (g_cI fun r3 => ?_)
      skip
      exact g_iret C 15 rfl rfl
    · refine g_iconst C 8 rfl (-1) (by decide) ?_
      skip
      exact g_iret C 9 rfl rfl
set_option maxHeartbeats 1000000 in
set_option maxRecDepth 100000 in
theorem m_X6_read (l : Launch) (dC : Nat → ClassId) (dI : Nat → Nat → Nat) (dA : Nat → ClassId) (ad : Nat → Nat) (hI : sw_inj sw_ZX ad) (σ : sw_St) (x1 : Int32) (x2 : Int32) (b : (Int32 × sw_St)) (hb : f_X6_read σ x1 x2 = some b) : sw_M sw_ZX l yX6_read cX6_read 3 (some .int) 5 dC dI dA ad [(sw_rv ad 1), (.int x1), (.int x2)] σ (sw_eI b) :=
  sw_mk1 (ψ := sw_eI) 0 (by decide) sw_ZXok hI dk_X6_read rfl (sw_c1_all _ ⟨sw_rv_cat _ _, rfl, rfl, trivial⟩) hb (fun p e R M C => s_X6_read C σ x1 x2)
/-! SplitWatch.store(III)I -/
def L_X6_store : sw_Is := [(0, .aload_n 0, 1, 1), (1, .getfield 10, 3, 4), (4, .iload_n 1, 1, 5), (5, .invokevirtual 31, 3, 8), (8, .ifCond .eq 21, 3, 11), (11, .iload_n 2, 1, 12), (12, .invokestatic 35, 3, 15), (15, .ifCond .eq 14, 3, 18), (18, .iload_n 3, 1, 19), (19, .iconst 0, 1, 20), (20, .sipush 9999, 3, 23), (23, .invokestatic 27, 3, 26), (26, .ifCond .ne 5, 3, 29), (29, .iconst (-1), 1, 30), (30, .ireturn, 1, 31), (31, .aload_n 0, 1, 32), (32, .getfield 10, 3, 35), (35, .iload_n 1, 1, 36), (36, .iload_n 2, 1, 37), (37, .iload_n 3, 1, 38), (38, .invokevirtual 42, 3, 41), (41, .ireturn, 1, 42)]
theorem dk_X6_store : sw_dc cX6_store L_X6_store = true := by decide +kernel
def f_X6_store (σ : sw_St) (x1 : Int32) (x2 : Int32) (x3 : Int32) : Option (Int32 × sw_St) := (f_X0_hasCore σ x1).bind fun r1 => (if r1 = 0 then (some ((-1), σ)) else ((f_X6_isLine σ x2).bind fun r2 => (if r2 = 0 then (some ((-1), σ)) else ((f_X6_isWithin σ x3 0 9999).bind fun r3 => (if r3 = 0 then (some ((-1), σ)) else ((f_X0_startStore σ x1 x2 x3).bind fun r4 => (some (r4.1, r4.2))))))))
set_option maxHeartbeats 1000000 in
set_option maxRecDepth 100000 in
theorem s_X6_store {V : sw_V} (C : sw_Cx sw_ZX V cX6_store RX6 4 (some .int) L_X6_store 5) (σ : sw_St) (x1 : Int32) (x2 : Int32) (x3 : Int32) : sw_S sw_ZX V sw_eI [some (sw_r V 1), some (.int x1), some (.int x2), some (.int x3)] [] 0 σ (f_X6_store σ x1 x2 x3) := by
  unfold f_X6_store
  refine g_aload_n C 0 rfl rfl ?_
  refine g_getR C 1 rfl fl_X6_10 rfl rfl ?_
  refine g_iload_n C 2 rfl rfl ?_
  refine g_callV (ψ₁ := sw_eP σ) C 3 rfl [(.int x1)] [] ml_X6_31 rfl (Nat.le_of_ble_eq_true rfl) (by decide) rfl rfl (fun b hb => m_X0_hasCore V.1.2.1 _ _ _ _ C.inj σ x1 b hb) rfl (g_cP fun r1 => ?_)
  refine g_if_eq C 4 rfl 29 (by decide) ?_ ?_
  · refine g_iconst C 13 rfl (-1) (by decide) ?_
    skip
    exact g_iret C 14 rfl rfl
  · refine g_iload_n C 5 rfl rfl ?_
    refine g_callS (ψ₁ := sw_eP σ) C 6 rfl [(.int x2)] [] ml_X6_35 rfl (Nat.le_of_ble_eq_true rfl) (by decide) (fun b hb => m_X6_isLine V.1.2.1 _ _ _ _ C.inj σ x2 b hb) rfl (g_cP fun r2 => ?_)
    refine g_if_eq C 7 rfl 29 (by decide) ?_ ?_
    · refine g_iconst C 13 rfl (-1) (by decide) ?_
      skip
      exact g_iret C 14 rfl rfl
    · refine g_iload_n C 8 rfl rfl ?_
      refine g_iconst C 9 rfl 0 (by decide) ?_
      refine g_sipush C 10 rfl 9999 (by decide) ?_
      refine g_callS (ψ₁ := sw_eP σ) C 11 rfl [(.int x3), (.int 0), (.int 9999)] [] ml_X6_27 rfl (Nat.le_of_ble_eq_true rfl) (by decide) (fun b hb => m_X6_isWithin V.1.2.1 _ _ _ _ C.inj σ x3 0 9999 b hb) rfl (g_cP fun r3 => ?_)
      refine g_if_ne C 12 rfl 31 (by decide) ?_ ?_
      · refine g_aload_n C 15 rfl rfl ?_
        refine g_getR C 16 rfl fl_X6_10 rfl rfl ?_
        refine g_iload_n C 17 rfl rfl ?_
        refine g_iload_n C 18 rfl rfl ?_
        refine g_iload_n C 19 rfl rfl ?_
        refine g_callV (ψ₁ := sw_eI) C 20 rfl [(.int x1), (.int x2), (.int x3)] [] ml_X6_42 rfl (Nat.le_of_ble_eq_true rfl) (by decide) rfl rfl (fun b hb => m_X0_startStore V.1.2.1 _ _ _ _ C.inj σ x1 x2 x3 b hb) rfl (g_cI fun r4 => ?_)
        skip
        exact g_iret C 21 rfl rfl
      · refine g_iconst C 13 rfl (-1) (by decide) ?_
        skip
        exact g_iret C 14 rfl rfl
set_option maxHeartbeats 1000000 in
set_option maxRecDepth 100000 in
theorem m_X6_store (l : Launch) (dC : Nat → ClassId) (dI : Nat → Nat → Nat) (dA : Nat → ClassId) (ad : Nat → Nat) (hI : sw_inj sw_ZX ad) (σ : sw_St) (x1 : Int32) (x2 : Int32) (x3 : Int32) (b : (Int32 × sw_St)) (hb : f_X6_store σ x1 x2 x3 = some b) : sw_M sw_ZX l yX6_store cX6_store 4 (some .int) 5 dC dI dA ad [(sw_rv ad 1), (.int x1), (.int x2), (.int x3)] σ (sw_eI b) :=
  sw_mk1 (ψ := sw_eI) 0 (by decide) sw_ZXok hI dk_X6_store rfl (sw_c1_all _ ⟨sw_rv_cat _ _, rfl, rfl, rfl, trivial⟩) hb (fun p e R M C => s_X6_store C σ x1 x2 x3)
/-! SplitWatch.drop(II)I -/
def L_X6_drop : sw_Is := [(0, .aload_n 0, 1, 1), (1, .getfield 10, 3, 4), (4, .iload_n 1, 1, 5), (5, .invokevirtual 31, 3, 8), (8, .ifCond .eq 10, 3, 11), (11, .iload_n 2, 1, 12), (12, .invokestatic 35, 3, 15), (15, .ifCond .ne 5, 3, 18), (18, .iconst (-1), 1, 19), (19, .ireturn, 1, 20), (20, .aload_n 0, 1, 21), (21, .getfield 10, 3, 24), (24, .iload_n 1, 1, 25), (25, .iload_n 2, 1, 26), (26, .invokevirtual 46, 3, 29), (29, .ireturn, 1, 30)]
theorem dk_X6_drop : sw_dc cX6_drop L_X6_drop = true := by decide +kernel
def f_X6_drop (σ : sw_St) (x1 : Int32) (x2 : Int32) : Option (Int32 × sw_St) := (f_X0_hasCore σ x1).bind fun r1 => (if r1 = 0 then (some ((-1), σ)) else ((f_X6_isLine σ x2).bind fun r2 => (if r2 = 0 then (some ((-1), σ)) else ((f_X0_dropLine σ x1 x2).bind fun r3 => (some (r3.1, r3.2))))))
set_option maxHeartbeats 1000000 in
set_option maxRecDepth 100000 in
theorem s_X6_drop {V : sw_V} (C : sw_Cx sw_ZX V cX6_drop RX6 3 (some .int) L_X6_drop 3) (σ : sw_St) (x1 : Int32) (x2 : Int32) : sw_S sw_ZX V sw_eI [some (sw_r V 1), some (.int x1), some (.int x2)] [] 0 σ (f_X6_drop σ x1 x2) := by
  unfold f_X6_drop
  refine g_aload_n C 0 rfl rfl ?_
  refine g_getR C 1 rfl fl_X6_10 rfl rfl ?_
  refine g_iload_n C 2 rfl rfl ?_
  refine g_callV (ψ₁ := sw_eP σ) C 3 rfl [(.int x1)] [] ml_X6_31 rfl (Nat.le_of_ble_eq_true rfl) (by decide) rfl rfl (fun b hb => m_X0_hasCore V.1.2.1 _ _ _ _ C.inj σ x1 b hb) rfl (g_cP fun r1 => ?_)
  refine g_if_eq C 4 rfl 18 (by decide) ?_ ?_
  · refine g_iconst C 8 rfl (-1) (by decide) ?_
    skip
    exact g_iret C 9 rfl rfl
  · refine g_iload_n C 5 rfl rfl ?_
    refine g_callS (ψ₁ := sw_eP σ) C 6 rfl [(.int x2)] [] ml_X6_35 rfl (Nat.le_of_ble_eq_true rfl) (by decide) (fun b hb => m_X6_isLine V.1.2.1 _ _ _ _ C.inj σ x2 b hb) rfl (g_cP fun r2 => ?_)
    refine g_if_ne C 7 rfl 20 (by decide) ?_ ?_
    · refine g_aload_n C 10 rfl rfl ?_
      refine g_getR C 11 rfl fl_X6_10 rfl rfl ?_
      refine g_iload_n C 12 rfl rfl ?_
      refine g_iload_n C 13 rfl rfl ?_
      refine g_callV (ψ₁ := sw_eI) C 14 rfl [(.int x1), (.int x2)] [] ml_X6_46 rfl (Nat.le_of_ble_eq_true rfl) (by decide) rfl rfl (fun b hb => m_X0_dropLine V.1.2.1 _ _ _ _ C.inj σ x1 x2 b hb) rfl (g_cI fun r3 => ?_)
      skip
      exact g_iret C 15 rfl rfl
    · refine g_iconst C 8 rfl (-1) (by decide) ?_
      skip
      exact g_iret C 9 rfl rfl
set_option maxHeartbeats 1000000 in
set_option maxRecDepth 100000 in
theorem m_X6_drop (l : Launch) (dC : Nat → ClassId) (dI : Nat → Nat → Nat) (dA : Nat → ClassId) (ad : Nat → Nat) (hI : sw_inj sw_ZX ad) (σ : sw_St) (x1 : Int32) (x2 : Int32) (b : (Int32 × sw_St)) (hb : f_X6_drop σ x1 x2 = some b) : sw_M sw_ZX l yX6_drop cX6_drop 3 (some .int) 3 dC dI dA ad [(sw_rv ad 1), (.int x1), (.int x2)] σ (sw_eI b) :=
  sw_mk1 (ψ := sw_eI) 0 (by decide) sw_ZXok hI dk_X6_drop rfl (sw_c1_all _ ⟨sw_rv_cat _ _, rfl, rfl, trivial⟩) hb (fun p e R M C => s_X6_drop C σ x1 x2)
/-! SplitWatch.turn(I)I -/
def L_X6_turn : sw_Is := [(0, .iload_n 1, 1, 1), (1, .iconst 1, 1, 2), (2, .bipush 99, 2, 4), (4, .invokestatic 27, 3, 7), (7, .ifCond .ne 5, 3, 10), (10, .iconst (-1), 1, 11), (11, .ireturn, 1, 12), (12, .aload_n 0, 1, 13), (13, .getfield 10, 3, 16), (16, .iload_n 1, 1, 17), (17, .invokevirtual 49, 3, 20), (20, .ireturn, 1, 21)]
theorem dk_X6_turn : sw_dc cX6_turn L_X6_turn = true := by decide +kernel
def f_X6_turn (σ : sw_St) (x1 : Int32) : Option (Int32 × sw_St) := (f_X6_isWithin σ x1 1 99).bind fun r1 => (if r1 = 0 then (some ((-1), σ)) else ((f_X0_runTurns σ x1).bind fun r2 => (some (r2.1, r2.2))))
set_option maxHeartbeats 1000000 in
set_option maxRecDepth 100000 in
theorem s_X6_turn {V : sw_V} (C : sw_Cx sw_ZX V cX6_turn RX6 2 (some .int) L_X6_turn 5) (σ : sw_St) (x1 : Int32) : sw_S sw_ZX V sw_eI [some (sw_r V 1), some (.int x1)] [] 0 σ (f_X6_turn σ x1) := by
  unfold f_X6_turn
  refine g_iload_n C 0 rfl rfl ?_
  refine g_iconst C 1 rfl 1 (by decide) ?_
  refine g_bipush C 2 rfl 99 (by decide) ?_
  refine g_callS (ψ₁ := sw_eP σ) C 3 rfl [(.int x1), (.int 1), (.int 99)] [] ml_X6_27 rfl (Nat.le_of_ble_eq_true rfl) (by decide) (fun b hb => m_X6_isWithin V.1.2.1 _ _ _ _ C.inj σ x1 1 99 b hb) rfl (g_cP fun r1 => ?_)
  refine g_if_ne C 4 rfl 12 (by decide) ?_ ?_
  · refine g_aload_n C 7 rfl rfl ?_
    refine g_getR C 8 rfl fl_X6_10 rfl rfl ?_
    refine g_iload_n C 9 rfl rfl ?_
    refine g_callV (ψ₁ := sw_eI) C 10 rfl [(.int x1)] [] ml_X6_49 rfl (Nat.le_of_ble_eq_true rfl) (by decide) rfl rfl (fun b hb => m_X0_runTurns V.1.2.1 _ _ _ _ C.inj σ x1 b hb) rfl (g_cI fun r2 => ?_)
    skip
    exact g_iret C 11 rfl rfl
  · refine g_iconst C 5 rfl (-1) (by decide) ?_
    skip
    exact g_iret C 6 rfl rfl
set_option maxHeartbeats 1000000 in
set_option maxRecDepth 100000 in
theorem m_X6_turn (l : Launch) (dC : Nat → ClassId) (dI : Nat → Nat → Nat) (dA : Nat → ClassId) (ad : Nat → Nat) (hI : sw_inj sw_ZX ad) (σ : sw_St) (x1 : Int32) (b : (Int32 × sw_St)) (hb : f_X6_turn σ x1 = some b) : sw_M sw_ZX l yX6_turn cX6_turn 2 (some .int) 5 dC dI dA ad [(sw_rv ad 1), (.int x1)] σ (sw_eI b) :=
  sw_mk1 (ψ := sw_eI) 0 (by decide) sw_ZXok hI dk_X6_turn rfl (sw_c1_all _ ⟨sw_rv_cat _ _, rfl, trivial⟩) hb (fun p e R M C => s_X6_turn C σ x1)
/-! SplitWatch.isLetter(I)Z -/
def L_X6_isLetter : sw_Is := [(0, .iload_n 0, 1, 1), (1, .bipush 32, 2, 3), (3, .bipush 126, 2, 5), (5, .invokestatic 27, 3, 8), (8, .ireturn, 1, 9)]
theorem dk_X6_isLetter : sw_dc cX6_isLetter L_X6_isLetter = true := by decide +kernel
def f_X6_isLetter (σ : sw_St) (x0 : Int32) : Option Int32 := (f_X6_isWithin σ x0 32 126).bind fun r1 => (sw_ck (sw_fz .boolean r1) (some r1))
set_option maxHeartbeats 1000000 in
set_option maxRecDepth 100000 in
theorem s_X6_isLetter {V : sw_V} (C : sw_Cx sw_ZX V cX6_isLetter RX6 1 (some .boolean) L_X6_isLetter 1) (σ : sw_St) (x0 : Int32) : sw_S sw_ZX V (sw_eP σ) [some (.int x0)] [] 0 σ (f_X6_isLetter σ x0) := by
  unfold f_X6_isLetter
  refine g_iload_n C 0 rfl rfl ?_
  refine g_bipush C 1 rfl 32 (by decide) ?_
  refine g_bipush C 2 rfl 126 (by decide) ?_
  refine g_callS (ψ₁ := sw_eP σ) C 3 rfl [(.int x0), (.int 32), (.int 126)] [] ml_X6_27 rfl (Nat.le_of_ble_eq_true rfl) (by decide) (fun b hb => m_X6_isWithin V.1.2.1 _ _ _ _ C.inj σ x0 32 126 b hb) rfl (g_cP fun r1 => ?_)
  refine g_ck fun h2 => ?_
  skip
  exact g_zret C 4 rfl (sw_fz_n h2 ⟨_, rfl⟩) rfl
set_option maxHeartbeats 1000000 in
set_option maxRecDepth 100000 in
theorem m_X6_isLetter (l : Launch) (dC : Nat → ClassId) (dI : Nat → Nat → Nat) (dA : Nat → ClassId) (ad : Nat → Nat) (hI : sw_inj sw_ZX ad) (σ : sw_St) (x0 : Int32) (b : Int32) (hb : f_X6_isLetter σ x0 = some b) : sw_M sw_ZX l yX6_isLetter cX6_isLetter 1 (some .boolean) 1 dC dI dA ad [(.int x0)] σ ((sw_eP σ) b) :=
  sw_mk1 (ψ := (sw_eP σ)) 0 (by decide) sw_ZXok hI dk_X6_isLetter rfl (sw_c1_all _ ⟨rfl, trivial⟩) hb (fun p e R M C => s_X6_isLetter C σ x0)
/-! SplitWatch.write(I)I -/
def L_X6_write : sw_Is := [(0, .iload_n 1, 1, 1), (1, .invokestatic 53, 3, 4), (4, .ifCond .ne 5, 3, 7), (7, .iconst (-1), 1, 8), (8, .ireturn, 1, 9), (9, .aload_n 0, 1, 10), (10, .getfield 23, 3, 13), (13, .iload_n 1, 1, 14), (14, .i2c, 1, 15), (15, .invokevirtual 56, 3, 18), (18, .ireturn, 1, 19)]
theorem dk_X6_write : sw_dc cX6_write L_X6_write = true := by decide +kernel
def f_X6_write (σ : sw_St) (x1 : Int32) : Option (Int32 × sw_St) := (f_X6_isLetter σ x1).bind fun r1 => (if r1 = 0 then (some ((-1), σ)) else ((f_X5_append σ (sw_c16 x1)).bind fun r2 => (some (r2.1, r2.2))))
set_option maxHeartbeats 1000000 in
set_option maxRecDepth 100000 in
theorem s_X6_write {V : sw_V} (C : sw_Cx sw_ZX V cX6_write RX6 2 (some .int) L_X6_write 2) (σ : sw_St) (x1 : Int32) : sw_S sw_ZX V sw_eI [some (sw_r V 1), some (.int x1)] [] 0 σ (f_X6_write σ x1) := by
  unfold f_X6_write
  refine g_iload_n C 0 rfl rfl ?_
  refine g_callS (ψ₁ := sw_eP σ) C 1 rfl [(.int x1)] [] ml_X6_53 rfl (Nat.le_of_ble_eq_true rfl) (by decide) (fun b hb => m_X6_isLetter V.1.2.1 _ _ _ _ C.inj σ x1 b hb) rfl (g_cP fun r1 => ?_)
  refine g_if_ne C 2 rfl 9 (by decide) ?_ ?_
  · refine g_aload_n C 5 rfl rfl ?_
    refine g_getR C 6 rfl fl_X6_23 rfl rfl ?_
    refine g_iload_n C 7 rfl rfl ?_
    refine g_i2c C 8 rfl ?_
    refine g_callV (ψ₁ := sw_eI) C 9 rfl [(.int (sw_c16 x1))] [] ml_X6_56 rfl (Nat.le_of_ble_eq_true rfl) (by decide) rfl rfl (fun b hb => m_X5_append V.1.2.1 _ _ _ _ C.inj σ (sw_c16 x1) b hb) rfl (g_cI fun r2 => ?_)
    skip
    exact g_iret C 10 rfl rfl
  · refine g_iconst C 3 rfl (-1) (by decide) ?_
    skip
    exact g_iret C 4 rfl rfl
set_option maxHeartbeats 1000000 in
set_option maxRecDepth 100000 in
theorem m_X6_write (l : Launch) (dC : Nat → ClassId) (dI : Nat → Nat → Nat) (dA : Nat → ClassId) (ad : Nat → Nat) (hI : sw_inj sw_ZX ad) (σ : sw_St) (x1 : Int32) (b : (Int32 × sw_St)) (hb : f_X6_write σ x1 = some b) : sw_M sw_ZX l yX6_write cX6_write 2 (some .int) 2 dC dI dA ad [(sw_rv ad 1), (.int x1)] σ (sw_eI b) :=
  sw_mk1 (ψ := sw_eI) 0 (by decide) sw_ZXok hI dk_X6_write rfl (sw_c1_all _ ⟨sw_rv_cat _ _, rfl, trivial⟩) hb (fun p e R M C => s_X6_write C σ x1)
/-! SplitWatch.wipe()I -/
def L_X6_wipe : sw_Is := [(0, .aload_n 0, 1, 1), (1, .getfield 23, 3, 4), (4, .getfield 60, 3, 7), (7, .istore_n 1, 1, 8), (8, .aload_n 0, 1, 9), (9, .getfield 23, 3, 12), (12, .iconst 0, 1, 13), (13, .putfield 60, 3, 16), (16, .iload_n 1, 1, 17), (17, .ireturn, 1, 18)]
theorem dk_X6_wipe : sw_dc cX6_wipe L_X6_wipe = true := by decide +kernel
def f_X6_wipe (σ : sw_St)  : Option (Int32 × sw_St) := sw_pt σ 44 2 0 fun s1 => (some ((σ 44 2), s1))
set_option maxHeartbeats 1000000 in
set_option maxRecDepth 100000 in
theorem s_X6_wipe {V : sw_V} (C : sw_Cx sw_ZX V cX6_wipe RX6 2 (some .int) L_X6_wipe 0) (σ : sw_St)  : sw_S sw_ZX V sw_eI [some (sw_r V 1), none] [] 0 σ (f_X6_wipe σ) := by
  unfold f_X6_wipe
  refine g_aload_n C 0 rfl rfl ?_
  refine g_getR C 1 rfl fl_X6_23 rfl rfl ?_
  refine g_getI C 2 rfl fl_X6_60 rfl rfl ?_
  refine g_istore_n C 3 rfl (Nat.le_of_ble_eq_true rfl) (Or.inr (Or.inr (Or.inr ⟨_, rfl⟩))) ?_
  refine g_aload_n C 4 rfl rfl ?_
  refine g_getR C 5 rfl fl_X6_23 rfl rfl ?_
  refine g_iconst C 6 rfl 0 (by decide) ?_
  refine g_put C 7 rfl fp_X6_60 rfl rfl (fun s1 => ?_)
  refine g_iload_n C 8 rfl rfl ?_
  skip
  exact g_iret C 9 rfl rfl
set_option maxHeartbeats 1000000 in
set_option maxRecDepth 100000 in
theorem m_X6_wipe (l : Launch) (dC : Nat → ClassId) (dI : Nat → Nat → Nat) (dA : Nat → ClassId) (ad : Nat → Nat) (hI : sw_inj sw_ZX ad) (σ : sw_St)  (b : (Int32 × sw_St)) (hb : f_X6_wipe σ = some b) : sw_M sw_ZX l yX6_wipe cX6_wipe 2 (some .int) 0 dC dI dA ad [(sw_rv ad 1)] σ (sw_eI b) :=
  sw_mk1 (ψ := sw_eI) 1 (by decide) sw_ZXok hI dk_X6_wipe rfl (sw_c1_all _ ⟨sw_rv_cat _ _, trivial⟩) hb (fun p e R M C => s_X6_wipe C σ)
/-! SplitWatch.fault()I -/
def L_X6_fault : sw_Is := [(0, .aload_n 0, 1, 1), (1, .getfield 23, 3, 4), (4, .aload_n 0, 1, 5), (5, .getfield 10, 3, 8), (8, .getfield 64, 3, 11), (11, .invokevirtual 67, 3, 14), (14, .ireturn, 1, 15)]
theorem dk_X6_fault : sw_dc cX6_fault L_X6_fault = true := by decide +kernel
def f_X6_fault (σ : sw_St)  : Option (Int32 × sw_St) := (f_X5_findFault σ (σ 2 4)).bind fun r1 => (some (r1.1, r1.2))
set_option maxHeartbeats 1000000 in
set_option maxRecDepth 100000 in
theorem s_X6_fault {V : sw_V} (C : sw_Cx sw_ZX V cX6_fault RX6 1 (some .int) L_X6_fault 9) (σ : sw_St)  : sw_S sw_ZX V sw_eI [some (sw_r V 1)] [] 0 σ (f_X6_fault σ) := by
  unfold f_X6_fault
  refine g_aload_n C 0 rfl rfl ?_
  refine g_getR C 1 rfl fl_X6_23 rfl rfl ?_
  refine g_aload_n C 2 rfl rfl ?_
  refine g_getR C 3 rfl fl_X6_10 rfl rfl ?_
  refine g_getI C 4 rfl fl_X6_64 rfl rfl ?_
  refine g_callV (ψ₁ := sw_eI) C 5 rfl [(.int (σ 2 4))] [] ml_X6_67 rfl (Nat.le_of_ble_eq_true rfl) (by decide) rfl rfl (fun b hb => m_X5_findFault V.1.2.1 _ _ _ _ C.inj σ (σ 2 4) b hb) rfl (g_cI fun r1 => ?_)
  skip
  exact g_iret C 6 rfl rfl
set_option maxHeartbeats 1000000 in
set_option maxRecDepth 100000 in
theorem m_X6_fault (l : Launch) (dC : Nat → ClassId) (dI : Nat → Nat → Nat) (dA : Nat → ClassId) (ad : Nat → Nat) (hI : sw_inj sw_ZX ad) (σ : sw_St)  (b : (Int32 × sw_St)) (hb : f_X6_fault σ = some b) : sw_M sw_ZX l yX6_fault cX6_fault 1 (some .int) 9 dC dI dA ad [(sw_rv ad 1)] σ (sw_eI b) :=
  sw_mk1 (ψ := sw_eI) 0 (by decide) sw_ZXok hI dk_X6_fault rfl (sw_c1_all _ ⟨sw_rv_cat _ _, trivial⟩) hb (fun p e R M C => s_X6_fault C σ)
/-! SplitWatch.isRefusal(I)Z -/
def L_X6_isRefusal : sw_Is := [(0, .iload_n 0, 1, 1), (1, .ifCond .ge 13, 3, 4), (4, .iload_n 0, 1, 5), (5, .bipush (-5), 2, 7), (7, .if_icmp .eq 7, 3, 10), (10, .iconst 1, 1, 11), (11, .goto 4, 3, 14), (14, .iconst 0, 1, 15), (15, .ireturn, 1, 16)]
theorem dk_X6_isRefusal : sw_dc cX6_isRefusal L_X6_isRefusal = true := by decide +kernel
def f_X6_isRefusal (σ : sw_St) (x0 : Int32) : Option Int32 := if 0 ≤ x0 then (some 0) else (if x0 = (-5) then (some 0) else (some 1))
set_option maxHeartbeats 1000000 in
set_option maxRecDepth 100000 in
theorem s_X6_isRefusal {V : sw_V} (C : sw_Cx sw_ZX V cX6_isRefusal RX6 1 (some .boolean) L_X6_isRefusal 0) (σ : sw_St) (x0 : Int32) : sw_S sw_ZX V (sw_eP σ) [some (.int x0)] [] 0 σ (f_X6_isRefusal σ x0) := by
  unfold f_X6_isRefusal
  refine g_iload_n C 0 rfl rfl ?_
  refine g_if_ge C 1 rfl 14 (by decide) ?_ ?_
  · refine g_iconst C 7 rfl 0 (by decide) ?_
    skip
    exact g_zret C 8 rfl rfl rfl
  · refine g_iload_n C 2 rfl rfl ?_
    refine g_bipush C 3 rfl (-5) (by decide) ?_
    refine g_icmp_eq C 4 rfl 14 (by decide) ?_ ?_
    · refine g_iconst C 7 rfl 0 (by decide) ?_
      skip
      exact g_zret C 8 rfl rfl rfl
    · refine g_iconst C 5 rfl 1 (by decide) ?_
      refine g_goto C 6 rfl 15 (by decide) ?_
      skip
      exact g_zret C 8 rfl rfl rfl
set_option maxHeartbeats 1000000 in
set_option maxRecDepth 100000 in
theorem m_X6_isRefusal (l : Launch) (dC : Nat → ClassId) (dI : Nat → Nat → Nat) (dA : Nat → ClassId) (ad : Nat → Nat) (hI : sw_inj sw_ZX ad) (σ : sw_St) (x0 : Int32) (b : Int32) (hb : f_X6_isRefusal σ x0 = some b) : sw_M sw_ZX l yX6_isRefusal cX6_isRefusal 1 (some .boolean) 0 dC dI dA ad [(.int x0)] σ ((sw_eP σ) b) :=
  sw_mk1 (ψ := (sw_eP σ)) 0 (by decide) sw_ZXok hI dk_X6_isRefusal rfl (sw_c1_all _ ⟨rfl, trivial⟩) hb (fun p e R M C => s_X6_isRefusal C σ x0)
/-! SplitWatch.play()I -/
def L_X6_play : sw_Is := [(0, .aload_n 0, 1, 1), (1, .getfield 23, 3, 4), (4, .getfield 60, 3, 7), (7, .ifCond .eq 22, 3, 10), (10, .aload_n 0, 1, 11), (11, .getfield 23, 3, 14), (14, .aload_n 0, 1, 15), (15, .getfield 10, 3, 18), (18, .getfield 64, 3, 21), (21, .invokevirtual 67, 3, 24), (24, .bipush (-4), 2, 26), (26, .if_icmp .eq 6, 3, 29), (29, .bipush (-2), 2, 31), (31, .ireturn, 1, 32), (32, .iconst 0, 1, 33), (33, .istore_n 1, 1, 34), (34, .iconst 0, 1, 35), (35, .istore_n 2, 1, 36), (36, .iconst 0, 1, 37), (37, .istore_n 3, 1, 38), (38, .iload_n 3, 1, 39), (39, .sipush 200, 3, 42), (42, .if_icmp .ge 88, 3, 45), (45, .iload_n 2, 1, 46), (46, .aload_n 0, 1, 47), (47, .getfield 23, 3, 50), (50, .getfield 60, 3, 53), (53, .if_icmp .ge 77, 3, 56), (56, .aload_n 0, 1, 57), (57, .getfield 23, 3, 60), (60, .iload_n 2, 1, 61), (61, .aload_n 0, 1, 62), (62, .getfield 10, 3, 65), (65, .getfield 64, 3, 68), (68, .invokevirtual 70, 3, 71), (71, .pop, 1, 72), (72, .aload_n 0, 1, 73), (73, .getfield 23, 3, 76), (76, .getfield 74, 3, 79), (79, .astore 4, 2, 81), (81, .aload_n 0, 1, 82), (82, .getfield 10, 3, 85), (85, .aload_n 0, 1, 86), (86, .getfield 23, 3, 89), (89, .getfield 78, 3, 92), (92, .aload 4, 2, 94), (94, .iconst 0, 1, 95), (95, .iaload, 1, 96), (96, .aload 4, 2, 98), (98, .iconst 1, 1, 99), (99, .iaload, 1, 100), (100, .aload 4, 2, 102), (102, .iconst 2, 1, 103), (103, .iaload, 1, 104), (104, .invokevirtual 81, 3, 107), (107, .invokestatic 85, 3, 110), (110, .ifCond .ne 6, 3, 113), (113, .iinc 1 1, 3, 116), (116, .aload_n 0, 1, 117), (117, .getfield 23, 3, 120), (120, .getfield 88, 3, 123), (123, .istore_n 2, 1, 124), (124, .iinc 3 1, 3, 127), (127, .goto (-89), 3, 130), (130, .iload_n 1, 1, 131), (131, .ireturn, 1, 132)]
theorem dk_X6_play : sw_dc cX6_play L_X6_play = true := by decide +kernel
def f_X6_play_116 (k38 : sw_St → Int32 → Int32 → Int32 → Option (Int32 × sw_St)) (σ : sw_St) (x1 : Int32) (x3 : Int32) : Option (Int32 × sw_St) := k38 σ x1 (σ 44 4) (x3 + 1)
def f_X6_play_38  : Nat → sw_St → Int32 → Int32 → Int32 → Option (Int32 × sw_St)
  | 0 => fun _ _ _ _ => none
  | n + 1 => fun σ x1 x2 x3 => if 200 ≤ x3 then (some (x1, σ)) else (if (σ 44 2) ≤ x2 then (some (x1, σ)) else ((f_X5_understand σ x2 (σ 2 4)).bind fun r1 => ((f_X0_perform r1.2 (r1.2 44 3) (r1.2 46 (sw_ix 0)) (r1.2 46 (sw_ix 1)) (r1.2 46 (sw_ix 2))).bind fun r2 => ((f_X6_isRefusal r2.2 r2.1).bind fun r3 => (if r3 = 0 then (f_X6_play_116 (f_X6_play_38 n) r2.2 (x1 + 1) x3) else (f_X6_play_116 (f_X6_play_38 n) r2.2 x1 x3))))))
def f_X6_play (σ : sw_St)  : Option (Int32 × sw_St) := if (σ 44 2) = 0 then (some ((-2), σ)) else ((f_X5_findFault σ (σ 2 4)).bind fun r1 => (if r1.1 = (-4) then (f_X6_play_38 sw_fuel r1.2 0 0 0) else (some ((-2), r1.2))))
set_option maxHeartbeats 1000000 in
set_option maxRecDepth 100000 in
theorem s_X6_play_116 {V : sw_V} (C : sw_Cx sw_ZX V cX6_play RX6 5 (some .int) L_X6_play 9) (k38 : sw_St → Int32 → Int32 → Int32 → Option (Int32 × sw_St)) (hk38 : ∀ (σ : sw_St) (x1 : Int32) (x2 : Int32) (x3 : Int32), sw_S sw_ZX V sw_eI [some (sw_r V 1), some (.int x1), some (.int x2), some (.int x3), none] [] 38 σ (k38 σ x1 x2 x3)) (σ : sw_St) (x1 : Int32) (x3 : Int32) : sw_S sw_ZX V sw_eI [some (sw_r V 1), some (.int x1), none, some (.int x3), none] [] 116 σ (f_X6_play_116 k38 σ x1 x3) := by
  unfold f_X6_play_116
  refine g_aload_n C 58 rfl rfl ?_
  refine g_getR C 59 rfl fl_X6_23 rfl rfl ?_
  refine g_getI C 60 rfl fl_X6_88 rfl rfl ?_
  refine g_istore_n C 61 rfl (Nat.le_of_ble_eq_true rfl) (Or.inr (Or.inr (Or.inl ⟨_, rfl⟩))) ?_
  refine g_iinc C 62 rfl 1 (by decide) rfl (Nat.le_of_ble_eq_true rfl) (Or.inr (Or.inr (Or.inl ⟨_, rfl⟩))) ?_
  refine g_goto C 63 rfl 38 (by decide) ?_
  exact g_wk (hk38 σ x1 (σ 44 4) (x3 + 1)) ⟨rfl, rfl, rfl, rfl, trivial⟩
set_option maxHeartbeats 1000000 in
set_option maxRecDepth 100000 in
theorem s_X6_play_38 {V : sw_V} (C : sw_Cx sw_ZX V cX6_play RX6 5 (some .int) L_X6_play 9) : ∀ (n : Nat) (σ : sw_St) (x1 : Int32) (x2 : Int32) (x3 : Int32), sw_S sw_ZX V sw_eI [some (sw_r V 1), some (.int x1), some (.int x2), some (.int x3), none] [] 38 σ (f_X6_play_38 n σ x1 x2 x3) := by
  intro n
  induction n with
  | zero =>
    intro σ x1 x2 x3
    exact g_none
  | succ n ih =>
    intro σ x1 x2 x3
    rw [f_X6_play_38]
    refine g_iload_n C 20 rfl rfl ?_
    refine g_sipush C 21 rfl 200 (by decide) ?_
    refine g_icmp_ge C 22 rfl 130 (by decide) ?_ ?_
    · refine g_iload_n C 64 rfl rfl ?_
      skip
      exact g_iret C 65 rfl rfl
    · refine g_iload_n C 23 rfl rfl ?_
      refine g_aload_n C 24 rfl rfl ?_
      refine g_getR C 25 rfl fl_X6_23 rfl rfl ?_
      refine g_getI C 26 rfl fl_X6_60 rfl rfl ?_
      refine g_icmp_ge C 27 rfl 130 (by decide) ?_ ?_
      · refine g_iload_n C 64 rfl rfl ?_
        skip
        exact g_iret C 65 rfl rfl
      · refine g_aload_n C 28 rfl rfl ?_
        refine g_getR C 29 rfl fl_X6_23 rfl rfl ?_
        refine g_iload_n C 30 rfl rfl ?_
        refine g_aload_n C 31 rfl rfl ?_
        refine g_getR C 32 rfl fl_X6_10 rfl rfl ?_
        refine g_getI C 33 rfl fl_X6_64 rfl rfl ?_
        refine g_callV (ψ₁ := sw_eI) C 34 rfl [(.int x2), (.int (σ 2 4))] [] ml_X6_70 rfl (Nat.le_of_ble_eq_true rfl) (by decide) rfl rfl (fun b hb => m_X5_understand V.1.2.1 _ _ _ _ C.inj σ x2 (σ 2 4) b hb) rfl (g_cI fun r1 => ?_)
        refine g_popI C 35 rfl ?_
        refine g_aload_n C 36 rfl rfl ?_
        refine g_getR C 37 rfl fl_X6_23 rfl rfl ?_
        refine g_getR C 38 rfl fl_X6_74 rfl rfl ?_
        refine g_astore C 39 rfl (Nat.le_of_ble_eq_true rfl) (Or.inr (Or.inr (Or.inl ⟨_, rfl⟩))) ?_
        refine g_aload_n C 40 rfl rfl ?_
        refine g_getR C 41 rfl fl_X6_10 rfl rfl ?_
        refine g_aload_n C 42 rfl rfl ?_
        refine g_getR C 43 rfl fl_X6_23 rfl rfl ?_
        refine g_getI C 44 rfl fl_X6_78 rfl rfl ?_
        refine g_aload C 45 rfl rfl ?_
        refine g_iconst C 46 rfl 0 (by decide) ?_
        refine g_iald C 47 rfl rfl (by decide) ?_
        refine g_aload C 48 rfl rfl ?_
        refine g_iconst C 49 rfl 1 (by decide) ?_
        refine g_iald C 50 rfl rfl (by decide) ?_
        refine g_aload C 51 rfl rfl ?_
        refine g_iconst C 52 rfl 2 (by decide) ?_
        refine g_iald C 53 rfl rfl (by decide) ?_
        refine g_callV (ψ₁ := sw_eI) C 54 rfl [(.int (r1.2 44 3)), (.int (r1.2 46 (sw_ix 0))), (.int (r1.2 46 (sw_ix 1))), (.int (r1.2 46 (sw_ix 2)))] [] ml_X6_81 rfl (Nat.le_of_ble_eq_true rfl) (by decide) rfl rfl (fun b hb => m_X0_perform V.1.2.1 _ _ _ _ C.inj r1.2 (r1.2 44 3) (r1.2 46 (sw_ix 0)) (r1.2 46 (sw_ix 1)) (r1.2 46 (sw_ix 2)) b hb) rfl (g_cI fun r2 => ?_)
        refine g_callS (ψ₁ := sw_eP r2.2) C 55 rfl [(.int r2.1)] [] ml_X6_85 rfl (Nat.le_of_ble_eq_true rfl) (by decide) (fun b hb => m_X6_isRefusal V.1.2.1 _ _ _ _ C.inj r2.2 r2.1 b hb) rfl (g_cP fun r3 => ?_)
        refine g_if_ne C 56 rfl 116 (by decide) ?_ ?_
        · exact g_wk (s_X6_play_116 C (f_X6_play_38 n) ih r2.2 x1 x3) ⟨rfl, rfl, rfl, trivial⟩
        · refine g_iinc C 57 rfl 1 (by decide) rfl (Nat.le_of_ble_eq_true rfl) (Or.inr (Or.inr (Or.inr ⟨_, rfl⟩))) ?_
          exact g_wk (s_X6_play_116 C (f_X6_play_38 n) ih r2.2 (x1 + 1) x3) ⟨rfl, rfl, rfl, trivial⟩
set_option maxHeartbeats 1000000 in
set_option maxRecDepth 100000 in
theorem s_X6_play {V : sw_V} (C : sw_Cx sw_ZX V cX6_play RX6 5 (some .int) L_X6_play 9) (σ : sw_St)  : sw_S sw_ZX V sw_eI [some (sw_r V 1), none, none, none, none] [] 0 σ (f_X6_play σ) := by
  unfold f_X6_play
  refine g_aload_n C 0 rfl rfl ?_
  refine g_getR C 1 rfl fl_X6_23 rfl rfl ?_
  refine g_getI C 2 rfl fl_X6_60 rfl rfl ?_
  refine g_if_eq C 3 rfl 29 (by decide) ?_ ?_
  · refine g_bipush C 12 rfl (-2) (by decide) ?_
    skip
    exact g_iret C 13 rfl rfl
  · refine g_aload_n C 4 rfl rfl ?_
    refine g_getR C 5 rfl fl_X6_23 rfl rfl ?_
    refine g_aload_n C 6 rfl rfl ?_
    refine g_getR C 7 rfl fl_X6_10 rfl rfl ?_
    refine g_getI C 8 rfl fl_X6_64 rfl rfl ?_
    refine g_callV (ψ₁ := sw_eI) C 9 rfl [(.int (σ 2 4))] [] ml_X6_67 rfl (Nat.le_of_ble_eq_true rfl) (by decide) rfl rfl (fun b hb => m_X5_findFault V.1.2.1 _ _ _ _ C.inj σ (σ 2 4) b hb) rfl (g_cI fun r1 => ?_)
    refine g_bipush C 10 rfl (-4) (by decide) ?_
    refine g_icmp_eq C 11 rfl 32 (by decide) ?_ ?_
    · refine g_iconst C 14 rfl 0 (by decide) ?_
      refine g_istore_n C 15 rfl (Nat.le_of_ble_eq_true rfl) (Or.inr (Or.inr (Or.inr ⟨_, rfl⟩))) ?_
      refine g_iconst C 16 rfl 0 (by decide) ?_
      refine g_istore_n C 17 rfl (Nat.le_of_ble_eq_true rfl) (Or.inr (Or.inr (Or.inl ⟨_, rfl⟩))) ?_
      refine g_iconst C 18 rfl 0 (by decide) ?_
      refine g_istore_n C 19 rfl (Nat.le_of_ble_eq_true rfl) (Or.inr (Or.inr (Or.inl ⟨_, rfl⟩))) ?_
      exact g_wk (s_X6_play_38 C sw_fuel r1.2 0 0 0) ⟨rfl, rfl, rfl, rfl, trivial⟩
    · refine g_bipush C 12 rfl (-2) (by decide) ?_
      skip
      exact g_iret C 13 rfl rfl
set_option maxHeartbeats 1000000 in
set_option maxRecDepth 100000 in
theorem m_X6_play (l : Launch) (dC : Nat → ClassId) (dI : Nat → Nat → Nat) (dA : Nat → ClassId) (ad : Nat → Nat) (hI : sw_inj sw_ZX ad) (σ : sw_St)  (b : (Int32 × sw_St)) (hb : f_X6_play σ = some b) : sw_M sw_ZX l yX6_play cX6_play 5 (some .int) 9 dC dI dA ad [(sw_rv ad 1)] σ (sw_eI b) :=
  sw_mk1 (ψ := sw_eI) 4 (by decide) sw_ZXok hI dk_X6_play rfl (sw_c1_all _ ⟨sw_rv_cat _ _, trivial⟩) hb (fun p e R M C => s_X6_play C σ)
/-! SplitWatch.order(I)I -/
def L_X6_order : sw_Is := [(0, .iload_n 1, 1, 1), (1, .iconst (-1), 1, 2), (2, .if_icmp .ge 5, 3, 5), (5, .iconst (-1), 1, 6), (6, .ireturn, 1, 7), (7, .aload_n 0, 1, 8), (8, .getfield 10, 3, 11), (11, .getfield 91, 3, 14), (14, .invokevirtual 95, 3, 17), (17, .istore_n 2, 1, 18), (18, .iload_n 1, 1, 19), (19, .iconst (-1), 1, 20), (20, .if_icmp .ne 5, 3, 23), (23, .iload_n 2, 1, 24), (24, .ireturn, 1, 25), (25, .iload_n 1, 1, 26), (26, .iload_n 2, 1, 27), (27, .if_icmp .ge 17, 3, 30), (30, .aload_n 0, 1, 31), (31, .getfield 10, 3, 34), (34, .getfield 91, 3, 37), (37, .iload_n 1, 1, 38), (38, .invokevirtual 101, 3, 41), (41, .goto 5, 3, 44), (44, .bipush (-4), 2, 46), (46, .ireturn, 1, 47)]
theorem dk_X6_order : sw_dc cX6_order L_X6_order = true := by decide +kernel
def f_X6_order (σ : sw_St) (x1 : Int32) : Option Int32 := if (-1) ≤ x1 then ((f_X3_lineLength σ).bind fun r1 => (if x1 = (-1) then (some r1) else (if r1 ≤ x1 then (some (-4)) else ((f_X3_letterAt σ x1).bind fun r2 => (some r2))))) else (some (-1))
set_option maxHeartbeats 1000000 in
set_option maxRecDepth 100000 in
theorem s_X6_order {V : sw_V} (C : sw_Cx sw_ZX V cX6_order RX6 3 (some .int) L_X6_order 1) (σ : sw_St) (x1 : Int32) : sw_S sw_ZX V (sw_eP σ) [some (sw_r V 1), some (.int x1), none] [] 0 σ (f_X6_order σ x1) := by
  unfold f_X6_order
  refine g_iload_n C 0 rfl rfl ?_
  refine g_iconst C 1 rfl (-1) (by decide) ?_
  refine g_icmp_ge C 2 rfl 7 (by decide) ?_ ?_
  · refine g_aload_n C 5 rfl rfl ?_
    refine g_getR C 6 rfl fl_X6_10 rfl rfl ?_
    refine g_getR C 7 rfl fl_X6_91 rfl rfl ?_
    refine g_callV (ψ₁ := sw_eP σ) C 8 rfl [] [] ml_X6_95 rfl (Nat.le_of_ble_eq_true rfl) (by decide) rfl rfl (fun b hb => m_X3_lineLength V.1.2.1 _ _ _ _ C.inj σ b hb) rfl (g_cP fun r1 => ?_)
    refine g_istore_n C 9 rfl (Nat.le_of_ble_eq_true rfl) (Or.inr (Or.inr (Or.inl ⟨_, rfl⟩))) ?_
    refine g_iload_n C 10 rfl rfl ?_
    refine g_iconst C 11 rfl (-1) (by decide) ?_
    refine g_icmp_ne C 12 rfl 25 (by decide) ?_ ?_
    · refine g_iload_n C 15 rfl rfl ?_
      refine g_iload_n C 16 rfl rfl ?_
      refine g_icmp_ge C 17 rfl 44 (by decide) ?_ ?_
      · refine g_bipush C 24 rfl (-4) (by decide) ?_
        skip
        exact g_iret C 25 rfl rfl
      · refine g_aload_n C 18 rfl rfl ?_
        refine g_getR C 19 rfl fl_X6_10 rfl rfl ?_
        refine g_getR C 20 rfl fl_X6_91 rfl rfl ?_
        refine g_iload_n C 21 rfl rfl ?_
        refine g_callV (ψ₁ := sw_eP σ) C 22 rfl [(.int x1)] [] ml_X6_101 rfl (Nat.le_of_ble_eq_true rfl) (by decide) rfl rfl (fun b hb => m_X3_letterAt V.1.2.1 _ _ _ _ C.inj σ x1 b hb) rfl (g_cP fun r2 => ?_)
        refine g_goto C 23 rfl 46 (by decide) ?_
        skip
        exact g_iret C 25 rfl rfl
    · refine g_iload_n C 13 rfl rfl ?_
      skip
      exact g_iret C 14 rfl rfl
  · refine g_iconst C 3 rfl (-1) (by decide) ?_
    skip
    exact g_iret C 4 rfl rfl
set_option maxHeartbeats 1000000 in
set_option maxRecDepth 100000 in
theorem m_X6_order (l : Launch) (dC : Nat → ClassId) (dI : Nat → Nat → Nat) (dA : Nat → ClassId) (ad : Nat → Nat) (hI : sw_inj sw_ZX ad) (σ : sw_St) (x1 : Int32) (b : Int32) (hb : f_X6_order σ x1 = some b) : sw_M sw_ZX l yX6_order cX6_order 3 (some .int) 1 dC dI dA ad [(sw_rv ad 1), (.int x1)] σ ((sw_eP σ) b) :=
  sw_mk1 (ψ := (sw_eP σ)) 1 (by decide) sw_ZXok hI dk_X6_order rfl (sw_c1_all _ ⟨sw_rv_cat _ _, rfl, trivial⟩) hb (fun p e R M C => s_X6_order C σ x1)
/-! SplitWatch.told(III)I -/
def L_X6_told : sw_Is := [(0, .iload_n 1, 1, 1), (1, .invokestatic 53, 3, 4), (4, .ifCond .eq 17, 3, 7), (7, .iload_n 2, 1, 8), (8, .invokestatic 53, 3, 11), (11, .ifCond .eq 10, 3, 14), (14, .iload_n 3, 1, 15), (15, .invokestatic 53, 3, 18), (18, .ifCond .ne 5, 3, 21), (21, .iconst (-1), 1, 22), (22, .ireturn, 1, 23), (23, .aload_n 0, 1, 24), (24, .getfield 10, 3, 27), (27, .getfield 91, 3, 30), (30, .iload_n 1, 1, 31), (31, .iload_n 2, 1, 32), (32, .iload_n 3, 1, 33), (33, .invokevirtual 104, 3, 36), (36, .ireturn, 1, 37)]
theorem dk_X6_told : sw_dc cX6_told L_X6_told = true := by decide +kernel
def f_X6_told (σ : sw_St) (x1 : Int32) (x2 : Int32) (x3 : Int32) : Option Int32 := (f_X6_isLetter σ x1).bind fun r1 => (if r1 = 0 then (some (-1)) else ((f_X6_isLetter σ x2).bind fun r2 => (if r2 = 0 then (some (-1)) else ((f_X6_isLetter σ x3).bind fun r3 => (if r3 = 0 then (some (-1)) else ((f_X3_matches σ x1 x2 x3).bind fun r4 => (some r4)))))))
set_option maxHeartbeats 1000000 in
set_option maxRecDepth 100000 in
theorem s_X6_told {V : sw_V} (C : sw_Cx sw_ZX V cX6_told RX6 4 (some .int) L_X6_told 2) (σ : sw_St) (x1 : Int32) (x2 : Int32) (x3 : Int32) : sw_S sw_ZX V (sw_eP σ) [some (sw_r V 1), some (.int x1), some (.int x2), some (.int x3)] [] 0 σ (f_X6_told σ x1 x2 x3) := by
  unfold f_X6_told
  refine g_iload_n C 0 rfl rfl ?_
  refine g_callS (ψ₁ := sw_eP σ) C 1 rfl [(.int x1)] [] ml_X6_53 rfl (Nat.le_of_ble_eq_true rfl) (by decide) (fun b hb => m_X6_isLetter V.1.2.1 _ _ _ _ C.inj σ x1 b hb) rfl (g_cP fun r1 => ?_)
  refine g_if_eq C 2 rfl 21 (by decide) ?_ ?_
  · refine g_iconst C 9 rfl (-1) (by decide) ?_
    skip
    exact g_iret C 10 rfl rfl
  · refine g_iload_n C 3 rfl rfl ?_
    refine g_callS (ψ₁ := sw_eP σ) C 4 rfl [(.int x2)] [] ml_X6_53 rfl (Nat.le_of_ble_eq_true rfl) (by decide) (fun b hb => m_X6_isLetter V.1.2.1 _ _ _ _ C.inj σ x2 b hb) rfl (g_cP fun r2 => ?_)
    refine g_if_eq C 5 rfl 21 (by decide) ?_ ?_
    · refine g_iconst C 9 rfl (-1) (by decide) ?_
      skip
      exact g_iret C 10 rfl rfl
    · refine g_iload_n C 6 rfl rfl ?_
      refine g_callS (ψ₁ := sw_eP σ) C 7 rfl [(.int x3)] [] ml_X6_53 rfl (Nat.le_of_ble_eq_true rfl) (by decide) (fun b hb => m_X6_isLetter V.1.2.1 _ _ _ _ C.inj σ x3 b hb) rfl (g_cP fun r3 => ?_)
      refine g_if_ne C 8 rfl 23 (by decide) ?_ ?_
      · refine g_aload_n C 11 rfl rfl ?_
        refine g_getR C 12 rfl fl_X6_10 rfl rfl ?_
        refine g_getR C 13 rfl fl_X6_91 rfl rfl ?_
        refine g_iload_n C 14 rfl rfl ?_
        refine g_iload_n C 15 rfl rfl ?_
        refine g_iload_n C 16 rfl rfl ?_
        refine g_callV (ψ₁ := sw_eP σ) C 17 rfl [(.int x1), (.int x2), (.int x3)] [] ml_X6_104 rfl (Nat.le_of_ble_eq_true rfl) (by decide) rfl rfl (fun b hb => m_X3_matches V.1.2.1 _ _ _ _ C.inj σ x1 x2 x3 b hb) rfl (g_cP fun r4 => ?_)
        skip
        exact g_iret C 18 rfl rfl
      · refine g_iconst C 9 rfl (-1) (by decide) ?_
        skip
        exact g_iret C 10 rfl rfl
set_option maxHeartbeats 1000000 in
set_option maxRecDepth 100000 in
theorem m_X6_told (l : Launch) (dC : Nat → ClassId) (dI : Nat → Nat → Nat) (dA : Nat → ClassId) (ad : Nat → Nat) (hI : sw_inj sw_ZX ad) (σ : sw_St) (x1 : Int32) (x2 : Int32) (x3 : Int32) (b : Int32) (hb : f_X6_told σ x1 x2 x3 = some b) : sw_M sw_ZX l yX6_told cX6_told 4 (some .int) 2 dC dI dA ad [(sw_rv ad 1), (.int x1), (.int x2), (.int x3)] σ ((sw_eP σ) b) :=
  sw_mk1 (ψ := (sw_eP σ)) 0 (by decide) sw_ZXok hI dk_X6_told rfl (sw_c1_all _ ⟨sw_rv_cat _ _, rfl, rfl, rfl, trivial⟩) hb (fun p e R M C => s_X6_told C σ x1 x2 x3)
/-! SplitWatch.word(III)I -/
def L_X6_word : sw_Is := [(0, .aload_n 0, 1, 1), (1, .getfield 10, 3, 4), (4, .iload_n 1, 1, 5), (5, .invokevirtual 31, 3, 8), (8, .ifCond .eq 15, 3, 11), (11, .iload_n 2, 1, 12), (12, .invokestatic 35, 3, 15), (15, .ifCond .eq 8, 3, 18), (18, .iload_n 3, 1, 19), (19, .iconst (-1), 1, 20), (20, .if_icmp .ge 5, 3, 23), (23, .iconst (-1), 1, 24), (24, .ireturn, 1, 25), (25, .aload_n 0, 1, 26), (26, .getfield 10, 3, 29), (29, .iload_n 1, 1, 30), (30, .iload_n 2, 1, 31), (31, .invokevirtual 107, 3, 34), (34, .astore 4, 2, 36), (36, .aload 4, 2, 38), (38, .invokevirtual 111, 3, 41), (41, .istore 5, 2, 43), (43, .iload_n 3, 1, 44), (44, .iconst (-1), 1, 45), (45, .if_icmp .ne 6, 3, 48), (48, .iload 5, 2, 50), (50, .ireturn, 1, 51), (51, .iload_n 3, 1, 52), (52, .iload 5, 2, 54), (54, .if_icmp .lt 6, 3, 57), (57, .bipush (-4), 2, 59), (59, .ireturn, 1, 60), (60, .aload 4, 2, 62), (62, .iload_n 3, 1, 63), (63, .invokevirtual 115, 3, 66), (66, .ireturn, 1, 67)]
theorem dk_X6_word : sw_dc cX6_word L_X6_word = true := by decide +kernel
def f_X6_word (σ : sw_St) (x1 : Int32) (x2 : Int32) (x3 : Int32) : Option Int32 := (f_X0_hasCore σ x1).bind fun r1 => (if r1 = 0 then (some (-1)) else ((f_X6_isLine σ x2).bind fun r2 => (if r2 = 0 then (some (-1)) else (if (-1) ≤ x3 then ((f_X0_nameOf σ x1 x2).bind fun r3 => (sw_ck (sw_isS r3) (if x3 = (-1) then (some (sw_sl r3)) else (if x3 < (sw_sl r3) then (sw_ck (sw_in x3 (sw_sn r3)) (some (sw_sc r3 x3))) else (some (-4)))))) else (some (-1))))))
set_option maxHeartbeats 1000000 in
set_option maxRecDepth 100000 in
theorem s_X6_word {V : sw_V} (C : sw_Cx sw_ZX V cX6_word RX6 6 (some .int) L_X6_word 5) (σ : sw_St) (x1 : Int32) (x2 : Int32) (x3 : Int32) : sw_S sw_ZX V (sw_eP σ) [some (sw_r V 1), some (.int x1), some (.int x2), some (.int x3), none, none] [] 0 σ (f_X6_word σ x1 x2 x3) := by
  unfold f_X6_word
  refine g_aload_n C 0 rfl rfl ?_
  refine g_getR C 1 rfl fl_X6_10 rfl rfl ?_
  refine g_iload_n C 2 rfl rfl ?_
  refine g_callV (ψ₁ := sw_eP σ) C 3 rfl [(.int x1)] [] ml_X6_31 rfl (Nat.le_of_ble_eq_true rfl) (by decide) rfl rfl (fun b hb => m_X0_hasCore V.1.2.1 _ _ _ _ C.inj σ x1 b hb) rfl (g_cP fun r1 => ?_)
  refine g_if_eq C 4 rfl 23 (by decide) ?_ ?_
  · refine g_iconst C 11 rfl (-1) (by decide) ?_
    skip
    exact g_iret C 12 rfl rfl
  · refine g_iload_n C 5 rfl rfl ?_
    refine g_callS (ψ₁ := sw_eP σ) C 6 rfl [(.int x2)] [] ml_X6_35 rfl (Nat.le_of_ble_eq_true rfl) (by decide) (fun b hb => m_X6_isLine V.1.2.1 _ _ _ _ C.inj σ x2 b hb) rfl (g_cP fun r2 => ?_)
    refine g_if_eq C 7 rfl 23 (by decide) ?_ ?_
    · refine g_iconst C 11 rfl (-1) (by decide) ?_
      skip
      exact g_iret C 12 rfl rfl
    · refine g_iload_n C 8 rfl rfl ?_
      refine g_iconst C 9 rfl (-1) (by decide) ?_
      refine g_icmp_ge C 10 rfl 25 (by decide) ?_ ?_
      · refine g_aload_n C 13 rfl rfl ?_
        refine g_getR C 14 rfl fl_X6_10 rfl rfl ?_
        refine g_iload_n C 15 rfl rfl ?_
        refine g_iload_n C 16 rfl rfl ?_
        refine g_callV (ψ₁ := sw_eR V.2.2.2.2.2 σ) C 17 rfl [(.int x1), (.int x2)] [] ml_X6_107 rfl (Nat.le_of_ble_eq_true rfl) (by decide) rfl rfl (fun b hb => m_X0_nameOf V.1.2.1 _ _ _ _ C.inj σ x1 x2 b hb) rfl (g_cR fun r3 => ?_)
        refine g_astore C 18 rfl (Nat.le_of_ble_eq_true rfl) (Or.inr (Or.inr (Or.inl ⟨_, rfl⟩))) ?_
        refine g_aload C 19 rfl rfl ?_
        refine g_ck fun h4 => ?_
        refine g_slen C 20 rfl ml_X6_111 h4 (by decide) (Nat.le_of_ble_eq_true rfl) ?_
        refine g_istore C 21 rfl (Nat.le_of_ble_eq_true rfl) (Or.inr (Or.inr (Or.inr ⟨_, rfl⟩))) ?_
        refine g_iload_n C 22 rfl rfl ?_
        refine g_iconst C 23 rfl (-1) (by decide) ?_
        refine g_icmp_ne C 24 rfl 51 (by decide) ?_ ?_
        · refine g_iload_n C 27 rfl rfl ?_
          refine g_iload C 28 rfl rfl ?_
          refine g_icmp_lt C 29 rfl 60 (by decide) ?_ ?_
          · refine g_aload C 32 rfl rfl ?_
            refine g_iload_n C 33 rfl rfl ?_
            refine g_ck fun h5 => ?_
            refine g_schr C 34 rfl ml_X6_115 h4 h5 (by decide) (Nat.le_of_ble_eq_true rfl) ?_
            skip
            exact g_iret C 35 rfl rfl
          · refine g_bipush C 30 rfl (-4) (by decide) ?_
            skip
            exact g_iret C 31 rfl rfl
        · refine g_iload C 25 rfl rfl ?_
          skip
          exact g_iret C 26 rfl rfl
      · refine g_iconst C 11 rfl (-1) (by decide) ?_
        skip
        exact g_iret C 12 rfl rfl
set_option maxHeartbeats 1000000 in
set_option maxRecDepth 100000 in
theorem m_X6_word (l : Launch) (dC : Nat → ClassId) (dI : Nat → Nat → Nat) (dA : Nat → ClassId) (ad : Nat → Nat) (hI : sw_inj sw_ZX ad) (σ : sw_St) (x1 : Int32) (x2 : Int32) (x3 : Int32) (b : Int32) (hb : f_X6_word σ x1 x2 x3 = some b) : sw_M sw_ZX l yX6_word cX6_word 6 (some .int) 5 dC dI dA ad [(sw_rv ad 1), (.int x1), (.int x2), (.int x3)] σ ((sw_eP σ) b) :=
  sw_mk1 (ψ := (sw_eP σ)) 2 (by decide) sw_ZXok hI dk_X6_word rfl (sw_c1_all _ ⟨sw_rv_cat _ _, rfl, rfl, rfl, trivial⟩) hb (fun p e R M C => s_X6_word C σ x1 x2 x3)
/-! SplitWatch.cached(III)I -/
def L_X6_cached : sw_Is := [(0, .aload_n 0, 1, 1), (1, .getfield 10, 3, 4), (4, .iload_n 1, 1, 5), (5, .invokevirtual 31, 3, 8), (8, .ifCond .eq 19, 3, 11), (11, .iload_n 2, 1, 12), (12, .invokestatic 35, 3, 15), (15, .ifCond .eq 12, 3, 18), (18, .iload_n 3, 1, 19), (19, .iconst 0, 1, 20), (20, .iconst 2, 1, 21), (21, .invokestatic 27, 3, 24), (24, .ifCond .ne 5, 3, 27), (27, .iconst (-1), 1, 28), (28, .ireturn, 1, 29), (29, .aload_n 0, 1, 30), (30, .getfield 10, 3, 33), (33, .getfield 119, 3, 36), (36, .iload_n 1, 1, 37), (37, .aaload, 1, 38), (38, .getfield 123, 3, 41), (41, .astore 4, 2, 43), (43, .iload_n 3, 1, 44), (44, .ifCond .ne 11, 3, 47), (47, .aload 4, 2, 49), (49, .getfield 129, 3, 52), (52, .iload_n 2, 1, 53), (53, .iaload, 1, 54), (54, .ireturn, 1, 55), (55, .aload 4, 2, 57), (57, .getfield 129, 3, 60), (60, .iload_n 2, 1, 61), (61, .iaload, 1, 62), (62, .ifCond .ne 6, 3, 65), (65, .bipush (-4), 2, 67), (67, .ireturn, 1, 68), (68, .iload_n 3, 1, 69), (69, .iconst 1, 1, 70), (70, .if_icmp .ne 13, 3, 73), (73, .aload 4, 2, 75), (75, .getfield 134, 3, 78), (78, .iload_n 2, 1, 79), (79, .iaload, 1, 80), (80, .goto 9, 3, 83), (83, .aload 4, 2, 85), (85, .iload_n 2, 1, 86), (86, .invokevirtual 137, 3, 89), (89, .ireturn, 1, 90)]
theorem dk_X6_cached : sw_dc cX6_cached L_X6_cached = true := by decide +kernel
def f_X6_cached (σ : sw_St) (x1 : Int32) (x2 : Int32) (x3 : Int32) : Option Int32 := (f_X0_hasCore σ x1).bind fun r1 => (if r1 = 0 then (some (-1)) else ((f_X6_isLine σ x2).bind fun r2 => (if r2 = 0 then (some (-1)) else ((f_X6_isWithin σ x3 0 2).bind fun r3 => (if r3 = 0 then (some (-1)) else (sw_ck (sw_in x1 4) (if x3 = 0 then (sw_ck (sw_in x2 8) (some (σ (((8 + 9 * sw_ix x1) + 1) + 1) (sw_ix x2)))) else (sw_ck (sw_in x2 8) (if (σ (((8 + 9 * sw_ix x1) + 1) + 1) (sw_ix x2)) = 0 then (some (-4)) else (if x3 = 1 then (some (σ (((8 + 9 * sw_ix x1) + 1) + 2) (sw_ix x2))) else ((f_X1_usedLater σ ((8 + 9 * sw_ix x1) + 1) x2).bind fun r6 => (some r6))))))))))))
set_option maxHeartbeats 1000000 in
set_option maxRecDepth 100000 in
theorem s_X6_cached {V : sw_V} (C : sw_Cx sw_ZX V cX6_cached RX6 5 (some .int) L_X6_cached 2) (σ : sw_St) (x1 : Int32) (x2 : Int32) (x3 : Int32) : sw_S sw_ZX V (sw_eP σ) [some (sw_r V 1), some (.int x1), some (.int x2), some (.int x3), none] [] 0 σ (f_X6_cached σ x1 x2 x3) := by
  unfold f_X6_cached
  refine g_aload_n C 0 rfl rfl ?_
  refine g_getR C 1 rfl fl_X6_10 rfl rfl ?_
  refine g_iload_n C 2 rfl rfl ?_
  refine g_callV (ψ₁ := sw_eP σ) C 3 rfl [(.int x1)] [] ml_X6_31 rfl (Nat.le_of_ble_eq_true rfl) (by decide) rfl rfl (fun b hb => m_X0_hasCore V.1.2.1 _ _ _ _ C.inj σ x1 b hb) rfl (g_cP fun r1 => ?_)
  refine g_if_eq C 4 rfl 27 (by decide) ?_ ?_
  · refine g_iconst C 13 rfl (-1) (by decide) ?_
    skip
    exact g_iret C 14 rfl rfl
  · refine g_iload_n C 5 rfl rfl ?_
    refine g_callS (ψ₁ := sw_eP σ) C 6 rfl [(.int x2)] [] ml_X6_35 rfl (Nat.le_of_ble_eq_true rfl) (by decide) (fun b hb => m_X6_isLine V.1.2.1 _ _ _ _ C.inj σ x2 b hb) rfl (g_cP fun r2 => ?_)
    refine g_if_eq C 7 rfl 27 (by decide) ?_ ?_
    · refine g_iconst C 13 rfl (-1) (by decide) ?_
      skip
      exact g_iret C 14 rfl rfl
    · refine g_iload_n C 8 rfl rfl ?_
      refine g_iconst C 9 rfl 0 (by decide) ?_
      refine g_iconst C 10 rfl 2 (by decide) ?_
      refine g_callS (ψ₁ := sw_eP σ) C 11 rfl [(.int x3), (.int 0), (.int 2)] [] ml_X6_27 rfl (Nat.le_of_ble_eq_true rfl) (by decide) (fun b hb => m_X6_isWithin V.1.2.1 _ _ _ _ C.inj σ x3 0 2 b hb) rfl (g_cP fun r3 => ?_)
      refine g_if_ne C 12 rfl 29 (by decide) ?_ ?_
      · refine g_aload_n C 15 rfl rfl ?_
        refine g_getR C 16 rfl fl_X6_10 rfl rfl ?_
        refine g_getR C 17 rfl fl_X6_119 rfl rfl ?_
        refine g_iload_n C 18 rfl rfl ?_
        refine g_ck fun h4 => ?_
        refine g_aald C 19 rfl rfl rfl h4 (tg_cores h4) ?_
        refine g_getR C 20 rfl fl_X6_123 (sh_C (kd_cores h4)) rfl ?_
        refine g_astore C 21 rfl (Nat.le_of_ble_eq_true rfl) (Or.inr (Or.inr (Or.inl ⟨_, rfl⟩))) ?_
        refine g_iload_n C 22 rfl rfl ?_
        refine g_if_ne C 23 rfl 55 (by decide) ?_ ?_
        · refine g_aload C 29 rfl rfl ?_
          refine g_getR C 30 rfl fl_X6_129 (sh_K (kd_CK (kd_cores h4))) rfl ?_
          refine g_iload_n C 31 rfl rfl ?_
          refine g_ck fun h5 => ?_
          refine g_iald C 32 rfl (sh_K0 (kd_CK (kd_cores h4))) h5 ?_
          refine g_if_ne C 33 rfl 68 (by decide) ?_ ?_
          · refine g_iload_n C 36 rfl rfl ?_
            refine g_iconst C 37 rfl 1 (by decide) ?_
            refine g_icmp_ne C 38 rfl 83 (by decide) ?_ ?_
            · refine g_aload C 44 rfl rfl ?_
              refine g_iload_n C 45 rfl rfl ?_
              refine g_callV (ψ₁ := sw_eP σ) C 46 rfl [(.int x2)] [] ml_X6_137 rfl (Nat.le_of_ble_eq_true rfl) (by decide) (sh_K (kd_CK (kd_cores h4))) rfl (fun b hb => m_X1_usedLater V.1.2.1 _ _ _ _ C.inj σ ((8 + 9 * sw_ix x1) + 1) x2 b hb) rfl (g_cP fun r6 => ?_)
              skip
              exact g_iret C 47 rfl rfl
            · refine g_aload C 39 rfl rfl ?_
              refine g_getR C 40 rfl fl_X6_134 (sh_K (kd_CK (kd_cores h4))) rfl ?_
              refine g_iload_n C 41 rfl rfl ?_
              refine g_iald C 42 rfl (sh_K1 (kd_CK (kd_cores h4))) h5 ?_
              refine g_goto C 43 rfl 89 (by decide) ?_
              skip
              exact g_iret C 47 rfl rfl
          · refine g_bipush C 34 rfl (-4) (by decide) ?_
            skip
            exact g_iret C 35 rfl rfl
        · refine g_aload C 24 rfl rfl ?_
          refine g_getR C 25 rfl fl_X6_129 (sh_K (kd_CK (kd_cores h4))) rfl ?_
          refine g_iload_n C 26 rfl rfl ?_
          refine g_ck fun h7 => ?_
          refine g_iald C 27 rfl (sh_K0 (kd_CK (kd_cores h4))) h7 ?_
          skip
          exact g_iret C 28 rfl rfl
      · refine g_iconst C 13 rfl (-1) (by decide) ?_
        skip
        exact g_iret C 14 rfl rfl
set_option maxHeartbeats 1000000 in
set_option maxRecDepth 100000 in
theorem m_X6_cached (l : Launch) (dC : Nat → ClassId) (dI : Nat → Nat → Nat) (dA : Nat → ClassId) (ad : Nat → Nat) (hI : sw_inj sw_ZX ad) (σ : sw_St) (x1 : Int32) (x2 : Int32) (x3 : Int32) (b : Int32) (hb : f_X6_cached σ x1 x2 x3 = some b) : sw_M sw_ZX l yX6_cached cX6_cached 5 (some .int) 2 dC dI dA ad [(sw_rv ad 1), (.int x1), (.int x2), (.int x3)] σ ((sw_eP σ) b) :=
  sw_mk1 (ψ := (sw_eP σ)) 1 (by decide) sw_ZXok hI dk_X6_cached rfl (sw_c1_all _ ⟨sw_rv_cat _ _, rfl, rfl, rfl, trivial⟩) hb (fun p e R M C => s_X6_cached C σ x1 x2 x3)
/-! SplitWatch.buffered(III)I -/
def L_X6_buffered : sw_Is := [(0, .aload_n 0, 1, 1), (1, .getfield 10, 3, 4), (4, .iload_n 1, 1, 5), (5, .invokevirtual 31, 3, 8), (8, .ifCond .eq 17, 3, 11), (11, .iload_n 2, 1, 12), (12, .iconst (-1), 1, 13), (13, .if_icmp .lt 12, 3, 16), (16, .iload_n 3, 1, 17), (17, .iconst 0, 1, 18), (18, .iconst 1, 1, 19), (19, .invokestatic 27, 3, 22), (22, .ifCond .ne 5, 3, 25), (25, .iconst (-1), 1, 26), (26, .ireturn, 1, 27), (27, .aload_n 0, 1, 28), (28, .getfield 10, 3, 31), (31, .getfield 119, 3, 34), (34, .iload_n 1, 1, 35), (35, .aaload, 1, 36), (36, .astore 4, 2, 38), (38, .iload_n 2, 1, 39), (39, .iconst (-1), 1, 40), (40, .if_icmp .ne 9, 3, 43), (43, .aload 4, 2, 45), (45, .invokevirtual 140, 3, 48), (48, .ireturn, 1, 49), (49, .aload 4, 2, 51), (51, .iload_n 2, 1, 52), (52, .invokevirtual 143, 3, 55), (55, .astore 5, 2, 57), (57, .aload 5, 2, 59), (59, .ifnonnull 6, 3, 62), (62, .bipush (-4), 2, 64), (64, .ireturn, 1, 65), (65, .iload_n 3, 1, 66), (66, .ifCond .ne 11, 3, 69), (69, .aload 5, 2, 71), (71, .getfield 147, 3, 74), (74, .goto 8, 3, 77), (77, .aload 5, 2, 79), (79, .getfield 152, 3, 82), (82, .ireturn, 1, 83)]
theorem dk_X6_buffered : sw_dc cX6_buffered L_X6_buffered = true := by decide +kernel
def f_X6_buffered (σ : sw_St) (x1 : Int32) (x2 : Int32) (x3 : Int32) : Option Int32 := (f_X0_hasCore σ x1).bind fun r1 => (if r1 = 0 then (some (-1)) else (if x2 < (-1) then (some (-1)) else ((f_X6_isWithin σ x3 0 1).bind fun r2 => (if r2 = 0 then (some (-1)) else (sw_ck (sw_in x1 4) (if x2 = (-1) then ((f_X2_bufferSize σ (8 + 9 * sw_ix x1)).bind fun r7 => (some r7)) else ((f_X2_backAt σ (8 + 9 * sw_ix x1) x2).bind fun r4 => (if r4 = 0 then (some (-4)) else (if x3 = 0 then (sw_ck (sw_isQ r4) (some (σ r4 3))) else (sw_ck (sw_isQ r4) (some (σ r4 4))))))))))))
set_option maxHeartbeats 1000000 in
set_option maxRecDepth 100000 in
theorem s_X6_buffered {V : sw_V} (C : sw_Cx sw_ZX V cX6_buffered RX6 6 (some .int) L_X6_buffered 2) (σ : sw_St) (x1 : Int32) (x2 : Int32) (x3 : Int32) : sw_S sw_ZX V (sw_eP σ) [some (sw_r V 1), some (.int x1), some (.int x2), some (.int x3), none, none] [] 0 σ (f_X6_buffered σ x1 x2 x3) := by
  unfold f_X6_buffered
  refine g_aload_n C 0 rfl rfl ?_
  refine g_getR C 1 rfl fl_X6_10 rfl rfl ?_
  refine g_iload_n C 2 rfl rfl ?_
  refine g_callV (ψ₁ := sw_eP σ) C 3 rfl [(.int x1)] [] ml_X6_31 rfl (Nat.le_of_ble_eq_true rfl) (by decide) rfl rfl (fun b hb => m_X0_hasCore V.1.2.1 _ _ _ _ C.inj σ x1 b hb) rfl (g_cP fun r1 => ?_)
  refine g_if_eq C 4 rfl 25 (by decide) ?_ ?_
  · refine g_iconst C 13 rfl (-1) (by decide) ?_
    skip
    exact g_iret C 14 rfl rfl
  · refine g_iload_n C 5 rfl rfl ?_
    refine g_iconst C 6 rfl (-1) (by decide) ?_
    refine g_icmp_lt C 7 rfl 25 (by decide) ?_ ?_
    · refine g_iconst C 13 rfl (-1) (by decide) ?_
      skip
      exact g_iret C 14 rfl rfl
    · refine g_iload_n C 8 rfl rfl ?_
      refine g_iconst C 9 rfl 0 (by decide) ?_
      refine g_iconst C 10 rfl 1 (by decide) ?_
      refine g_callS (ψ₁ := sw_eP σ) C 11 rfl [(.int x3), (.int 0), (.int 1)] [] ml_X6_27 rfl (Nat.le_of_ble_eq_true rfl) (by decide) (fun b hb => m_X6_isWithin V.1.2.1 _ _ _ _ C.inj σ x3 0 1 b hb) rfl (g_cP fun r2 => ?_)
      refine g_if_ne C 12 rfl 27 (by decide) ?_ ?_
      · refine g_aload_n C 15 rfl rfl ?_
        refine g_getR C 16 rfl fl_X6_10 rfl rfl ?_
        refine g_getR C 17 rfl fl_X6_119 rfl rfl ?_
        refine g_iload_n C 18 rfl rfl ?_
        refine g_ck fun h3 => ?_
        refine g_aald C 19 rfl rfl rfl h3 (tg_cores h3) ?_
        refine g_astore C 20 rfl (Nat.le_of_ble_eq_true rfl) (Or.inr (Or.inr (Or.inl ⟨_, rfl⟩))) ?_
        refine g_iload_n C 21 rfl rfl ?_
        refine g_iconst C 22 rfl (-1) (by decide) ?_
        refine g_icmp_ne C 23 rfl 49 (by decide) ?_ ?_
        · refine g_aload C 27 rfl rfl ?_
          refine g_iload_n C 28 rfl rfl ?_
          refine g_callV (ψ₁ := sw_eR V.2.2.2.2.2 σ) C 29 rfl [(.int x2)] [] ml_X6_143 rfl (Nat.le_of_ble_eq_true rfl) (by decide) (sh_C (kd_cores h3)) rfl (fun b hb => m_X2_backAt V.1.2.1 _ _ _ _ C.inj σ (8 + 9 * sw_ix x1) x2 b hb) rfl (g_cR fun r4 => ?_)
          refine g_astore C 30 rfl (Nat.le_of_ble_eq_true rfl) (Or.inr (Or.inr (Or.inr ⟨_, rfl⟩))) ?_
          refine g_aload C 31 rfl rfl ?_
          refine g_ifnonnull C 32 rfl 65 (by decide) ?_ ?_
          · refine g_iload_n C 35 rfl rfl ?_
            refine g_if_ne C 36 rfl 77 (by decide) ?_ ?_
            · refine g_aload C 40 rfl rfl ?_
              refine g_ck fun h5 => ?_
              refine g_getI C 41 rfl fl_X6_152 (sh_Q h5) rfl ?_
              skip
              exact g_iret C 42 rfl rfl
            · refine g_aload C 37 rfl rfl ?_
              refine g_ck fun h6 => ?_
              refine g_getI C 38 rfl fl_X6_147 (sh_Q h6) rfl ?_
              refine g_goto C 39 rfl 82 (by decide) ?_
              skip
              exact g_iret C 42 rfl rfl
          · refine g_bipush C 33 rfl (-4) (by decide) ?_
            skip
            exact g_iret C 34 rfl rfl
        · refine g_aload C 24 rfl rfl ?_
          refine g_callV (ψ₁ := sw_eP σ) C 25 rfl [] [] ml_X6_140 rfl (Nat.le_of_ble_eq_true rfl) (by decide) (sh_C (kd_cores h3)) rfl (fun b hb => m_X2_bufferSize V.1.2.1 _ _ _ _ C.inj σ (8 + 9 * sw_ix x1) b hb) rfl (g_cP fun r7 => ?_)
          skip
          exact g_iret C 26 rfl rfl
      · refine g_iconst C 13 rfl (-1) (by decide) ?_
        skip
        exact g_iret C 14 rfl rfl
set_option maxHeartbeats 1000000 in
set_option maxRecDepth 100000 in
theorem m_X6_buffered (l : Launch) (dC : Nat → ClassId) (dI : Nat → Nat → Nat) (dA : Nat → ClassId) (ad : Nat → Nat) (hI : sw_inj sw_ZX ad) (σ : sw_St) (x1 : Int32) (x2 : Int32) (x3 : Int32) (b : Int32) (hb : f_X6_buffered σ x1 x2 x3 = some b) : sw_M sw_ZX l yX6_buffered cX6_buffered 6 (some .int) 2 dC dI dA ad [(sw_rv ad 1), (.int x1), (.int x2), (.int x3)] σ ((sw_eP σ) b) :=
  sw_mk1 (ψ := (sw_eP σ)) 2 (by decide) sw_ZXok hI dk_X6_buffered rfl (sw_c1_all _ ⟨sw_rv_cat _ _, rfl, rfl, rfl, trivial⟩) hb (fun p e R M C => s_X6_buffered C σ x1 x2 x3)
/-! SplitWatch.memory(I)I -/
def L_X6_memory : sw_Is := [(0, .iload_n 1, 1, 1), (1, .invokestatic 35, 3, 4), (4, .ifCond .eq 15, 3, 7), (7, .aload_n 0, 1, 8), (8, .getfield 10, 3, 11), (11, .getfield 154, 3, 14), (14, .iload_n 1, 1, 15), (15, .iaload, 1, 16), (16, .goto 4, 3, 19), (19, .iconst (-1), 1, 20), (20, .ireturn, 1, 21)]
theorem dk_X6_memory : sw_dc cX6_memory L_X6_memory = true := by decide +kernel
def f_X6_memory (σ : sw_St) (x1 : Int32) : Option Int32 := (f_X6_isLine σ x1).bind fun r1 => (if r1 = 0 then (some (-1)) else (sw_ck (sw_in x1 8) (some (σ 5 (sw_ix x1)))))
set_option maxHeartbeats 1000000 in
set_option maxRecDepth 100000 in
theorem s_X6_memory {V : sw_V} (C : sw_Cx sw_ZX V cX6_memory RX6 2 (some .int) L_X6_memory 2) (σ : sw_St) (x1 : Int32) : sw_S sw_ZX V (sw_eP σ) [some (sw_r V 1), some (.int x1)] [] 0 σ (f_X6_memory σ x1) := by
  unfold f_X6_memory
  refine g_iload_n C 0 rfl rfl ?_
  refine g_callS (ψ₁ := sw_eP σ) C 1 rfl [(.int x1)] [] ml_X6_35 rfl (Nat.le_of_ble_eq_true rfl) (by decide) (fun b hb => m_X6_isLine V.1.2.1 _ _ _ _ C.inj σ x1 b hb) rfl (g_cP fun r1 => ?_)
  refine g_if_eq C 2 rfl 19 (by decide) ?_ ?_
  · refine g_iconst C 9 rfl (-1) (by decide) ?_
    skip
    exact g_iret C 10 rfl rfl
  · refine g_aload_n C 3 rfl rfl ?_
    refine g_getR C 4 rfl fl_X6_10 rfl rfl ?_
    refine g_getR C 5 rfl fl_X6_154 rfl rfl ?_
    refine g_iload_n C 6 rfl rfl ?_
    refine g_ck fun h2 => ?_
    refine g_iald C 7 rfl rfl h2 ?_
    refine g_goto C 8 rfl 20 (by decide) ?_
    skip
    exact g_iret C 10 rfl rfl
set_option maxHeartbeats 1000000 in
set_option maxRecDepth 100000 in
theorem m_X6_memory (l : Launch) (dC : Nat → ClassId) (dI : Nat → Nat → Nat) (dA : Nat → ClassId) (ad : Nat → Nat) (hI : sw_inj sw_ZX ad) (σ : sw_St) (x1 : Int32) (b : Int32) (hb : f_X6_memory σ x1 = some b) : sw_M sw_ZX l yX6_memory cX6_memory 2 (some .int) 2 dC dI dA ad [(sw_rv ad 1), (.int x1)] σ ((sw_eP σ) b) :=
  sw_mk1 (ψ := (sw_eP σ)) 0 (by decide) sw_ZXok hI dk_X6_memory rfl (sw_c1_all _ ⟨sw_rv_cat _ _, rfl, trivial⟩) hb (fun p e R M C => s_X6_memory C σ x1)
/-! SplitWatch.truth(I)I -/
def L_X6_truth : sw_Is := [(0, .iload_n 1, 1, 1), (1, .invokestatic 35, 3, 4), (4, .ifCond .eq 14, 3, 7), (7, .aload_n 0, 1, 8), (8, .getfield 10, 3, 11), (11, .iload_n 1, 1, 12), (12, .invokevirtual 157, 3, 15), (15, .goto 4, 3, 18), (18, .iconst (-1), 1, 19), (19, .ireturn, 1, 20)]
theorem dk_X6_truth : sw_dc cX6_truth L_X6_truth = true := by decide +kernel
def f_X6_truth (σ : sw_St) (x1 : Int32) : Option Int32 := (f_X6_isLine σ x1).bind fun r1 => (if r1 = 0 then (some (-1)) else ((f_X0_trueValue σ x1).bind fun r2 => (some r2)))
set_option maxHeartbeats 1000000 in
set_option maxRecDepth 100000 in
theorem s_X6_truth {V : sw_V} (C : sw_Cx sw_ZX V cX6_truth RX6 2 (some .int) L_X6_truth 2) (σ : sw_St) (x1 : Int32) : sw_S sw_ZX V (sw_eP σ) [some (sw_r V 1), some (.int x1)] [] 0 σ (f_X6_truth σ x1) := by
  unfold f_X6_truth
  refine g_iload_n C 0 rfl rfl ?_
  refine g_callS (ψ₁ := sw_eP σ) C 1 rfl [(.int x1)] [] ml_X6_35 rfl (Nat.le_of_ble_eq_true rfl) (by decide) (fun b hb => m_X6_isLine V.1.2.1 _ _ _ _ C.inj σ x1 b hb) rfl (g_cP fun r1 => ?_)
  refine g_if_eq C 2 rfl 18 (by decide) ?_ ?_
  · refine g_iconst C 8 rfl (-1) (by decide) ?_
    skip
    exact g_iret C 9 rfl rfl
  · refine g_aload_n C 3 rfl rfl ?_
    refine g_getR C 4 rfl fl_X6_10 rfl rfl ?_
    refine g_iload_n C 5 rfl rfl ?_
    refine g_callV (ψ₁ := sw_eP σ) C 6 rfl [(.int x1)] [] ml_X6_157 rfl (Nat.le_of_ble_eq_true rfl) (by decide) rfl rfl (fun b hb => m_X0_trueValue V.1.2.1 _ _ _ _ C.inj σ x1 b hb) rfl (g_cP fun r2 => ?_)
    refine g_goto C 7 rfl 19 (by decide) ?_
    skip
    exact g_iret C 9 rfl rfl
set_option maxHeartbeats 1000000 in
set_option maxRecDepth 100000 in
theorem m_X6_truth (l : Launch) (dC : Nat → ClassId) (dI : Nat → Nat → Nat) (dA : Nat → ClassId) (ad : Nat → Nat) (hI : sw_inj sw_ZX ad) (σ : sw_St) (x1 : Int32) (b : Int32) (hb : f_X6_truth σ x1 = some b) : sw_M sw_ZX l yX6_truth cX6_truth 2 (some .int) 2 dC dI dA ad [(sw_rv ad 1), (.int x1)] σ ((sw_eP σ) b) :=
  sw_mk1 (ψ := (sw_eP σ)) 0 (by decide) sw_ZXok hI dk_X6_truth rfl (sw_c1_all _ ⟨sw_rv_cat _ _, rfl, trivial⟩) hb (fun p e R M C => s_X6_truth C σ x1)
/-! SplitWatch.core(II)I -/
def L_X6_core : sw_Is := [(0, .aload_n 0, 1, 1), (1, .getfield 10, 3, 4), (4, .iload_n 1, 1, 5), (5, .invokevirtual 31, 3, 8), (8, .ifCond .eq 12, 3, 11), (11, .iload_n 2, 1, 12), (12, .iconst 0, 1, 13), (13, .iconst 5, 1, 14), (14, .invokestatic 27, 3, 17), (17, .ifCond .ne 5, 3, 20), (20, .iconst (-1), 1, 21), (21, .ireturn, 1, 22), (22, .aload_n 0, 1, 23), (23, .getfield 10, 3, 26), (26, .getfield 119, 3, 29), (29, .iload_n 1, 1, 30), (30, .aaload, 1, 31), (31, .astore_n 3, 1, 32), (32, .aload_n 3, 1, 33), (33, .getfield 160, 3, 36), (36, .astore 4, 2, 38), (38, .iload_n 2, 1, 39), (39, .ifCond .ne 8, 3, 42), (42, .aload_n 3, 1, 43), (43, .getfield 164, 3, 46), (46, .ireturn, 1, 47), (47, .aload 4, 2, 49), (49, .getfield 167, 3, 52), (52, .ifCond .ne 15, 3, 55), (55, .iload_n 2, 1, 56), (56, .iconst 1, 1, 57), (57, .if_icmp .ne 7, 3, 60), (60, .iconst 0, 1, 61), (61, .goto 5, 3, 64), (64, .bipush (-4), 2, 66), (66, .ireturn, 1, 67), (67, .iload_n 2, 1, 68), (68, .tableswitch 81 1 4 #[32, 46, 52, 66], 32, 100), (100, .aload 4, 2, 102), (102, .getfield 170, 3, 105), (105, .ifCond .ne 7, 3, 108), (108, .iconst 1, 1, 109), (109, .goto 4, 3, 112), (112, .iconst 2, 1, 113), (113, .ireturn, 1, 114), (114, .aload 4, 2, 116), (116, .getfield 147, 3, 119), (119, .ireturn, 1, 120), (120, .aload_n 0, 1, 121), (121, .getfield 10, 3, 124), (124, .getfield 173, 3, 127), (127, .aload 4, 2, 129), (129, .getfield 176, 3, 132), (132, .isub, 1, 133), (133, .ireturn, 1, 134), (134, .aload 4, 2, 136), (136, .getfield 167, 3, 139), (139, .iconst 2, 1, 140), (140, .if_icmp .ne 7, 3, 143), (143, .iconst 1, 1, 144), (144, .goto 4, 3, 147), (147, .iconst 0, 1, 148), (148, .ireturn, 1, 149), (149, .aload 4, 2, 151), (151, .getfield 179, 3, 154), (154, .ireturn, 1, 155)]
theorem dk_X6_core : sw_dc cX6_core L_X6_core = true := by decide +kernel
def f_X6_core (σ : sw_St) (x1 : Int32) (x2 : Int32) : Option Int32 := (f_X0_hasCore σ x1).bind fun r1 => (if r1 = 0 then (some (-1)) else ((f_X6_isWithin σ x2 0 5).bind fun r2 => (if r2 = 0 then (some (-1)) else (sw_ck (sw_in x1 4) (if x2 = 0 then (some (σ (8 + 9 * sw_ix x1) 3)) else (if (σ ((8 + 9 * sw_ix x1) + 6) 1) = 0 then (if x2 = 1 then (some 0) else (some (-4))) else (if x2 = 1 then (if (σ ((8 + 9 * sw_ix x1) + 6) 2) = 0 then (some 1) else (some 2)) else (if x2 = 2 then (some (σ ((8 + 9 * sw_ix x1) + 6) 3)) else (if x2 = 3 then (some ((σ 2 8) - (σ ((8 + 9 * sw_ix x1) + 6) 5))) else (if x2 = 4 then (if (σ ((8 + 9 * sw_ix x1) + 6) 1) = 2 then (some 1) else (some 0)) else (some (σ ((8 + 9 * sw_ix x1) + 6) 7))))))))))))
set_option maxHeartbeats 1000000 in
set_option maxRecDepth 100000 in
theorem s_X6_core {V : sw_V} (C : sw_Cx sw_ZX V cX6_core RX6 5 (some .int) L_X6_core 2) (σ : sw_St) (x1 : Int32) (x2 : Int32) : sw_S sw_ZX V (sw_eP σ) [some (sw_r V 1), some (.int x1), some (.int x2), none, none] [] 0 σ (f_X6_core σ x1 x2) := by
  unfold f_X6_core
  refine g_aload_n C 0 rfl rfl ?_
  refine g_getR C 1 rfl fl_X6_10 rfl rfl ?_
  refine g_iload_n C 2 rfl rfl ?_
  refine g_callV (ψ₁ := sw_eP σ) C 3 rfl [(.int x1)] [] ml_X6_31 rfl (Nat.le_of_ble_eq_true rfl) (by decide) rfl rfl (fun b hb => m_X0_hasCore V.1.2.1 _ _ _ _ C.inj σ x1 b hb) rfl (g_cP fun r1 => ?_)
  refine g_if_eq C 4 rfl 20 (by decide) ?_ ?_
  · refine g_iconst C 10 rfl (-1) (by decide) ?_
    skip
    exact g_iret C 11 rfl rfl
  · refine g_iload_n C 5 rfl rfl ?_
    refine g_iconst C 6 rfl 0 (by decide) ?_
    refine g_iconst C 7 rfl 5 (by decide) ?_
    refine g_callS (ψ₁ := sw_eP σ) C 8 rfl [(.int x2), (.int 0), (.int 5)] [] ml_X6_27 rfl (Nat.le_of_ble_eq_true rfl) (by decide) (fun b hb => m_X6_isWithin V.1.2.1 _ _ _ _ C.inj σ x2 0 5 b hb) rfl (g_cP fun r2 => ?_)
    refine g_if_ne C 9 rfl 22 (by decide) ?_ ?_
    · refine g_aload_n C 12 rfl rfl ?_
      refine g_getR C 13 rfl fl_X6_10 rfl rfl ?_
      refine g_getR C 14 rfl fl_X6_119 rfl rfl ?_
      refine g_iload_n C 15 rfl rfl ?_
      refine g_ck fun h3 => ?_
      refine g_aald C 16 rfl rfl rfl h3 (tg_cores h3) ?_
      refine g_astore_n C 17 rfl (Nat.le_of_ble_eq_true rfl) (Or.inr (Or.inr (Or.inl ⟨_, rfl⟩))) ?_
      refine g_aload_n C 18 rfl rfl ?_
      refine g_getR C 19 rfl fl_X6_160 (sh_C (kd_cores h3)) rfl ?_
      refine g_astore C 20 rfl (Nat.le_of_ble_eq_true rfl) (Or.inr (Or.inr (Or.inr ⟨_, rfl⟩))) ?_
      refine g_iload_n C 21 rfl rfl ?_
      refine g_if_ne C 22 rfl 47 (by decide) ?_ ?_
      · refine g_aload C 26 rfl rfl ?_
        refine g_getI C 27 rfl fl_X6_167 (sh_Q (kd_CQ (kd_cores h3))) rfl ?_
        refine g_if_ne C 28 rfl 67 (by decide) ?_ ?_
        · refine g_iload_n C 36 rfl rfl ?_
          skip
          refine g_tin C 37 rfl 1 100 (by decide) 32 (by decide) (by decide) ?_ (fun h4 => ?_)
          · refine g_aload C 38 rfl rfl ?_
            refine g_getI C 39 rfl fl_X6_170 (sh_Q (kd_CQ (kd_cores h3))) rfl ?_
            refine g_if_ne C 40 rfl 112 (by decide) ?_ ?_
            · refine g_iconst C 43 rfl 2 (by decide) ?_
              skip
              exact g_iret C 44 rfl rfl
            · refine g_iconst C 41 rfl 1 (by decide) ?_
              refine g_goto C 42 rfl 113 (by decide) ?_
              skip
              exact g_iret C 44 rfl rfl
          refine g_tin C 37 rfl 2 114 (by decide) 46 (by decide) (by decide) ?_ (fun h5 => ?_)
          · refine g_aload C 45 rfl rfl ?_
            refine g_getI C 46 rfl fl_X6_147 (sh_Q (kd_CQ (kd_cores h3))) rfl ?_
            skip
            exact g_iret C 47 rfl rfl
          refine g_tin C 37 rfl 3 120 (by decide) 52 (by decide) (by decide) ?_ (fun h6 => ?_)
          · refine g_aload_n C 48 rfl rfl ?_
            refine g_getR C 49 rfl fl_X6_10 rfl rfl ?_
            refine g_getI C 50 rfl fl_X6_173 rfl rfl ?_
            refine g_aload C 51 rfl rfl ?_
            refine g_getI C 52 rfl fl_X6_176 (sh_Q (kd_CQ (kd_cores h3))) rfl ?_
            refine g_isub C 53 rfl ?_
            skip
            exact g_iret C 54 rfl rfl
          refine g_tin C 37 rfl 4 134 (by decide) 66 (by decide) (by decide) ?_ (fun h7 => ?_)
          · refine g_aload C 55 rfl rfl ?_
            refine g_getI C 56 rfl fl_X6_167 (sh_Q (kd_CQ (kd_cores h3))) rfl ?_
            refine g_iconst C 57 rfl 2 (by decide) ?_
            refine g_icmp_ne C 58 rfl 147 (by decide) ?_ ?_
            · refine g_iconst C 61 rfl 0 (by decide) ?_
              skip
              exact g_iret C 62 rfl rfl
            · refine g_iconst C 59 rfl 1 (by decide) ?_
              refine g_goto C 60 rfl 148 (by decide) ?_
              skip
              exact g_iret C 62 rfl rfl
          refine g_tout C 37 rfl 149 (by have a0 := lv_neT (a := 1) h4 (by decide); have a1 := lv_neT (a := 2) h5 (by decide); have a2 := lv_neT (a := 3) h6 (by decide); have a3 := lv_neT (a := 4) h7 (by decide); omega) (by decide) ?_
          refine g_aload C 63 rfl rfl ?_
          refine g_getI C 64 rfl fl_X6_179 (sh_Q (kd_CQ (kd_cores h3))) rfl ?_
          skip
          exact g_iret C 65 rfl rfl
        · refine g_iload_n C 29 rfl rfl ?_
          refine g_iconst C 30 rfl 1 (by decide) ?_
          refine g_icmp_ne C 31 rfl 64 (by decide) ?_ ?_
          · refine g_bipush C 34 rfl (-4) (by decide) ?_
            skip
            exact g_iret C 35 rfl rfl
          · refine g_iconst C 32 rfl 0 (by decide) ?_
            refine g_goto C 33 rfl 66 (by decide) ?_
            skip
            exact g_iret C 35 rfl rfl
      · refine g_aload_n C 23 rfl rfl ?_
        refine g_getI C 24 rfl fl_X6_164 (sh_C (kd_cores h3)) rfl ?_
        skip
        exact g_iret C 25 rfl rfl
    · refine g_iconst C 10 rfl (-1) (by decide) ?_
      skip
      exact g_iret C 11 rfl rfl
set_option maxHeartbeats 1000000 in
set_option maxRecDepth 100000 in
theorem m_X6_core (l : Launch) (dC : Nat → ClassId) (dI : Nat → Nat → Nat) (dA : Nat → ClassId) (ad : Nat → Nat) (hI : sw_inj sw_ZX ad) (σ : sw_St) (x1 : Int32) (x2 : Int32) (b : Int32) (hb : f_X6_core σ x1 x2 = some b) : sw_M sw_ZX l yX6_core cX6_core 5 (some .int) 2 dC dI dA ad [(sw_rv ad 1), (.int x1), (.int x2)] σ ((sw_eP σ) b) :=
  sw_mk1 (ψ := (sw_eP σ)) 2 (by decide) sw_ZXok hI dk_X6_core rfl (sw_c1_all _ ⟨sw_rv_cat _ _, rfl, rfl, trivial⟩) hb (fun p e R M C => s_X6_core C σ x1 x2)
/-! SplitWatch.waiting(II)I -/
def L_X6_waiting : sw_Is := [(0, .iload_n 1, 1, 1), (1, .iconst (-1), 1, 2), (2, .if_icmp .lt 12, 3, 5), (5, .iload_n 2, 1, 6), (6, .iconst 0, 1, 7), (7, .iconst 4, 1, 8), (8, .invokestatic 27, 3, 11), (11, .ifCond .ne 5, 3, 14), (14, .iconst (-1), 1, 15), (15, .ireturn, 1, 16), (16, .iload_n 1, 1, 17), (17, .iconst (-1), 1, 18), (18, .if_icmp .ne 12, 3, 21), (21, .aload_n 0, 1, 22), (22, .getfield 10, 3, 25), (25, .iconst 1, 1, 26), (26, .invokevirtual 182, 3, 29), (29, .ireturn, 1, 30), (30, .aload_n 0, 1, 31), (31, .getfield 10, 3, 34), (34, .iload_n 1, 1, 35), (35, .invokevirtual 185, 3, 38), (38, .astore_n 3, 1, 39), (39, .aload_n 3, 1, 40), (40, .ifnonnull 6, 3, 43), (43, .bipush (-4), 2, 45), (45, .ireturn, 1, 46), (46, .iload_n 2, 1, 47), (47, .tableswitch 49 0 3 #[29, 34, 39, 44], 29, 76), (76, .aload_n 3, 1, 77), (77, .getfield 188, 3, 80), (80, .ireturn, 1, 81), (81, .aload_n 3, 1, 82), (82, .getfield 170, 3, 85), (85, .ireturn, 1, 86), (86, .aload_n 3, 1, 87), (87, .getfield 147, 3, 90), (90, .ireturn, 1, 91), (91, .aload_n 3, 1, 92), (92, .getfield 191, 3, 95), (95, .ireturn, 1, 96), (96, .aload_n 3, 1, 97), (97, .getfield 179, 3, 100), (100, .ireturn, 1, 101)]
theorem dk_X6_waiting : sw_dc cX6_waiting L_X6_waiting = true := by decide +kernel
def f_X6_waiting (σ : sw_St) (x1 : Int32) (x2 : Int32) : Option Int32 := if x1 < (-1) then (some (-1)) else ((f_X6_isWithin σ x2 0 4).bind fun r1 => (if r1 = 0 then (some (-1)) else (if x1 = (-1) then ((f_X0_countAt σ 1).bind fun r12 => (some r12)) else ((f_X0_waitingAt σ x1).bind fun r2 => (if r2 = 0 then (some (-4)) else (if x2 = 0 then (sw_ck (sw_isQ r2) (some (σ r2 0))) else (if x2 = 1 then (sw_ck (sw_isQ r2) (some (σ r2 2))) else (if x2 = 2 then (sw_ck (sw_isQ r2) (some (σ r2 3))) else (if x2 = 3 then (sw_ck (sw_isQ r2) (some (σ r2 6))) else (sw_ck (sw_isQ r2) (some (σ r2 7))))))))))))
set_option maxHeartbeats 1000000 in
set_option maxRecDepth 100000 in
theorem s_X6_waiting {V : sw_V} (C : sw_Cx sw_ZX V cX6_waiting RX6 4 (some .int) L_X6_waiting 4) (σ : sw_St) (x1 : Int32) (x2 : Int32) : sw_S sw_ZX V (sw_eP σ) [some (sw_r V 1), some (.int x1), some (.int x2), none] [] 0 σ (f_X6_waiting σ x1 x2) := by
  unfold f_X6_waiting
  refine g_iload_n C 0 rfl rfl ?_
  refine g_iconst C 1 rfl (-1) (by decide) ?_
  refine g_icmp_lt C 2 rfl 14 (by decide) ?_ ?_
  · refine g_iconst C 8 rfl (-1) (by decide) ?_
    skip
    exact g_iret C 9 rfl rfl
  · refine g_iload_n C 3 rfl rfl ?_
    refine g_iconst C 4 rfl 0 (by decide) ?_
    refine g_iconst C 5 rfl 4 (by decide) ?_
    refine g_callS (ψ₁ := sw_eP σ) C 6 rfl [(.int x2), (.int 0), (.int 4)] [] ml_X6_27 rfl (Nat.le_of_ble_eq_true rfl) (by decide) (fun b hb => m_X6_isWithin V.1.2.1 _ _ _ _ C.inj σ x2 0 4 b hb) rfl (g_cP fun r1 => ?_)
    refine g_if_ne C 7 rfl 16 (by decide) ?_ ?_
    · refine g_iload_n C 10 rfl rfl ?_
      refine g_iconst C 11 rfl (-1) (by decide) ?_
      refine g_icmp_ne C 12 rfl 30 (by decide) ?_ ?_
      · refine g_aload_n C 18 rfl rfl ?_
        refine g_getR C 19 rfl fl_X6_10 rfl rfl ?_
        refine g_iload_n C 20 rfl rfl ?_
        refine g_callV (ψ₁ := sw_eR V.2.2.2.2.2 σ) C 21 rfl [(.int x1)] [] ml_X6_185 rfl (Nat.le_of_ble_eq_true rfl) (by decide) rfl rfl (fun b hb => m_X0_waitingAt V.1.2.1 _ _ _ _ C.inj σ x1 b hb) rfl (g_cR fun r2 => ?_)
        refine g_astore_n C 22 rfl (Nat.le_of_ble_eq_true rfl) (Or.inr (Or.inr (Or.inl ⟨_, rfl⟩))) ?_
        refine g_aload_n C 23 rfl rfl ?_
        refine g_ifnonnull C 24 rfl 46 (by decide) ?_ ?_
        · refine g_iload_n C 27 rfl rfl ?_
          skip
          refine g_tin C 28 rfl 0 76 (by decide) 29 (by decide) (by decide) ?_ (fun h4 => ?_)
          · refine g_aload_n C 29 rfl rfl ?_
            refine g_ck fun h3 => ?_
            refine g_getI C 30 rfl fl_X6_188 (sh_Q h3) rfl ?_
            skip
            exact g_iret C 31 rfl rfl
          refine g_tin C 28 rfl 1 81 (by decide) 34 (by decide) (by decide) ?_ (fun h6 => ?_)
          · refine g_aload_n C 32 rfl rfl ?_
            refine g_ck fun h5 => ?_
            refine g_getI C 33 rfl fl_X6_170 (sh_Q h5) rfl ?_
            skip
            exact g_iret C 34 rfl rfl
          refine g_tin C 28 rfl 2 86 (by decide) 39 (by decide) (by decide) ?_ (fun h8 => ?_)
          · refine g_aload_n C 35 rfl rfl ?_
            refine g_ck fun h7 => ?_
            refine g_getI C 36 rfl fl_X6_147 (sh_Q h7) rfl ?_
            skip
            exact g_iret C 37 rfl rfl
          refine g_tin C 28 rfl 3 91 (by decide) 44 (by decide) (by decide) ?_ (fun h10 => ?_)
          · refine g_aload_n C 38 rfl rfl ?_
            refine g_ck fun h9 => ?_
            refine g_getI C 39 rfl fl_X6_191 (sh_Q h9) rfl ?_
            skip
            exact g_iret C 40 rfl rfl
          refine g_tout C 28 rfl 96 (by have a0 := lv_neT (a := 0) h4 (by decide); have a1 := lv_neT (a := 1) h6 (by decide); have a2 := lv_neT (a := 2) h8 (by decide); have a3 := lv_neT (a := 3) h10 (by decide); omega) (by decide) ?_
          refine g_aload_n C 41 rfl rfl ?_
          refine g_ck fun h11 => ?_
          refine g_getI C 42 rfl fl_X6_179 (sh_Q h11) rfl ?_
          skip
          exact g_iret C 43 rfl rfl
        · refine g_bipush C 25 rfl (-4) (by decide) ?_
          skip
          exact g_iret C 26 rfl rfl
      · refine g_aload_n C 13 rfl rfl ?_
        refine g_getR C 14 rfl fl_X6_10 rfl rfl ?_
        refine g_iconst C 15 rfl 1 (by decide) ?_
        refine g_callV (ψ₁ := sw_eP σ) C 16 rfl [(.int 1)] [] ml_X6_182 rfl (Nat.le_of_ble_eq_true rfl) (by decide) rfl rfl (fun b hb => m_X0_countAt V.1.2.1 _ _ _ _ C.inj σ 1 b hb) rfl (g_cP fun r12 => ?_)
        skip
        exact g_iret C 17 rfl rfl
    · refine g_iconst C 8 rfl (-1) (by decide) ?_
      skip
      exact g_iret C 9 rfl rfl
set_option maxHeartbeats 1000000 in
set_option maxRecDepth 100000 in
theorem m_X6_waiting (l : Launch) (dC : Nat → ClassId) (dI : Nat → Nat → Nat) (dA : Nat → ClassId) (ad : Nat → Nat) (hI : sw_inj sw_ZX ad) (σ : sw_St) (x1 : Int32) (x2 : Int32) (b : Int32) (hb : f_X6_waiting σ x1 x2 = some b) : sw_M sw_ZX l yX6_waiting cX6_waiting 4 (some .int) 4 dC dI dA ad [(sw_rv ad 1), (.int x1), (.int x2)] σ ((sw_eP σ) b) :=
  sw_mk1 (ψ := (sw_eP σ)) 1 (by decide) sw_ZXok hI dk_X6_waiting rfl (sw_c1_all _ ⟨sw_rv_cat _ _, rfl, rfl, trivial⟩) hb (fun p e R M C => s_X6_waiting C σ x1 x2)
