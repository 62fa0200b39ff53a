/-! SplitWatchModel.in(JJJ)Z -/
def L_X7_in : sw_Is := [(0, .lload_n 0, 1, 1), (1, .lload_n 2, 1, 2), (2, .lcmp, 1, 3), (3, .ifCond .lt 14, 3, 6), (6, .lload_n 0, 1, 7), (7, .lload 4, 2, 9), (9, .lcmp, 1, 10), (10, .ifCond .gt 7, 3, 13), (13, .iconst 1, 1, 14), (14, .goto 4, 3, 17), (17, .iconst 0, 1, 18), (18, .ireturn, 1, 19)]
theorem dk_X7_in : sw_dc cX7_in L_X7_in = true := by decide +kernel
def f_X7_in (σ : sw_St) (x0 : Int64) (x2 : Int64) (x4 : Int64) : Option Int32 := if (lg_cmp x0 x2) < 0 then (some 0) else (if 0 < (lg_cmp x0 x4) then (some 0) else (some 1))
set_option maxHeartbeats 1000000 in
set_option maxRecDepth 100000 in
theorem s_X7_in {V : sw_V} (C : sw_Cx sw_ZM V cX7_in RX7 6 (some .boolean) L_X7_in 0) (σ : sw_St) (x0 : Int64) (x2 : Int64) (x4 : Int64) : sw_S sw_ZM V (sw_eP σ) [some (.long x0), none, some (.long x2), none, some (.long x4), none] [] 0 σ (f_X7_in σ x0 x2 x4) := by
  unfold f_X7_in
  refine g_lload_n C 0 rfl rfl ?_
  refine g_lload_n C 1 rfl rfl ?_
  refine g_lcmp C 2 rfl ?_
  refine g_if_lt C 3 rfl 17 (by decide) ?_ ?_
  · refine g_iconst C 10 rfl 0 (by decide) ?_
    skip
    exact g_zret C 11 rfl rfl rfl
  · refine g_lload_n C 4 rfl rfl ?_
    refine g_lload C 5 rfl rfl ?_
    refine g_lcmp C 6 rfl ?_
    refine g_if_gt C 7 rfl 17 (by decide) ?_ ?_
    · refine g_iconst C 10 rfl 0 (by decide) ?_
      skip
      exact g_zret C 11 rfl rfl rfl
    · refine g_iconst C 8 rfl 1 (by decide) ?_
      refine g_goto C 9 rfl 18 (by decide) ?_
      skip
      exact g_zret C 11 rfl rfl rfl
set_option maxHeartbeats 1000000 in
set_option maxRecDepth 100000 in
theorem m_X7_in (l : Launch) (dC : Nat → ClassId) (dI : Nat → Nat → Nat) (dA : Nat → ClassId) (ad : Nat → Nat) (hI : sw_inj sw_ZM ad) (σ : sw_St) (x0 : Int64) (x2 : Int64) (x4 : Int64) (b : Int32) (hb : f_X7_in σ x0 x2 x4 = some b) : sw_M sw_ZM l yX7_in cX7_in 6 (some .boolean) 0 dC dI dA ad [(.long x0), (.long x2), (.long x4)] σ ((sw_eP σ) b) :=
  sw_mk (ψ := (sw_eP σ)) (lv := [some (.long x0), none, some (.long x2), none, some (.long x4), none]) (by decide) sw_ZMok hI dk_X7_in rfl (by simp [lg_sl, Value.category]) (fun j w h => sw_lvx h) hb (fun p e R M C => s_X7_in C σ x0 x2 x4)
/-! SplitWatchModel.begin(IIII)I -/
def L_X7_begin : sw_Is := [(0, .iload_n 1, 1, 1), (1, .i2l, 1, 2), (2, .ldc2_w 71, 3, 5), (5, .ldc2_w 73, 3, 8), (8, .invokestatic 75, 3, 11), (11, .ifCond .eq 40, 3, 14), (14, .iload_n 2, 1, 15), (15, .i2l, 1, 16), (16, .lconst 1, 1, 17), (17, .ldc2_w 73, 3, 20), (20, .invokestatic 75, 3, 23), (23, .ifCond .eq 28, 3, 26), (26, .iload_n 3, 1, 27), (27, .i2l, 1, 28), (28, .lconst 1, 1, 29), (29, .ldc2_w 79, 3, 32), (32, .invokestatic 75, 3, 35), (35, .ifCond .eq 16, 3, 38), (38, .iload 4, 2, 40), (40, .i2l, 1, 41), (41, .lconst 1, 1, 42), (42, .ldc2_w 79, 3, 45), (45, .invokestatic 75, 3, 48), (48, .ifCond .ne 5, 3, 51), (51, .iconst (-1), 1, 52), (52, .ireturn, 1, 53), (53, .aload_n 0, 1, 54), (54, .iload_n 1, 1, 55), (55, .putfield 81, 3, 58), (58, .aload_n 0, 1, 59), (59, .iload_n 2, 1, 60), (60, .putfield 85, 3, 63), (63, .aload_n 0, 1, 64), (64, .iload_n 3, 1, 65), (65, .putfield 88, 3, 68), (68, .aload_n 0, 1, 69), (69, .iload 4, 2, 71), (71, .putfield 91, 3, 74), (74, .aload_n 0, 1, 75), (75, .iconst 0, 1, 76), (76, .putfield 94, 3, 79), (79, .iconst 0, 1, 80), (80, .istore 5, 2, 82), (82, .iload 5, 2, 84), (84, .bipush 8, 2, 86), (86, .if_icmp .ge 17, 3, 89), (89, .aload_n 0, 1, 90), (90, .getfield 7, 3, 93), (93, .iload 5, 2, 95), (95, .iconst 0, 1, 96), (96, .iastore, 1, 97), (97, .iinc 5 1, 3, 100), (100, .goto (-18), 3, 103), (103, .iconst 0, 1, 104), (104, .istore 5, 2, 106), (106, .iload 5, 2, 108), (108, .iconst 4, 1, 109), (109, .if_icmp .ge 42, 3, 112), (112, .aload_n 0, 1, 113), (113, .getfield 13, 3, 116), (116, .iload 5, 2, 118), (118, .iconst 0, 1, 119), (119, .iastore, 1, 120), (120, .aload_n 0, 1, 121), (121, .getfield 25, 3, 124), (124, .iload 5, 2, 126), (126, .iconst 0, 1, 127), (127, .iastore, 1, 128), (128, .aload_n 0, 1, 129), (129, .getfield 34, 3, 132), (132, .iload 5, 2, 134), (134, .bipush (-4), 2, 136), (136, .iastore, 1, 137), (137, .aload_n 0, 1, 138), (138, .getfield 37, 3, 141), (141, .iload 5, 2, 143), (143, .iconst 0, 1, 144), (144, .iastore, 1, 145), (145, .iinc 5 1, 3, 148), (148, .goto (-42), 3, 151), (151, .aload_n 0, 1, 152), (152, .iconst 0, 1, 153), (153, .putfield 97, 3, 156), (156, .aload_n 0, 1, 157), (157, .iconst 0, 1, 158), (158, .putfield 100, 3, 161), (161, .aload_n 0, 1, 162), (162, .iconst 0, 1, 163), (163, .putfield 103, 3, 166), (166, .aload_n 0, 1, 167), (167, .iconst 0, 1, 168), (168, .putfield 106, 3, 171), (171, .aload_n 0, 1, 172), (172, .iconst 0, 1, 173), (173, .putfield 109, 3, 176), (176, .aload_n 0, 1, 177), (177, .iconst 0, 1, 178), (178, .putfield 112, 3, 181), (181, .aload_n 0, 1, 182), (182, .iconst 0, 1, 183), (183, .putfield 115, 3, 186), (186, .aload_n 0, 1, 187), (187, .iconst 0, 1, 188), (188, .putfield 118, 3, 191), (191, .iload_n 1, 1, 192), (192, .ireturn, 1, 193)]
theorem dk_X7_begin : sw_dc cX7_begin L_X7_begin = true := by decide +kernel
def f_X7_begin_106  : Nat → sw_St → Int32 → Int32 → Option (Int32 × sw_St)
  | 0 => fun _ _ _ => none
  | n + 1 => fun σ x1 x5 => if 4 ≤ x5 then (sw_pt σ 1 18 0 fun s1 => (sw_pt s1 1 20 0 fun s2 => (sw_pt s2 1 21 0 fun s3 => (sw_pt s3 1 23 0 fun s4 => (sw_pt s4 1 25 0 fun s5 => (sw_pt s5 1 26 0 fun s6 => (sw_pt s6 1 27 0 fun s7 => (sw_pt s7 1 28 0 fun s8 => (some (x1, s8)))))))))) else (sw_ck (sw_in x5 4) (sw_pt σ 3 (sw_ix x5) 0 fun s10 => (sw_pt s10 7 (sw_ix x5) 0 fun s11 => (sw_pt s11 10 (sw_ix x5) (-4) fun s12 => (sw_pt s12 11 (sw_ix x5) 0 fun s13 => ((f_X7_begin_106 n) s13 x1 (x5 + 1)))))))
def f_X7_begin_82  : Nat → sw_St → Int32 → Int32 → Option (Int32 × sw_St)
  | 0 => fun _ _ _ => none
  | n + 1 => fun σ x1 x5 => if 8 ≤ x5 then (f_X7_begin_106 sw_fuel σ x1 0) else (sw_ck (sw_in x5 8) (sw_pt σ 2 (sw_ix x5) 0 fun s2 => ((f_X7_begin_82 n) s2 x1 (x5 + 1))))
def f_X7_begin (σ : sw_St) (x1 : Int32) (x2 : Int32) (x3 : Int32) (x4 : Int32) : Option (Int32 × sw_St) := (f_X7_in σ (Int32.toInt64 x1) (2 : Int64) (4 : Int64)).bind fun r1 => (if r1 = 0 then (some ((-1), σ)) else ((f_X7_in σ (Int32.toInt64 x2) (1 : Int64) (4 : Int64)).bind fun r2 => (if r2 = 0 then (some ((-1), σ)) else ((f_X7_in σ (Int32.toInt64 x3) (1 : Int64) (9 : Int64)).bind fun r3 => (if r3 = 0 then (some ((-1), σ)) else ((f_X7_in σ (Int32.toInt64 x4) (1 : Int64) (9 : Int64)).bind fun r4 => (if r4 = 0 then (some ((-1), σ)) else (sw_pt σ 1 0 x1 fun s5 => (sw_pt s5 1 1 x2 fun s6 => (sw_pt s6 1 2 x3 fun s7 => (sw_pt s7 1 3 x4 fun s8 => (sw_pt s8 1 4 0 fun s9 => (f_X7_begin_82 sw_fuel s9 x1 0)))))))))))))
set_option maxHeartbeats 1000000 in
set_option maxRecDepth 100000 in
theorem s_X7_begin_106 {V : sw_V} (C : sw_Cx sw_ZM V cX7_begin RX7 6 (some .int) L_X7_begin 1) : ∀ (n : Nat) (σ : sw_St) (x1 : Int32) (x5 : Int32), sw_S sw_ZM V sw_eI [some (sw_r V 1), some (.int x1), none, none, none, some (.int x5)] [] 106 σ (f_X7_begin_106 n σ x1 x5) := by
  intro n
  induction n with
  | zero =>
    intro σ x1 x5
    exact g_none
  | succ n ih =>
    intro σ x1 x5
    rw [f_X7_begin_106]
    refine g_iload C 55 rfl rfl ?_
    refine g_iconst C 56 rfl 4 (by decide) ?_
    refine g_icmp_ge C 57 rfl 151 (by decide) ?_ ?_
    · refine g_aload_n C 80 rfl rfl ?_
      refine g_iconst C 81 rfl 0 (by decide) ?_
      refine g_put C 82 rfl fp_X7_97 rfl rfl (fun s1 => ?_)
      refine g_aload_n C 83 rfl rfl ?_
      refine g_iconst C 84 rfl 0 (by decide) ?_
      refine g_put C 85 rfl fp_X7_100 rfl rfl (fun s2 => ?_)
      refine g_aload_n C 86 rfl rfl ?_
      refine g_iconst C 87 rfl 0 (by decide) ?_
      refine g_put C 88 rfl fp_X7_103 rfl rfl (fun s3 => ?_)
      refine g_aload_n C 89 rfl rfl ?_
      refine g_iconst C 90 rfl 0 (by decide) ?_
      refine g_put C 91 rfl fp_X7_106 rfl rfl (fun s4 => ?_)
      refine g_aload_n C 92 rfl rfl ?_
      refine g_iconst C 93 rfl 0 (by decide) ?_
      refine g_put C 94 rfl fp_X7_109 rfl rfl (fun s5 => ?_)
      refine g_aload_n C 95 rfl rfl ?_
      refine g_iconst C 96 rfl 0 (by decide) ?_
      refine g_put C 97 rfl fp_X7_112 rfl rfl (fun s6 => ?_)
      refine g_aload_n C 98 rfl rfl ?_
      refine g_iconst C 99 rfl 0 (by decide) ?_
      refine g_put C 100 rfl fp_X7_115 rfl rfl (fun s7 => ?_)
      refine g_aload_n C 101 rfl rfl ?_
      refine g_iconst C 102 rfl 0 (by decide) ?_
      refine g_put C 103 rfl fp_X7_118 rfl rfl (fun s8 => ?_)
      refine g_iload_n C 104 rfl rfl ?_
      skip
      exact g_iret C 105 rfl rfl
    · refine g_aload_n C 58 rfl rfl ?_
      refine g_getR C 59 rfl fl_X7_13 rfl rfl ?_
      refine g_iload C 60 rfl rfl ?_
      refine g_iconst C 61 rfl 0 (by decide) ?_
      refine g_ck fun h9 => ?_
      refine g_iast C 62 rfl rfl h9 (fun s10 => ?_)
      refine g_aload_n C 63 rfl rfl ?_
      refine g_getR C 64 rfl fl_X7_25 rfl rfl ?_
      refine g_iload C 65 rfl rfl ?_
      refine g_iconst C 66 rfl 0 (by decide) ?_
      refine g_iast C 67 rfl rfl h9 (fun s11 => ?_)
      refine g_aload_n C 68 rfl rfl ?_
      refine g_getR C 69 rfl fl_X7_34 rfl rfl ?_
      refine g_iload C 70 rfl rfl ?_
      refine g_bipush C 71 rfl (-4) (by decide) ?_
      refine g_iast C 72 rfl rfl h9 (fun s12 => ?_)
      refine g_aload_n C 73 rfl rfl ?_
      refine g_getR C 74 rfl fl_X7_37 rfl rfl ?_
      refine g_iload C 75 rfl rfl ?_
      refine g_iconst C 76 rfl 0 (by decide) ?_
      refine g_iast C 77 rfl rfl h9 (fun s13 => ?_)
      refine g_iinc C 78 rfl 1 (by decide) rfl (Nat.le_of_ble_eq_true rfl) (Or.inr (Or.inl rfl)) ?_
      refine g_goto C 79 rfl 106 (by decide) ?_
      exact g_wk (ih s13 x1 (x5 + 1)) ⟨rfl, rfl, rfl, trivial⟩
set_option maxHeartbeats 1000000 in
set_option maxRecDepth 100000 in
theorem s_X7_begin_82 {V : sw_V} (C : sw_Cx sw_ZM V cX7_begin RX7 6 (some .int) L_X7_begin 1) : ∀ (n : Nat) (σ : sw_St) (x1 : Int32) (x5 : Int32), sw_S sw_ZM V sw_eI [some (sw_r V 1), some (.int x1), none, none, none, some (.int x5)] [] 82 σ (f_X7_begin_82 n σ x1 x5) := by
  intro n
  induction n with
  | zero =>
    intro σ x1 x5
    exact g_none
  | succ n ih =>
    intro σ x1 x5
    rw [f_X7_begin_82]
    refine g_iload C 43 rfl rfl ?_
    refine g_bipush C 44 rfl 8 (by decide) ?_
    refine g_icmp_ge C 45 rfl 103 (by decide) ?_ ?_
    · refine g_iconst C 53 rfl 0 (by decide) ?_
      refine g_istore C 54 rfl (Nat.le_of_ble_eq_true rfl) (Or.inr (Or.inl rfl)) ?_
      exact g_wk (s_X7_begin_106 C sw_fuel σ x1 0) ⟨rfl, rfl, rfl, trivial⟩
    · refine g_aload_n C 46 rfl rfl ?_
      refine g_getR C 47 rfl fl_X7_7 rfl rfl ?_
      refine g_iload C 48 rfl rfl ?_
      refine g_iconst C 49 rfl 0 (by decide) ?_
      refine g_ck fun h1 => ?_
      refine g_iast C 50 rfl rfl h1 (fun s2 => ?_)
      refine g_iinc C 51 rfl 1 (by decide) rfl (Nat.le_of_ble_eq_true rfl) (Or.inr (Or.inl rfl)) ?_
      refine g_goto C 52 rfl 82 (by decide) ?_
      exact g_wk (ih s2 x1 (x5 + 1)) ⟨rfl, rfl, rfl, trivial⟩
set_option maxHeartbeats 1000000 in
set_option maxRecDepth 100000 in
theorem s_X7_begin {V : sw_V} (C : sw_Cx sw_ZM V cX7_begin RX7 6 (some .int) L_X7_begin 1) (σ : sw_St) (x1 : Int32) (x2 : Int32) (x3 : Int32) (x4 : Int32) : sw_S sw_ZM V sw_eI [some (sw_r V 1), some (.int x1), some (.int x2), some (.int x3), some (.int x4), none] [] 0 σ (f_X7_begin σ x1 x2 x3 x4) := by
  unfold f_X7_begin
  refine g_iload_n C 0 rfl rfl ?_
  refine g_i2l C 1 rfl ?_
  refine g_ldc2 C 2 rfl (2 : Int64) q_769 ?_
  refine g_ldc2 C 3 rfl (4 : Int64) q_770 ?_
  refine g_callS (ψ₁ := sw_eP σ) C 4 rfl [(.long (Int32.toInt64 x1)), (.long (2 : Int64)), (.long (4 : Int64))] [] ml_X7_75 rfl (Nat.le_of_ble_eq_true rfl) (by decide) (fun b hb => m_X7_in V.1.2.1 _ _ _ _ C.inj σ (Int32.toInt64 x1) (2 : Int64) (4 : Int64) b hb) rfl (g_cP fun r1 => ?_)
  refine g_if_eq C 5 rfl 51 (by decide) ?_ ?_
  · refine g_iconst C 24 rfl (-1) (by decide) ?_
    skip
    exact g_iret C 25 rfl rfl
  · refine g_iload_n C 6 rfl rfl ?_
    refine g_i2l C 7 rfl ?_
    refine g_lconst C 8 rfl (1 : Int64) (by decide) ?_
    refine g_ldc2 C 9 rfl (4 : Int64) q_770 ?_
    refine g_callS (ψ₁ := sw_eP σ) C 10 rfl [(.long (Int32.toInt64 x2)), (.long (1 : Int64)), (.long (4 : Int64))] [] ml_X7_75 rfl (Nat.le_of_ble_eq_true rfl) (by decide) (fun b hb => m_X7_in V.1.2.1 _ _ _ _ C.inj σ (Int32.toInt64 x2) (1 : Int64) (4 : Int64) b hb) rfl (g_cP fun r2 => ?_)
    refine g_if_eq C 11 rfl 51 (by decide) ?_ ?_
    · refine g_iconst C 24 rfl (-1) (by decide) ?_
      skip
      exact g_iret C 25 rfl rfl
    · refine g_iload_n C 12 rfl rfl ?_
      refine g_i2l C 13 rfl ?_
      refine g_lconst C 14 rfl (1 : Int64) (by decide) ?_
      refine g_ldc2 C 15 rfl (9 : Int64) q_774 ?_
      refine g_callS (ψ₁ := sw_eP σ) C 16 rfl [(.long (Int32.toInt64 x3)), (.long (1 : Int64)), (.long (9 : Int64))] [] ml_X7_75 rfl (Nat.le_of_ble_eq_true rfl) (by decide) (fun b hb => m_X7_in V.1.2.1 _ _ _ _ C.inj σ (Int32.toInt64 x3) (1 : Int64) (9 : Int64) b hb) rfl (g_cP fun r3 => ?_)
      refine g_if_eq C 17 rfl 51 (by decide) ?_ ?_
      · refine g_iconst C 24 rfl (-1) (by decide) ?_
        skip
        exact g_iret C 25 rfl rfl
      · refine g_iload C 18 rfl rfl ?_
        refine g_i2l C 19 rfl ?_
        refine g_lconst C 20 rfl (1 : Int64) (by decide) ?_
        refine g_ldc2 C 21 rfl (9 : Int64) q_774 ?_
        refine g_callS (ψ₁ := sw_eP σ) C 22 rfl [(.long (Int32.toInt64 x4)), (.long (1 : Int64)), (.long (9 : Int64))] [] ml_X7_75 rfl (Nat.le_of_ble_eq_true rfl) (by decide) (fun b hb => m_X7_in V.1.2.1 _ _ _ _ C.inj σ (Int32.toInt64 x4) (1 : Int64) (9 : Int64) b hb) rfl (g_cP fun r4 => ?_)
        refine g_if_ne C 23 rfl 53 (by decide) ?_ ?_
        · refine g_aload_n C 26 rfl rfl ?_
          refine g_iload_n C 27 rfl rfl ?_
          refine g_put C 28 rfl fp_X7_81 rfl rfl (fun s5 => ?_)
          refine g_aload_n C 29 rfl rfl ?_
          refine g_iload_n C 30 rfl rfl ?_
          refine g_put C 31 rfl fp_X7_85 rfl rfl (fun s6 => ?_)
          refine g_aload_n C 32 rfl rfl ?_
          refine g_iload_n C 33 rfl rfl ?_
          refine g_put C 34 rfl fp_X7_88 rfl rfl (fun s7 => ?_)
          refine g_aload_n C 35 rfl rfl ?_
          refine g_iload C 36 rfl rfl ?_
          refine g_put C 37 rfl fp_X7_91 rfl rfl (fun s8 => ?_)
          refine g_aload_n C 38 rfl rfl ?_
          refine g_iconst C 39 rfl 0 (by decide) ?_
          refine g_put C 40 rfl fp_X7_94 rfl rfl (fun s9 => ?_)
          refine g_iconst C 41 rfl 0 (by decide) ?_
          refine g_istore C 42 rfl (Nat.le_of_ble_eq_true rfl) (Or.inr (Or.inr (Or.inl ⟨_, rfl⟩))) ?_
          exact g_wk (s_X7_begin_82 C sw_fuel s9 x1 0) ⟨rfl, rfl, rfl, trivial⟩
        · refine g_iconst C 24 rfl (-1) (by decide) ?_
          skip
          exact g_iret C 25 rfl rfl
set_option maxHeartbeats 1000000 in
set_option maxRecDepth 100000 in
theorem m_X7_begin (l : Launch) (dC : Nat → ClassId) (dI : Nat → Nat → Nat) (dA : Nat → ClassId) (ad : Nat → Nat) (hI : sw_inj sw_ZM ad) (σ : sw_St) (x1 : Int32) (x2 : Int32) (x3 : Int32) (x4 : Int32) (b : (Int32 × sw_St)) (hb : f_X7_begin σ x1 x2 x3 x4 = some b) : sw_M sw_ZM l yX7_begin cX7_begin 6 (some .int) 1 dC dI dA ad [(sw_rv ad 1), (.int x1), (.int x2), (.int x3), (.int x4)] σ (sw_eI b) :=
  sw_mk1 (ψ := sw_eI) 1 (by decide) sw_ZMok hI dk_X7_begin rfl (sw_c1_all _ ⟨sw_rv_cat _ _, rfl, rfl, rfl, rfl, trivial⟩) hb (fun p e R M C => s_X7_begin C σ x1 x2 x3 x4)
/-! SplitWatchModel.isCore(I)Z -/
def L_X7_isCore : sw_Is := [(0, .iload_n 1, 1, 1), (1, .i2l, 1, 2), (2, .lconst 0, 1, 3), (3, .aload_n 0, 1, 4), (4, .getfield 81, 3, 7), (7, .iconst 1, 1, 8), (8, .isub, 1, 9), (9, .i2l, 1, 10), (10, .invokestatic 75, 3, 13), (13, .ireturn, 1, 14)]
theorem dk_X7_isCore : sw_dc cX7_isCore L_X7_isCore = true := by decide +kernel
def f_X7_isCore (σ : sw_St) (x1 : Int32) : Option Int32 := (f_X7_in σ (Int32.toInt64 x1) (0 : Int64) (Int32.toInt64 ((σ 1 0) - 1))).bind fun r1 => (sw_ck (sw_fz .boolean r1) (some r1))
set_option maxHeartbeats 1000000 in
set_option maxRecDepth 100000 in
theorem s_X7_isCore {V : sw_V} (C : sw_Cx sw_ZM V cX7_isCore RX7 2 (some .boolean) L_X7_isCore 1) (σ : sw_St) (x1 : Int32) : sw_S sw_ZM V (sw_eP σ) [some (sw_r V 1), some (.int x1)] [] 0 σ (f_X7_isCore σ x1) := by
  unfold f_X7_isCore
  refine g_iload_n C 0 rfl rfl ?_
  refine g_i2l C 1 rfl ?_
  refine g_lconst C 2 rfl (0 : Int64) (by decide) ?_
  refine g_aload_n C 3 rfl rfl ?_
  refine g_getI C 4 rfl fl_X7_81 rfl rfl ?_
  refine g_iconst C 5 rfl 1 (by decide) ?_
  refine g_isub C 6 rfl ?_
  refine g_i2l C 7 rfl ?_
  refine g_callS (ψ₁ := sw_eP σ) C 8 rfl [(.long (Int32.toInt64 x1)), (.long (0 : Int64)), (.long (Int32.toInt64 ((σ 1 0) - 1)))] [] ml_X7_75 rfl (Nat.le_of_ble_eq_true rfl) (by decide) (fun b hb => m_X7_in V.1.2.1 _ _ _ _ C.inj σ (Int32.toInt64 x1) (0 : Int64) (Int32.toInt64 ((σ 1 0) - 1)) b hb) rfl (g_cP fun r1 => ?_)
  refine g_ck fun h2 => ?_
  skip
  exact g_zret C 9 rfl (sw_fz_n h2 ⟨_, rfl⟩) rfl
set_option maxHeartbeats 1000000 in
set_option maxRecDepth 100000 in
theorem m_X7_isCore (l : Launch) (dC : Nat → ClassId) (dI : Nat → Nat → Nat) (dA : Nat → ClassId) (ad : Nat → Nat) (hI : sw_inj sw_ZM ad) (σ : sw_St) (x1 : Int32) (b : Int32) (hb : f_X7_isCore σ x1 = some b) : sw_M sw_ZM l yX7_isCore cX7_isCore 2 (some .boolean) 1 dC dI dA ad [(sw_rv ad 1), (.int x1)] σ ((sw_eP σ) b) :=
  sw_mk1 (ψ := (sw_eP σ)) 0 (by decide) sw_ZMok hI dk_X7_isCore rfl (sw_c1_all _ ⟨sw_rv_cat _ _, rfl, trivial⟩) hb (fun p e R M C => s_X7_isCore C σ x1)
/-! SplitWatchModel.isLine(I)Z -/
def L_X7_isLine : sw_Is := [(0, .iload_n 0, 1, 1), (1, .i2l, 1, 2), (2, .lconst 0, 1, 3), (3, .ldc2_w 121, 3, 6), (6, .invokestatic 75, 3, 9), (9, .ireturn, 1, 10)]
theorem dk_X7_isLine : sw_dc cX7_isLine L_X7_isLine = true := by decide +kernel
def f_X7_isLine (σ : sw_St) (x0 : Int32) : Option Int32 := (f_X7_in σ (Int32.toInt64 x0) (0 : Int64) (7 : Int64)).bind fun r1 => (sw_ck (sw_fz .boolean r1) (some r1))
set_option maxHeartbeats 1000000 in
set_option maxRecDepth 100000 in
theorem s_X7_isLine {V : sw_V} (C : sw_Cx sw_ZM V cX7_isLine RX7 1 (some .boolean) L_X7_isLine 1) (σ : sw_St) (x0 : Int32) : sw_S sw_ZM V (sw_eP σ) [some (.int x0)] [] 0 σ (f_X7_isLine σ x0) := by
  unfold f_X7_isLine
  refine g_iload_n C 0 rfl rfl ?_
  refine g_i2l C 1 rfl ?_
  refine g_lconst C 2 rfl (0 : Int64) (by decide) ?_
  refine g_ldc2 C 3 rfl (7 : Int64) q_893 ?_
  refine g_callS (ψ₁ := sw_eP σ) C 4 rfl [(.long (Int32.toInt64 x0)), (.long (0 : Int64)), (.long (7 : Int64))] [] ml_X7_75 rfl (Nat.le_of_ble_eq_true rfl) (by decide) (fun b hb => m_X7_in V.1.2.1 _ _ _ _ C.inj σ (Int32.toInt64 x0) (0 : Int64) (7 : Int64) b hb) rfl (g_cP fun r1 => ?_)
  refine g_ck fun h2 => ?_
  skip
  exact g_zret C 5 rfl (sw_fz_n h2 ⟨_, rfl⟩) rfl
set_option maxHeartbeats 1000000 in
set_option maxRecDepth 100000 in
theorem m_X7_isLine (l : Launch) (dC : Nat → ClassId) (dI : Nat → Nat → Nat) (dA : Nat → ClassId) (ad : Nat → Nat) (hI : sw_inj sw_ZM ad) (σ : sw_St) (x0 : Int32) (b : Int32) (hb : f_X7_isLine σ x0 = some b) : sw_M sw_ZM l yX7_isLine cX7_isLine 1 (some .boolean) 1 dC dI dA ad [(.int x0)] σ ((sw_eP σ) b) :=
  sw_mk1 (ψ := (sw_eP σ)) 0 (by decide) sw_ZMok hI dk_X7_isLine rfl (sw_c1_all _ ⟨rfl, trivial⟩) hb (fun p e R M C => s_X7_isLine C σ x0)
/-! SplitWatchModel.at(II)I -/
def L_X7_at : sw_Is := [(0, .iconst 0, 1, 1), (1, .istore_n 3, 1, 2), (2, .iload_n 3, 1, 3), (3, .aload_n 0, 1, 4), (4, .getfield 13, 3, 7), (7, .iload_n 1, 1, 8), (8, .iaload, 1, 9), (9, .if_icmp .ge 29, 3, 12), (12, .aload_n 0, 1, 13), (13, .getfield 16, 3, 16), (16, .iconst 4, 1, 17), (17, .iload_n 1, 1, 18), (18, .imul, 1, 19), (19, .iload_n 3, 1, 20), (20, .iadd, 1, 21), (21, .iaload, 1, 22), (22, .iload_n 2, 1, 23), (23, .if_icmp .ne 9, 3, 26), (26, .iconst 4, 1, 27), (27, .iload_n 1, 1, 28), (28, .imul, 1, 29), (29, .iload_n 3, 1, 30), (30, .iadd, 1, 31), (31, .ireturn, 1, 32), (32, .iinc 3 1, 3, 35), (35, .goto (-33), 3, 38), (38, .bipush (-4), 2, 40), (40, .ireturn, 1, 41)]
theorem dk_X7_at : sw_dc cX7_at L_X7_at = true := by decide +kernel
def f_X7_at_2 (σ : sw_St)  : Nat → Int32 → Int32 → Int32 → Option Int32
  | 0 => fun _ _ _ => none
  | n + 1 => fun x1 x2 x3 => sw_ck (sw_in x1 4) (if (σ 3 (sw_ix x1)) ≤ x3 then (some (-4)) else (sw_ck (sw_in ((4 * x1) + x3) 16) (if (σ 4 (sw_ix ((4 * x1) + x3))) = x2 then (some ((4 * x1) + x3)) else ((f_X7_at_2 σ n) x1 x2 (x3 + 1)))))
def f_X7_at (σ : sw_St) (x1 : Int32) (x2 : Int32) : Option Int32 := f_X7_at_2 σ sw_fuel x1 x2 0
set_option maxHeartbeats 1000000 in
set_option maxRecDepth 100000 in
theorem s_X7_at_2 {V : sw_V} (C : sw_Cx sw_ZM V cX7_at RX7 4 (some .int) L_X7_at 0) (σ : sw_St) : ∀ (n : Nat) (x1 : Int32) (x2 : Int32) (x3 : Int32), sw_S sw_ZM V (sw_eP σ) [some (sw_r V 1), some (.int x1), some (.int x2), some (.int x3)] [] 2 σ (f_X7_at_2 σ n x1 x2 x3) := by
  intro n
  induction n with
  | zero =>
    intro x1 x2 x3
    exact g_none
  | succ n ih =>
    intro x1 x2 x3
    rw [f_X7_at_2]
    refine g_iload_n C 2 rfl rfl ?_
    refine g_aload_n C 3 rfl rfl ?_
    refine g_getR C 4 rfl fl_X7_13 rfl rfl ?_
    refine g_iload_n C 5 rfl rfl ?_
    refine g_ck fun h1 => ?_
    refine g_iald C 6 rfl rfl h1 ?_
    refine g_icmp_ge C 7 rfl 38 (by decide) ?_ ?_
    · refine g_bipush C 26 rfl (-4) (by decide) ?_
      skip
      exact g_iret C 27 rfl rfl
    · refine g_aload_n C 8 rfl rfl ?_
      refine g_getR C 9 rfl fl_X7_16 rfl rfl ?_
      refine g_iconst C 10 rfl 4 (by decide) ?_
      refine g_iload_n C 11 rfl rfl ?_
      refine g_imul C 12 rfl ?_
      refine g_iload_n C 13 rfl rfl ?_
      refine g_iadd C 14 rfl ?_
      refine g_ck fun h2 => ?_
      refine g_iald C 15 rfl rfl h2 ?_
      refine g_iload_n C 16 rfl rfl ?_
      refine g_icmp_ne C 17 rfl 32 (by decide) ?_ ?_
      · refine g_iinc C 24 rfl 1 (by decide) rfl (Nat.le_of_ble_eq_true rfl) (Or.inr (Or.inr (Or.inl ⟨_, rfl⟩))) ?_
        refine g_goto C 25 rfl 2 (by decide) ?_
        exact g_wk (ih x1 x2 (x3 + 1)) ⟨rfl, rfl, rfl, rfl, trivial⟩
      · refine g_iconst C 18 rfl 4 (by decide) ?_
        refine g_iload_n C 19 rfl rfl ?_
        refine g_imul C 20 rfl ?_
        refine g_iload_n C 21 rfl rfl ?_
        refine g_iadd C 22 rfl ?_
        skip
        exact g_iret C 23 rfl rfl
set_option maxHeartbeats 1000000 in
set_option maxRecDepth 100000 in
theorem s_X7_at {V : sw_V} (C : sw_Cx sw_ZM V cX7_at RX7 4 (some .int) L_X7_at 0) (σ : sw_St) (x1 : Int32) (x2 : Int32) : sw_S sw_ZM V (sw_eP σ) [some (sw_r V 1), some (.int x1), some (.int x2), none] [] 0 σ (f_X7_at σ x1 x2) := by
  unfold f_X7_at
  refine g_iconst C 0 rfl 0 (by decide) ?_
  refine g_istore_n C 1 rfl (Nat.le_of_ble_eq_true rfl) (Or.inr (Or.inr (Or.inl ⟨_, rfl⟩))) ?_
  exact g_wk (s_X7_at_2 C σ sw_fuel x1 x2 0) ⟨rfl, rfl, rfl, rfl, trivial⟩
set_option maxHeartbeats 1000000 in
set_option maxRecDepth 100000 in
theorem m_X7_at (l : Launch) (dC : Nat → ClassId) (dI : Nat → Nat → Nat) (dA : Nat → ClassId) (ad : Nat → Nat) (hI : sw_inj sw_ZM ad) (σ : sw_St) (x1 : Int32) (x2 : Int32) (b : Int32) (hb : f_X7_at σ x1 x2 = some b) : sw_M sw_ZM l yX7_at cX7_at 4 (some .int) 0 dC dI dA ad [(sw_rv ad 1), (.int x1), (.int x2)] σ ((sw_eP σ) b) :=
  sw_mk1 (ψ := (sw_eP σ)) 1 (by decide) sw_ZMok hI dk_X7_at rfl (sw_c1_all _ ⟨sw_rv_cat _ _, rfl, rfl, trivial⟩) hb (fun p e R M C => s_X7_at C σ x1 x2)
/-! SplitWatchModel.howOf(II)I -/
def L_X7_howOf : sw_Is := [(0, .aload_n 0, 1, 1), (1, .iload_n 1, 1, 2), (2, .iload_n 2, 1, 3), (3, .invokevirtual 123, 3, 6), (6, .istore_n 3, 1, 7), (7, .iload_n 3, 1, 8), (8, .bipush (-4), 2, 10), (10, .if_icmp .ne 7, 3, 13), (13, .iconst 0, 1, 14), (14, .goto 9, 3, 17), (17, .aload_n 0, 1, 18), (18, .getfield 22, 3, 21), (21, .iload_n 3, 1, 22), (22, .iaload, 1, 23), (23, .ireturn, 1, 24)]
theorem dk_X7_howOf : sw_dc cX7_howOf L_X7_howOf = true := by decide +kernel
def f_X7_howOf (σ : sw_St) (x1 : Int32) (x2 : Int32) : Option Int32 := (f_X7_at σ x1 x2).bind fun r1 => (if r1 = (-4) then (some 0) else (sw_ck (sw_in r1 16) (some (σ 6 (sw_ix r1)))))
set_option maxHeartbeats 1000000 in
set_option maxRecDepth 100000 in
theorem s_X7_howOf {V : sw_V} (C : sw_Cx sw_ZM V cX7_howOf RX7 4 (some .int) L_X7_howOf 1) (σ : sw_St) (x1 : Int32) (x2 : Int32) : sw_S sw_ZM V (sw_eP σ) [some (sw_r V 1), some (.int x1), some (.int x2), none] [] 0 σ (f_X7_howOf σ x1 x2) := by
  unfold f_X7_howOf
  refine g_aload_n C 0 rfl rfl ?_
  refine g_iload_n C 1 rfl rfl ?_
  refine g_iload_n C 2 rfl rfl ?_
  refine g_callV (ψ₁ := sw_eP σ) C 3 rfl [(.int x1), (.int x2)] [] ml_X7_123 rfl (Nat.le_of_ble_eq_true rfl) (by decide) rfl rfl (fun b hb => m_X7_at V.1.2.1 _ _ _ _ C.inj σ x1 x2 b hb) rfl (g_cP fun r1 => ?_)
  refine g_istore_n C 4 rfl (Nat.le_of_ble_eq_true rfl) (Or.inr (Or.inr (Or.inl ⟨_, rfl⟩))) ?_
  refine g_iload_n C 5 rfl rfl ?_
  refine g_bipush C 6 rfl (-4) (by decide) ?_
  refine g_icmp_ne C 7 rfl 17 (by decide) ?_ ?_
  · refine g_aload_n C 10 rfl rfl ?_
    refine g_getR C 11 rfl fl_X7_22 rfl rfl ?_
    refine g_iload_n C 12 rfl rfl ?_
    refine g_ck fun h2 => ?_
    refine g_iald C 13 rfl rfl h2 ?_
    skip
    exact g_iret C 14 rfl rfl
  · refine g_iconst C 8 rfl 0 (by decide) ?_
    refine g_goto C 9 rfl 23 (by decide) ?_
    skip
    exact g_iret C 14 rfl rfl
set_option maxHeartbeats 1000000 in
set_option maxRecDepth 100000 in
theorem m_X7_howOf (l : Launch) (dC : Nat → ClassId) (dI : Nat → Nat → Nat) (dA : Nat → ClassId) (ad : Nat → Nat) (hI : sw_inj sw_ZM ad) (σ : sw_St) (x1 : Int32) (x2 : Int32) (b : Int32) (hb : f_X7_howOf σ x1 x2 = some b) : sw_M sw_ZM l yX7_howOf cX7_howOf 4 (some .int) 1 dC dI dA ad [(sw_rv ad 1), (.int x1), (.int x2)] σ ((sw_eP σ) b) :=
  sw_mk1 (ψ := (sw_eP σ)) 1 (by decide) sw_ZMok hI dk_X7_howOf rfl (sw_c1_all _ ⟨sw_rv_cat _ _, rfl, rfl, trivial⟩) hb (fun p e R M C => s_X7_howOf C σ x1 x2)
/-! SplitWatchModel.takeOut(II)V -/
def L_X7_takeOut : sw_Is := [(0, .aload_n 0, 1, 1), (1, .iload_n 1, 1, 2), (2, .iload_n 2, 1, 3), (3, .invokevirtual 123, 3, 6), (6, .istore_n 3, 1, 7), (7, .iload_n 3, 1, 8), (8, .bipush (-4), 2, 10), (10, .if_icmp .eq 85, 3, 13), (13, .aload_n 0, 1, 14), (14, .getfield 13, 3, 17), (17, .iload_n 1, 1, 18), (18, .dup2, 1, 19), (19, .iaload, 1, 20), (20, .iconst 1, 1, 21), (21, .isub, 1, 22), (22, .iastore, 1, 23), (23, .iload_n 3, 1, 24), (24, .istore 4, 2, 26), (26, .iload 4, 2, 28), (28, .iconst 4, 1, 29), (29, .iload_n 1, 1, 30), (30, .imul, 1, 31), (31, .aload_n 0, 1, 32), (32, .getfield 13, 3, 35), (35, .iload_n 1, 1, 36), (36, .iaload, 1, 37), (37, .iadd, 1, 38), (38, .if_icmp .ge 57, 3, 41), (41, .aload_n 0, 1, 42), (42, .getfield 16, 3, 45), (45, .iload 4, 2, 47), (47, .aload_n 0, 1, 48), (48, .getfield 16, 3, 51), (51, .iload 4, 2, 53), (53, .iconst 1, 1, 54), (54, .iadd, 1, 55), (55, .iaload, 1, 56), (56, .iastore, 1, 57), (57, .aload_n 0, 1, 58), (58, .getfield 19, 3, 61), (61, .iload 4, 2, 63), (63, .aload_n 0, 1, 64), (64, .getfield 19, 3, 67), (67, .iload 4, 2, 69), (69, .iconst 1, 1, 70), (70, .iadd, 1, 71), (71, .iaload, 1, 72), (72, .iastore, 1, 73), (73, .aload_n 0, 1, 74), (74, .getfield 22, 3, 77), (77, .iload 4, 2, 79), (79, .aload_n 0, 1, 80), (80, .getfield 22, 3, 83), (83, .iload 4, 2, 85), (85, .iconst 1, 1, 86), (86, .iadd, 1, 87), (87, .iaload, 1, 88), (88, .iastore, 1, 89), (89, .iinc 4 1, 3, 92), (92, .goto (-66), 3, 95), (95, .return_, 1, 96)]
theorem dk_X7_takeOut : sw_dc cX7_takeOut L_X7_takeOut = true := by decide +kernel
def f_X7_takeOut_26  : Nat → sw_St → Int32 → Int32 → Option sw_St
  | 0 => fun _ _ _ => none
  | n + 1 => fun σ x1 x4 => sw_ck (sw_in x1 4) (if ((4 * x1) + (σ 3 (sw_ix x1))) ≤ x4 then (some σ) else (sw_ck (sw_in (x4 + 1) 16) (sw_ck (sw_in x4 16) (sw_pt σ 4 (sw_ix x4) (σ 4 (sw_ix (x4 + 1))) fun s4 => (sw_pt s4 5 (sw_ix x4) (s4 5 (sw_ix (x4 + 1))) fun s5 => (sw_pt s5 6 (sw_ix x4) (s5 6 (sw_ix (x4 + 1))) fun s6 => ((f_X7_takeOut_26 n) s6 x1 (x4 + 1))))))))
def f_X7_takeOut (σ : sw_St) (x1 : Int32) (x2 : Int32) : Option sw_St := (f_X7_at σ x1 x2).bind fun r1 => (if r1 = (-4) then (some σ) else (sw_ck (sw_in x1 4) (sw_pt σ 3 (sw_ix x1) ((σ 3 (sw_ix x1)) - 1) fun s3 => (f_X7_takeOut_26 sw_fuel s3 x1 r1))))
set_option maxHeartbeats 1000000 in
set_option maxRecDepth 100000 in
theorem s_X7_takeOut_26 {V : sw_V} (C : sw_Cx sw_ZM V cX7_takeOut RX7 5 none L_X7_takeOut 1) : ∀ (n : Nat) (σ : sw_St) (x1 : Int32) (x4 : Int32), sw_S sw_ZM V sw_eV [some (sw_r V 1), some (.int x1), none, none, some (.int x4)] [] 26 σ (f_X7_takeOut_26 n σ x1 x4) := by
  intro n
  induction n with
  | zero =>
    intro σ x1 x4
    exact g_none
  | succ n ih =>
    intro σ x1 x4
    rw [f_X7_takeOut_26]
    refine g_iload C 18 rfl rfl ?_
    refine g_iconst C 19 rfl 4 (by decide) ?_
    refine g_iload_n C 20 rfl rfl ?_
    refine g_imul C 21 rfl ?_
    refine g_aload_n C 22 rfl rfl ?_
    refine g_getR C 23 rfl fl_X7_13 rfl rfl ?_
    refine g_iload_n C 24 rfl rfl ?_
    refine g_ck fun h1 => ?_
    refine g_iald C 25 rfl rfl h1 ?_
    refine g_iadd C 26 rfl ?_
    refine g_icmp_ge C 27 rfl 95 (by decide) ?_ ?_
    · exact g_vret C 60 rfl rfl
    · refine g_aload_n C 28 rfl rfl ?_
      refine g_getR C 29 rfl fl_X7_16 rfl rfl ?_
      refine g_iload C 30 rfl rfl ?_
      refine g_aload_n C 31 rfl rfl ?_
      refine g_getR C 32 rfl fl_X7_16 rfl rfl ?_
      refine g_iload C 33 rfl rfl ?_
      refine g_iconst C 34 rfl 1 (by decide) ?_
      refine g_iadd C 35 rfl ?_
      refine g_ck fun h2 => ?_
      refine g_iald C 36 rfl rfl h2 ?_
      refine g_ck fun h3 => ?_
      refine g_iast C 37 rfl rfl h3 (fun s4 => ?_)
      refine g_aload_n C 38 rfl rfl ?_
      refine g_getR C 39 rfl fl_X7_19 rfl rfl ?_
      refine g_iload C 40 rfl rfl ?_
      refine g_aload_n C 41 rfl rfl ?_
      refine g_getR C 42 rfl fl_X7_19 rfl rfl ?_
      refine g_iload C 43 rfl rfl ?_
      refine g_iconst C 44 rfl 1 (by decide) ?_
      refine g_iadd C 45 rfl ?_
      refine g_iald C 46 rfl rfl h2 ?_
      refine g_iast C 47 rfl rfl h3 (fun s5 => ?_)
      refine g_aload_n C 48 rfl rfl ?_
      refine g_getR C 49 rfl fl_X7_22 rfl rfl ?_
      refine g_iload C 50 rfl rfl ?_
      refine g_aload_n C 51 rfl rfl ?_
      refine g_getR C 52 rfl fl_X7_22 rfl rfl ?_
      refine g_iload C 53 rfl rfl ?_
      refine g_iconst C 54 rfl 1 (by decide) ?_
      refine g_iadd C 55 rfl ?_
      refine g_iald C 56 rfl rfl h2 ?_
      refine g_iast C 57 rfl rfl h3 (fun s6 => ?_)
      refine g_iinc C 58 rfl 1 (by decide) rfl (Nat.le_of_ble_eq_true rfl) (Or.inr (Or.inl rfl)) ?_
      refine g_goto C 59 rfl 26 (by decide) ?_
      exact g_wk (ih s6 x1 (x4 + 1)) ⟨rfl, rfl, rfl, trivial⟩
set_option maxHeartbeats 1000000 in
set_option maxRecDepth 100000 in
theorem s_X7_takeOut {V : sw_V} (C : sw_Cx sw_ZM V cX7_takeOut RX7 5 none L_X7_takeOut 1) (σ : sw_St) (x1 : Int32) (x2 : Int32) : sw_S sw_ZM V sw_eV [some (sw_r V 1), some (.int x1), some (.int x2), none, none] [] 0 σ (f_X7_takeOut σ x1 x2) := by
  unfold f_X7_takeOut
  refine g_aload_n C 0 rfl rfl ?_
  refine g_iload_n C 1 rfl rfl ?_
  refine g_iload_n C 2 rfl rfl ?_
  refine g_callV (ψ₁ := sw_eP σ) C 3 rfl [(.int x1), (.int x2)] [] ml_X7_123 rfl (Nat.le_of_ble_eq_true rfl) (by decide) rfl rfl (fun b hb => m_X7_at V.1.2.1 _ _ _ _ C.inj σ x1 x2 b hb) rfl (g_cP fun r1 => ?_)
  refine g_istore_n C 4 rfl (Nat.le_of_ble_eq_true rfl) (Or.inr (Or.inr (Or.inl ⟨_, rfl⟩))) ?_
  refine g_iload_n C 5 rfl rfl ?_
  refine g_bipush C 6 rfl (-4) (by decide) ?_
  refine g_icmp_eq C 7 rfl 95 (by decide) ?_ ?_
  · exact g_vret C 60 rfl rfl
  · refine g_aload_n C 8 rfl rfl ?_
    refine g_getR C 9 rfl fl_X7_13 rfl rfl ?_
    refine g_iload_n C 10 rfl rfl ?_
    refine g_dup2 C 11 rfl ?_
    refine g_ck fun h2 => ?_
    refine g_iald C 12 rfl rfl h2 ?_
    refine g_iconst C 13 rfl 1 (by decide) ?_
    refine g_isub C 14 rfl ?_
    refine g_iast C 15 rfl rfl h2 (fun s3 => ?_)
    refine g_iload_n C 16 rfl rfl ?_
    refine g_istore C 17 rfl (Nat.le_of_ble_eq_true rfl) (Or.inr (Or.inr (Or.inl ⟨_, rfl⟩))) ?_
    exact g_wk (s_X7_takeOut_26 C sw_fuel s3 x1 r1) ⟨rfl, rfl, rfl, trivial⟩
set_option maxHeartbeats 1000000 in
set_option maxRecDepth 100000 in
theorem m_X7_takeOut (l : Launch) (dC : Nat → ClassId) (dI : Nat → Nat → Nat) (dA : Nat → ClassId) (ad : Nat → Nat) (hI : sw_inj sw_ZM ad) (σ : sw_St) (x1 : Int32) (x2 : Int32) (b : sw_St) (hb : f_X7_takeOut σ x1 x2 = some b) : sw_M sw_ZM l yX7_takeOut cX7_takeOut 5 none 1 dC dI dA ad [(sw_rv ad 1), (.int x1), (.int x2)] σ (sw_eV b) :=
  sw_mk1 (ψ := sw_eV) 2 (by decide) sw_ZMok hI dk_X7_takeOut rfl (sw_c1_all _ ⟨sw_rv_cat _ _, rfl, rfl, trivial⟩) hb (fun p e R M C => s_X7_takeOut C σ x1 x2)
/-! SplitWatchModel.putIn(IIII)V -/
def L_X7_putIn : sw_Is := [(0, .iconst 4, 1, 1), (1, .iload_n 1, 1, 2), (2, .imul, 1, 3), (3, .aload_n 0, 1, 4), (4, .getfield 13, 3, 7), (7, .iload_n 1, 1, 8), (8, .iaload, 1, 9), (9, .iadd, 1, 10), (10, .istore 5, 2, 12), (12, .aload_n 0, 1, 13), (13, .getfield 16, 3, 16), (16, .iload 5, 2, 18), (18, .iload_n 2, 1, 19), (19, .iastore, 1, 20), (20, .aload_n 0, 1, 21), (21, .getfield 19, 3, 24), (24, .iload 5, 2, 26), (26, .iload_n 3, 1, 27), (27, .iastore, 1, 28), (28, .aload_n 0, 1, 29), (29, .getfield 22, 3, 32), (32, .iload 5, 2, 34), (34, .iload 4, 2, 36), (36, .iastore, 1, 37), (37, .aload_n 0, 1, 38), (38, .getfield 13, 3, 41), (41, .iload_n 1, 1, 42), (42, .dup2, 1, 43), (43, .iaload, 1, 44), (44, .iconst 1, 1, 45), (45, .iadd, 1, 46), (46, .iastore, 1, 47), (47, .return_, 1, 48)]
theorem dk_X7_putIn : sw_dc cX7_putIn L_X7_putIn = true := by decide +kernel
def f_X7_putIn (σ : sw_St) (x1 : Int32) (x2 : Int32) (x3 : Int32) (x4 : Int32) : Option sw_St := sw_ck (sw_in x1 4) (sw_ck (sw_in ((4 * x1) + (σ 3 (sw_ix x1))) 16) (sw_pt σ 4 (sw_ix ((4 * x1) + (σ 3 (sw_ix x1)))) x2 fun s3 => (sw_pt s3 5 (sw_ix ((4 * x1) + (σ 3 (sw_ix x1)))) x3 fun s4 => (sw_pt s4 6 (sw_ix ((4 * x1) + (σ 3 (sw_ix x1)))) x4 fun s5 => (sw_pt s5 3 (sw_ix x1) ((s5 3 (sw_ix x1)) + 1) fun s6 => (some s6))))))
set_option maxHeartbeats 1000000 in
set_option maxRecDepth 100000 in
theorem s_X7_putIn {V : sw_V} (C : sw_Cx sw_ZM V cX7_putIn RX7 6 none L_X7_putIn 0) (σ : sw_St) (x1 : Int32) (x2 : Int32) (x3 : Int32) (x4 : Int32) : sw_S sw_ZM V sw_eV [some (sw_r V 1), some (.int x1), some (.int x2), some (.int x3), some (.int x4), none] [] 0 σ (f_X7_putIn σ x1 x2 x3 x4) := by
  unfold f_X7_putIn
  refine g_iconst C 0 rfl 4 (by decide) ?_
  refine g_iload_n C 1 rfl rfl ?_
  refine g_imul C 2 rfl ?_
  refine g_aload_n C 3 rfl rfl ?_
  refine g_getR C 4 rfl fl_X7_13 rfl rfl ?_
  refine g_iload_n C 5 rfl rfl ?_
  refine g_ck fun h1 => ?_
  refine g_iald C 6 rfl rfl h1 ?_
  refine g_iadd C 7 rfl ?_
  refine g_istore C 8 rfl (Nat.le_of_ble_eq_true rfl) (Or.inr (Or.inr (Or.inl ⟨_, rfl⟩))) ?_
  refine g_aload_n C 9 rfl rfl ?_
  refine g_getR C 10 rfl fl_X7_16 rfl rfl ?_
  refine g_iload C 11 rfl rfl ?_
  refine g_iload_n C 12 rfl rfl ?_
  refine g_ck fun h2 => ?_
  refine g_iast C 13 rfl rfl h2 (fun s3 => ?_)
  refine g_aload_n C 14 rfl rfl ?_
  refine g_getR C 15 rfl fl_X7_19 rfl rfl ?_
  refine g_iload C 16 rfl rfl ?_
  refine g_iload_n C 17 rfl rfl ?_
  refine g_iast C 18 rfl rfl h2 (fun s4 => ?_)
  refine g_aload_n C 19 rfl rfl ?_
  refine g_getR C 20 rfl fl_X7_22 rfl rfl ?_
  refine g_iload C 21 rfl rfl ?_
  refine g_iload C 22 rfl rfl ?_
  refine g_iast C 23 rfl rfl h2 (fun s5 => ?_)
  refine g_aload_n C 24 rfl rfl ?_
  refine g_getR C 25 rfl fl_X7_13 rfl rfl ?_
  refine g_iload_n C 26 rfl rfl ?_
  refine g_dup2 C 27 rfl ?_
  refine g_iald C 28 rfl rfl h1 ?_
  refine g_iconst C 29 rfl 1 (by decide) ?_
  refine g_iadd C 30 rfl ?_
  refine g_iast C 31 rfl rfl h1 (fun s6 => ?_)
  exact g_vret C 32 rfl rfl
set_option maxHeartbeats 1000000 in
set_option maxRecDepth 100000 in
theorem m_X7_putIn (l : Launch) (dC : Nat → ClassId) (dI : Nat → Nat → Nat) (dA : Nat → ClassId) (ad : Nat → Nat) (hI : sw_inj sw_ZM ad) (σ : sw_St) (x1 : Int32) (x2 : Int32) (x3 : Int32) (x4 : Int32) (b : sw_St) (hb : f_X7_putIn σ x1 x2 x3 x4 = some b) : sw_M sw_ZM l yX7_putIn cX7_putIn 6 none 0 dC dI dA ad [(sw_rv ad 1), (.int x1), (.int x2), (.int x3), (.int x4)] σ (sw_eV b) :=
  sw_mk1 (ψ := sw_eV) 1 (by decide) sw_ZMok hI dk_X7_putIn rfl (sw_c1_all _ ⟨sw_rv_cat _ _, rfl, rfl, rfl, rfl, trivial⟩) hb (fun p e R M C => s_X7_putIn C σ x1 x2 x3 x4)
/-! SplitWatchModel.use(IIII)V -/
def L_X7_use : sw_Is := [(0, .aload_n 0, 1, 1), (1, .iload_n 1, 1, 2), (2, .iload_n 2, 1, 3), (3, .invokevirtual 127, 3, 6), (6, .aload_n 0, 1, 7), (7, .iload_n 1, 1, 8), (8, .iload_n 2, 1, 9), (9, .iload_n 3, 1, 10), (10, .iload 4, 2, 12), (12, .invokevirtual 131, 3, 15), (15, .return_, 1, 16)]
theorem dk_X7_use : sw_dc cX7_use L_X7_use = true := by decide +kernel
def f_X7_use (σ : sw_St) (x1 : Int32) (x2 : Int32) (x3 : Int32) (x4 : Int32) : Option sw_St := (f_X7_takeOut σ x1 x2).bind fun r1 => ((f_X7_putIn r1 x1 x2 x3 x4).bind fun r2 => (some r2))
set_option maxHeartbeats 1000000 in
set_option maxRecDepth 100000 in
theorem s_X7_use {V : sw_V} (C : sw_Cx sw_ZM V cX7_use RX7 5 none L_X7_use 2) (σ : sw_St) (x1 : Int32) (x2 : Int32) (x3 : Int32) (x4 : Int32) : sw_S sw_ZM V sw_eV [some (sw_r V 1), some (.int x1), some (.int x2), some (.int x3), some (.int x4)] [] 0 σ (f_X7_use σ x1 x2 x3 x4) := by
  unfold f_X7_use
  refine g_aload_n C 0 rfl rfl ?_
  refine g_iload_n C 1 rfl rfl ?_
  refine g_iload_n C 2 rfl rfl ?_
  refine g_callV (ψ₁ := sw_eV) C 3 rfl [(.int x1), (.int x2)] [] ml_X7_127 rfl (Nat.le_of_ble_eq_true rfl) (by decide) rfl rfl (fun b hb => m_X7_takeOut V.1.2.1 _ _ _ _ C.inj σ x1 x2 b hb) rfl (g_cV fun r1 => ?_)
  refine g_aload_n C 4 rfl rfl ?_
  refine g_iload_n C 5 rfl rfl ?_
  refine g_iload_n C 6 rfl rfl ?_
  refine g_iload_n C 7 rfl rfl ?_
  refine g_iload C 8 rfl rfl ?_
  refine g_callV (ψ₁ := sw_eV) C 9 rfl [(.int x1), (.int x2), (.int x3), (.int x4)] [] ml_X7_131 rfl (Nat.le_of_ble_eq_true rfl) (by decide) rfl rfl (fun b hb => m_X7_putIn V.1.2.1 _ _ _ _ C.inj r1 x1 x2 x3 x4 b hb) rfl (g_cV fun r2 => ?_)
  exact g_vret C 10 rfl rfl
set_option maxHeartbeats 1000000 in
set_option maxRecDepth 100000 in
theorem m_X7_use (l : Launch) (dC : Nat → ClassId) (dI : Nat → Nat → Nat) (dA : Nat → ClassId) (ad : Nat → Nat) (hI : sw_inj sw_ZM ad) (σ : sw_St) (x1 : Int32) (x2 : Int32) (x3 : Int32) (x4 : Int32) (b : sw_St) (hb : f_X7_use σ x1 x2 x3 x4 = some b) : sw_M sw_ZM l yX7_use cX7_use 5 none 2 dC dI dA ad [(sw_rv ad 1), (.int x1), (.int x2), (.int x3), (.int x4)] σ (sw_eV b) :=
  sw_mk1 (ψ := sw_eV) 0 (by decide) sw_ZMok hI dk_X7_use rfl (sw_c1_all _ ⟨sw_rv_cat _ _, rfl, rfl, rfl, rfl, trivial⟩) hb (fun p e R M C => s_X7_use C σ x1 x2 x3 x4)
/-! SplitWatchModel.canFill(I)Z -/
def L_X7_canFill : sw_Is := [(0, .aload_n 0, 1, 1), (1, .getfield 13, 3, 4), (4, .iload_n 1, 1, 5), (5, .iaload, 1, 6), (6, .aload_n 0, 1, 7), (7, .getfield 85, 3, 10), (10, .if_icmp .lt 25, 3, 13), (13, .aload_n 0, 1, 14), (14, .getfield 22, 3, 17), (17, .iconst 4, 1, 18), (18, .iload_n 1, 1, 19), (19, .imul, 1, 20), (20, .iaload, 1, 21), (21, .iconst 3, 1, 22), (22, .if_icmp .ne 13, 3, 25), (25, .aload_n 0, 1, 26), (26, .getfield 25, 3, 29), (29, .iload_n 1, 1, 30), (30, .iaload, 1, 31), (31, .iconst 2, 1, 32), (32, .if_icmp .ge 7, 3, 35), (35, .iconst 1, 1, 36), (36, .goto 4, 3, 39), (39, .iconst 0, 1, 40), (40, .ireturn, 1, 41)]
theorem dk_X7_canFill : sw_dc cX7_canFill L_X7_canFill = true := by decide +kernel
def f_X7_canFill (σ : sw_St) (x1 : Int32) : Option Int32 := sw_ck (sw_in x1 4) (if (σ 3 (sw_ix x1)) < (σ 1 1) then (some 1) else (sw_ck (sw_in (4 * x1) 16) (if (σ 6 (sw_ix (4 * x1))) = 3 then (if 2 ≤ (σ 7 (sw_ix x1)) then (some 0) else (some 1)) else (some 1))))
set_option maxHeartbeats 1000000 in
set_option maxRecDepth 100000 in
theorem s_X7_canFill {V : sw_V} (C : sw_Cx sw_ZM V cX7_canFill RX7 2 (some .boolean) L_X7_canFill 0) (σ : sw_St) (x1 : Int32) : sw_S sw_ZM V (sw_eP σ) [some (sw_r V 1), some (.int x1)] [] 0 σ (f_X7_canFill σ x1) := by
  unfold f_X7_canFill
  refine g_aload_n C 0 rfl rfl ?_
  refine g_getR C 1 rfl fl_X7_13 rfl rfl ?_
  refine g_iload_n C 2 rfl rfl ?_
  refine g_ck fun h1 => ?_
  refine g_iald C 3 rfl rfl h1 ?_
  refine g_aload_n C 4 rfl rfl ?_
  refine g_getI C 5 rfl fl_X7_85 rfl rfl ?_
  refine g_icmp_lt C 6 rfl 35 (by decide) ?_ ?_
  · refine g_iconst C 21 rfl 1 (by decide) ?_
    refine g_goto C 22 rfl 40 (by decide) ?_
    skip
    exact g_zret C 24 rfl rfl rfl
  · refine g_aload_n C 7 rfl rfl ?_
    refine g_getR C 8 rfl fl_X7_22 rfl rfl ?_
    refine g_iconst C 9 rfl 4 (by decide) ?_
    refine g_iload_n C 10 rfl rfl ?_
    refine g_imul C 11 rfl ?_
    refine g_ck fun h2 => ?_
    refine g_iald C 12 rfl rfl h2 ?_
    refine g_iconst C 13 rfl 3 (by decide) ?_
    refine g_icmp_ne C 14 rfl 35 (by decide) ?_ ?_
    · refine g_iconst C 21 rfl 1 (by decide) ?_
      refine g_goto C 22 rfl 40 (by decide) ?_
      skip
      exact g_zret C 24 rfl rfl rfl
    · refine g_aload_n C 15 rfl rfl ?_
      refine g_getR C 16 rfl fl_X7_25 rfl rfl ?_
      refine g_iload_n C 17 rfl rfl ?_
      refine g_iald C 18 rfl rfl h1 ?_
      refine g_iconst C 19 rfl 2 (by decide) ?_
      refine g_icmp_ge C 20 rfl 39 (by decide) ?_ ?_
      · refine g_iconst C 23 rfl 0 (by decide) ?_
        skip
        exact g_zret C 24 rfl rfl rfl
      · refine g_iconst C 21 rfl 1 (by decide) ?_
        refine g_goto C 22 rfl 40 (by decide) ?_
        skip
        exact g_zret C 24 rfl rfl rfl
set_option maxHeartbeats 1000000 in
set_option maxRecDepth 100000 in
theorem m_X7_canFill (l : Launch) (dC : Nat → ClassId) (dI : Nat → Nat → Nat) (dA : Nat → ClassId) (ad : Nat → Nat) (hI : sw_inj sw_ZM ad) (σ : sw_St) (x1 : Int32) (b : Int32) (hb : f_X7_canFill σ x1 = some b) : sw_M sw_ZM l yX7_canFill cX7_canFill 2 (some .boolean) 0 dC dI dA ad [(sw_rv ad 1), (.int x1)] σ ((sw_eP σ) b) :=
  sw_mk1 (ψ := (sw_eP σ)) 0 (by decide) sw_ZMok hI dk_X7_canFill rfl (sw_c1_all _ ⟨sw_rv_cat _ _, rfl, trivial⟩) hb (fun p e R M C => s_X7_canFill C σ x1)
/-! SplitWatchModel.asks(III)V -/
def L_X7_asks : sw_Is := [(0, .iconst 5, 1, 1), (1, .aload_n 0, 1, 2), (2, .getfield 97, 3, 5), (5, .imul, 1, 6), (6, .istore 4, 2, 8), (8, .aload_n 0, 1, 9), (9, .getfield 49, 3, 12), (12, .iload 4, 2, 14), (14, .iload_n 1, 1, 15), (15, .iastore, 1, 16), (16, .aload_n 0, 1, 17), (17, .getfield 49, 3, 20), (20, .iload 4, 2, 22), (22, .iconst 1, 1, 23), (23, .iadd, 1, 24), (24, .iload_n 2, 1, 25), (25, .iastore, 1, 26), (26, .aload_n 0, 1, 27), (27, .getfield 49, 3, 30), (30, .iload 4, 2, 32), (32, .iconst 2, 1, 33), (33, .iadd, 1, 34), (34, .iload_n 3, 1, 35), (35, .iastore, 1, 36), (36, .aload_n 0, 1, 37), (37, .getfield 49, 3, 40), (40, .iload 4, 2, 42), (42, .iconst 3, 1, 43), (43, .iadd, 1, 44), (44, .aload_n 0, 1, 45), (45, .getfield 100, 3, 48), (48, .iastore, 1, 49), (49, .aload_n 0, 1, 50), (50, .getfield 49, 3, 53), (53, .iload 4, 2, 55), (55, .iconst 4, 1, 56), (56, .iadd, 1, 57), (57, .iconst 0, 1, 58), (58, .iastore, 1, 59), (59, .aload_n 0, 1, 60), (60, .dup, 1, 61), (61, .getfield 100, 3, 64), (64, .iconst 1, 1, 65), (65, .iadd, 1, 66), (66, .putfield 100, 3, 69), (69, .aload_n 0, 1, 70), (70, .dup, 1, 71), (71, .getfield 97, 3, 74), (74, .iconst 1, 1, 75), (75, .iadd, 1, 76), (76, .putfield 97, 3, 79), (79, .return_, 1, 80)]
theorem dk_X7_asks : sw_dc cX7_asks L_X7_asks = true := by decide +kernel
def f_X7_asks (σ : sw_St) (x1 : Int32) (x2 : Int32) (x3 : Int32) : Option sw_St := sw_ck (sw_in (5 * (σ 1 18)) 80) (sw_pt σ 15 (sw_ix (5 * (σ 1 18))) x1 fun s2 => (sw_ck (sw_in ((5 * (σ 1 18)) + 1) 80) (sw_pt s2 15 (sw_ix ((5 * (σ 1 18)) + 1)) x2 fun s4 => (sw_ck (sw_in ((5 * (σ 1 18)) + 2) 80) (sw_pt s4 15 (sw_ix ((5 * (σ 1 18)) + 2)) x3 fun s6 => (sw_ck (sw_in ((5 * (σ 1 18)) + 3) 80) (sw_pt s6 15 (sw_ix ((5 * (σ 1 18)) + 3)) (s6 1 20) fun s8 => (sw_ck (sw_in ((5 * (σ 1 18)) + 4) 80) (sw_pt s8 15 (sw_ix ((5 * (σ 1 18)) + 4)) 0 fun s10 => (sw_pt s10 1 20 ((s10 1 20) + 1) fun s11 => (sw_pt s11 1 18 ((s11 1 18) + 1) fun s12 => (some s12))))))))))))
set_option maxHeartbeats 1000000 in
set_option maxRecDepth 100000 in
theorem s_X7_asks {V : sw_V} (C : sw_Cx sw_ZM V cX7_asks RX7 5 none L_X7_asks 0) (σ : sw_St) (x1 : Int32) (x2 : Int32) (x3 : Int32) : sw_S sw_ZM V sw_eV [some (sw_r V 1), some (.int x1), some (.int x2), some (.int x3), none] [] 0 σ (f_X7_asks σ x1 x2 x3) := by
  unfold f_X7_asks
  refine g_iconst C 0 rfl 5 (by decide) ?_
  refine g_aload_n C 1 rfl rfl ?_
  refine g_getI C 2 rfl fl_X7_97 rfl rfl ?_
  refine g_imul C 3 rfl ?_
  refine g_istore C 4 rfl (Nat.le_of_ble_eq_true rfl) (Or.inr (Or.inr (Or.inl ⟨_, rfl⟩))) ?_
  refine g_aload_n C 5 rfl rfl ?_
  refine g_getR C 6 rfl fl_X7_49 rfl rfl ?_
  refine g_iload C 7 rfl rfl ?_
  refine g_iload_n C 8 rfl rfl ?_
  refine g_ck fun h1 => ?_
  refine g_iast C 9 rfl rfl h1 (fun s2 => ?_)
  refine g_aload_n C 10 rfl rfl ?_
  refine g_getR C 11 rfl fl_X7_49 rfl rfl ?_
  refine g_iload C 12 rfl rfl ?_
  refine g_iconst C 13 rfl 1 (by decide) ?_
  refine g_iadd C 14 rfl ?_
  refine g_iload_n C 15 rfl rfl ?_
  refine g_ck fun h3 => ?_
  refine g_iast C 16 rfl rfl h3 (fun s4 => ?_)
  refine g_aload_n C 17 rfl rfl ?_
  refine g_getR C 18 rfl fl_X7_49 rfl rfl ?_
  refine g_iload C 19 rfl rfl ?_
  refine g_iconst C 20 rfl 2 (by decide) ?_
  refine g_iadd C 21 rfl ?_
  refine g_iload_n C 22 rfl rfl ?_
  refine g_ck fun h5 => ?_
  refine g_iast C 23 rfl rfl h5 (fun s6 => ?_)
  refine g_aload_n C 24 rfl rfl ?_
  refine g_getR C 25 rfl fl_X7_49 rfl rfl ?_
  refine g_iload C 26 rfl rfl ?_
  refine g_iconst C 27 rfl 3 (by decide) ?_
  refine g_iadd C 28 rfl ?_
  refine g_aload_n C 29 rfl rfl ?_
  refine g_getI C 30 rfl fl_X7_100 rfl rfl ?_
  refine g_ck fun h7 => ?_
  refine g_iast C 31 rfl rfl h7 (fun s8 => ?_)
  refine g_aload_n C 32 rfl rfl ?_
  refine g_getR C 33 rfl fl_X7_49 rfl rfl ?_
  refine g_iload C 34 rfl rfl ?_
  refine g_iconst C 35 rfl 4 (by decide) ?_
  refine g_iadd C 36 rfl ?_
  refine g_iconst C 37 rfl 0 (by decide) ?_
  refine g_ck fun h9 => ?_
  refine g_iast C 38 rfl rfl h9 (fun s10 => ?_)
  refine g_aload_n C 39 rfl rfl ?_
  refine g_dupR C 40 rfl ?_
  refine g_getI C 41 rfl fl_X7_100 rfl rfl ?_
  refine g_iconst C 42 rfl 1 (by decide) ?_
  refine g_iadd C 43 rfl ?_
  refine g_put C 44 rfl fp_X7_100 rfl rfl (fun s11 => ?_)
  refine g_aload_n C 45 rfl rfl ?_
  refine g_dupR C 46 rfl ?_
  refine g_getI C 47 rfl fl_X7_97 rfl rfl ?_
  refine g_iconst C 48 rfl 1 (by decide) ?_
  refine g_iadd C 49 rfl ?_
  refine g_put C 50 rfl fp_X7_97 rfl rfl (fun s12 => ?_)
  exact g_vret C 51 rfl rfl
set_option maxHeartbeats 1000000 in
set_option maxRecDepth 100000 in
theorem m_X7_asks (l : Launch) (dC : Nat → ClassId) (dI : Nat → Nat → Nat) (dA : Nat → ClassId) (ad : Nat → Nat) (hI : sw_inj sw_ZM ad) (σ : sw_St) (x1 : Int32) (x2 : Int32) (x3 : Int32) (b : sw_St) (hb : f_X7_asks σ x1 x2 x3 = some b) : sw_M sw_ZM l yX7_asks cX7_asks 5 none 0 dC dI dA ad [(sw_rv ad 1), (.int x1), (.int x2), (.int x3)] σ (sw_eV b) :=
  sw_mk1 (ψ := sw_eV) 1 (by decide) sw_ZMok hI dk_X7_asks rfl (sw_c1_all _ ⟨sw_rv_cat _ _, rfl, rfl, rfl, trivial⟩) hb (fun p e R M C => s_X7_asks C σ x1 x2 x3)
/-! SplitWatchModel.giveUp(II)V -/
def L_X7_giveUp : sw_Is := [(0, .aload_n 0, 1, 1), (1, .iload_n 1, 1, 2), (2, .iload_n 2, 1, 3), (3, .invokevirtual 123, 3, 6), (6, .istore_n 3, 1, 7), (7, .aload_n 0, 1, 8), (8, .getfield 22, 3, 11), (11, .iload_n 3, 1, 12), (12, .iaload, 1, 13), (13, .iconst 3, 1, 14), (14, .if_icmp .ne 57, 3, 17), (17, .aload_n 0, 1, 18), (18, .getfield 28, 3, 21), (21, .iconst 2, 1, 22), (22, .iload_n 1, 1, 23), (23, .imul, 1, 24), (24, .aload_n 0, 1, 25), (25, .getfield 25, 3, 28), (28, .iload_n 1, 1, 29), (29, .iaload, 1, 30), (30, .iadd, 1, 31), (31, .iload_n 2, 1, 32), (32, .iastore, 1, 33), (33, .aload_n 0, 1, 34), (34, .getfield 31, 3, 37), (37, .iconst 2, 1, 38), (38, .iload_n 1, 1, 39), (39, .imul, 1, 40), (40, .aload_n 0, 1, 41), (41, .getfield 25, 3, 44), (44, .iload_n 1, 1, 45), (45, .iaload, 1, 46), (46, .iadd, 1, 47), (47, .aload_n 0, 1, 48), (48, .getfield 19, 3, 51), (51, .iload_n 3, 1, 52), (52, .iaload, 1, 53), (53, .iastore, 1, 54), (54, .aload_n 0, 1, 55), (55, .getfield 25, 3, 58), (58, .iload_n 1, 1, 59), (59, .dup2, 1, 60), (60, .iaload, 1, 61), (61, .iconst 1, 1, 62), (62, .iadd, 1, 63), (63, .iastore, 1, 64), (64, .aload_n 0, 1, 65), (65, .iconst 3, 1, 66), (66, .iload_n 1, 1, 67), (67, .iload_n 2, 1, 68), (68, .invokevirtual 138, 3, 71), (71, .aload_n 0, 1, 72), (72, .iload_n 1, 1, 73), (73, .iload_n 2, 1, 74), (74, .invokevirtual 127, 3, 77), (77, .return_, 1, 78)]
theorem dk_X7_giveUp : sw_dc cX7_giveUp L_X7_giveUp = true := by decide +kernel
def f_X7_giveUp_71  (σ : sw_St) (x1 : Int32) (x2 : Int32) : Option sw_St := (f_X7_takeOut σ x1 x2).bind fun r1 => (some r1)
def f_X7_giveUp (σ : sw_St) (x1 : Int32) (x2 : Int32) : Option sw_St := (f_X7_at σ x1 x2).bind fun r1 => (sw_ck (sw_in r1 16) (if (σ 6 (sw_ix r1)) = 3 then (sw_ck (sw_in x1 4) (sw_ck (sw_in ((2 * x1) + (σ 7 (sw_ix x1))) 8) (sw_pt σ 8 (sw_ix ((2 * x1) + (σ 7 (sw_ix x1)))) x2 fun s5 => (sw_ck (sw_in ((2 * x1) + (s5 7 (sw_ix x1))) 8) (sw_pt s5 9 (sw_ix ((2 * x1) + (s5 7 (sw_ix x1)))) (s5 5 (sw_ix r1)) fun s7 => (sw_pt s7 7 (sw_ix x1) ((s7 7 (sw_ix x1)) + 1) fun s8 => ((f_X7_asks s8 3 x1 x2).bind fun r9 => (f_X7_giveUp_71 r9 x1 x2)))))))) else (f_X7_giveUp_71 σ x1 x2)))
set_option maxHeartbeats 1000000 in
set_option maxRecDepth 100000 in
theorem s_X7_giveUp_71 {V : sw_V} (C : sw_Cx sw_ZM V cX7_giveUp RX7 4 none L_X7_giveUp 2) (σ : sw_St) (x1 : Int32) (x2 : Int32) : sw_S sw_ZM V sw_eV [some (sw_r V 1), some (.int x1), some (.int x2), none] [] 71 σ (f_X7_giveUp_71 σ x1 x2) := by
  unfold f_X7_giveUp_71
  refine g_aload_n C 51 rfl rfl ?_
  refine g_iload_n C 52 rfl rfl ?_
  refine g_iload_n C 53 rfl rfl ?_
  refine g_callV (ψ₁ := sw_eV) C 54 rfl [(.int x1), (.int x2)] [] ml_X7_127 rfl (Nat.le_of_ble_eq_true rfl) (by decide) rfl rfl (fun b hb => m_X7_takeOut V.1.2.1 _ _ _ _ C.inj σ x1 x2 b hb) rfl (g_cV fun r1 => ?_)
  exact g_vret C 55 rfl rfl
set_option maxHeartbeats 1000000 in
set_option maxRecDepth 100000 in
theorem s_X7_giveUp {V : sw_V} (C : sw_Cx sw_ZM V cX7_giveUp RX7 4 none L_X7_giveUp 2) (σ : sw_St) (x1 : Int32) (x2 : Int32) : sw_S sw_ZM V sw_eV [some (sw_r V 1), some (.int x1), some (.int x2), none] [] 0 σ (f_X7_giveUp σ x1 x2) := by
  unfold f_X7_giveUp
  refine g_aload_n C 0 rfl rfl ?_
  refine g_iload_n C 1 rfl rfl ?_
  refine g_iload_n C 2 rfl rfl ?_
  refine g_callV (ψ₁ := sw_eP σ) C 3 rfl [(.int x1), (.int x2)] [] ml_X7_123 rfl (Nat.le_of_ble_eq_true rfl) (by decide) rfl rfl (fun b hb => m_X7_at V.1.2.1 _ _ _ _ C.inj σ x1 x2 b hb) rfl (g_cP fun r1 => ?_)
  refine g_istore_n C 4 rfl (Nat.le_of_ble_eq_true rfl) (Or.inr (Or.inr (Or.inl ⟨_, rfl⟩))) ?_
  refine g_aload_n C 5 rfl rfl ?_
  refine g_getR C 6 rfl fl_X7_22 rfl rfl ?_
  refine g_iload_n C 7 rfl rfl ?_
  refine g_ck fun h2 => ?_
  refine g_iald C 8 rfl rfl h2 ?_
  refine g_iconst C 9 rfl 3 (by decide) ?_
  refine g_icmp_ne C 10 rfl 71 (by decide) ?_ ?_
  · exact g_wk (s_X7_giveUp_71 C σ x1 x2) ⟨rfl, rfl, rfl, trivial⟩
  · refine g_aload_n C 11 rfl rfl ?_
    refine g_getR C 12 rfl fl_X7_28 rfl rfl ?_
    refine g_iconst C 13 rfl 2 (by decide) ?_
    refine g_iload_n C 14 rfl rfl ?_
    refine g_imul C 15 rfl ?_
    refine g_aload_n C 16 rfl rfl ?_
    refine g_getR C 17 rfl fl_X7_25 rfl rfl ?_
    refine g_iload_n C 18 rfl rfl ?_
    refine g_ck fun h3 => ?_
    refine g_iald C 19 rfl rfl h3 ?_
    refine g_iadd C 20 rfl ?_
    refine g_iload_n C 21 rfl rfl ?_
    refine g_ck fun h4 => ?_
    refine g_iast C 22 rfl rfl h4 (fun s5 => ?_)
    refine g_aload_n C 23 rfl rfl ?_
    refine g_getR C 24 rfl fl_X7_31 rfl rfl ?_
    refine g_iconst C 25 rfl 2 (by decide) ?_
    refine g_iload_n C 26 rfl rfl ?_
    refine g_imul C 27 rfl ?_
    refine g_aload_n C 28 rfl rfl ?_
    refine g_getR C 29 rfl fl_X7_25 rfl rfl ?_
    refine g_iload_n C 30 rfl rfl ?_
    refine g_iald C 31 rfl rfl h3 ?_
    refine g_iadd C 32 rfl ?_
    refine g_aload_n C 33 rfl rfl ?_
    refine g_getR C 34 rfl fl_X7_19 rfl rfl ?_
    refine g_iload_n C 35 rfl rfl ?_
    refine g_iald C 36 rfl rfl h2 ?_
    refine g_ck fun h6 => ?_
    refine g_iast C 37 rfl rfl h6 (fun s7 => ?_)
    refine g_aload_n C 38 rfl rfl ?_
    refine g_getR C 39 rfl fl_X7_25 rfl rfl ?_
    refine g_iload_n C 40 rfl rfl ?_
    refine g_dup2 C 41 rfl ?_
    refine g_iald C 42 rfl rfl h3 ?_
    refine g_iconst C 43 rfl 1 (by decide) ?_
    refine g_iadd C 44 rfl ?_
    refine g_iast C 45 rfl rfl h3 (fun s8 => ?_)
    refine g_aload_n C 46 rfl rfl ?_
    refine g_iconst C 47 rfl 3 (by decide) ?_
    refine g_iload_n C 48 rfl rfl ?_
    refine g_iload_n C 49 rfl rfl ?_
    refine g_callV (ψ₁ := sw_eV) C 50 rfl [(.int 3), (.int x1), (.int x2)] [] ml_X7_138 rfl (Nat.le_of_ble_eq_true rfl) (by decide) rfl rfl (fun b hb => m_X7_asks V.1.2.1 _ _ _ _ C.inj s8 3 x1 x2 b hb) rfl (g_cV fun r9 => ?_)
    exact g_wk (s_X7_giveUp_71 C r9 x1 x2) ⟨rfl, rfl, rfl, trivial⟩
set_option maxHeartbeats 1000000 in
set_option maxRecDepth 100000 in
theorem m_X7_giveUp (l : Launch) (dC : Nat → ClassId) (dI : Nat → Nat → Nat) (dA : Nat → ClassId) (ad : Nat → Nat) (hI : sw_inj sw_ZM ad) (σ : sw_St) (x1 : Int32) (x2 : Int32) (b : sw_St) (hb : f_X7_giveUp σ x1 x2 = some b) : sw_M sw_ZM l yX7_giveUp cX7_giveUp 4 none 2 dC dI dA ad [(sw_rv ad 1), (.int x1), (.int x2)] σ (sw_eV b) :=
  sw_mk1 (ψ := sw_eV) 1 (by decide) sw_ZMok hI dk_X7_giveUp rfl (sw_c1_all _ ⟨sw_rv_cat _ _, rfl, rfl, trivial⟩) hb (fun p e R M C => s_X7_giveUp C σ x1 x2)
/-! SplitWatchModel.fill(IIII)V -/
def L_X7_fill : sw_Is := [(0, .aload_n 0, 1, 1), (1, .getfield 13, 3, 4), (4, .iload_n 1, 1, 5), (5, .iaload, 1, 6), (6, .aload_n 0, 1, 7), (7, .getfield 85, 3, 10), (10, .if_icmp .ne 16, 3, 13), (13, .aload_n 0, 1, 14), (14, .iload_n 1, 1, 15), (15, .aload_n 0, 1, 16), (16, .getfield 16, 3, 19), (19, .iconst 4, 1, 20), (20, .iload_n 1, 1, 21), (21, .imul, 1, 22), (22, .iaload, 1, 23), (23, .invokevirtual 135, 3, 26), (26, .aload_n 0, 1, 27), (27, .iload_n 1, 1, 28), (28, .iload_n 2, 1, 29), (29, .iload_n 3, 1, 30), (30, .iload 4, 2, 32), (32, .invokevirtual 131, 3, 35), (35, .return_, 1, 36)]
theorem dk_X7_fill : sw_dc cX7_fill L_X7_fill = true := by decide +kernel
def f_X7_fill_26  (σ : sw_St) (x1 : Int32) (x2 : Int32) (x3 : Int32) (x4 : Int32) : Option sw_St := (f_X7_putIn σ x1 x2 x3 x4).bind fun r1 => (some r1)
def f_X7_fill (σ : sw_St) (x1 : Int32) (x2 : Int32) (x3 : Int32) (x4 : Int32) : Option sw_St := sw_ck (sw_in x1 4) (if (σ 3 (sw_ix x1)) = (σ 1 1) then (sw_ck (sw_in (4 * x1) 16) ((f_X7_giveUp σ x1 (σ 4 (sw_ix (4 * x1)))).bind fun r3 => (f_X7_fill_26 r3 x1 x2 x3 x4))) else (f_X7_fill_26 σ x1 x2 x3 x4))
set_option maxHeartbeats 1000000 in
set_option maxRecDepth 100000 in
theorem s_X7_fill_26 {V : sw_V} (C : sw_Cx sw_ZM V cX7_fill RX7 5 none L_X7_fill 3) (σ : sw_St) (x1 : Int32) (x2 : Int32) (x3 : Int32) (x4 : Int32) : sw_S sw_ZM V sw_eV [some (sw_r V 1), some (.int x1), some (.int x2), some (.int x3), some (.int x4)] [] 26 σ (f_X7_fill_26 σ x1 x2 x3 x4) := by
  unfold f_X7_fill_26
  refine g_aload_n C 16 rfl rfl ?_
  refine g_iload_n C 17 rfl rfl ?_
  refine g_iload_n C 18 rfl rfl ?_
  refine g_iload_n C 19 rfl rfl ?_
  refine g_iload C 20 rfl rfl ?_
  refine g_callV (ψ₁ := sw_eV) C 21 rfl [(.int x1), (.int x2), (.int x3), (.int x4)] [] ml_X7_131 rfl (Nat.le_of_ble_eq_true rfl) (by decide) rfl rfl (fun b hb => m_X7_putIn V.1.2.1 _ _ _ _ C.inj σ x1 x2 x3 x4 b hb) rfl (g_cV fun r1 => ?_)
  exact g_vret C 22 rfl rfl
set_option maxHeartbeats 1000000 in
set_option maxRecDepth 100000 in
theorem s_X7_fill {V : sw_V} (C : sw_Cx sw_ZM V cX7_fill RX7 5 none L_X7_fill 3) (σ : sw_St) (x1 : Int32) (x2 : Int32) (x3 : Int32) (x4 : Int32) : sw_S sw_ZM V sw_eV [some (sw_r V 1), some (.int x1), some (.int x2), some (.int x3), some (.int x4)] [] 0 σ (f_X7_fill σ x1 x2 x3 x4) := by
  unfold f_X7_fill
  refine g_aload_n C 0 rfl rfl ?_
  refine g_getR C 1 rfl fl_X7_13 rfl rfl ?_
  refine g_iload_n C 2 rfl rfl ?_
  refine g_ck fun h1 => ?_
  refine g_iald C 3 rfl rfl h1 ?_
  refine g_aload_n C 4 rfl rfl ?_
  refine g_getI C 5 rfl fl_X7_85 rfl rfl ?_
  refine g_icmp_ne C 6 rfl 26 (by decide) ?_ ?_
  · exact g_wk (s_X7_fill_26 C σ x1 x2 x3 x4) ⟨rfl, rfl, rfl, rfl, rfl, trivial⟩
  · refine g_aload_n C 7 rfl rfl ?_
    refine g_iload_n C 8 rfl rfl ?_
    refine g_aload_n C 9 rfl rfl ?_
    refine g_getR C 10 rfl fl_X7_16 rfl rfl ?_
    refine g_iconst C 11 rfl 4 (by decide) ?_
    refine g_iload_n C 12 rfl rfl ?_
    refine g_imul C 13 rfl ?_
    refine g_ck fun h2 => ?_
    refine g_iald C 14 rfl rfl h2 ?_
    refine g_callV (ψ₁ := sw_eV) C 15 rfl [(.int x1), (.int (σ 4 (sw_ix (4 * x1))))] [] ml_X7_135 rfl (Nat.le_of_ble_eq_true rfl) (by decide) rfl rfl (fun b hb => m_X7_giveUp V.1.2.1 _ _ _ _ C.inj σ x1 (σ 4 (sw_ix (4 * x1))) b hb) rfl (g_cV fun r3 => ?_)
    exact g_wk (s_X7_fill_26 C r3 x1 x2 x3 x4) ⟨rfl, rfl, rfl, rfl, rfl, trivial⟩
set_option maxHeartbeats 1000000 in
set_option maxRecDepth 100000 in
theorem m_X7_fill (l : Launch) (dC : Nat → ClassId) (dI : Nat → Nat → Nat) (dA : Nat → ClassId) (ad : Nat → Nat) (hI : sw_inj sw_ZM ad) (σ : sw_St) (x1 : Int32) (x2 : Int32) (x3 : Int32) (x4 : Int32) (b : sw_St) (hb : f_X7_fill σ x1 x2 x3 x4 = some b) : sw_M sw_ZM l yX7_fill cX7_fill 5 none 3 dC dI dA ad [(sw_rv ad 1), (.int x1), (.int x2), (.int x3), (.int x4)] σ (sw_eV b) :=
  sw_mk1 (ψ := sw_eV) 0 (by decide) sw_ZMok hI dk_X7_fill rfl (sw_c1_all _ ⟨sw_rv_cat _ _, rfl, rfl, rfl, rfl, trivial⟩) hb (fun p e R M C => s_X7_fill C σ x1 x2 x3 x4)
/-! SplitWatchModel.backAt(II)I -/
def L_X7_backAt : sw_Is := [(0, .iconst 0, 1, 1), (1, .istore_n 3, 1, 2), (2, .iload_n 3, 1, 3), (3, .aload_n 0, 1, 4), (4, .getfield 25, 3, 7), (7, .iload_n 1, 1, 8), (8, .iaload, 1, 9), (9, .if_icmp .ge 29, 3, 12), (12, .aload_n 0, 1, 13), (13, .getfield 28, 3, 16), (16, .iconst 2, 1, 17), (17, .iload_n 1, 1, 18), (18, .imul, 1, 19), (19, .iload_n 3, 1, 20), (20, .iadd, 1, 21), (21, .iaload, 1, 22), (22, .iload_n 2, 1, 23), (23, .if_icmp .ne 9, 3, 26), (26, .iconst 2, 1, 27), (27, .iload_n 1, 1, 28), (28, .imul, 1, 29), (29, .iload_n 3, 1, 30), (30, .iadd, 1, 31), (31, .ireturn, 1, 32), (32, .iinc 3 1, 3, 35), (35, .goto (-33), 3, 38), (38, .bipush (-4), 2, 40), (40, .ireturn, 1, 41)]
theorem dk_X7_backAt : sw_dc cX7_backAt L_X7_backAt = true := by decide +kernel
def f_X7_backAt_2 (σ : sw_St)  : Nat → Int32 → Int32 → Int32 → Option Int32
  | 0 => fun _ _ _ => none
  | n + 1 => fun x1 x2 x3 => sw_ck (sw_in x1 4) (if (σ 7 (sw_ix x1)) ≤ x3 then (some (-4)) else (sw_ck (sw_in ((2 * x1) + x3) 8) (if (σ 8 (sw_ix ((2 * x1) + x3))) = x2 then (some ((2 * x1) + x3)) else ((f_X7_backAt_2 σ n) x1 x2 (x3 + 1)))))
def f_X7_backAt (σ : sw_St) (x1 : Int32) (x2 : Int32) : Option Int32 := f_X7_backAt_2 σ sw_fuel x1 x2 0
set_option maxHeartbeats 1000000 in
set_option maxRecDepth 100000 in
theorem s_X7_backAt_2 {V : sw_V} (C : sw_Cx sw_ZM V cX7_backAt RX7 4 (some .int) L_X7_backAt 0) (σ : sw_St) : ∀ (n : Nat) (x1 : Int32) (x2 : Int32) (x3 : Int32), sw_S sw_ZM V (sw_eP σ) [some (sw_r V 1), some (.int x1), some (.int x2), some (.int x3)] [] 2 σ (f_X7_backAt_2 σ n x1 x2 x3) := by
  intro n
  induction n with
  | zero =>
    intro x1 x2 x3
    exact g_none
  | succ n ih =>
    intro x1 x2 x3
    rw [f_X7_backAt_2]
    refine g_iload_n C 2 rfl rfl ?_
    refine g_aload_n C 3 rfl rfl ?_
    refine g_getR C 4 rfl fl_X7_25 rfl rfl ?_
    refine g_iload_n C 5 rfl rfl ?_
    refine g_ck fun h1 => ?_
    refine g_iald C 6 rfl rfl h1 ?_
    refine g_icmp_ge C 7 rfl 38 (by decide) ?_ ?_
    · refine g_bipush C 26 rfl (-4) (by decide) ?_
      skip
      exact g_iret C 27 rfl rfl
    · refine g_aload_n C 8 rfl rfl ?_
      refine g_getR C 9 rfl fl_X7_28 rfl rfl ?_
      refine g_iconst C 10 rfl 2 (by decide) ?_
      refine g_iload_n C 11 rfl rfl ?_
      refine g_imul C 12 rfl ?_
      refine g_iload_n C 13 rfl rfl ?_
      refine g_iadd C 14 rfl ?_
      refine g_ck fun h2 => ?_
      refine g_iald C 15 rfl rfl h2 ?_
      refine g_iload_n C 16 rfl rfl ?_
      refine g_icmp_ne C 17 rfl 32 (by decide) ?_ ?_
      · refine g_iinc C 24 rfl 1 (by decide) rfl (Nat.le_of_ble_eq_true rfl) (Or.inr (Or.inr (Or.inl ⟨_, rfl⟩))) ?_
        refine g_goto C 25 rfl 2 (by decide) ?_
        exact g_wk (ih x1 x2 (x3 + 1)) ⟨rfl, rfl, rfl, rfl, trivial⟩
      · refine g_iconst C 18 rfl 2 (by decide) ?_
        refine g_iload_n C 19 rfl rfl ?_
        refine g_imul C 20 rfl ?_
        refine g_iload_n C 21 rfl rfl ?_
        refine g_iadd C 22 rfl ?_
        skip
        exact g_iret C 23 rfl rfl
set_option maxHeartbeats 1000000 in
set_option maxRecDepth 100000 in
theorem s_X7_backAt {V : sw_V} (C : sw_Cx sw_ZM V cX7_backAt RX7 4 (some .int) L_X7_backAt 0) (σ : sw_St) (x1 : Int32) (x2 : Int32) : sw_S sw_ZM V (sw_eP σ) [some (sw_r V 1), some (.int x1), some (.int x2), none] [] 0 σ (f_X7_backAt σ x1 x2) := by
  unfold f_X7_backAt
  refine g_iconst C 0 rfl 0 (by decide) ?_
  refine g_istore_n C 1 rfl (Nat.le_of_ble_eq_true rfl) (Or.inr (Or.inr (Or.inl ⟨_, rfl⟩))) ?_
  exact g_wk (s_X7_backAt_2 C σ sw_fuel x1 x2 0) ⟨rfl, rfl, rfl, rfl, trivial⟩
set_option maxHeartbeats 1000000 in
set_option maxRecDepth 100000 in
theorem m_X7_backAt (l : Launch) (dC : Nat → ClassId) (dI : Nat → Nat → Nat) (dA : Nat → ClassId) (ad : Nat → Nat) (hI : sw_inj sw_ZM ad) (σ : sw_St) (x1 : Int32) (x2 : Int32) (b : Int32) (hb : f_X7_backAt σ x1 x2 = some b) : sw_M sw_ZM l yX7_backAt cX7_backAt 4 (some .int) 0 dC dI dA ad [(sw_rv ad 1), (.int x1), (.int x2)] σ ((sw_eP σ) b) :=
  sw_mk1 (ψ := (sw_eP σ)) 1 (by decide) sw_ZMok hI dk_X7_backAt rfl (sw_c1_all _ ⟨sw_rv_cat _ _, rfl, rfl, trivial⟩) hb (fun p e R M C => s_X7_backAt C σ x1 x2)
/-! SplitWatchModel.outOfBuffer(II)I -/
def L_X7_outOfBuffer : sw_Is := [(0, .aload_n 0, 1, 1), (1, .iload_n 1, 1, 2), (2, .iload_n 2, 1, 3), (3, .invokevirtual 142, 3, 6), (6, .istore_n 3, 1, 7), (7, .aload_n 0, 1, 8), (8, .getfield 31, 3, 11), (11, .iload_n 3, 1, 12), (12, .iaload, 1, 13), (13, .istore 4, 2, 15), (15, .aload_n 0, 1, 16), (16, .getfield 25, 3, 19), (19, .iload_n 1, 1, 20), (20, .dup2, 1, 21), (21, .iaload, 1, 22), (22, .iconst 1, 1, 23), (23, .isub, 1, 24), (24, .iastore, 1, 25), (25, .iload_n 3, 1, 26), (26, .iconst 2, 1, 27), (27, .iload_n 1, 1, 28), (28, .imul, 1, 29), (29, .if_icmp .ne 41, 3, 32), (32, .aload_n 0, 1, 33), (33, .getfield 25, 3, 36), (36, .iload_n 1, 1, 37), (37, .iaload, 1, 38), (38, .iconst 1, 1, 39), (39, .if_icmp .ne 31, 3, 42), (42, .aload_n 0, 1, 43), (43, .getfield 28, 3, 46), (46, .iload_n 3, 1, 47), (47, .aload_n 0, 1, 48), (48, .getfield 28, 3, 51), (51, .iload_n 3, 1, 52), (52, .iconst 1, 1, 53), (53, .iadd, 1, 54), (54, .iaload, 1, 55), (55, .iastore, 1, 56), (56, .aload_n 0, 1, 57), (57, .getfield 31, 3, 60), (60, .iload_n 3, 1, 61), (61, .aload_n 0, 1, 62), (62, .getfield 31, 3, 65), (65, .iload_n 3, 1, 66), (66, .iconst 1, 1, 67), (67, .iadd, 1, 68), (68, .iaload, 1, 69), (69, .iastore, 1, 70), (70, .iload 4, 2, 72), (72, .ireturn, 1, 73)]
theorem dk_X7_outOfBuffer : sw_dc cX7_outOfBuffer L_X7_outOfBuffer = true := by decide +kernel
def f_X7_outOfBuffer (σ : sw_St) (x1 : Int32) (x2 : Int32) : Option (Int32 × sw_St) := (f_X7_backAt σ x1 x2).bind fun r1 => (sw_ck (sw_in r1 8) (sw_ck (sw_in x1 4) (sw_pt σ 7 (sw_ix x1) ((σ 7 (sw_ix x1)) - 1) fun s4 => (if r1 = (2 * x1) then (if (s4 7 (sw_ix x1)) = 1 then (sw_ck (sw_in (r1 + 1) 8) (sw_pt s4 8 (sw_ix r1) (s4 8 (sw_ix (r1 + 1))) fun s6 => (sw_pt s6 9 (sw_ix r1) (s6 9 (sw_ix (r1 + 1))) fun s7 => (some ((σ 9 (sw_ix r1)), s7))))) else (some ((σ 9 (sw_ix r1)), s4))) else (some ((σ 9 (sw_ix r1)), s4))))))
set_option maxHeartbeats 1000000 in
set_option maxRecDepth 100000 in
theorem s_X7_outOfBuffer {V : sw_V} (C : sw_Cx sw_ZM V cX7_outOfBuffer RX7 5 (some .int) L_X7_outOfBuffer 1) (σ : sw_St) (x1 : Int32) (x2 : Int32) : sw_S sw_ZM V sw_eI [some (sw_r V 1), some (.int x1), some (.int x2), none, none] [] 0 σ (f_X7_outOfBuffer σ x1 x2) := by
  unfold f_X7_outOfBuffer
  refine g_aload_n C 0 rfl rfl ?_
  refine g_iload_n C 1 rfl rfl ?_
  refine g_iload_n C 2 rfl rfl ?_
  refine g_callV (ψ₁ := sw_eP σ) C 3 rfl [(.int x1), (.int x2)] [] ml_X7_142 rfl (Nat.le_of_ble_eq_true rfl) (by decide) rfl rfl (fun b hb => m_X7_backAt V.1.2.1 _ _ _ _ C.inj σ x1 x2 b hb) rfl (g_cP fun r1 => ?_)
  refine g_istore_n C 4 rfl (Nat.le_of_ble_eq_true rfl) (Or.inr (Or.inr (Or.inl ⟨_, rfl⟩))) ?_
  refine g_aload_n C 5 rfl rfl ?_
  refine g_getR C 6 rfl fl_X7_31 rfl rfl ?_
  refine g_iload_n C 7 rfl rfl ?_
  refine g_ck fun h2 => ?_
  refine g_iald C 8 rfl rfl h2 ?_
  refine g_istore C 9 rfl (Nat.le_of_ble_eq_true rfl) (Or.inr (Or.inr (Or.inl ⟨_, rfl⟩))) ?_
  refine g_aload_n C 10 rfl rfl ?_
  refine g_getR C 11 rfl fl_X7_25 rfl rfl ?_
  refine g_iload_n C 12 rfl rfl ?_
  refine g_dup2 C 13 rfl ?_
  refine g_ck fun h3 => ?_
  refine g_iald C 14 rfl rfl h3 ?_
  refine g_iconst C 15 rfl 1 (by decide) ?_
  refine g_isub C 16 rfl ?_
  refine g_iast C 17 rfl rfl h3 (fun s4 => ?_)
  refine g_iload_n C 18 rfl rfl ?_
  refine g_iconst C 19 rfl 2 (by decide) ?_
  refine g_iload_n C 20 rfl rfl ?_
  refine g_imul C 21 rfl ?_
  refine g_icmp_ne C 22 rfl 70 (by decide) ?_ ?_
  · refine g_iload C 49 rfl rfl ?_
    skip
    exact g_iret C 50 rfl rfl
  · refine g_aload_n C 23 rfl rfl ?_
    refine g_getR C 24 rfl fl_X7_25 rfl rfl ?_
    refine g_iload_n C 25 rfl rfl ?_
    refine g_iald C 26 rfl rfl h3 ?_
    refine g_iconst C 27 rfl 1 (by decide) ?_
    refine g_icmp_ne C 28 rfl 70 (by decide) ?_ ?_
    · refine g_iload C 49 rfl rfl ?_
      skip
      exact g_iret C 50 rfl rfl
    · refine g_aload_n C 29 rfl rfl ?_
      refine g_getR C 30 rfl fl_X7_28 rfl rfl ?_
      refine g_iload_n C 31 rfl rfl ?_
      refine g_aload_n C 32 rfl rfl ?_
      refine g_getR C 33 rfl fl_X7_28 rfl rfl ?_
      refine g_iload_n C 34 rfl rfl ?_
      refine g_iconst C 35 rfl 1 (by decide) ?_
      refine g_iadd C 36 rfl ?_
      refine g_ck fun h5 => ?_
      refine g_iald C 37 rfl rfl h5 ?_
      refine g_iast C 38 rfl rfl h2 (fun s6 => ?_)
      refine g_aload_n C 39 rfl rfl ?_
      refine g_getR C 40 rfl fl_X7_31 rfl rfl ?_
      refine g_iload_n C 41 rfl rfl ?_
      refine g_aload_n C 42 rfl rfl ?_
      refine g_getR C 43 rfl fl_X7_31 rfl rfl ?_
      refine g_iload_n C 44 rfl rfl ?_
      refine g_iconst C 45 rfl 1 (by decide) ?_
      refine g_iadd C 46 rfl ?_
      refine g_iald C 47 rfl rfl h5 ?_
      refine g_iast C 48 rfl rfl h2 (fun s7 => ?_)
      refine g_iload C 49 rfl rfl ?_
      skip
      exact g_iret C 50 rfl rfl
set_option maxHeartbeats 1000000 in
set_option maxRecDepth 100000 in
theorem m_X7_outOfBuffer (l : Launch) (dC : Nat → ClassId) (dI : Nat → Nat → Nat) (dA : Nat → ClassId) (ad : Nat → Nat) (hI : sw_inj sw_ZM ad) (σ : sw_St) (x1 : Int32) (x2 : Int32) (b : (Int32 × sw_St)) (hb : f_X7_outOfBuffer σ x1 x2 = some b) : sw_M sw_ZM l yX7_outOfBuffer cX7_outOfBuffer 5 (some .int) 1 dC dI dA ad [(sw_rv ad 1), (.int x1), (.int x2)] σ (sw_eI b) :=
  sw_mk1 (ψ := sw_eI) 2 (by decide) sw_ZMok hI dk_X7_outOfBuffer rfl (sw_c1_all _ ⟨sw_rv_cat _ _, rfl, rfl, trivial⟩) hb (fun p e R M C => s_X7_outOfBuffer C σ x1 x2)
/-! SplitWatchModel.noMore(I)V -/
def L_X7_noMore : sw_Is := [(0, .aload_n 0, 1, 1), (1, .dup, 1, 2), (2, .getfield 97, 3, 5), (5, .iconst 1, 1, 6), (6, .isub, 1, 7), (7, .putfield 97, 3, 10), (10, .iconst 5, 1, 11), (11, .iload_n 1, 1, 12), (12, .imul, 1, 13), (13, .istore_n 2, 1, 14), (14, .iload_n 2, 1, 15), (15, .iconst 5, 1, 16), (16, .aload_n 0, 1, 17), (17, .getfield 97, 3, 20), (20, .imul, 1, 21), (21, .if_icmp .ge 23, 3, 24), (24, .aload_n 0, 1, 25), (25, .getfield 49, 3, 28), (28, .iload_n 2, 1, 29), (29, .aload_n 0, 1, 30), (30, .getfield 49, 3, 33), (33, .iload_n 2, 1, 34), (34, .iconst 5, 1, 35), (35, .iadd, 1, 36), (36, .iaload, 1, 37), (37, .iastore, 1, 38), (38, .iinc 2 1, 3, 41), (41, .goto (-27), 3, 44), (44, .return_, 1, 45)]
theorem dk_X7_noMore : sw_dc cX7_noMore L_X7_noMore = true := by decide +kernel
def f_X7_noMore_14  : Nat → sw_St → Int32 → Option sw_St
  | 0 => fun _ _ => none
  | n + 1 => fun σ x2 => if (5 * (σ 1 18)) ≤ x2 then (some σ) else (sw_ck (sw_in (x2 + 5) 80) (sw_ck (sw_in x2 80) (sw_pt σ 15 (sw_ix x2) (σ 15 (sw_ix (x2 + 5))) fun s3 => ((f_X7_noMore_14 n) s3 (x2 + 1)))))
def f_X7_noMore (σ : sw_St) (x1 : Int32) : Option sw_St := sw_pt σ 1 18 ((σ 1 18) - 1) fun s1 => (f_X7_noMore_14 sw_fuel s1 (5 * x1))
set_option maxHeartbeats 1000000 in
set_option maxRecDepth 100000 in
theorem s_X7_noMore_14 {V : sw_V} (C : sw_Cx sw_ZM V cX7_noMore RX7 3 none L_X7_noMore 0) : ∀ (n : Nat) (σ : sw_St) (x2 : Int32), sw_S sw_ZM V sw_eV [some (sw_r V 1), none, some (.int x2)] [] 14 σ (f_X7_noMore_14 n σ x2) := by
  intro n
  induction n with
  | zero =>
    intro σ x2
    exact g_none
  | succ n ih =>
    intro σ x2
    rw [f_X7_noMore_14]
    refine g_iload_n C 10 rfl rfl ?_
    refine g_iconst C 11 rfl 5 (by decide) ?_
    refine g_aload_n C 12 rfl rfl ?_
    refine g_getI C 13 rfl fl_X7_97 rfl rfl ?_
    refine g_imul C 14 rfl ?_
    refine g_icmp_ge C 15 rfl 44 (by decide) ?_ ?_
    · exact g_vret C 28 rfl rfl
    · refine g_aload_n C 16 rfl rfl ?_
      refine g_getR C 17 rfl fl_X7_49 rfl rfl ?_
      refine g_iload_n C 18 rfl rfl ?_
      refine g_aload_n C 19 rfl rfl ?_
      refine g_getR C 20 rfl fl_X7_49 rfl rfl ?_
      refine g_iload_n C 21 rfl rfl ?_
      refine g_iconst C 22 rfl 5 (by decide) ?_
      refine g_iadd C 23 rfl ?_
      refine g_ck fun h1 => ?_
      refine g_iald C 24 rfl rfl h1 ?_
      refine g_ck fun h2 => ?_
      refine g_iast C 25 rfl rfl h2 (fun s3 => ?_)
      refine g_iinc C 26 rfl 1 (by decide) rfl (Nat.le_of_ble_eq_true rfl) (Or.inr (Or.inl rfl)) ?_
      refine g_goto C 27 rfl 14 (by decide) ?_
      exact g_wk (ih s3 (x2 + 1)) ⟨rfl, rfl, trivial⟩
set_option maxHeartbeats 1000000 in
set_option maxRecDepth 100000 in
theorem s_X7_noMore {V : sw_V} (C : sw_Cx sw_ZM V cX7_noMore RX7 3 none L_X7_noMore 0) (σ : sw_St) (x1 : Int32) : sw_S sw_ZM V sw_eV [some (sw_r V 1), some (.int x1), none] [] 0 σ (f_X7_noMore σ x1) := by
  unfold f_X7_noMore
  refine g_aload_n C 0 rfl rfl ?_
  refine g_dupR C 1 rfl ?_
  refine g_getI C 2 rfl fl_X7_97 rfl rfl ?_
  refine g_iconst C 3 rfl 1 (by decide) ?_
  refine g_isub C 4 rfl ?_
  refine g_put C 5 rfl fp_X7_97 rfl rfl (fun s1 => ?_)
  refine g_iconst C 6 rfl 5 (by decide) ?_
  refine g_iload_n C 7 rfl rfl ?_
  refine g_imul C 8 rfl ?_
  refine g_istore_n C 9 rfl (Nat.le_of_ble_eq_true rfl) (Or.inr (Or.inr (Or.inl ⟨_, rfl⟩))) ?_
  exact g_wk (s_X7_noMore_14 C sw_fuel s1 (5 * x1)) ⟨rfl, rfl, trivial⟩
set_option maxHeartbeats 1000000 in
set_option maxRecDepth 100000 in
theorem m_X7_noMore (l : Launch) (dC : Nat → ClassId) (dI : Nat → Nat → Nat) (dA : Nat → ClassId) (ad : Nat → Nat) (hI : sw_inj sw_ZM ad) (σ : sw_St) (x1 : Int32) (b : sw_St) (hb : f_X7_noMore σ x1 = some b) : sw_M sw_ZM l yX7_noMore cX7_noMore 3 none 0 dC dI dA ad [(sw_rv ad 1), (.int x1)] σ (sw_eV b) :=
  sw_mk1 (ψ := sw_eV) 1 (by decide) sw_ZMok hI dk_X7_noMore rfl (sw_c1_all _ ⟨sw_rv_cat _ _, rfl, trivial⟩) hb (fun p e R M C => s_X7_noMore C σ x1)
/-! SplitWatchModel.noBack(II)V -/
def L_X7_noBack : sw_Is := [(0, .aload_n 0, 1, 1), (1, .getfield 97, 3, 4), (4, .iconst 1, 1, 5), (5, .isub, 1, 6), (6, .istore_n 3, 1, 7), (7, .iload_n 3, 1, 8), (8, .ifCond .lt 54, 3, 11), (11, .aload_n 0, 1, 12), (12, .getfield 49, 3, 15), (15, .iconst 5, 1, 16), (16, .iload_n 3, 1, 17), (17, .imul, 1, 18), (18, .iaload, 1, 19), (19, .iconst 3, 1, 20), (20, .if_icmp .ne 36, 3, 23), (23, .aload_n 0, 1, 24), (24, .getfield 49, 3, 27), (27, .iconst 5, 1, 28), (28, .iload_n 3, 1, 29), (29, .imul, 1, 30), (30, .iconst 1, 1, 31), (31, .iadd, 1, 32), (32, .iaload, 1, 33), (33, .iload_n 1, 1, 34), (34, .if_icmp .ne 22, 3, 37), (37, .aload_n 0, 1, 38), (38, .getfield 49, 3, 41), (41, .iconst 5, 1, 42), (42, .iload_n 3, 1, 43), (43, .imul, 1, 44), (44, .iconst 2, 1, 45), (45, .iadd, 1, 46), (46, .iaload, 1, 47), (47, .iload_n 2, 1, 48), (48, .if_icmp .ne 8, 3, 51), (51, .aload_n 0, 1, 52), (52, .iload_n 3, 1, 53), (53, .invokevirtual 145, 3, 56), (56, .iinc 3 (-1), 3, 59), (59, .goto (-52), 3, 62), (62, .return_, 1, 63)]
theorem dk_X7_noBack : sw_dc cX7_noBack L_X7_noBack = true := by decide +kernel
def f_X7_noBack_7  : Nat → sw_St → Int32 → Int32 → Int32 → Option sw_St
  | 0 => fun _ _ _ _ => none
  | n + 1 => fun σ x1 x2 x3 => if x3 < 0 then (some σ) else (sw_ck (sw_in (5 * x3) 80) (if (σ 15 (sw_ix (5 * x3))) = 3 then (sw_ck (sw_in ((5 * x3) + 1) 80) (if (σ 15 (sw_ix ((5 * x3) + 1))) = x1 then (sw_ck (sw_in ((5 * x3) + 2) 80) (if (σ 15 (sw_ix ((5 * x3) + 2))) = x2 then ((f_X7_noMore σ x3).bind fun r4 => ((f_X7_noBack_7 n) r4 x1 x2 (x3 + (-1)))) else ((f_X7_noBack_7 n) σ x1 x2 (x3 + (-1))))) else ((f_X7_noBack_7 n) σ x1 x2 (x3 + (-1))))) else ((f_X7_noBack_7 n) σ x1 x2 (x3 + (-1)))))
def f_X7_noBack (σ : sw_St) (x1 : Int32) (x2 : Int32) : Option sw_St := f_X7_noBack_7 sw_fuel σ x1 x2 ((σ 1 18) - 1)
set_option maxHeartbeats 1000000 in
set_option maxRecDepth 100000 in
theorem s_X7_noBack_7 {V : sw_V} (C : sw_Cx sw_ZM V cX7_noBack RX7 4 none L_X7_noBack 1) : ∀ (n : Nat) (σ : sw_St) (x1 : Int32) (x2 : Int32) (x3 : Int32), sw_S sw_ZM V sw_eV [some (sw_r V 1), some (.int x1), some (.int x2), some (.int x3)] [] 7 σ (f_X7_noBack_7 n σ x1 x2 x3) := by
  intro n
  induction n with
  | zero =>
    intro σ x1 x2 x3
    exact g_none
  | succ n ih =>
    intro σ x1 x2 x3
    rw [f_X7_noBack_7]
    refine g_iload_n C 5 rfl rfl ?_
    refine g_if_lt C 6 rfl 62 (by decide) ?_ ?_
    · exact g_vret C 40 rfl rfl
    · refine g_aload_n C 7 rfl rfl ?_
      refine g_getR C 8 rfl fl_X7_49 rfl rfl ?_
      refine g_iconst C 9 rfl 5 (by decide) ?_
      refine g_iload_n C 10 rfl rfl ?_
      refine g_imul C 11 rfl ?_
      refine g_ck fun h1 => ?_
      refine g_iald C 12 rfl rfl h1 ?_
      refine g_iconst C 13 rfl 3 (by decide) ?_
      refine g_icmp_ne C 14 rfl 56 (by decide) ?_ ?_
      · refine g_iinc C 38 rfl (-1) (by decide) rfl (Nat.le_of_ble_eq_true rfl) (Or.inr (Or.inr (Or.inl ⟨_, rfl⟩))) ?_
        refine g_goto C 39 rfl 7 (by decide) ?_
        exact g_wk (ih σ x1 x2 (x3 + (-1))) ⟨rfl, rfl, rfl, rfl, trivial⟩
      · refine g_aload_n C 15 rfl rfl ?_
        refine g_getR C 16 rfl fl_X7_49 rfl rfl ?_
        refine g_iconst C 17 rfl 5 (by decide) ?_
        refine g_iload_n C 18 rfl rfl ?_
        refine g_imul C 19 rfl ?_
        refine g_iconst C 20 rfl 1 (by decide) ?_
        refine g_iadd C 21 rfl ?_
        refine g_ck fun h2 => ?_
        refine g_iald C 22 rfl rfl h2 ?_
        refine g_iload_n C 23 rfl rfl ?_
        refine g_icmp_ne C 24 rfl 56 (by decide) ?_ ?_
        · refine g_iinc C 38 rfl (-1) (by decide) rfl (Nat.le_of_ble_eq_true rfl) (Or.inr (Or.inr (Or.inl ⟨_, rfl⟩))) ?_
          refine g_goto C 39 rfl 7 (by decide) ?_
          exact g_wk (ih σ x1 x2 (x3 + (-1))) ⟨rfl, rfl, rfl, rfl, trivial⟩
        · refine g_aload_n C 25 rfl rfl ?_
          refine g_getR C 26 rfl fl_X7_49 rfl rfl ?_
          refine g_iconst C 27 rfl 5 (by decide) ?_
          refine g_iload_n C 28 rfl rfl ?_
          refine g_imul C 29 rfl ?_
          refine g_iconst C 30 rfl 2 (by decide) ?_
          refine g_iadd C 31 rfl ?_
          refine g_ck fun h3 => ?_
          refine g_iald C 32 rfl rfl h3 ?_
          refine g_iload_n C 33 rfl rfl ?_
          refine g_icmp_ne C 34 rfl 56 (by decide) ?_ ?_
          · refine g_iinc C 38 rfl (-1) (by decide) rfl (Nat.le_of_ble_eq_true rfl) (Or.inr (Or.inr (Or.inl ⟨_, rfl⟩))) ?_
            refine g_goto C 39 rfl 7 (by decide) ?_
            exact g_wk (ih σ x1 x2 (x3 + (-1))) ⟨rfl, rfl, rfl, rfl, trivial⟩
          · refine g_aload_n C 35 rfl rfl ?_
            refine g_iload_n C 36 rfl rfl ?_
            refine g_callV (ψ₁ := sw_eV) C 37 rfl [(.int x3)] [] ml_X7_145 rfl (Nat.le_of_ble_eq_true rfl) (by decide) rfl rfl (fun b hb => m_X7_noMore V.1.2.1 _ _ _ _ C.inj σ x3 b hb) rfl (g_cV fun r4 => ?_)
            refine g_iinc C 38 rfl (-1) (by decide) rfl (Nat.le_of_ble_eq_true rfl) (Or.inr (Or.inr (Or.inl ⟨_, rfl⟩))) ?_
            refine g_goto C 39 rfl 7 (by decide) ?_
            exact g_wk (ih r4 x1 x2 (x3 + (-1))) ⟨rfl, rfl, rfl, rfl, trivial⟩
set_option maxHeartbeats 1000000 in
set_option maxRecDepth 100000 in
theorem s_X7_noBack {V : sw_V} (C : sw_Cx sw_ZM V cX7_noBack RX7 4 none L_X7_noBack 1) (σ : sw_St) (x1 : Int32) (x2 : Int32) : sw_S sw_ZM V sw_eV [some (sw_r V 1), some (.int x1), some (.int x2), none] [] 0 σ (f_X7_noBack σ x1 x2) := by
  unfold f_X7_noBack
  refine g_aload_n C 0 rfl rfl ?_
  refine g_getI C 1 rfl fl_X7_97 rfl rfl ?_
  refine g_iconst C 2 rfl 1 (by decide) ?_
  refine g_isub C 3 rfl ?_
  refine g_istore_n C 4 rfl (Nat.le_of_ble_eq_true rfl) (Or.inr (Or.inr (Or.inl ⟨_, rfl⟩))) ?_
  exact g_wk (s_X7_noBack_7 C sw_fuel σ x1 x2 ((σ 1 18) - 1)) ⟨rfl, rfl, rfl, rfl, trivial⟩
set_option maxHeartbeats 1000000 in
set_option maxRecDepth 100000 in
theorem m_X7_noBack (l : Launch) (dC : Nat → ClassId) (dI : Nat → Nat → Nat) (dA : Nat → ClassId) (ad : Nat → Nat) (hI : sw_inj sw_ZM ad) (σ : sw_St) (x1 : Int32) (x2 : Int32) (b : sw_St) (hb : f_X7_noBack σ x1 x2 = some b) : sw_M sw_ZM l yX7_noBack cX7_noBack 4 none 1 dC dI dA ad [(sw_rv ad 1), (.int x1), (.int x2)] σ (sw_eV b) :=
  sw_mk1 (ψ := sw_eV) 1 (by decide) sw_ZMok hI dk_X7_noBack rfl (sw_c1_all _ ⟨sw_rv_cat _ _, rfl, rfl, trivial⟩) hb (fun p e R M C => s_X7_noBack C σ x1 x2)
/-! SplitWatchModel.isOpen(I)Z -/
def L_X7_isOpen : sw_Is := [(0, .iconst 0, 1, 1), (1, .istore_n 2, 1, 2), (2, .iconst 0, 1, 3), (3, .istore_n 3, 1, 4), (4, .iload_n 3, 1, 5), (5, .aload_n 0, 1, 6), (6, .getfield 103, 3, 9), (9, .if_icmp .ge 34, 3, 12), (12, .iload_n 2, 1, 13), (13, .ifCond .ne 18, 3, 16), (16, .aload_n 0, 1, 17), (17, .getfield 52, 3, 20), (20, .bipush 7, 2, 22), (22, .iload_n 3, 1, 23), (23, .imul, 1, 24), (24, .iconst 2, 1, 25), (25, .iadd, 1, 26), (26, .iaload, 1, 27), (27, .iload_n 1, 1, 28), (28, .if_icmp .ne 7, 3, 31), (31, .iconst 1, 1, 32), (32, .goto 4, 3, 35), (35, .iconst 0, 1, 36), (36, .istore_n 2, 1, 37), (37, .iinc 3 1, 3, 40), (40, .goto (-36), 3, 43), (43, .iload_n 2, 1, 44), (44, .ireturn, 1, 45)]
theorem dk_X7_isOpen : sw_dc cX7_isOpen L_X7_isOpen = true := by decide +kernel
def f_X7_isOpen_31 (σ : sw_St) (k4 : Int32 → Int32 → Int32 → Option Int32) (x1 : Int32) (x3 : Int32) : Option Int32 := k4 x1 1 (x3 + 1)
def f_X7_isOpen_4 (σ : sw_St)  : Nat → Int32 → Int32 → Int32 → Option Int32
  | 0 => fun _ _ _ => none
  | n + 1 => fun x1 x2 x3 => if (σ 1 21) ≤ x3 then (sw_ck (sw_fz .boolean x2) (some x2)) else (if x2 = 0 then (sw_ck (sw_in ((7 * x3) + 2) 28) (if (σ 16 (sw_ix ((7 * x3) + 2))) = x1 then (f_X7_isOpen_31 σ (f_X7_isOpen_4 σ n) x1 x3) else ((f_X7_isOpen_4 σ n) x1 0 (x3 + 1)))) else (f_X7_isOpen_31 σ (f_X7_isOpen_4 σ n) x1 x3))
def f_X7_isOpen (σ : sw_St) (x1 : Int32) : Option Int32 := f_X7_isOpen_4 σ sw_fuel x1 0 0
set_option maxHeartbeats 1000000 in
set_option maxRecDepth 100000 in
theorem s_X7_isOpen_31 {V : sw_V} (C : sw_Cx sw_ZM V cX7_isOpen RX7 4 (some .boolean) L_X7_isOpen 0) (σ : sw_St) (k4 : Int32 → Int32 → Int32 → Option Int32) (hk4 : ∀ (x1 : Int32) (x2 : Int32) (x3 : Int32), sw_S sw_ZM V (sw_eP σ) [some (sw_r V 1), some (.int x1), some (.int x2), some (.int x3)] [] 4 σ (k4 x1 x2 x3)) (x1 : Int32) (x3 : Int32) : sw_S sw_ZM V (sw_eP σ) [some (sw_r V 1), some (.int x1), none, some (.int x3)] [] 31 σ (f_X7_isOpen_31 σ k4 x1 x3) := by
  unfold f_X7_isOpen_31
  refine g_iconst C 20 rfl 1 (by decide) ?_
  refine g_goto C 21 rfl 36 (by decide) ?_
  refine g_istore_n C 23 rfl (Nat.le_of_ble_eq_true rfl) (Or.inr (Or.inr (Or.inl ⟨_, rfl⟩))) ?_
  refine g_iinc C 24 rfl 1 (by decide) rfl (Nat.le_of_ble_eq_true rfl) (Or.inr (Or.inr (Or.inl ⟨_, rfl⟩))) ?_
  refine g_goto C 25 rfl 4 (by decide) ?_
  exact g_wk (hk4 x1 1 (x3 + 1)) ⟨rfl, rfl, rfl, rfl, trivial⟩
set_option maxHeartbeats 1000000 in
set_option maxRecDepth 100000 in
theorem s_X7_isOpen_4 {V : sw_V} (C : sw_Cx sw_ZM V cX7_isOpen RX7 4 (some .boolean) L_X7_isOpen 0) (σ : sw_St) : ∀ (n : Nat) (x1 : Int32) (x2 : Int32) (x3 : Int32), sw_S sw_ZM V (sw_eP σ) [some (sw_r V 1), some (.int x1), some (.int x2), some (.int x3)] [] 4 σ (f_X7_isOpen_4 σ n x1 x2 x3) := by
  intro n
  induction n with
  | zero =>
    intro x1 x2 x3
    exact g_none
  | succ n ih =>
    intro x1 x2 x3
    rw [f_X7_isOpen_4]
    refine g_iload_n C 4 rfl rfl ?_
    refine g_aload_n C 5 rfl rfl ?_
    refine g_getI C 6 rfl fl_X7_103 rfl rfl ?_
    refine g_icmp_ge C 7 rfl 43 (by decide) ?_ ?_
    · refine g_iload_n C 26 rfl rfl ?_
      refine g_ck fun h1 => ?_
      skip
      exact g_zret C 27 rfl (sw_fz_n h1 ⟨_, rfl⟩) rfl
    · refine g_iload_n C 8 rfl rfl ?_
      refine g_if_ne C 9 rfl 31 (by decide) ?_ ?_
      · exact g_wk (s_X7_isOpen_31 C σ (f_X7_isOpen_4 σ n) ih x1 x3) ⟨rfl, rfl, rfl, trivial⟩
      · refine g_aload_n C 10 rfl rfl ?_
        refine g_getR C 11 rfl fl_X7_52 rfl rfl ?_
        refine g_bipush C 12 rfl 7 (by decide) ?_
        refine g_iload_n C 13 rfl rfl ?_
        refine g_imul C 14 rfl ?_
        refine g_iconst C 15 rfl 2 (by decide) ?_
        refine g_iadd C 16 rfl ?_
        refine g_ck fun h2 => ?_
        refine g_iald C 17 rfl rfl h2 ?_
        refine g_iload_n C 18 rfl rfl ?_
        refine g_icmp_ne C 19 rfl 35 (by decide) ?_ ?_
        · refine g_iconst C 22 rfl 0 (by decide) ?_
          refine g_istore_n C 23 rfl (Nat.le_of_ble_eq_true rfl) (Or.inr (Or.inr (Or.inl ⟨_, rfl⟩))) ?_
          refine g_iinc C 24 rfl 1 (by decide) rfl (Nat.le_of_ble_eq_true rfl) (Or.inr (Or.inr (Or.inl ⟨_, rfl⟩))) ?_
          refine g_goto C 25 rfl 4 (by decide) ?_
          exact g_wk (ih x1 0 (x3 + 1)) ⟨rfl, rfl, rfl, rfl, trivial⟩
        · exact g_wk (s_X7_isOpen_31 C σ (f_X7_isOpen_4 σ n) ih x1 x3) ⟨rfl, rfl, rfl, trivial⟩
set_option maxHeartbeats 1000000 in
set_option maxRecDepth 100000 in
theorem s_X7_isOpen {V : sw_V} (C : sw_Cx sw_ZM V cX7_isOpen RX7 4 (some .boolean) L_X7_isOpen 0) (σ : sw_St) (x1 : Int32) : sw_S sw_ZM V (sw_eP σ) [some (sw_r V 1), some (.int x1), none, none] [] 0 σ (f_X7_isOpen σ x1) := by
  unfold f_X7_isOpen
  refine g_iconst C 0 rfl 0 (by decide) ?_
  refine g_istore_n C 1 rfl (Nat.le_of_ble_eq_true rfl) (Or.inr (Or.inr (Or.inl ⟨_, rfl⟩))) ?_
  refine g_iconst C 2 rfl 0 (by decide) ?_
  refine g_istore_n C 3 rfl (Nat.le_of_ble_eq_true rfl) (Or.inr (Or.inr (Or.inl ⟨_, rfl⟩))) ?_
  exact g_wk (s_X7_isOpen_4 C σ sw_fuel x1 0 0) ⟨rfl, rfl, rfl, rfl, trivial⟩
set_option maxHeartbeats 1000000 in
set_option maxRecDepth 100000 in
theorem m_X7_isOpen (l : Launch) (dC : Nat → ClassId) (dI : Nat → Nat → Nat) (dA : Nat → ClassId) (ad : Nat → Nat) (hI : sw_inj sw_ZM ad) (σ : sw_St) (x1 : Int32) (b : Int32) (hb : f_X7_isOpen σ x1 = some b) : sw_M sw_ZM l yX7_isOpen cX7_isOpen 4 (some .boolean) 0 dC dI dA ad [(sw_rv ad 1), (.int x1)] σ ((sw_eP σ) b) :=
  sw_mk1 (ψ := (sw_eP σ)) 2 (by decide) sw_ZMok hI dk_X7_isOpen rfl (sw_c1_all _ ⟨sw_rv_cat _ _, rfl, trivial⟩) hb (fun p e R M C => s_X7_isOpen C σ x1)
