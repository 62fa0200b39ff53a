/-! SplitWatchModel.open(II)I -/
def L_X7_open : sw_Is := [(0, .iload_n 1, 1, 1), (1, .iconst (-1), 1, 2), (2, .if_icmp .lt 15, 3, 5), (5, .iload_n 2, 1, 6), (6, .i2l, 1, 7), (7, .lconst 0, 1, 8), (8, .ldc2_w 73, 3, 11), (11, .invokestatic 75, 3, 14), (14, .ifCond .ne 5, 3, 17), (17, .iconst (-1), 1, 18), (18, .ireturn, 1, 19), (19, .iload_n 1, 1, 20), (20, .ifCond .lt 11, 3, 23), (23, .iload_n 1, 1, 24), (24, .aload_n 0, 1, 25), (25, .getfield 103, 3, 28), (28, .if_icmp .lt 17, 3, 31), (31, .iload_n 1, 1, 32), (32, .ifCond .ge 10, 3, 35), (35, .aload_n 0, 1, 36), (36, .getfield 103, 3, 39), (39, .goto 5, 3, 42), (42, .bipush (-4), 2, 44), (44, .ireturn, 1, 45), (45, .iload_n 2, 1, 46), (46, .ifCond .ne 17, 3, 49), (49, .aload_n 0, 1, 50), (50, .getfield 52, 3, 53), (53, .bipush 7, 2, 55), (55, .iload_n 1, 1, 56), (56, .imul, 1, 57), (57, .iconst 1, 1, 58), (58, .iadd, 1, 59), (59, .iaload, 1, 60), (60, .goto 31, 3, 63), (63, .iload_n 2, 1, 64), (64, .iconst 1, 1, 65), (65, .if_icmp .ne 15, 3, 68), (68, .aload_n 0, 1, 69), (69, .getfield 52, 3, 72), (72, .bipush 7, 2, 74), (74, .iload_n 1, 1, 75), (75, .imul, 1, 76), (76, .iaload, 1, 77), (77, .goto 14, 3, 80), (80, .aload_n 0, 1, 81), (81, .getfield 52, 3, 84), (84, .bipush 7, 2, 86), (86, .iload_n 1, 1, 87), (87, .imul, 1, 88), (88, .iload_n 2, 1, 89), (89, .iadd, 1, 90), (90, .iaload, 1, 91), (91, .ireturn, 1, 92)]
theorem dk_X7_open : sw_dc cX7_open L_X7_open = true := by decide +kernel
def f_X7_open_31 (σ : sw_St)  (x1 : Int32) : Option Int32 := if 0 ≤ x1 then (some (-4)) else (some (σ 1 21))
def f_X7_open (σ : sw_St) (x1 : Int32) (x2 : Int32) : Option Int32 := if x1 < (-1) then (some (-1)) else ((f_X7_in σ (Int32.toInt64 x2) (0 : Int64) (4 : Int64)).bind fun r1 => (if r1 = 0 then (some (-1)) else (if x1 < 0 then (f_X7_open_31 σ x1) else (if x1 < (σ 1 21) then (if x2 = 0 then (sw_ck (sw_in ((7 * x1) + 1) 28) (some (σ 16 (sw_ix ((7 * x1) + 1))))) else (if x2 = 1 then (sw_ck (sw_in (7 * x1) 28) (some (σ 16 (sw_ix (7 * x1))))) else (sw_ck (sw_in ((7 * x1) + x2) 28) (some (σ 16 (sw_ix ((7 * x1) + x2))))))) else (f_X7_open_31 σ x1)))))
set_option maxHeartbeats 1000000 in
set_option maxRecDepth 100000 in
theorem s_X7_open_31 {V : sw_V} (C : sw_Cx sw_ZM V cX7_open RX7 3 (some .int) L_X7_open 1) (σ : sw_St) (x1 : Int32) : sw_S sw_ZM V (sw_eP σ) [some (sw_r V 1), some (.int x1), none] [] 31 σ (f_X7_open_31 σ x1) := by
  unfold f_X7_open_31
  refine g_iload_n C 17 rfl rfl ?_
  refine g_if_ge C 18 rfl 42 (by decide) ?_ ?_
  · refine g_bipush C 22 rfl (-4) (by decide) ?_
    skip
    exact g_iret C 23 rfl rfl
  · refine g_aload_n C 19 rfl rfl ?_
    refine g_getI C 20 rfl fl_X7_103 rfl rfl ?_
    refine g_goto C 21 rfl 44 (by decide) ?_
    skip
    exact g_iret C 23 rfl rfl
set_option maxHeartbeats 1000000 in
set_option maxRecDepth 100000 in
theorem s_X7_open {V : sw_V} (C : sw_Cx sw_ZM V cX7_open RX7 3 (some .int) L_X7_open 1) (σ : sw_St) (x1 : Int32) (x2 : Int32) : sw_S sw_ZM V (sw_eP σ) [some (sw_r V 1), some (.int x1), some (.int x2)] [] 0 σ (f_X7_open σ x1 x2) := by
  unfold f_X7_open
  refine g_iload_n C 0 rfl rfl ?_
  refine g_iconst C 1 rfl (-1) (by decide) ?_
  refine g_icmp_lt C 2 rfl 17 (by decide) ?_ ?_
  · refine g_iconst C 9 rfl (-1) (by decide) ?_
    skip
    exact g_iret C 10 rfl rfl
  · refine g_iload_n C 3 rfl rfl ?_
    refine g_i2l C 4 rfl ?_
    refine g_lconst C 5 rfl (0 : Int64) (by decide) ?_
    refine g_ldc2 C 6 rfl (4 : Int64) q_770 ?_
    refine g_callS (ψ₁ := sw_eP σ) C 7 rfl [(.long (Int32.toInt64 x2)), (.long (0 : Int64)), (.long (4 : Int64))] [] ml_X7_75 rfl (Nat.le_of_ble_eq_true rfl) (by decide) (fun b hb => m_X7_in V.1.2.1 _ _ _ _ C.inj σ (Int32.toInt64 x2) (0 : Int64) (4 : Int64) b hb) rfl (g_cP fun r1 => ?_)
    refine g_if_ne C 8 rfl 19 (by decide) ?_ ?_
    · refine g_iload_n C 11 rfl rfl ?_
      refine g_if_lt C 12 rfl 31 (by decide) ?_ ?_
      · exact g_wk (s_X7_open_31 C σ x1) ⟨rfl, rfl, trivial⟩
      · refine g_iload_n C 13 rfl rfl ?_
        refine g_aload_n C 14 rfl rfl ?_
        refine g_getI C 15 rfl fl_X7_103 rfl rfl ?_
        refine g_icmp_lt C 16 rfl 45 (by decide) ?_ ?_
        · refine g_iload_n C 24 rfl rfl ?_
          refine g_if_ne C 25 rfl 63 (by decide) ?_ ?_
          · refine g_iload_n C 35 rfl rfl ?_
            refine g_iconst C 36 rfl 1 (by decide) ?_
            refine g_icmp_ne C 37 rfl 80 (by decide) ?_ ?_
            · refine g_aload_n C 45 rfl rfl ?_
              refine g_getR C 46 rfl fl_X7_52 rfl rfl ?_
              refine g_bipush C 47 rfl 7 (by decide) ?_
              refine g_iload_n C 48 rfl rfl ?_
              refine g_imul C 49 rfl ?_
              refine g_iload_n C 50 rfl rfl ?_
              refine g_iadd C 51 rfl ?_
              refine g_ck fun h2 => ?_
              refine g_iald C 52 rfl rfl h2 ?_
              skip
              exact g_iret C 53 rfl rfl
            · refine g_aload_n C 38 rfl rfl ?_
              refine g_getR C 39 rfl fl_X7_52 rfl rfl ?_
              refine g_bipush C 40 rfl 7 (by decide) ?_
              refine g_iload_n C 41 rfl rfl ?_
              refine g_imul C 42 rfl ?_
              refine g_ck fun h3 => ?_
              refine g_iald C 43 rfl rfl h3 ?_
              refine g_goto C 44 rfl 91 (by decide) ?_
              skip
              exact g_iret C 53 rfl rfl
          · refine g_aload_n C 26 rfl rfl ?_
            refine g_getR C 27 rfl fl_X7_52 rfl rfl ?_
            refine g_bipush C 28 rfl 7 (by decide) ?_
            refine g_iload_n C 29 rfl rfl ?_
            refine g_imul C 30 rfl ?_
            refine g_iconst C 31 rfl 1 (by decide) ?_
            refine g_iadd C 32 rfl ?_
            refine g_ck fun h4 => ?_
            refine g_iald C 33 rfl rfl h4 ?_
            refine g_goto C 34 rfl 91 (by decide) ?_
            skip
            exact g_iret C 53 rfl rfl
        · exact g_wk (s_X7_open_31 C σ x1) ⟨rfl, rfl, trivial⟩
    · refine g_iconst C 9 rfl (-1) (by decide) ?_
      skip
      exact g_iret C 10 rfl rfl
set_option maxHeartbeats 1000000 in
set_option maxRecDepth 100000 in
theorem m_X7_open (l : Launch) (dC : Nat → ClassId) (dI : Nat → Nat → Nat) (dA : Nat → ClassId) (ad : Nat → Nat) (hI : sw_inj sw_ZM ad) (σ : sw_St) (x1 : Int32) (x2 : Int32) (b : Int32) (hb : f_X7_open σ x1 x2 = some b) : sw_M sw_ZM l yX7_open cX7_open 3 (some .int) 1 dC dI dA ad [(sw_rv ad 1), (.int x1), (.int x2)] σ ((sw_eP σ) b) :=
  sw_mk1 (ψ := (sw_eP σ)) 0 (by decide) sw_ZMok hI dk_X7_open rfl (sw_c1_all _ ⟨sw_rv_cat _ _, rfl, rfl, trivial⟩) hb (fun p e R M C => s_X7_open C σ x1 x2)
/-! SplitWatchModel.day(II)I -/
def L_X7_day : sw_Is := [(0, .iload_n 1, 1, 1), (1, .i2l, 1, 2), (2, .lconst 0, 1, 3), (3, .ldc2_w 184, 3, 6), (6, .invokestatic 75, 3, 9), (9, .ifCond .eq 15, 3, 12), (12, .iload_n 2, 1, 13), (13, .i2l, 1, 14), (14, .lconst 1, 1, 15), (15, .ldc2_w 301, 3, 18), (18, .invokestatic 75, 3, 21), (21, .ifCond .ne 5, 3, 24), (24, .iconst (-1), 1, 25), (25, .ireturn, 1, 26), (26, .iconst 0, 1, 27), (27, .istore_n 3, 1, 28), (28, .iconst 0, 1, 29), (29, .istore 4, 2, 31), (31, .iload 4, 2, 33), (33, .iload_n 2, 1, 34), (34, .if_icmp .ge 151, 3, 37), (37, .ldc2_w 303, 3, 40), (40, .iload_n 1, 1, 41), (41, .i2l, 1, 42), (42, .lmul, 1, 43), (43, .ldc2_w 305, 3, 46), (46, .iload 4, 2, 48), (48, .i2l, 1, 49), (49, .lmul, 1, 50), (50, .ladd, 1, 51), (51, .lconst 1, 1, 52), (52, .ladd, 1, 53), (53, .lstore 5, 2, 55), (55, .lload 5, 2, 57), (57, .lload 5, 2, 59), (59, .lmul, 1, 60), (60, .ldc2_w 307, 3, 63), (63, .lrem, 1, 64), (64, .l2i, 1, 65), (65, .istore 7, 2, 67), (67, .iload 7, 2, 69), (69, .iconst 4, 1, 70), (70, .idiv, 1, 71), (71, .aload_n 0, 1, 72), (72, .getfield 81, 3, 75), (75, .irem, 1, 76), (76, .istore 8, 2, 78), (78, .iload 7, 2, 80), (80, .bipush 64, 2, 82), (82, .idiv, 1, 83), (83, .bipush 8, 2, 85), (85, .irem, 1, 86), (86, .istore 9, 2, 88), (88, .iload 7, 2, 90), (90, .iconst 4, 1, 91), (91, .irem, 1, 92), (92, .ifCond .ne 10, 3, 95), (95, .aload_n 0, 1, 96), (96, .invokevirtual 224, 3, 99), (99, .goto 58, 3, 102), (102, .iload 7, 2, 104), (104, .iconst 4, 1, 105), (105, .irem, 1, 106), (106, .iconst 1, 1, 107), (107, .if_icmp .ne 14, 3, 110), (110, .aload_n 0, 1, 111), (111, .iload 8, 2, 113), (113, .iload 9, 2, 115), (115, .invokevirtual 271, 3, 118), (118, .goto 39, 3, 121), (121, .iload 7, 2, 123), (123, .iconst 4, 1, 124), (124, .irem, 1, 125), (125, .iconst 2, 1, 126), (126, .if_icmp .ne 23, 3, 129), (129, .aload_n 0, 1, 130), (130, .iload 8, 2, 132), (132, .iload 9, 2, 134), (134, .iload 7, 2, 136), (136, .sipush 512, 3, 139), (139, .idiv, 1, 140), (140, .bipush 100, 2, 142), (142, .irem, 1, 143), (143, .invokevirtual 274, 3, 146), (146, .goto 11, 3, 149), (149, .aload_n 0, 1, 150), (150, .iload 8, 2, 152), (152, .iload 9, 2, 154), (154, .invokevirtual 277, 3, 157), (157, .istore 10, 2, 159), (159, .iload_n 3, 1, 160), (160, .iload 10, 2, 162), (162, .ifCond .ge 10, 3, 165), (165, .iload 10, 2, 167), (167, .bipush (-5), 2, 169), (169, .if_icmp .ne 7, 3, 172), (172, .iconst 1, 1, 173), (173, .goto 4, 3, 176), (176, .iconst 0, 1, 177), (177, .iadd, 1, 178), (178, .istore_n 3, 1, 179), (179, .iinc 4 1, 3, 182), (182, .goto (-151), 3, 185), (185, .iload_n 3, 1, 186), (186, .ireturn, 1, 187)]
theorem dk_X7_day : sw_dc cX7_day L_X7_day = true := by decide +kernel
def f_X7_day_177 (k31 : sw_St → Int32 → Int32 → Int32 → Int32 → Option (Int32 × sw_St)) (σ : sw_St) (x1 : Int32) (x2 : Int32) (x4 : Int32) (y0 : Int32) (y1 : Int32) : Option (Int32 × sw_St) := k31 σ x1 x2 (y1 + y0) (x4 + 1)
def f_X7_day_172 (k31 : sw_St → Int32 → Int32 → Int32 → Int32 → Option (Int32 × sw_St)) (σ : sw_St) (x1 : Int32) (x2 : Int32) (x4 : Int32) (y0 : Int32) : Option (Int32 × sw_St) := f_X7_day_177 k31 σ x1 x2 x4 1 y0
def f_X7_day_157 (k31 : sw_St → Int32 → Int32 → Int32 → Int32 → Option (Int32 × sw_St)) (σ : sw_St) (x1 : Int32) (x2 : Int32) (x3 : Int32) (x4 : Int32) (y0 : Int32) : Option (Int32 × sw_St) := if 0 ≤ y0 then (f_X7_day_172 k31 σ x1 x2 x4 x3) else (if y0 = (-5) then (f_X7_day_172 k31 σ x1 x2 x4 x3) else (f_X7_day_177 k31 σ x1 x2 x4 0 x3))
def f_X7_day_31  : Nat → sw_St → Int32 → Int32 → Int32 → Int32 → Option (Int32 × sw_St)
  | 0 => fun _ _ _ _ _ => none
  | n + 1 => fun σ x1 x2 x3 x4 => if x2 ≤ x4 then (some (x3, σ)) else (sw_ck (sw_n0 (σ 1 0)) (if (sw_rem (Int64.toInt32 (sw_lrem (((((7919 : Int64) * (Int32.toInt64 x1)) + ((6151 : Int64) * (Int32.toInt64 x4))) + (1 : Int64)) * ((((7919 : Int64) * (Int32.toInt64 x1)) + ((6151 : Int64) * (Int32.toInt64 x4))) + (1 : Int64))) (65521 : Int64))) 4) = 0 then ((f_X7_oneTurn σ).bind fun r5 => (f_X7_day_157 (f_X7_day_31 n) r5.2 x1 x2 x3 x4 r5.1)) else (if (sw_rem (Int64.toInt32 (sw_lrem (((((7919 : Int64) * (Int32.toInt64 x1)) + ((6151 : Int64) * (Int32.toInt64 x4))) + (1 : Int64)) * ((((7919 : Int64) * (Int32.toInt64 x1)) + ((6151 : Int64) * (Int32.toInt64 x4))) + (1 : Int64))) (65521 : Int64))) 4) = 1 then ((f_X7_read σ (sw_rem ((Int64.toInt32 (sw_lrem (((((7919 : Int64) * (Int32.toInt64 x1)) + ((6151 : Int64) * (Int32.toInt64 x4))) + (1 : Int64)) * ((((7919 : Int64) * (Int32.toInt64 x1)) + ((6151 : Int64) * (Int32.toInt64 x4))) + (1 : Int64))) (65521 : Int64))) / 4) (σ 1 0)) (sw_rem ((Int64.toInt32 (sw_lrem (((((7919 : Int64) * (Int32.toInt64 x1)) + ((6151 : Int64) * (Int32.toInt64 x4))) + (1 : Int64)) * ((((7919 : Int64) * (Int32.toInt64 x1)) + ((6151 : Int64) * (Int32.toInt64 x4))) + (1 : Int64))) (65521 : Int64))) / 64) 8)).bind fun r4 => (f_X7_day_157 (f_X7_day_31 n) r4.2 x1 x2 x3 x4 r4.1)) else (if (sw_rem (Int64.toInt32 (sw_lrem (((((7919 : Int64) * (Int32.toInt64 x1)) + ((6151 : Int64) * (Int32.toInt64 x4))) + (1 : Int64)) * ((((7919 : Int64) * (Int32.toInt64 x1)) + ((6151 : Int64) * (Int32.toInt64 x4))) + (1 : Int64))) (65521 : Int64))) 4) = 2 then ((f_X7_store σ (sw_rem ((Int64.toInt32 (sw_lrem (((((7919 : Int64) * (Int32.toInt64 x1)) + ((6151 : Int64) * (Int32.toInt64 x4))) + (1 : Int64)) * ((((7919 : Int64) * (Int32.toInt64 x1)) + ((6151 : Int64) * (Int32.toInt64 x4))) + (1 : Int64))) (65521 : Int64))) / 4) (σ 1 0)) (sw_rem ((Int64.toInt32 (sw_lrem (((((7919 : Int64) * (Int32.toInt64 x1)) + ((6151 : Int64) * (Int32.toInt64 x4))) + (1 : Int64)) * ((((7919 : Int64) * (Int32.toInt64 x1)) + ((6151 : Int64) * (Int32.toInt64 x4))) + (1 : Int64))) (65521 : Int64))) / 64) 8) (sw_rem ((Int64.toInt32 (sw_lrem (((((7919 : Int64) * (Int32.toInt64 x1)) + ((6151 : Int64) * (Int32.toInt64 x4))) + (1 : Int64)) * ((((7919 : Int64) * (Int32.toInt64 x1)) + ((6151 : Int64) * (Int32.toInt64 x4))) + (1 : Int64))) (65521 : Int64))) / 512) 100)).bind fun r3 => (f_X7_day_157 (f_X7_day_31 n) r3.2 x1 x2 x3 x4 r3.1)) else ((f_X7_drop σ (sw_rem ((Int64.toInt32 (sw_lrem (((((7919 : Int64) * (Int32.toInt64 x1)) + ((6151 : Int64) * (Int32.toInt64 x4))) + (1 : Int64)) * ((((7919 : Int64) * (Int32.toInt64 x1)) + ((6151 : Int64) * (Int32.toInt64 x4))) + (1 : Int64))) (65521 : Int64))) / 4) (σ 1 0)) (sw_rem ((Int64.toInt32 (sw_lrem (((((7919 : Int64) * (Int32.toInt64 x1)) + ((6151 : Int64) * (Int32.toInt64 x4))) + (1 : Int64)) * ((((7919 : Int64) * (Int32.toInt64 x1)) + ((6151 : Int64) * (Int32.toInt64 x4))) + (1 : Int64))) (65521 : Int64))) / 64) 8)).bind fun r2 => (f_X7_day_157 (f_X7_day_31 n) r2.2 x1 x2 x3 x4 r2.1))))))
def f_X7_day (σ : sw_St) (x1 : Int32) (x2 : Int32) : Option (Int32 × sw_St) := (f_X7_in σ (Int32.toInt64 x1) (0 : Int64) (9999 : Int64)).bind fun r1 => (if r1 = 0 then (some ((-1), σ)) else ((f_X7_in σ (Int32.toInt64 x2) (1 : Int64) (40 : Int64)).bind fun r2 => (if r2 = 0 then (some ((-1), σ)) else (f_X7_day_31 sw_fuel σ x1 x2 0 0))))
set_option maxHeartbeats 1000000 in
set_option maxRecDepth 100000 in
theorem s_X7_day_177 {V : sw_V} (C : sw_Cx sw_ZM V cX7_day RX7 11 (some .int) L_X7_day 6) (k31 : sw_St → Int32 → Int32 → Int32 → Int32 → Option (Int32 × sw_St)) (hk31 : ∀ (σ : sw_St) (x1 : Int32) (x2 : Int32) (x3 : Int32) (x4 : Int32), sw_S sw_ZM V sw_eI [some (sw_r V 1), some (.int x1), some (.int x2), some (.int x3), some (.int x4), none, none, none, none, none, none] [] 31 σ (k31 σ x1 x2 x3 x4)) (σ : sw_St) (x1 : Int32) (x2 : Int32) (x4 : Int32) (y0 : Int32) (y1 : Int32) : sw_S sw_ZM V sw_eI [some (sw_r V 1), some (.int x1), some (.int x2), none, some (.int x4), none, none, none, none, none, none] [(.int y0), (.int y1)] 177 σ (f_X7_day_177 k31 σ x1 x2 x4 y0 y1) := by
  unfold f_X7_day_177
  refine g_iadd C 99 rfl ?_
  refine g_istore_n C 100 rfl (Nat.le_of_ble_eq_true rfl) (Or.inr (Or.inr (Or.inl ⟨_, rfl⟩))) ?_
  refine g_iinc C 101 rfl 1 (by decide) rfl (Nat.le_of_ble_eq_true rfl) (Or.inr (Or.inr (Or.inl ⟨_, rfl⟩))) ?_
  refine g_goto C 102 rfl 31 (by decide) ?_
  exact g_wk (hk31 σ x1 x2 (y1 + y0) (x4 + 1)) ⟨rfl, rfl, rfl, rfl, rfl, trivial⟩
set_option maxHeartbeats 1000000 in
set_option maxRecDepth 100000 in
theorem s_X7_day_172 {V : sw_V} (C : sw_Cx sw_ZM V cX7_day RX7 11 (some .int) L_X7_day 6) (k31 : sw_St → Int32 → Int32 → Int32 → Int32 → Option (Int32 × sw_St)) (hk31 : ∀ (σ : sw_St) (x1 : Int32) (x2 : Int32) (x3 : Int32) (x4 : Int32), sw_S sw_ZM V sw_eI [some (sw_r V 1), some (.int x1), some (.int x2), some (.int x3), some (.int x4), none, none, none, none, none, none] [] 31 σ (k31 σ x1 x2 x3 x4)) (σ : sw_St) (x1 : Int32) (x2 : Int32) (x4 : Int32) (y0 : Int32) : sw_S sw_ZM V sw_eI [some (sw_r V 1), some (.int x1), some (.int x2), none, some (.int x4), none, none, none, none, none, none] [(.int y0)] 172 σ (f_X7_day_172 k31 σ x1 x2 x4 y0) := by
  unfold f_X7_day_172
  refine g_iconst C 96 rfl 1 (by decide) ?_
  refine g_goto C 97 rfl 177 (by decide) ?_
  exact g_wk (s_X7_day_177 C k31 hk31 σ x1 x2 x4 1 y0) ⟨rfl, rfl, rfl, rfl, trivial⟩
set_option maxHeartbeats 1000000 in
set_option maxRecDepth 100000 in
theorem s_X7_day_157 {V : sw_V} (C : sw_Cx sw_ZM V cX7_day RX7 11 (some .int) L_X7_day 6) (k31 : sw_St → Int32 → Int32 → Int32 → Int32 → Option (Int32 × sw_St)) (hk31 : ∀ (σ : sw_St) (x1 : Int32) (x2 : Int32) (x3 : Int32) (x4 : Int32), sw_S sw_ZM V sw_eI [some (sw_r V 1), some (.int x1), some (.int x2), some (.int x3), some (.int x4), none, none, none, none, none, none] [] 31 σ (k31 σ x1 x2 x3 x4)) (σ : sw_St) (x1 : Int32) (x2 : Int32) (x3 : Int32) (x4 : Int32) (y0 : Int32) : sw_S sw_ZM V sw_eI [some (sw_r V 1), some (.int x1), some (.int x2), some (.int x3), some (.int x4), none, none, none, none, none, none] [(.int y0)] 157 σ (f_X7_day_157 k31 σ x1 x2 x3 x4 y0) := by
  unfold f_X7_day_157
  refine g_istore C 89 rfl (Nat.le_of_ble_eq_true rfl) (Or.inr (Or.inl rfl)) ?_
  refine g_iload_n C 90 rfl rfl ?_
  refine g_iload C 91 rfl rfl ?_
  refine g_if_ge C 92 rfl 172 (by decide) ?_ ?_
  · exact g_wk (s_X7_day_172 C k31 hk31 σ x1 x2 x4 x3) ⟨rfl, rfl, rfl, rfl, trivial⟩
  · refine g_iload C 93 rfl rfl ?_
    refine g_bipush C 94 rfl (-5) (by decide) ?_
    refine g_icmp_ne C 95 rfl 176 (by decide) ?_ ?_
    · refine g_iconst C 98 rfl 0 (by decide) ?_
      exact g_wk (s_X7_day_177 C k31 hk31 σ x1 x2 x4 0 x3) ⟨rfl, rfl, rfl, rfl, trivial⟩
    · exact g_wk (s_X7_day_172 C k31 hk31 σ x1 x2 x4 x3) ⟨rfl, rfl, rfl, rfl, trivial⟩
set_option maxHeartbeats 1000000 in
set_option maxRecDepth 100000 in
theorem s_X7_day_31 {V : sw_V} (C : sw_Cx sw_ZM V cX7_day RX7 11 (some .int) L_X7_day 6) : ∀ (n : Nat) (σ : sw_St) (x1 : Int32) (x2 : Int32) (x3 : Int32) (x4 : Int32), sw_S sw_ZM V sw_eI [some (sw_r V 1), some (.int x1), some (.int x2), some (.int x3), some (.int x4), none, none, none, none, none, none] [] 31 σ (f_X7_day_31 n σ x1 x2 x3 x4) := by
  intro n
  induction n with
  | zero =>
    intro σ x1 x2 x3 x4
    exact g_none
  | succ n ih =>
    intro σ x1 x2 x3 x4
    rw [f_X7_day_31]
    refine g_iload C 18 rfl rfl ?_
    refine g_iload_n C 19 rfl rfl ?_
    refine g_icmp_ge C 20 rfl 185 (by decide) ?_ ?_
    · refine g_iload_n C 103 rfl rfl ?_
      skip
      exact g_iret C 104 rfl rfl
    · refine g_ldc2 C 21 rfl (7919 : Int64) q_1133 ?_
      refine g_iload_n C 22 rfl rfl ?_
      refine g_i2l C 23 rfl ?_
      refine g_lmul C 24 rfl ?_
      refine g_ldc2 C 25 rfl (6151 : Int64) q_1134 ?_
      refine g_iload C 26 rfl rfl ?_
      refine g_i2l C 27 rfl ?_
      refine g_lmul C 28 rfl ?_
      refine g_ladd C 29 rfl ?_
      refine g_lconst C 30 rfl (1 : Int64) (by decide) ?_
      refine g_ladd C 31 rfl ?_
      refine g_lstore C 32 rfl (Nat.le_of_ble_eq_true rfl) (Or.inr (Or.inr (Or.inl ⟨_, rfl⟩))) ?_
      refine g_lload C 33 rfl rfl ?_
      refine g_lload C 34 rfl rfl ?_
      refine g_lmul C 35 rfl ?_
      refine g_ldc2 C 36 rfl (65521 : Int64) q_1135 ?_
      refine g_lrem C 37 rfl (by decide) ?_
      refine g_l2i C 38 rfl ?_
      refine g_istore C 39 rfl (Nat.le_of_ble_eq_true rfl) (Or.inr (Or.inl rfl)) ?_
      refine g_iload C 40 rfl rfl ?_
      refine g_iconst C 41 rfl 4 (by decide) ?_
      refine g_idiv C 42 rfl (by decide) ?_
      refine g_aload_n C 43 rfl rfl ?_
      refine g_getI C 44 rfl fl_X7_81 rfl rfl ?_
      refine g_ck fun h1 => ?_
      refine g_irem C 45 rfl (of_decide_eq_true h1) ?_
      refine g_istore C 46 rfl (Nat.le_of_ble_eq_true rfl) (Or.inr (Or.inr (Or.inl ⟨_, rfl⟩))) ?_
      refine g_iload C 47 rfl rfl ?_
      refine g_bipush C 48 rfl 64 (by decide) ?_
      refine g_idiv C 49 rfl (by decide) ?_
      refine g_bipush C 50 rfl 8 (by decide) ?_
      refine g_irem C 51 rfl (by decide) ?_
      refine g_istore C 52 rfl (Nat.le_of_ble_eq_true rfl) (Or.inr (Or.inr (Or.inl ⟨_, rfl⟩))) ?_
      refine g_iload C 53 rfl rfl ?_
      refine g_iconst C 54 rfl 4 (by decide) ?_
      refine g_irem C 55 rfl (by decide) ?_
      refine g_if_ne C 56 rfl 102 (by decide) ?_ ?_
      · refine g_iload C 60 rfl rfl ?_
        refine g_iconst C 61 rfl 4 (by decide) ?_
        refine g_irem C 62 rfl (by decide) ?_
        refine g_iconst C 63 rfl 1 (by decide) ?_
        refine g_icmp_ne C 64 rfl 121 (by decide) ?_ ?_
        · refine g_iload C 70 rfl rfl ?_
          refine g_iconst C 71 rfl 4 (by decide) ?_
          refine g_irem C 72 rfl (by decide) ?_
          refine g_iconst C 73 rfl 2 (by decide) ?_
          refine g_icmp_ne C 74 rfl 149 (by decide) ?_ ?_
          · refine g_aload_n C 85 rfl rfl ?_
            refine g_iload C 86 rfl rfl ?_
            refine g_iload C 87 rfl rfl ?_
            refine g_callV (ψ₁ := sw_eI) C 88 rfl [(.int (sw_rem ((Int64.toInt32 (sw_lrem (((((7919 : Int64) * (Int32.toInt64 x1)) + ((6151 : Int64) * (Int32.toInt64 x4))) + (1 : Int64)) * ((((7919 : Int64) * (Int32.toInt64 x1)) + ((6151 : Int64) * (Int32.toInt64 x4))) + (1 : Int64))) (65521 : Int64))) / 4) (σ 1 0))), (.int (sw_rem ((Int64.toInt32 (sw_lrem (((((7919 : Int64) * (Int32.toInt64 x1)) + ((6151 : Int64) * (Int32.toInt64 x4))) + (1 : Int64)) * ((((7919 : Int64) * (Int32.toInt64 x1)) + ((6151 : Int64) * (Int32.toInt64 x4))) + (1 : Int64))) (65521 : Int64))) / 64) 8))] [] ml_X7_277 rfl (Nat.le_of_ble_eq_true rfl) (by decide) rfl rfl (fun b hb => m_X7_drop V.1.2.1 _ _ _ _ C.inj σ (sw_rem ((Int64.toInt32 (sw_lrem (((((7919 : Int64) * (Int32.toInt64 x1)) + ((6151 : Int64) * (Int32.toInt64 x4))) + (1 : Int64)) * ((((7919 : Int64) * (Int32.toInt64 x1)) + ((6151 : Int64) * (Int32.toInt64 x4))) + (1 : Int64))) (65521 : Int64))) / 4) (σ 1 0)) (sw_rem ((Int64.toInt32 (sw_lrem (((((7919 : Int64) * (Int32.toInt64 x1)) + ((6151 : Int64) * (Int32.toInt64 x4))) + (1 : Int64)) * ((((7919 : Int64) * (Int32.toInt64 x1)) + ((6151 : Int64) * (Int32.toInt64 x4))) + (1 : Int64))) (65521 : Int64))) / 64) 8) b hb) rfl (g_cI fun r2 => ?_)
            exact g_wk (s_X7_day_157 C (f_X7_day_31 n) ih r2.2 x1 x2 x3 x4 r2.1) ⟨rfl, rfl, rfl, rfl, rfl, trivial⟩
          · refine g_aload_n C 75 rfl rfl ?_
            refine g_iload C 76 rfl rfl ?_
            refine g_iload C 77 rfl rfl ?_
            refine g_iload C 78 rfl rfl ?_
            refine g_sipush C 79 rfl 512 (by decide) ?_
            refine g_idiv C 80 rfl (by decide) ?_
            refine g_bipush C 81 rfl 100 (by decide) ?_
            refine g_irem C 82 rfl (by decide) ?_
            refine g_callV (ψ₁ := sw_eI) C 83 rfl [(.int (sw_rem ((Int64.toInt32 (sw_lrem (((((7919 : Int64) * (Int32.toInt64 x1)) + ((6151 : Int64) * (Int32.toInt64 x4))) + (1 : Int64)) * ((((7919 : Int64) * (Int32.toInt64 x1)) + ((6151 : Int64) * (Int32.toInt64 x4))) + (1 : Int64))) (65521 : Int64))) / 4) (σ 1 0))), (.int (sw_rem ((Int64.toInt32 (sw_lrem (((((7919 : Int64) * (Int32.toInt64 x1)) + ((6151 : Int64) * (Int32.toInt64 x4))) + (1 : Int64)) * ((((7919 : Int64) * (Int32.toInt64 x1)) + ((6151 : Int64) * (Int32.toInt64 x4))) + (1 : Int64))) (65521 : Int64))) / 64) 8)), (.int (sw_rem ((Int64.toInt32 (sw_lrem (((((7919 : Int64) * (Int32.toInt64 x1)) + ((6151 : Int64) * (Int32.toInt64 x4))) + (1 : Int64)) * ((((7919 : Int64) * (Int32.toInt64 x1)) + ((6151 : Int64) * (Int32.toInt64 x4))) + (1 : Int64))) (65521 : Int64))) / 512) 100))] [] ml_X7_274 rfl (Nat.le_of_ble_eq_true rfl) (by decide) rfl rfl (fun b hb => m_X7_store V.1.2.1 _ _ _ _ C.inj σ (sw_rem ((Int64.toInt32 (sw_lrem (((((7919 : Int64) * (Int32.toInt64 x1)) + ((6151 : Int64) * (Int32.toInt64 x4))) + (1 : Int64)) * ((((7919 : Int64) * (Int32.toInt64 x1)) + ((6151 : Int64) * (Int32.toInt64 x4))) + (1 : Int64))) (65521 : Int64))) / 4) (σ 1 0)) (sw_rem ((Int64.toInt32 (sw_lrem (((((7919 : Int64) * (Int32.toInt64 x1)) + ((6151 : Int64) * (Int32.toInt64 x4))) + (1 : Int64)) * ((((7919 : Int64) * (Int32.toInt64 x1)) + ((6151 : Int64) * (Int32.toInt64 x4))) + (1 : Int64))) (65521 : Int64))) / 64) 8) (sw_rem ((Int64.toInt32 (sw_lrem (((((7919 : Int64) * (Int32.toInt64 x1)) + ((6151 : Int64) * (Int32.toInt64 x4))) + (1 : Int64)) * ((((7919 : Int64) * (Int32.toInt64 x1)) + ((6151 : Int64) * (Int32.toInt64 x4))) + (1 : Int64))) (65521 : Int64))) / 512) 100) b hb) rfl (g_cI fun r3 => ?_)
            refine g_goto C 84 rfl 157 (by decide) ?_
            exact g_wk (s_X7_day_157 C (f_X7_day_31 n) ih r3.2 x1 x2 x3 x4 r3.1) ⟨rfl, rfl, rfl, rfl, rfl, trivial⟩
        · refine g_aload_n C 65 rfl rfl ?_
          refine g_iload C 66 rfl rfl ?_
          refine g_iload C 67 rfl rfl ?_
          refine g_callV (ψ₁ := sw_eI) C 68 rfl [(.int (sw_rem ((Int64.toInt32 (sw_lrem (((((7919 : Int64) * (Int32.toInt64 x1)) + ((6151 : Int64) * (Int32.toInt64 x4))) + (1 : Int64)) * ((((7919 : Int64) * (Int32.toInt64 x1)) + ((6151 : Int64) * (Int32.toInt64 x4))) + (1 : Int64))) (65521 : Int64))) / 4) (σ 1 0))), (.int (sw_rem ((Int64.toInt32 (sw_lrem (((((7919 : Int64) * (Int32.toInt64 x1)) + ((6151 : Int64) * (Int32.toInt64 x4))) + (1 : Int64)) * ((((7919 : Int64) * (Int32.toInt64 x1)) + ((6151 : Int64) * (Int32.toInt64 x4))) + (1 : Int64))) (65521 : Int64))) / 64) 8))] [] ml_X7_271 rfl (Nat.le_of_ble_eq_true rfl) (by decide) rfl rfl (fun b hb => m_X7_read V.1.2.1 _ _ _ _ C.inj σ (sw_rem ((Int64.toInt32 (sw_lrem (((((7919 : Int64) * (Int32.toInt64 x1)) + ((6151 : Int64) * (Int32.toInt64 x4))) + (1 : Int64)) * ((((7919 : Int64) * (Int32.toInt64 x1)) + ((6151 : Int64) * (Int32.toInt64 x4))) + (1 : Int64))) (65521 : Int64))) / 4) (σ 1 0)) (sw_rem ((Int64.toInt32 (sw_lrem (((((7919 : Int64) * (Int32.toInt64 x1)) + ((6151 : Int64) * (Int32.toInt64 x4))) + (1 : Int64)) * ((((7919 : Int64) * (Int32.toInt64 x1)) + ((6151 : Int64) * (Int32.toInt64 x4))) + (1 : Int64))) (65521 : Int64))) / 64) 8) b hb) rfl (g_cI fun r4 => ?_)
          refine g_goto C 69 rfl 157 (by decide) ?_
          exact g_wk (s_X7_day_157 C (f_X7_day_31 n) ih r4.2 x1 x2 x3 x4 r4.1) ⟨rfl, rfl, rfl, rfl, rfl, trivial⟩
      · refine g_aload_n C 57 rfl rfl ?_
        refine g_callV (ψ₁ := sw_eI) C 58 rfl [] [] ml_X7_224 rfl (Nat.le_of_ble_eq_true rfl) (by decide) rfl rfl (fun b hb => m_X7_oneTurn V.1.2.1 _ _ _ _ C.inj σ b hb) rfl (g_cI fun r5 => ?_)
        refine g_goto C 59 rfl 157 (by decide) ?_
        exact g_wk (s_X7_day_157 C (f_X7_day_31 n) ih r5.2 x1 x2 x3 x4 r5.1) ⟨rfl, rfl, rfl, rfl, rfl, trivial⟩
set_option maxHeartbeats 1000000 in
set_option maxRecDepth 100000 in
theorem s_X7_day {V : sw_V} (C : sw_Cx sw_ZM V cX7_day RX7 11 (some .int) L_X7_day 6) (σ : sw_St) (x1 : Int32) (x2 : Int32) : sw_S sw_ZM V sw_eI [some (sw_r V 1), some (.int x1), some (.int x2), none, none, none, none, none, none, none, none] [] 0 σ (f_X7_day σ x1 x2) := by
  unfold f_X7_day
  refine g_iload_n C 0 rfl rfl ?_
  refine g_i2l C 1 rfl ?_
  refine g_lconst C 2 rfl (0 : Int64) (by decide) ?_
  refine g_ldc2 C 3 rfl (9999 : Int64) q_950 ?_
  refine g_callS (ψ₁ := sw_eP σ) C 4 rfl [(.long (Int32.toInt64 x1)), (.long (0 : Int64)), (.long (9999 : Int64))] [] ml_X7_75 rfl (Nat.le_of_ble_eq_true rfl) (by decide) (fun b hb => m_X7_in V.1.2.1 _ _ _ _ C.inj σ (Int32.toInt64 x1) (0 : Int64) (9999 : Int64) b hb) rfl (g_cP fun r1 => ?_)
  refine g_if_eq C 5 rfl 24 (by decide) ?_ ?_
  · refine g_iconst C 12 rfl (-1) (by decide) ?_
    skip
    exact g_iret C 13 rfl rfl
  · refine g_iload_n C 6 rfl rfl ?_
    refine g_i2l C 7 rfl ?_
    refine g_lconst C 8 rfl (1 : Int64) (by decide) ?_
    refine g_ldc2 C 9 rfl (40 : Int64) q_1132 ?_
    refine g_callS (ψ₁ := sw_eP σ) C 10 rfl [(.long (Int32.toInt64 x2)), (.long (1 : Int64)), (.long (40 : Int64))] [] ml_X7_75 rfl (Nat.le_of_ble_eq_true rfl) (by decide) (fun b hb => m_X7_in V.1.2.1 _ _ _ _ C.inj σ (Int32.toInt64 x2) (1 : Int64) (40 : Int64) b hb) rfl (g_cP fun r2 => ?_)
    refine g_if_ne C 11 rfl 26 (by decide) ?_ ?_
    · refine g_iconst C 14 rfl 0 (by decide) ?_
      refine g_istore_n C 15 rfl (Nat.le_of_ble_eq_true rfl) (Or.inr (Or.inr (Or.inl ⟨_, rfl⟩))) ?_
      refine g_iconst C 16 rfl 0 (by decide) ?_
      refine g_istore C 17 rfl (Nat.le_of_ble_eq_true rfl) (Or.inr (Or.inr (Or.inl ⟨_, rfl⟩))) ?_
      exact g_wk (s_X7_day_31 C sw_fuel σ x1 x2 0 0) ⟨rfl, rfl, rfl, rfl, rfl, trivial⟩
    · refine g_iconst C 12 rfl (-1) (by decide) ?_
      skip
      exact g_iret C 13 rfl rfl
set_option maxHeartbeats 1000000 in
set_option maxRecDepth 100000 in
theorem m_X7_day (l : Launch) (dC : Nat → ClassId) (dI : Nat → Nat → Nat) (dA : Nat → ClassId) (ad : Nat → Nat) (hI : sw_inj sw_ZM ad) (σ : sw_St) (x1 : Int32) (x2 : Int32) (b : (Int32 × sw_St)) (hb : f_X7_day σ x1 x2 = some b) : sw_M sw_ZM l yX7_day cX7_day 11 (some .int) 6 dC dI dA ad [(sw_rv ad 1), (.int x1), (.int x2)] σ (sw_eI b) :=
  sw_mk1 (ψ := sw_eI) 8 (by decide) sw_ZMok hI dk_X7_day rfl (sw_c1_all _ ⟨sw_rv_cat _ _, rfl, rfl, trivial⟩) hb (fun p e R M C => s_X7_day C σ x1 x2)
/-! SplitWatchModel.count(I)I -/
def L_X7_count : sw_Is := [(0, .iload_n 1, 1, 1), (1, .tableswitch 114 0 10 #[59, 64, 69, 74, 79, 84, 89, 94, 99, 104, 109], 59, 60), (60, .aload_n 0, 1, 61), (61, .getfield 81, 3, 64), (64, .ireturn, 1, 65), (65, .aload_n 0, 1, 66), (66, .getfield 85, 3, 69), (69, .ireturn, 1, 70), (70, .aload_n 0, 1, 71), (71, .getfield 88, 3, 74), (74, .ireturn, 1, 75), (75, .aload_n 0, 1, 76), (76, .getfield 91, 3, 79), (79, .ireturn, 1, 80), (80, .aload_n 0, 1, 81), (81, .getfield 94, 3, 84), (84, .ireturn, 1, 85), (85, .aload_n 0, 1, 86), (86, .getfield 106, 3, 89), (89, .ireturn, 1, 90), (90, .aload_n 0, 1, 91), (91, .getfield 109, 3, 94), (94, .ireturn, 1, 95), (95, .aload_n 0, 1, 96), (96, .getfield 112, 3, 99), (99, .ireturn, 1, 100), (100, .aload_n 0, 1, 101), (101, .getfield 115, 3, 104), (104, .ireturn, 1, 105), (105, .aload_n 0, 1, 106), (106, .getfield 118, 3, 109), (109, .ireturn, 1, 110), (110, .aload_n 0, 1, 111), (111, .getfield 231, 3, 114), (114, .ireturn, 1, 115), (115, .iconst (-1), 1, 116), (116, .ireturn, 1, 117)]
theorem dk_X7_count : sw_dc cX7_count L_X7_count = true := by decide +kernel
def f_X7_count (σ : sw_St) (x1 : Int32) : Option Int32 := if x1 = 0 then (some (σ 1 0)) else (if x1 = 1 then (some (σ 1 1)) else (if x1 = 2 then (some (σ 1 2)) else (if x1 = 3 then (some (σ 1 3)) else (if x1 = 4 then (some (σ 1 4)) else (if x1 = 5 then (some (σ 1 23)) else (if x1 = 6 then (some (σ 1 25)) else (if x1 = 7 then (some (σ 1 26)) else (if x1 = 8 then (some (σ 1 27)) else (if x1 = 9 then (some (σ 1 28)) else (if x1 = 10 then (some (σ 1 29)) else (some (-1))))))))))))
set_option maxHeartbeats 1000000 in
set_option maxRecDepth 100000 in
theorem s_X7_count {V : sw_V} (C : sw_Cx sw_ZM V cX7_count RX7 2 (some .int) L_X7_count 0) (σ : sw_St) (x1 : Int32) : sw_S sw_ZM V (sw_eP σ) [some (sw_r V 1), some (.int x1)] [] 0 σ (f_X7_count σ x1) := by
  unfold f_X7_count
  refine g_iload_n C 0 rfl rfl ?_
  skip
  refine g_tin C 1 rfl 0 60 (by decide) 59 (by decide) (by decide) ?_ (fun h1 => ?_)
  · refine g_aload_n C 2 rfl rfl ?_
    refine g_getI C 3 rfl fl_X7_81 rfl rfl ?_
    skip
    exact g_iret C 4 rfl rfl
  refine g_tin C 1 rfl 1 65 (by decide) 64 (by decide) (by decide) ?_ (fun h2 => ?_)
  · refine g_aload_n C 5 rfl rfl ?_
    refine g_getI C 6 rfl fl_X7_85 rfl rfl ?_
    skip
    exact g_iret C 7 rfl rfl
  refine g_tin C 1 rfl 2 70 (by decide) 69 (by decide) (by decide) ?_ (fun h3 => ?_)
  · refine g_aload_n C 8 rfl rfl ?_
    refine g_getI C 9 rfl fl_X7_88 rfl rfl ?_
    skip
    exact g_iret C 10 rfl rfl
  refine g_tin C 1 rfl 3 75 (by decide) 74 (by decide) (by decide) ?_ (fun h4 => ?_)
  · refine g_aload_n C 11 rfl rfl ?_
    refine g_getI C 12 rfl fl_X7_91 rfl rfl ?_
    skip
    exact g_iret C 13 rfl rfl
  refine g_tin C 1 rfl 4 80 (by decide) 79 (by decide) (by decide) ?_ (fun h5 => ?_)
  · refine g_aload_n C 14 rfl rfl ?_
    refine g_getI C 15 rfl fl_X7_94 rfl rfl ?_
    skip
    exact g_iret C 16 rfl rfl
  refine g_tin C 1 rfl 5 85 (by decide) 84 (by decide) (by decide) ?_ (fun h6 => ?_)
  · refine g_aload_n C 17 rfl rfl ?_
    refine g_getI C 18 rfl fl_X7_106 rfl rfl ?_
    skip
    exact g_iret C 19 rfl rfl
  refine g_tin C 1 rfl 6 90 (by decide) 89 (by decide) (by decide) ?_ (fun h7 => ?_)
  · refine g_aload_n C 20 rfl rfl ?_
    refine g_getI C 21 rfl fl_X7_109 rfl rfl ?_
    skip
    exact g_iret C 22 rfl rfl
  refine g_tin C 1 rfl 7 95 (by decide) 94 (by decide) (by decide) ?_ (fun h8 => ?_)
  · refine g_aload_n C 23 rfl rfl ?_
    refine g_getI C 24 rfl fl_X7_112 rfl rfl ?_
    skip
    exact g_iret C 25 rfl rfl
  refine g_tin C 1 rfl 8 100 (by decide) 99 (by decide) (by decide) ?_ (fun h9 => ?_)
  · refine g_aload_n C 26 rfl rfl ?_
    refine g_getI C 27 rfl fl_X7_115 rfl rfl ?_
    skip
    exact g_iret C 28 rfl rfl
  refine g_tin C 1 rfl 9 105 (by decide) 104 (by decide) (by decide) ?_ (fun h10 => ?_)
  · refine g_aload_n C 29 rfl rfl ?_
    refine g_getI C 30 rfl fl_X7_118 rfl rfl ?_
    skip
    exact g_iret C 31 rfl rfl
  refine g_tin C 1 rfl 10 110 (by decide) 109 (by decide) (by decide) ?_ (fun h11 => ?_)
  · refine g_aload_n C 32 rfl rfl ?_
    refine g_getI C 33 rfl fl_X7_231 rfl rfl ?_
    skip
    exact g_iret C 34 rfl rfl
  refine g_tout C 1 rfl 115 (by have a0 := lv_neT (a := 0) h1 (by decide); have a1 := lv_neT (a := 1) h2 (by decide); have a2 := lv_neT (a := 2) h3 (by decide); have a3 := lv_neT (a := 3) h4 (by decide); have a4 := lv_neT (a := 4) h5 (by decide); have a5 := lv_neT (a := 5) h6 (by decide); have a6 := lv_neT (a := 6) h7 (by decide); have a7 := lv_neT (a := 7) h8 (by decide); have a8 := lv_neT (a := 8) h9 (by decide); have a9 := lv_neT (a := 9) h10 (by decide); have a10 := lv_neT (a := 10) h11 (by decide); omega) (by decide) ?_
  refine g_iconst C 35 rfl (-1) (by decide) ?_
  skip
  exact g_iret C 36 rfl rfl
set_option maxHeartbeats 1000000 in
set_option maxRecDepth 100000 in
theorem m_X7_count (l : Launch) (dC : Nat → ClassId) (dI : Nat → Nat → Nat) (dA : Nat → ClassId) (ad : Nat → Nat) (hI : sw_inj sw_ZM ad) (σ : sw_St) (x1 : Int32) (b : Int32) (hb : f_X7_count σ x1 = some b) : sw_M sw_ZM l yX7_count cX7_count 2 (some .int) 0 dC dI dA ad [(sw_rv ad 1), (.int x1)] σ ((sw_eP σ) b) :=
  sw_mk1 (ψ := (sw_eP σ)) 0 (by decide) sw_ZMok hI dk_X7_count rfl (sw_c1_all _ ⟨sw_rv_cat _ _, rfl, trivial⟩) hb (fun p e R M C => s_X7_count C σ x1)
