/-! SplitWatch.open(II)I -/
def L_X6_open : sw_Is := [(0, .iload_n 1, 1, 1), (1, .iconst (-1), 1, 2), (2, .if_icmp .lt 12, 3, 5), (5, .iload_n 2, 1, 6), (6, .iconst 0, 1, 7), (7, .iconst 4, 1, 8), (8, .invokestatic 27, 3, 11), (11, .ifCond .ne 5, 3, 14), (14, .iconst (-1), 1, 15), (15, .ireturn, 1, 16), (16, .iload_n 1, 1, 17), (17, .iconst (-1), 1, 18), (18, .if_icmp .ne 12, 3, 21), (21, .aload_n 0, 1, 22), (22, .getfield 10, 3, 25), (25, .iconst 2, 1, 26), (26, .invokevirtual 182, 3, 29), (29, .ireturn, 1, 30), (30, .aload_n 0, 1, 31), (31, .getfield 10, 3, 34), (34, .iload_n 1, 1, 35), (35, .invokevirtual 194, 3, 38), (38, .astore_n 3, 1, 39), (39, .aload_n 3, 1, 40), (40, .ifnonnull 6, 3, 43), (43, .bipush (-4), 2, 45), (45, .ireturn, 1, 46), (46, .iload_n 2, 1, 47), (47, .tableswitch 49 0 3 #[29, 34, 39, 44], 29, 76), (76, .aload_n 3, 1, 77), (77, .getfield 188, 3, 80), (80, .ireturn, 1, 81), (81, .aload_n 3, 1, 82), (82, .getfield 170, 3, 85), (85, .ireturn, 1, 86), (86, .aload_n 3, 1, 87), (87, .getfield 147, 3, 90), (90, .ireturn, 1, 91), (91, .aload_n 3, 1, 92), (92, .getfield 197, 3, 95), (95, .ireturn, 1, 96), (96, .aload_n 3, 1, 97), (97, .getfield 200, 3, 100), (100, .ireturn, 1, 101)]
theorem dk_X6_open : sw_dc cX6_open L_X6_open = true := by decide +kernel
def f_X6_open (σ : sw_St) (x1 : Int32) (x2 : Int32) : Option Int32 := if x1 < (-1) then (some (-1)) else ((f_X6_isWithin σ x2 0 4).bind fun r1 => (if r1 = 0 then (some (-1)) else (if x1 = (-1) then ((f_X0_countAt σ 2).bind fun r12 => (some r12)) else ((f_X0_openAt σ x1).bind fun r2 => (if r2 = 0 then (some (-4)) else (if x2 = 0 then (sw_ck (sw_isQ r2) (some (σ r2 0))) else (if x2 = 1 then (sw_ck (sw_isQ r2) (some (σ r2 2))) else (if x2 = 2 then (sw_ck (sw_isQ r2) (some (σ r2 3))) else (if x2 = 3 then (sw_ck (sw_isQ r2) (some (σ r2 9))) else (sw_ck (sw_isQ r2) (some (σ r2 10))))))))))))
set_option maxHeartbeats 1000000 in
set_option maxRecDepth 100000 in
theorem s_X6_open {V : sw_V} (C : sw_Cx sw_ZX V cX6_open RX6 4 (some .int) L_X6_open 2) (σ : sw_St) (x1 : Int32) (x2 : Int32) : sw_S sw_ZX V (sw_eP σ) [some (sw_r V 1), some (.int x1), some (.int x2), none] [] 0 σ (f_X6_open σ x1 x2) := by
  unfold f_X6_open
  refine g_iload_n C 0 rfl rfl ?_
  refine g_iconst C 1 rfl (-1) (by decide) ?_
  refine g_icmp_lt C 2 rfl 14 (by decide) ?_ ?_
  · refine g_iconst C 8 rfl (-1) (by decide) ?_
    skip
    exact g_iret C 9 rfl rfl
  · refine g_iload_n C 3 rfl rfl ?_
    refine g_iconst C 4 rfl 0 (by decide) ?_
    refine g_iconst C 5 rfl 4 (by decide) ?_
    refine g_callS (ψ₁ := sw_eP σ) C 6 rfl [(.int x2), (.int 0), (.int 4)] [] ml_X6_27 rfl (Nat.le_of_ble_eq_true rfl) (by decide) (fun b hb => m_X6_isWithin V.1.2.1 _ _ _ _ C.inj σ x2 0 4 b hb) rfl (g_cP fun r1 => ?_)
    refine g_if_ne C 7 rfl 16 (by decide) ?_ ?_
    · refine g_iload_n C 10 rfl rfl ?_
      refine g_iconst C 11 rfl (-1) (by decide) ?_
      refine g_icmp_ne C 12 rfl 30 (by decide) ?_ ?_
      · refine g_aload_n C 18 rfl rfl ?_
        refine g_getR C 19 rfl fl_X6_10 rfl rfl ?_
        refine g_iload_n C 20 rfl rfl ?_
        refine g_callV (ψ₁ := sw_eR V.2.2.2.2.2 σ) C 21 rfl [(.int x1)] [] ml_X6_194 rfl (Nat.le_of_ble_eq_true rfl) (by decide) rfl rfl (fun b hb => m_X0_openAt V.1.2.1 _ _ _ _ C.inj σ x1 b hb) rfl (g_cR fun r2 => ?_)
        refine g_astore_n C 22 rfl (Nat.le_of_ble_eq_true rfl) (Or.inr (Or.inr (Or.inl ⟨_, rfl⟩))) ?_
        refine g_aload_n C 23 rfl rfl ?_
        refine g_ifnonnull C 24 rfl 46 (by decide) ?_ ?_
        · refine g_iload_n C 27 rfl rfl ?_
          skip
          refine g_tin C 28 rfl 0 76 (by decide) 29 (by decide) (by decide) ?_ (fun h4 => ?_)
          · refine g_aload_n C 29 rfl rfl ?_
            refine g_ck fun h3 => ?_
            refine g_getI C 30 rfl fl_X6_188 (sh_Q h3) rfl ?_
            skip
            exact g_iret C 31 rfl rfl
          refine g_tin C 28 rfl 1 81 (by decide) 34 (by decide) (by decide) ?_ (fun h6 => ?_)
          · refine g_aload_n C 32 rfl rfl ?_
            refine g_ck fun h5 => ?_
            refine g_getI C 33 rfl fl_X6_170 (sh_Q h5) rfl ?_
            skip
            exact g_iret C 34 rfl rfl
          refine g_tin C 28 rfl 2 86 (by decide) 39 (by decide) (by decide) ?_ (fun h8 => ?_)
          · refine g_aload_n C 35 rfl rfl ?_
            refine g_ck fun h7 => ?_
            refine g_getI C 36 rfl fl_X6_147 (sh_Q h7) rfl ?_
            skip
            exact g_iret C 37 rfl rfl
          refine g_tin C 28 rfl 3 91 (by decide) 44 (by decide) (by decide) ?_ (fun h10 => ?_)
          · refine g_aload_n C 38 rfl rfl ?_
            refine g_ck fun h9 => ?_
            refine g_getI C 39 rfl fl_X6_197 (sh_Q h9) rfl ?_
            skip
            exact g_iret C 40 rfl rfl
          refine g_tout C 28 rfl 96 (by have a0 := lv_neT (a := 0) h4 (by decide); have a1 := lv_neT (a := 1) h6 (by decide); have a2 := lv_neT (a := 2) h8 (by decide); have a3 := lv_neT (a := 3) h10 (by decide); omega) (by decide) ?_
          refine g_aload_n C 41 rfl rfl ?_
          refine g_ck fun h11 => ?_
          refine g_getI C 42 rfl fl_X6_200 (sh_Q h11) rfl ?_
          skip
          exact g_iret C 43 rfl rfl
        · refine g_bipush C 25 rfl (-4) (by decide) ?_
          skip
          exact g_iret C 26 rfl rfl
      · refine g_aload_n C 13 rfl rfl ?_
        refine g_getR C 14 rfl fl_X6_10 rfl rfl ?_
        refine g_iconst C 15 rfl 2 (by decide) ?_
        refine g_callV (ψ₁ := sw_eP σ) C 16 rfl [(.int 2)] [] ml_X6_182 rfl (Nat.le_of_ble_eq_true rfl) (by decide) rfl rfl (fun b hb => m_X0_countAt V.1.2.1 _ _ _ _ C.inj σ 2 b hb) rfl (g_cP fun r12 => ?_)
        skip
        exact g_iret C 17 rfl rfl
    · refine g_iconst C 8 rfl (-1) (by decide) ?_
      skip
      exact g_iret C 9 rfl rfl
set_option maxHeartbeats 1000000 in
set_option maxRecDepth 100000 in
theorem m_X6_open (l : Launch) (dC : Nat → ClassId) (dI : Nat → Nat → Nat) (dA : Nat → ClassId) (ad : Nat → Nat) (hI : sw_inj sw_ZX ad) (σ : sw_St) (x1 : Int32) (x2 : Int32) (b : Int32) (hb : f_X6_open σ x1 x2 = some b) : sw_M sw_ZX l yX6_open cX6_open 4 (some .int) 2 dC dI dA ad [(sw_rv ad 1), (.int x1), (.int x2)] σ ((sw_eP σ) b) :=
  sw_mk1 (ψ := (sw_eP σ)) 1 (by decide) sw_ZXok hI dk_X6_open rfl (sw_c1_all _ ⟨sw_rv_cat _ _, rfl, rfl, trivial⟩) hb (fun p e R M C => s_X6_open C σ x1 x2)
/-! SplitWatch.day(II)I -/
def L_X6_day : sw_Is := [(0, .iload_n 1, 1, 1), (1, .iconst 0, 1, 2), (2, .sipush 9999, 3, 5), (5, .invokestatic 27, 3, 8), (8, .ifCond .eq 13, 3, 11), (11, .iload_n 2, 1, 12), (12, .iconst 1, 1, 13), (13, .bipush 40, 2, 15), (15, .invokestatic 27, 3, 18), (18, .ifCond .ne 5, 3, 21), (21, .iconst (-1), 1, 22), (22, .ireturn, 1, 23), (23, .aload_n 0, 1, 24), (24, .getfield 10, 3, 27), (27, .getfield 64, 3, 30), (30, .iconst 1, 1, 31), (31, .invokestatic 203, 3, 34), (34, .istore_n 3, 1, 35), (35, .iconst 0, 1, 36), (36, .istore 4, 2, 38), (38, .iconst 0, 1, 39), (39, .istore 5, 2, 41), (41, .iload 5, 2, 43), (43, .iload_n 2, 1, 44), (44, .if_icmp .ge 99, 3, 47), (47, .ldc2_w 208, 3, 50), (50, .iload_n 1, 1, 51), (51, .i2l, 1, 52), (52, .lmul, 1, 53), (53, .ldc2_w 210, 3, 56), (56, .iload 5, 2, 58), (58, .i2l, 1, 59), (59, .lmul, 1, 60), (60, .ladd, 1, 61), (61, .lconst 1, 1, 62), (62, .ladd, 1, 63), (63, .lstore 6, 2, 65), (65, .lload 6, 2, 67), (67, .lload 6, 2, 69), (69, .lmul, 1, 70), (70, .ldc2_w 212, 3, 73), (73, .lrem, 1, 74), (74, .l2i, 1, 75), (75, .istore 8, 2, 77), (77, .iload 8, 2, 79), (79, .iconst 4, 1, 80), (80, .irem, 1, 81), (81, .istore 9, 2, 83), (83, .iload 9, 2, 85), (85, .ifCond .ne 7, 3, 88), (88, .iconst 1, 1, 89), (89, .goto 9, 3, 92), (92, .iload 8, 2, 94), (94, .iconst 4, 1, 95), (95, .idiv, 1, 96), (96, .iload_n 3, 1, 97), (97, .irem, 1, 98), (98, .istore 10, 2, 100), (100, .aload_n 0, 1, 101), (101, .getfield 10, 3, 104), (104, .iload 9, 2, 106), (106, .iload 10, 2, 108), (108, .iload 8, 2, 110), (110, .bipush 64, 2, 112), (112, .idiv, 1, 113), (113, .bipush 8, 2, 115), (115, .irem, 1, 116), (116, .iload 8, 2, 118), (118, .sipush 512, 3, 121), (121, .idiv, 1, 122), (122, .bipush 100, 2, 124), (124, .irem, 1, 125), (125, .invokevirtual 81, 3, 128), (128, .invokestatic 85, 3, 131), (131, .ifCond .ne 6, 3, 134), (134, .iinc 4 1, 3, 137), (137, .iinc 5 1, 3, 140), (140, .goto (-99), 3, 143), (143, .iload 4, 2, 145), (145, .ireturn, 1, 146)]
theorem dk_X6_day : sw_dc cX6_day L_X6_day = true := by decide +kernel
def f_X6_day_98 (k41 : sw_St → Int32 → Int32 → Int32 → Int32 → Int32 → Option (Int32 × sw_St)) (σ : sw_St) (x1 : Int32) (x2 : Int32) (x3 : Int32) (x4 : Int32) (x5 : Int32) (x8 : Int32) (x9 : Int32) (y0 : Int32) : Option (Int32 × sw_St) := (f_X0_perform σ x9 y0 (sw_rem (x8 / 64) 8) (sw_rem (x8 / 512) 100)).bind fun r1 => ((f_X6_isRefusal r1.2 r1.1).bind fun r2 => (if r2 = 0 then (k41 r1.2 x1 x2 x3 (x4 + 1) (x5 + 1)) else (k41 r1.2 x1 x2 x3 x4 (x5 + 1))))
def f_X6_day_41  : Nat → sw_St → Int32 → Int32 → Int32 → Int32 → Int32 → Option (Int32 × sw_St)
  | 0 => fun _ _ _ _ _ _ => none
  | n + 1 => fun σ x1 x2 x3 x4 x5 => if x2 ≤ x5 then (some (x4, σ)) else (if (sw_rem (Int64.toInt32 (sw_lrem (((((7919 : Int64) * (Int32.toInt64 x1)) + ((6151 : Int64) * (Int32.toInt64 x5))) + (1 : Int64)) * ((((7919 : Int64) * (Int32.toInt64 x1)) + ((6151 : Int64) * (Int32.toInt64 x5))) + (1 : Int64))) (65521 : Int64))) 4) = 0 then (f_X6_day_98 (f_X6_day_41 n) σ x1 x2 x3 x4 x5 (Int64.toInt32 (sw_lrem (((((7919 : Int64) * (Int32.toInt64 x1)) + ((6151 : Int64) * (Int32.toInt64 x5))) + (1 : Int64)) * ((((7919 : Int64) * (Int32.toInt64 x1)) + ((6151 : Int64) * (Int32.toInt64 x5))) + (1 : Int64))) (65521 : Int64))) (sw_rem (Int64.toInt32 (sw_lrem (((((7919 : Int64) * (Int32.toInt64 x1)) + ((6151 : Int64) * (Int32.toInt64 x5))) + (1 : Int64)) * ((((7919 : Int64) * (Int32.toInt64 x1)) + ((6151 : Int64) * (Int32.toInt64 x5))) + (1 : Int64))) (65521 : Int64))) 4) 1) else (sw_ck (sw_n0 x3) (f_X6_day_98 (f_X6_day_41 n) σ x1 x2 x3 x4 x5 (Int64.toInt32 (sw_lrem (((((7919 : Int64) * (Int32.toInt64 x1)) + ((6151 : Int64) * (Int32.toInt64 x5))) + (1 : Int64)) * ((((7919 : Int64) * (Int32.toInt64 x1)) + ((6151 : Int64) * (Int32.toInt64 x5))) + (1 : Int64))) (65521 : Int64))) (sw_rem (Int64.toInt32 (sw_lrem (((((7919 : Int64) * (Int32.toInt64 x1)) + ((6151 : Int64) * (Int32.toInt64 x5))) + (1 : Int64)) * ((((7919 : Int64) * (Int32.toInt64 x1)) + ((6151 : Int64) * (Int32.toInt64 x5))) + (1 : Int64))) (65521 : Int64))) 4) (sw_rem ((Int64.toInt32 (sw_lrem (((((7919 : Int64) * (Int32.toInt64 x1)) + ((6151 : Int64) * (Int32.toInt64 x5))) + (1 : Int64)) * ((((7919 : Int64) * (Int32.toInt64 x1)) + ((6151 : Int64) * (Int32.toInt64 x5))) + (1 : Int64))) (65521 : Int64))) / 4) x3))))
def f_X6_day (σ : sw_St) (x1 : Int32) (x2 : Int32) : Option (Int32 × sw_St) := (f_X6_isWithin σ x1 0 9999).bind fun r1 => (if r1 = 0 then (some ((-1), σ)) else ((f_X6_isWithin σ x2 1 40).bind fun r2 => (if r2 = 0 then (some ((-1), σ)) else (f_X6_day_41 sw_fuel σ x1 x2 (if (σ 2 4) < 1 then 1 else (σ 2 4)) 0 0))))
set_option maxHeartbeats 1000000 in
set_option maxRecDepth 100000 in
theorem s_X6_day_98 {V : sw_V} (C : sw_Cx sw_ZX V cX6_day RX6 11 (some .int) L_X6_day 6) (k41 : sw_St → Int32 → Int32 → Int32 → Int32 → Int32 → Option (Int32 × sw_St)) (hk41 : ∀ (σ : sw_St) (x1 : Int32) (x2 : Int32) (x3 : Int32) (x4 : Int32) (x5 : Int32), sw_S sw_ZX V sw_eI [some (sw_r V 1), some (.int x1), some (.int x2), some (.int x3), some (.int x4), some (.int x5), none, none, none, none, none] [] 41 σ (k41 σ x1 x2 x3 x4 x5)) (σ : sw_St) (x1 : Int32) (x2 : Int32) (x3 : Int32) (x4 : Int32) (x5 : Int32) (x8 : Int32) (x9 : Int32) (y0 : Int32) : sw_S sw_ZX V sw_eI [some (sw_r V 1), some (.int x1), some (.int x2), some (.int x3), some (.int x4), some (.int x5), none, none, some (.int x8), some (.int x9), none] [(.int y0)] 98 σ (f_X6_day_98 k41 σ x1 x2 x3 x4 x5 x8 x9 y0) := by
  unfold f_X6_day_98
  refine g_istore C 57 rfl (Nat.le_of_ble_eq_true rfl) (Or.inr (Or.inr (Or.inl ⟨_, rfl⟩))) ?_
  refine g_aload_n C 58 rfl rfl ?_
  refine g_getR C 59 rfl fl_X6_10 rfl rfl ?_
  refine g_iload C 60 rfl rfl ?_
  refine g_iload C 61 rfl rfl ?_
  refine g_iload C 62 rfl rfl ?_
  refine g_bipush C 63 rfl 64 (by decide) ?_
  refine g_idiv C 64 rfl (by decide) ?_
  refine g_bipush C 65 rfl 8 (by decide) ?_
  refine g_irem C 66 rfl (by decide) ?_
  refine g_iload C 67 rfl rfl ?_
  refine g_sipush C 68 rfl 512 (by decide) ?_
  refine g_idiv C 69 rfl (by decide) ?_
  refine g_bipush C 70 rfl 100 (by decide) ?_
  refine g_irem C 71 rfl (by decide) ?_
  refine g_callV (ψ₁ := sw_eI) C 72 rfl [(.int x9), (.int y0), (.int (sw_rem (x8 / 64) 8)), (.int (sw_rem (x8 / 512) 100))] [] ml_X6_81 rfl (Nat.le_of_ble_eq_true rfl) (by decide) rfl rfl (fun b hb => m_X0_perform V.1.2.1 _ _ _ _ C.inj σ x9 y0 (sw_rem (x8 / 64) 8) (sw_rem (x8 / 512) 100) b hb) rfl (g_cI fun r1 => ?_)
  refine g_callS (ψ₁ := sw_eP r1.2) C 73 rfl [(.int r1.1)] [] ml_X6_85 rfl (Nat.le_of_ble_eq_true rfl) (by decide) (fun b hb => m_X6_isRefusal V.1.2.1 _ _ _ _ C.inj r1.2 r1.1 b hb) rfl (g_cP fun r2 => ?_)
  refine g_if_ne C 74 rfl 137 (by decide) ?_ ?_
  · refine g_iinc C 76 rfl 1 (by decide) rfl (Nat.le_of_ble_eq_true rfl) (Or.inr (Or.inr (Or.inl ⟨_, rfl⟩))) ?_
    refine g_goto C 77 rfl 41 (by decide) ?_
    exact g_wk (hk41 r1.2 x1 x2 x3 x4 (x5 + 1)) ⟨rfl, rfl, rfl, rfl, rfl, rfl, trivial⟩
  · refine g_iinc C 75 rfl 1 (by decide) rfl (Nat.le_of_ble_eq_true rfl) (Or.inr (Or.inr (Or.inl ⟨_, rfl⟩))) ?_
    refine g_iinc C 76 rfl 1 (by decide) rfl (Nat.le_of_ble_eq_true rfl) (Or.inr (Or.inr (Or.inl ⟨_, rfl⟩))) ?_
    refine g_goto C 77 rfl 41 (by decide) ?_
    exact g_wk (hk41 r1.2 x1 x2 x3 (x4 + 1) (x5 + 1)) ⟨rfl, rfl, rfl, rfl, rfl, rfl, trivial⟩
set_option maxHeartbeats 1000000 in
set_option maxRecDepth 100000 in
theorem s_X6_day_41 {V : sw_V} (C : sw_Cx sw_ZX V cX6_day RX6 11 (some .int) L_X6_day 6) : ∀ (n : Nat) (σ : sw_St) (x1 : Int32) (x2 : Int32) (x3 : Int32) (x4 : Int32) (x5 : Int32), sw_S sw_ZX V sw_eI [some (sw_r V 1), some (.int x1), some (.int x2), some (.int x3), some (.int x4), some (.int x5), none, none, none, none, none] [] 41 σ (f_X6_day_41 n σ x1 x2 x3 x4 x5) := by
  intro n
  induction n with
  | zero =>
    intro σ x1 x2 x3 x4 x5
    exact g_none
  | succ n ih =>
    intro σ x1 x2 x3 x4 x5
    rw [f_X6_day_41]
    refine g_iload C 22 rfl rfl ?_
    refine g_iload_n C 23 rfl rfl ?_
    refine g_icmp_ge C 24 rfl 143 (by decide) ?_ ?_
    · refine g_iload C 78 rfl rfl ?_
      skip
      exact g_iret C 79 rfl rfl
    · refine g_ldc2 C 25 rfl (7919 : Int64) q_752 ?_
      refine g_iload_n C 26 rfl rfl ?_
      refine g_i2l C 27 rfl ?_
      refine g_lmul C 28 rfl ?_
      refine g_ldc2 C 29 rfl (6151 : Int64) q_753 ?_
      refine g_iload C 30 rfl rfl ?_
      refine g_i2l C 31 rfl ?_
      refine g_lmul C 32 rfl ?_
      refine g_ladd C 33 rfl ?_
      refine g_lconst C 34 rfl (1 : Int64) (by decide) ?_
      refine g_ladd C 35 rfl ?_
      refine g_lstore C 36 rfl (Nat.le_of_ble_eq_true rfl) (Or.inr (Or.inr (Or.inl ⟨_, rfl⟩))) ?_
      refine g_lload C 37 rfl rfl ?_
      refine g_lload C 38 rfl rfl ?_
      refine g_lmul C 39 rfl ?_
      refine g_ldc2 C 40 rfl (65521 : Int64) q_754 ?_
      refine g_lrem C 41 rfl (by decide) ?_
      refine g_l2i C 42 rfl ?_
      refine g_istore C 43 rfl (Nat.le_of_ble_eq_true rfl) (Or.inr (Or.inl rfl)) ?_
      refine g_iload C 44 rfl rfl ?_
      refine g_iconst C 45 rfl 4 (by decide) ?_
      refine g_irem C 46 rfl (by decide) ?_
      refine g_istore C 47 rfl (Nat.le_of_ble_eq_true rfl) (Or.inr (Or.inr (Or.inl ⟨_, rfl⟩))) ?_
      refine g_iload C 48 rfl rfl ?_
      refine g_if_ne C 49 rfl 92 (by decide) ?_ ?_
      · refine g_iload C 52 rfl rfl ?_
        refine g_iconst C 53 rfl 4 (by decide) ?_
        refine g_idiv C 54 rfl (by decide) ?_
        refine g_iload_n C 55 rfl rfl ?_
        refine g_ck fun h1 => ?_
        refine g_irem C 56 rfl (of_decide_eq_true h1) ?_
        exact g_wk (s_X6_day_98 C (f_X6_day_41 n) ih σ x1 x2 x3 x4 x5 (Int64.toInt32 (sw_lrem (((((7919 : Int64) * (Int32.toInt64 x1)) + ((6151 : Int64) * (Int32.toInt64 x5))) + (1 : Int64)) * ((((7919 : Int64) * (Int32.toInt64 x1)) + ((6151 : Int64) * (Int32.toInt64 x5))) + (1 : Int64))) (65521 : Int64))) (sw_rem (Int64.toInt32 (sw_lrem (((((7919 : Int64) * (Int32.toInt64 x1)) + ((6151 : Int64) * (Int32.toInt64 x5))) + (1 : Int64)) * ((((7919 : Int64) * (Int32.toInt64 x1)) + ((6151 : Int64) * (Int32.toInt64 x5))) + (1 : Int64))) (65521 : Int64))) 4) (sw_rem ((Int64.toInt32 (sw_lrem (((((7919 : Int64) * (Int32.toInt64 x1)) + ((6151 : Int64) * (Int32.toInt64 x5))) + (1 : Int64)) * ((((7919 : Int64) * (Int32.toInt64 x1)) + ((6151 : Int64) * (Int32.toInt64 x5))) + (1 : Int64))) (65521 : Int64))) / 4) x3)) ⟨rfl, rfl, rfl, rfl, rfl, rfl, rfl, rfl, trivial⟩
      · refine g_iconst C 50 rfl 1 (by decide) ?_
        refine g_goto C 51 rfl 98 (by decide) ?_
        exact g_wk (s_X6_day_98 C (f_X6_day_41 n) ih σ x1 x2 x3 x4 x5 (Int64.toInt32 (sw_lrem (((((7919 : Int64) * (Int32.toInt64 x1)) + ((6151 : Int64) * (Int32.toInt64 x5))) + (1 : Int64)) * ((((7919 : Int64) * (Int32.toInt64 x1)) + ((6151 : Int64) * (Int32.toInt64 x5))) + (1 : Int64))) (65521 : Int64))) (sw_rem (Int64.toInt32 (sw_lrem (((((7919 : Int64) * (Int32.toInt64 x1)) + ((6151 : Int64) * (Int32.toInt64 x5))) + (1 : Int64)) * ((((7919 : Int64) * (Int32.toInt64 x1)) + ((6151 : Int64) * (Int32.toInt64 x5))) + (1 : Int64))) (65521 : Int64))) 4) 1) ⟨rfl, rfl, rfl, rfl, rfl, rfl, rfl, rfl, trivial⟩
set_option maxHeartbeats 1000000 in
set_option maxRecDepth 100000 in
theorem s_X6_day {V : sw_V} (C : sw_Cx sw_ZX V cX6_day RX6 11 (some .int) L_X6_day 6) (σ : sw_St) (x1 : Int32) (x2 : Int32) : sw_S sw_ZX V sw_eI [some (sw_r V 1), some (.int x1), some (.int x2), none, none, none, none, none, none, none, none] [] 0 σ (f_X6_day σ x1 x2) := by
  unfold f_X6_day
  refine g_iload_n C 0 rfl rfl ?_
  refine g_iconst C 1 rfl 0 (by decide) ?_
  refine g_sipush C 2 rfl 9999 (by decide) ?_
  refine g_callS (ψ₁ := sw_eP σ) C 3 rfl [(.int x1), (.int 0), (.int 9999)] [] ml_X6_27 rfl (Nat.le_of_ble_eq_true rfl) (by decide) (fun b hb => m_X6_isWithin V.1.2.1 _ _ _ _ C.inj σ x1 0 9999 b hb) rfl (g_cP fun r1 => ?_)
  refine g_if_eq C 4 rfl 21 (by decide) ?_ ?_
  · refine g_iconst C 10 rfl (-1) (by decide) ?_
    skip
    exact g_iret C 11 rfl rfl
  · refine g_iload_n C 5 rfl rfl ?_
    refine g_iconst C 6 rfl 1 (by decide) ?_
    refine g_bipush C 7 rfl 40 (by decide) ?_
    refine g_callS (ψ₁ := sw_eP σ) C 8 rfl [(.int x2), (.int 1), (.int 40)] [] ml_X6_27 rfl (Nat.le_of_ble_eq_true rfl) (by decide) (fun b hb => m_X6_isWithin V.1.2.1 _ _ _ _ C.inj σ x2 1 40 b hb) rfl (g_cP fun r2 => ?_)
    refine g_if_ne C 9 rfl 23 (by decide) ?_ ?_
    · refine g_aload_n C 12 rfl rfl ?_
      refine g_getR C 13 rfl fl_X6_10 rfl rfl ?_
      refine g_getI C 14 rfl fl_X6_64 rfl rfl ?_
      refine g_iconst C 15 rfl 1 (by decide) ?_
      refine g_mmax C 16 rfl q_749 q_750 q_104 q_751 (by decide) (Nat.le_of_ble_eq_true rfl) ?_
      refine g_istore_n C 17 rfl (Nat.le_of_ble_eq_true rfl) (Or.inr (Or.inr (Or.inl ⟨_, rfl⟩))) ?_
      refine g_iconst C 18 rfl 0 (by decide) ?_
      refine g_istore C 19 rfl (Nat.le_of_ble_eq_true rfl) (Or.inr (Or.inr (Or.inl ⟨_, rfl⟩))) ?_
      refine g_iconst C 20 rfl 0 (by decide) ?_
      refine g_istore C 21 rfl (Nat.le_of_ble_eq_true rfl) (Or.inr (Or.inr (Or.inl ⟨_, rfl⟩))) ?_
      exact g_wk (s_X6_day_41 C sw_fuel σ x1 x2 (if (σ 2 4) < 1 then 1 else (σ 2 4)) 0 0) ⟨rfl, rfl, rfl, rfl, rfl, rfl, trivial⟩
    · refine g_iconst C 10 rfl (-1) (by decide) ?_
      skip
      exact g_iret C 11 rfl rfl
set_option maxHeartbeats 1000000 in
set_option maxRecDepth 100000 in
theorem m_X6_day (l : Launch) (dC : Nat → ClassId) (dI : Nat → Nat → Nat) (dA : Nat → ClassId) (ad : Nat → Nat) (hI : sw_inj sw_ZX ad) (σ : sw_St) (x1 : Int32) (x2 : Int32) (b : (Int32 × sw_St)) (hb : f_X6_day σ x1 x2 = some b) : sw_M sw_ZX l yX6_day cX6_day 11 (some .int) 6 dC dI dA ad [(sw_rv ad 1), (.int x1), (.int x2)] σ (sw_eI b) :=
  sw_mk1 (ψ := sw_eI) 8 (by decide) sw_ZXok hI dk_X6_day rfl (sw_c1_all _ ⟨sw_rv_cat _ _, rfl, rfl, trivial⟩) hb (fun p e R M C => s_X6_day C σ x1 x2)
/-! SplitWatch.count(I)I -/
def L_X6_count : sw_Is := [(0, .iload_n 1, 1, 1), (1, .tableswitch 150 0 10 #[59, 67, 75, 83, 91, 99, 110, 118, 126, 134, 142], 59, 60), (60, .aload_n 0, 1, 61), (61, .getfield 10, 3, 64), (64, .getfield 64, 3, 67), (67, .ireturn, 1, 68), (68, .aload_n 0, 1, 69), (69, .getfield 10, 3, 72), (72, .getfield 214, 3, 75), (75, .ireturn, 1, 76), (76, .aload_n 0, 1, 77), (77, .getfield 10, 3, 80), (80, .getfield 217, 3, 83), (83, .ireturn, 1, 84), (84, .aload_n 0, 1, 85), (85, .getfield 10, 3, 88), (88, .getfield 220, 3, 91), (91, .ireturn, 1, 92), (92, .aload_n 0, 1, 93), (93, .getfield 10, 3, 96), (96, .getfield 173, 3, 99), (99, .ireturn, 1, 100), (100, .aload_n 0, 1, 101), (101, .getfield 10, 3, 104), (104, .getfield 91, 3, 107), (107, .getfield 223, 3, 110), (110, .ireturn, 1, 111), (111, .aload_n 0, 1, 112), (112, .getfield 10, 3, 115), (115, .getfield 226, 3, 118), (118, .ireturn, 1, 119), (119, .aload_n 0, 1, 120), (120, .getfield 10, 3, 123), (123, .getfield 229, 3, 126), (126, .ireturn, 1, 127), (127, .aload_n 0, 1, 128), (128, .getfield 10, 3, 131), (131, .getfield 232, 3, 134), (134, .ireturn, 1, 135), (135, .aload_n 0, 1, 136), (136, .getfield 10, 3, 139), (139, .getfield 235, 3, 142), (142, .ireturn, 1, 143), (143, .aload_n 0, 1, 144), (144, .getfield 23, 3, 147), (147, .getfield 60, 3, 150), (150, .ireturn, 1, 151), (151, .iconst (-1), 1, 152), (152, .ireturn, 1, 153)]
theorem dk_X6_count : sw_dc cX6_count L_X6_count = true := by decide +kernel
def f_X6_count (σ : sw_St) (x1 : Int32) : Option Int32 := if x1 = 0 then (some (σ 2 4)) else (if x1 = 1 then (some (σ 2 5)) else (if x1 = 2 then (some (σ 2 6)) else (if x1 = 3 then (some (σ 2 7)) else (if x1 = 4 then (some (σ 2 8)) else (if x1 = 5 then (some (σ 6 1)) else (if x1 = 6 then (some (σ 2 10)) else (if x1 = 7 then (some (σ 2 11)) else (if x1 = 8 then (some (σ 2 12)) else (if x1 = 9 then (some (σ 2 13)) else (if x1 = 10 then (some (σ 44 2)) else (some (-1))))))))))))
set_option maxHeartbeats 1000000 in
set_option maxRecDepth 100000 in
theorem s_X6_count {V : sw_V} (C : sw_Cx sw_ZX V cX6_count RX6 2 (some .int) L_X6_count 0) (σ : sw_St) (x1 : Int32) : sw_S sw_ZX V (sw_eP σ) [some (sw_r V 1), some (.int x1)] [] 0 σ (f_X6_count σ x1) := by
  unfold f_X6_count
  refine g_iload_n C 0 rfl rfl ?_
  skip
  refine g_tin C 1 rfl 0 60 (by decide) 59 (by decide) (by decide) ?_ (fun h1 => ?_)
  · refine g_aload_n C 2 rfl rfl ?_
    refine g_getR C 3 rfl fl_X6_10 rfl rfl ?_
    refine g_getI C 4 rfl fl_X6_64 rfl rfl ?_
    skip
    exact g_iret C 5 rfl rfl
  refine g_tin C 1 rfl 1 68 (by decide) 67 (by decide) (by decide) ?_ (fun h2 => ?_)
  · refine g_aload_n C 6 rfl rfl ?_
    refine g_getR C 7 rfl fl_X6_10 rfl rfl ?_
    refine g_getI C 8 rfl fl_X6_214 rfl rfl ?_
    skip
    exact g_iret C 9 rfl rfl
  refine g_tin C 1 rfl 2 76 (by decide) 75 (by decide) (by decide) ?_ (fun h3 => ?_)
  · refine g_aload_n C 10 rfl rfl ?_
    refine g_getR C 11 rfl fl_X6_10 rfl rfl ?_
    refine g_getI C 12 rfl fl_X6_217 rfl rfl ?_
    skip
    exact g_iret C 13 rfl rfl
  refine g_tin C 1 rfl 3 84 (by decide) 83 (by decide) (by decide) ?_ (fun h4 => ?_)
  · refine g_aload_n C 14 rfl rfl ?_
    refine g_getR C 15 rfl fl_X6_10 rfl rfl ?_
    refine g_getI C 16 rfl fl_X6_220 rfl rfl ?_
    skip
    exact g_iret C 17 rfl rfl
  refine g_tin C 1 rfl 4 92 (by decide) 91 (by decide) (by decide) ?_ (fun h5 => ?_)
  · refine g_aload_n C 18 rfl rfl ?_
    refine g_getR C 19 rfl fl_X6_10 rfl rfl ?_
    refine g_getI C 20 rfl fl_X6_173 rfl rfl ?_
    skip
    exact g_iret C 21 rfl rfl
  refine g_tin C 1 rfl 5 100 (by decide) 99 (by decide) (by decide) ?_ (fun h6 => ?_)
  · refine g_aload_n C 22 rfl rfl ?_
    refine g_getR C 23 rfl fl_X6_10 rfl rfl ?_
    refine g_getR C 24 rfl fl_X6_91 rfl rfl ?_
    refine g_getI C 25 rfl fl_X6_223 rfl rfl ?_
    skip
    exact g_iret C 26 rfl rfl
  refine g_tin C 1 rfl 6 111 (by decide) 110 (by decide) (by decide) ?_ (fun h7 => ?_)
  · refine g_aload_n C 27 rfl rfl ?_
    refine g_getR C 28 rfl fl_X6_10 rfl rfl ?_
    refine g_getI C 29 rfl fl_X6_226 rfl rfl ?_
    skip
    exact g_iret C 30 rfl rfl
  refine g_tin C 1 rfl 7 119 (by decide) 118 (by decide) (by decide) ?_ (fun h8 => ?_)
  · refine g_aload_n C 31 rfl rfl ?_
    refine g_getR C 32 rfl fl_X6_10 rfl rfl ?_
    refine g_getI C 33 rfl fl_X6_229 rfl rfl ?_
    skip
    exact g_iret C 34 rfl rfl
  refine g_tin C 1 rfl 8 127 (by decide) 126 (by decide) (by decide) ?_ (fun h9 => ?_)
  · refine g_aload_n C 35 rfl rfl ?_
    refine g_getR C 36 rfl fl_X6_10 rfl rfl ?_
    refine g_getI C 37 rfl fl_X6_232 rfl rfl ?_
    skip
    exact g_iret C 38 rfl rfl
  refine g_tin C 1 rfl 9 135 (by decide) 134 (by decide) (by decide) ?_ (fun h10 => ?_)
  · refine g_aload_n C 39 rfl rfl ?_
    refine g_getR C 40 rfl fl_X6_10 rfl rfl ?_
    refine g_getI C 41 rfl fl_X6_235 rfl rfl ?_
    skip
    exact g_iret C 42 rfl rfl
  refine g_tin C 1 rfl 10 143 (by decide) 142 (by decide) (by decide) ?_ (fun h11 => ?_)
  · refine g_aload_n C 43 rfl rfl ?_
    refine g_getR C 44 rfl fl_X6_23 rfl rfl ?_
    refine g_getI C 45 rfl fl_X6_60 rfl rfl ?_
    skip
    exact g_iret C 46 rfl rfl
  refine g_tout C 1 rfl 151 (by have a0 := lv_neT (a := 0) h1 (by decide); have a1 := lv_neT (a := 1) h2 (by decide); have a2 := lv_neT (a := 2) h3 (by decide); have a3 := lv_neT (a := 3) h4 (by decide); have a4 := lv_neT (a := 4) h5 (by decide); have a5 := lv_neT (a := 5) h6 (by decide); have a6 := lv_neT (a := 6) h7 (by decide); have a7 := lv_neT (a := 7) h8 (by decide); have a8 := lv_neT (a := 8) h9 (by decide); have a9 := lv_neT (a := 9) h10 (by decide); have a10 := lv_neT (a := 10) h11 (by decide); omega) (by decide) ?_
  refine g_iconst C 47 rfl (-1) (by decide) ?_
  skip
  exact g_iret C 48 rfl rfl
set_option maxHeartbeats 1000000 in
set_option maxRecDepth 100000 in
theorem m_X6_count (l : Launch) (dC : Nat → ClassId) (dI : Nat → Nat → Nat) (dA : Nat → ClassId) (ad : Nat → Nat) (hI : sw_inj sw_ZX ad) (σ : sw_St) (x1 : Int32) (b : Int32) (hb : f_X6_count σ x1 = some b) : sw_M sw_ZX l yX6_count cX6_count 2 (some .int) 0 dC dI dA ad [(sw_rv ad 1), (.int x1)] σ ((sw_eP σ) b) :=
  sw_mk1 (ψ := (sw_eP σ)) 0 (by decide) sw_ZXok hI dk_X6_count rfl (sw_c1_all _ ⟨sw_rv_cat _ _, rfl, trivial⟩) hb (fun p e R M C => s_X6_count C σ x1)
