/-! SplitWatchModel.address()I -/
def L_X7_address : sw_Is := [(0, .aload_n 0, 1, 1), (1, .iconst 0, 1, 2), (2, .invokevirtual 206, 3, 5), (5, .istore_n 1, 1, 6), (6, .iload_n 1, 1, 7), (7, .bipush (-4), 2, 9), (9, .if_icmp .ne 5, 3, 12), (12, .iconst 0, 1, 13), (13, .ireturn, 1, 14), (14, .aload_n 0, 1, 15), (15, .getfield 49, 3, 18), (18, .iconst 5, 1, 19), (19, .iload_n 1, 1, 20), (20, .imul, 1, 21), (21, .iaload, 1, 22), (22, .istore_n 2, 1, 23), (23, .aload_n 0, 1, 24), (24, .getfield 49, 3, 27), (27, .iconst 5, 1, 28), (28, .iload_n 1, 1, 29), (29, .imul, 1, 30), (30, .iconst 1, 1, 31), (31, .iadd, 1, 32), (32, .iaload, 1, 33), (33, .istore_n 3, 1, 34), (34, .aload_n 0, 1, 35), (35, .getfield 49, 3, 38), (38, .iconst 5, 1, 39), (39, .iload_n 1, 1, 40), (40, .imul, 1, 41), (41, .iconst 2, 1, 42), (42, .iadd, 1, 43), (43, .iaload, 1, 44), (44, .istore 4, 2, 46), (46, .aload_n 0, 1, 47), (47, .getfield 49, 3, 50), (50, .iconst 5, 1, 51), (51, .iload_n 1, 1, 52), (52, .imul, 1, 53), (53, .iconst 4, 1, 54), (54, .iadd, 1, 55), (55, .iaload, 1, 56), (56, .istore 5, 2, 58), (58, .aload_n 0, 1, 59), (59, .iload_n 1, 1, 60), (60, .invokevirtual 145, 3, 63), (63, .aload_n 0, 1, 64), (64, .iload 4, 2, 66), (66, .invokevirtual 149, 3, 69), (69, .ifCond .eq 40, 3, 72), (72, .aload_n 0, 1, 73), (73, .iload_n 2, 1, 74), (74, .iload_n 3, 1, 75), (75, .iload 4, 2, 77), (77, .invokevirtual 138, 3, 80), (80, .aload_n 0, 1, 81), (81, .getfield 49, 3, 84), (84, .iconst 5, 1, 85), (85, .aload_n 0, 1, 86), (86, .getfield 97, 3, 89), (89, .imul, 1, 90), (90, .iconst 1, 1, 91), (91, .isub, 1, 92), (92, .iload 5, 2, 94), (94, .iconst 1, 1, 95), (95, .iadd, 1, 96), (96, .iastore, 1, 97), (97, .aload_n 0, 1, 98), (98, .dup, 1, 99), (99, .getfield 109, 3, 102), (102, .iconst 1, 1, 103), (103, .iadd, 1, 104), (104, .putfield 109, 3, 107), (107, .iconst 0, 1, 108), (108, .ireturn, 1, 109), (109, .iload_n 2, 1, 110), (110, .iconst 3, 1, 111), (111, .if_icmp .ne 28, 3, 114), (114, .aload_n 0, 1, 115), (115, .getfield 7, 3, 118), (118, .iload 4, 2, 120), (120, .aload_n 0, 1, 121), (121, .iload_n 3, 1, 122), (122, .iload 4, 2, 124), (124, .invokevirtual 175, 3, 127), (127, .iastore, 1, 128), (128, .aload_n 0, 1, 129), (129, .iload_n 3, 1, 130), (130, .bipush 66, 2, 132), (132, .iload 4, 2, 134), (134, .invokevirtual 209, 3, 137), (137, .iconst 0, 1, 138), (138, .ireturn, 1, 139), (139, .iload_n 2, 1, 140), (140, .iconst 2, 1, 141), (141, .if_icmp .ne 51, 3, 144), (144, .aload_n 0, 1, 145), (145, .iload_n 3, 1, 146), (146, .iload 4, 2, 148), (148, .invokevirtual 186, 3, 151), (151, .iconst 1, 1, 152), (152, .if_icmp .ne 40, 3, 155), (155, .aload_n 0, 1, 156), (156, .iload_n 3, 1, 157), (157, .iload 4, 2, 159), (159, .invokevirtual 203, 3, 162), (162, .aload_n 0, 1, 163), (163, .iload_n 3, 1, 164), (164, .iload 4, 2, 166), (166, .aload_n 0, 1, 167), (167, .getfield 43, 3, 170), (170, .iload_n 3, 1, 171), (171, .iaload, 1, 172), (172, .iconst 3, 1, 173), (173, .invokevirtual 172, 3, 176), (176, .aload_n 0, 1, 177), (177, .iload_n 3, 1, 178), (178, .invokevirtual 192, 3, 181), (181, .aload_n 0, 1, 182), (182, .iload_n 3, 1, 183), (183, .bipush 85, 2, 185), (185, .iload 4, 2, 187), (187, .invokevirtual 209, 3, 190), (190, .iconst 1, 1, 191), (191, .ireturn, 1, 192), (192, .aload_n 0, 1, 193), (193, .dup, 1, 194), (194, .getfield 112, 3, 197), (197, .iload_n 2, 1, 198), (198, .iconst 2, 1, 199), (199, .if_icmp .ne 7, 3, 202), (202, .iconst 1, 1, 203), (203, .goto 4, 3, 206), (206, .iconst 0, 1, 207), (207, .iadd, 1, 208), (208, .putfield 112, 3, 211), (211, .aload_n 0, 1, 212), (212, .iload_n 3, 1, 213), (213, .iload_n 2, 1, 214), (214, .ifCond .ne 8, 3, 217), (217, .bipush 82, 2, 219), (219, .goto 15, 3, 222), (222, .iload_n 2, 1, 223), (223, .iconst 1, 1, 224), (224, .if_icmp .ne 8, 3, 227), (227, .bipush 79, 2, 229), (229, .goto 5, 3, 232), (232, .bipush 87, 2, 234), (234, .iload 4, 2, 236), (236, .invokevirtual 209, 3, 239), (239, .aload_n 0, 1, 240), (240, .iload_n 2, 1, 241), (241, .ifCond .ne 7, 3, 244), (244, .iconst 0, 1, 245), (245, .goto 4, 3, 248), (248, .iconst 1, 1, 249), (249, .iload_n 3, 1, 250), (250, .iload 4, 2, 252), (252, .iload 5, 2, 254), (254, .invokevirtual 212, 3, 257), (257, .iconst 0, 1, 258), (258, .ireturn, 1, 259)]
theorem dk_X7_address : sw_dc cX7_address L_X7_address = true := by decide +kernel
def f_X7_address_249  (σ : sw_St) (x3 : Int32) (x4 : Int32) (x5 : Int32) (y0 : Int32) : Option (Int32 × sw_St) := (f_X7_opens σ y0 x3 x4 x5).bind fun r1 => (some (0, r1))
def f_X7_address_234  (σ : sw_St) (x2 : Int32) (x3 : Int32) (x4 : Int32) (x5 : Int32) (y0 : Int32) (y1 : Int32) : Option (Int32 × sw_St) := (f_X7_orders σ y1 y0 x4).bind fun r1 => (if x2 = 0 then (f_X7_address_249 r1 x3 x4 x5 0) else (f_X7_address_249 r1 x3 x4 x5 1))
def f_X7_address_207  (σ : sw_St) (x2 : Int32) (x3 : Int32) (x4 : Int32) (x5 : Int32) (y0 : Int32) (y1 : Int32) : Option (Int32 × sw_St) := sw_pt σ 1 26 (y1 + y0) fun s1 => (if x2 = 0 then (f_X7_address_234 s1 x2 x3 x4 x5 82 x3) else (if x2 = 1 then (f_X7_address_234 s1 x2 x3 x4 x5 79 x3) else (f_X7_address_234 s1 x2 x3 x4 x5 87 x3)))
def f_X7_address_192  (σ : sw_St) (x2 : Int32) (x3 : Int32) (x4 : Int32) (x5 : Int32) : Option (Int32 × sw_St) := if x2 = 2 then (f_X7_address_207 σ x2 x3 x4 x5 1 (σ 1 26)) else (f_X7_address_207 σ x2 x3 x4 x5 0 (σ 1 26))
def f_X7_address (σ : sw_St)  : Option (Int32 × sw_St) := (f_X7_waitingAt σ 0).bind fun r1 => (if r1 = (-4) then (some (0, σ)) else (sw_ck (sw_in (5 * r1) 80) (sw_ck (sw_in ((5 * r1) + 1) 80) (sw_ck (sw_in ((5 * r1) + 2) 80) (sw_ck (sw_in ((5 * r1) + 4) 80) ((f_X7_noMore σ r1).bind fun r6 => ((f_X7_isOpen r6 (σ 15 (sw_ix ((5 * r1) + 2)))).bind fun r7 => (if r7 = 0 then (if (σ 15 (sw_ix (5 * r1))) = 3 then ((f_X7_outOfBuffer r6 (σ 15 (sw_ix ((5 * r1) + 1))) (σ 15 (sw_ix ((5 * r1) + 2)))).bind fun r14 => (sw_ck (sw_in (σ 15 (sw_ix ((5 * r1) + 2))) 8) (sw_pt r14.2 2 (sw_ix (σ 15 (sw_ix ((5 * r1) + 2)))) r14.1 fun s16 => ((f_X7_orders s16 (σ 15 (sw_ix ((5 * r1) + 1))) 66 (σ 15 (sw_ix ((5 * r1) + 2)))).bind fun r17 => (some (0, r17)))))) else (if (σ 15 (sw_ix (5 * r1))) = 2 then ((f_X7_howOf r6 (σ 15 (sw_ix ((5 * r1) + 1))) (σ 15 (sw_ix ((5 * r1) + 2)))).bind fun r8 => (if r8 = 1 then ((f_X7_noOther r6 (σ 15 (sw_ix ((5 * r1) + 1))) (σ 15 (sw_ix ((5 * r1) + 2)))).bind fun r9 => (sw_ck (sw_in (σ 15 (sw_ix ((5 * r1) + 1))) 4) ((f_X7_use r9 (σ 15 (sw_ix ((5 * r1) + 1))) (σ 15 (sw_ix ((5 * r1) + 2))) (r9 13 (sw_ix (σ 15 (sw_ix ((5 * r1) + 1))))) 3).bind fun r11 => ((f_X7_ends r11 (σ 15 (sw_ix ((5 * r1) + 1)))).bind fun r12 => ((f_X7_orders r12 (σ 15 (sw_ix ((5 * r1) + 1))) 85 (σ 15 (sw_ix ((5 * r1) + 2)))).bind fun r13 => (some (1, r13))))))) else (f_X7_address_192 r6 (σ 15 (sw_ix (5 * r1))) (σ 15 (sw_ix ((5 * r1) + 1))) (σ 15 (sw_ix ((5 * r1) + 2))) (σ 15 (sw_ix ((5 * r1) + 4)))))) else (f_X7_address_192 r6 (σ 15 (sw_ix (5 * r1))) (σ 15 (sw_ix ((5 * r1) + 1))) (σ 15 (sw_ix ((5 * r1) + 2))) (σ 15 (sw_ix ((5 * r1) + 4)))))) else ((f_X7_asks r6 (σ 15 (sw_ix (5 * r1))) (σ 15 (sw_ix ((5 * r1) + 1))) (σ 15 (sw_ix ((5 * r1) + 2)))).bind fun r18 => (sw_ck (sw_in ((5 * (r18 1 18)) - 1) 80) (sw_pt r18 15 (sw_ix ((5 * (r18 1 18)) - 1)) ((σ 15 (sw_ix ((5 * r1) + 4))) + 1) fun s20 => (sw_pt s20 1 25 ((s20 1 25) + 1) fun s21 => (some (0, s21))))))))))))))
set_option maxHeartbeats 1000000 in
set_option maxRecDepth 100000 in
theorem s_X7_address_249 {V : sw_V} (C : sw_Cx sw_ZM V cX7_address RX7 6 (some .int) L_X7_address 4) (σ : sw_St) (x3 : Int32) (x4 : Int32) (x5 : Int32) (y0 : Int32) : sw_S sw_ZM V sw_eI [none, none, none, some (.int x3), some (.int x4), some (.int x5)] [(.int y0), (sw_r V 1)] 249 σ (f_X7_address_249 σ x3 x4 x5 y0) := by
  unfold f_X7_address_249
  refine g_iload_n C 156 rfl rfl ?_
  refine g_iload C 157 rfl rfl ?_
  refine g_iload C 158 rfl rfl ?_
  refine g_callV (ψ₁ := sw_eV) C 159 rfl [(.int y0), (.int x3), (.int x4), (.int x5)] [] ml_X7_212 rfl (Nat.le_of_ble_eq_true rfl) (by decide) rfl rfl (fun b hb => m_X7_opens V.1.2.1 _ _ _ _ C.inj σ y0 x3 x4 x5 b hb) rfl (g_cV fun r1 => ?_)
  refine g_iconst C 160 rfl 0 (by decide) ?_
  skip
  exact g_iret C 161 rfl rfl
set_option maxHeartbeats 1000000 in
set_option maxRecDepth 100000 in
theorem s_X7_address_234 {V : sw_V} (C : sw_Cx sw_ZM V cX7_address RX7 6 (some .int) L_X7_address 4) (σ : sw_St) (x2 : Int32) (x3 : Int32) (x4 : Int32) (x5 : Int32) (y0 : Int32) (y1 : Int32) : sw_S sw_ZM V sw_eI [some (sw_r V 1), none, some (.int x2), some (.int x3), some (.int x4), some (.int x5)] [(.int y0), (.int y1), (sw_r V 1)] 234 σ (f_X7_address_234 σ x2 x3 x4 x5 y0 y1) := by
  unfold f_X7_address_234
  refine g_iload C 148 rfl rfl ?_
  refine g_callV (ψ₁ := sw_eV) C 149 rfl [(.int y1), (.int y0), (.int x4)] [] ml_X7_209 rfl (Nat.le_of_ble_eq_true rfl) (by decide) rfl rfl (fun b hb => m_X7_orders V.1.2.1 _ _ _ _ C.inj σ y1 y0 x4 b hb) rfl (g_cV fun r1 => ?_)
  refine g_aload_n C 150 rfl rfl ?_
  refine g_iload_n C 151 rfl rfl ?_
  refine g_if_ne C 152 rfl 248 (by decide) ?_ ?_
  · refine g_iconst C 155 rfl 1 (by decide) ?_
    exact g_wk (s_X7_address_249 C r1 x3 x4 x5 1) ⟨rfl, rfl, rfl, trivial⟩
  · refine g_iconst C 153 rfl 0 (by decide) ?_
    refine g_goto C 154 rfl 249 (by decide) ?_
    exact g_wk (s_X7_address_249 C r1 x3 x4 x5 0) ⟨rfl, rfl, rfl, trivial⟩
set_option maxHeartbeats 1000000 in
set_option maxRecDepth 100000 in
theorem s_X7_address_207 {V : sw_V} (C : sw_Cx sw_ZM V cX7_address RX7 6 (some .int) L_X7_address 4) (σ : sw_St) (x2 : Int32) (x3 : Int32) (x4 : Int32) (x5 : Int32) (y0 : Int32) (y1 : Int32) : sw_S sw_ZM V sw_eI [some (sw_r V 1), none, some (.int x2), some (.int x3), some (.int x4), some (.int x5)] [(.int y0), (.int y1), (sw_r V 1)] 207 σ (f_X7_address_207 σ x2 x3 x4 x5 y0 y1) := by
  unfold f_X7_address_207
  refine g_iadd C 134 rfl ?_
  refine g_put C 135 rfl fp_X7_112 rfl rfl (fun s1 => ?_)
  refine g_aload_n C 136 rfl rfl ?_
  refine g_iload_n C 137 rfl rfl ?_
  refine g_iload_n C 138 rfl rfl ?_
  refine g_if_ne C 139 rfl 222 (by decide) ?_ ?_
  · refine g_iload_n C 142 rfl rfl ?_
    refine g_iconst C 143 rfl 1 (by decide) ?_
    refine g_icmp_ne C 144 rfl 232 (by decide) ?_ ?_
    · refine g_bipush C 147 rfl 87 (by decide) ?_
      exact g_wk (s_X7_address_234 C s1 x2 x3 x4 x5 87 x3) ⟨rfl, rfl, rfl, rfl, rfl, trivial⟩
    · refine g_bipush C 145 rfl 79 (by decide) ?_
      refine g_goto C 146 rfl 234 (by decide) ?_
      exact g_wk (s_X7_address_234 C s1 x2 x3 x4 x5 79 x3) ⟨rfl, rfl, rfl, rfl, rfl, trivial⟩
  · refine g_bipush C 140 rfl 82 (by decide) ?_
    refine g_goto C 141 rfl 234 (by decide) ?_
    exact g_wk (s_X7_address_234 C s1 x2 x3 x4 x5 82 x3) ⟨rfl, rfl, rfl, rfl, rfl, trivial⟩
set_option maxHeartbeats 1000000 in
set_option maxRecDepth 100000 in
theorem s_X7_address_192 {V : sw_V} (C : sw_Cx sw_ZM V cX7_address RX7 6 (some .int) L_X7_address 4) (σ : sw_St) (x2 : Int32) (x3 : Int32) (x4 : Int32) (x5 : Int32) : sw_S sw_ZM V sw_eI [some (sw_r V 1), none, some (.int x2), some (.int x3), some (.int x4), some (.int x5)] [] 192 σ (f_X7_address_192 σ x2 x3 x4 x5) := by
  unfold f_X7_address_192
  refine g_aload_n C 125 rfl rfl ?_
  refine g_dupR C 126 rfl ?_
  refine g_getI C 127 rfl fl_X7_112 rfl rfl ?_
  refine g_iload_n C 128 rfl rfl ?_
  refine g_iconst C 129 rfl 2 (by decide) ?_
  refine g_icmp_ne C 130 rfl 206 (by decide) ?_ ?_
  · refine g_iconst C 133 rfl 0 (by decide) ?_
    exact g_wk (s_X7_address_207 C σ x2 x3 x4 x5 0 (σ 1 26)) ⟨rfl, rfl, rfl, rfl, rfl, trivial⟩
  · refine g_iconst C 131 rfl 1 (by decide) ?_
    refine g_goto C 132 rfl 207 (by decide) ?_
    exact g_wk (s_X7_address_207 C σ x2 x3 x4 x5 1 (σ 1 26)) ⟨rfl, rfl, rfl, rfl, rfl, trivial⟩
set_option maxHeartbeats 1000000 in
set_option maxRecDepth 100000 in
theorem s_X7_address {V : sw_V} (C : sw_Cx sw_ZM V cX7_address RX7 6 (some .int) L_X7_address 4) (σ : sw_St)  : sw_S sw_ZM V sw_eI [some (sw_r V 1), none, none, none, none, none] [] 0 σ (f_X7_address σ) := by
  unfold f_X7_address
  refine g_aload_n C 0 rfl rfl ?_
  refine g_iconst C 1 rfl 0 (by decide) ?_
  refine g_callV (ψ₁ := sw_eP σ) C 2 rfl [(.int 0)] [] ml_X7_206 rfl (Nat.le_of_ble_eq_true rfl) (by decide) rfl rfl (fun b hb => m_X7_waitingAt V.1.2.1 _ _ _ _ C.inj σ 0 b hb) rfl (g_cP fun r1 => ?_)
  refine g_istore_n C 3 rfl (Nat.le_of_ble_eq_true rfl) (Or.inr (Or.inr (Or.inr ⟨_, rfl⟩))) ?_
  refine g_iload_n C 4 rfl rfl ?_
  refine g_bipush C 5 rfl (-4) (by decide) ?_
  refine g_icmp_ne C 6 rfl 14 (by decide) ?_ ?_
  · refine g_aload_n C 9 rfl rfl ?_
    refine g_getR C 10 rfl fl_X7_49 rfl rfl ?_
    refine g_iconst C 11 rfl 5 (by decide) ?_
    refine g_iload_n C 12 rfl rfl ?_
    refine g_imul C 13 rfl ?_
    refine g_ck fun h2 => ?_
    refine g_iald C 14 rfl rfl h2 ?_
    refine g_istore_n C 15 rfl (Nat.le_of_ble_eq_true rfl) (Or.inr (Or.inr (Or.inl ⟨_, rfl⟩))) ?_
    refine g_aload_n C 16 rfl rfl ?_
    refine g_getR C 17 rfl fl_X7_49 rfl rfl ?_
    refine g_iconst C 18 rfl 5 (by decide) ?_
    refine g_iload_n C 19 rfl rfl ?_
    refine g_imul C 20 rfl ?_
    refine g_iconst C 21 rfl 1 (by decide) ?_
    refine g_iadd C 22 rfl ?_
    refine g_ck fun h3 => ?_
    refine g_iald C 23 rfl rfl h3 ?_
    refine g_istore_n C 24 rfl (Nat.le_of_ble_eq_true rfl) (Or.inr (Or.inr (Or.inl ⟨_, rfl⟩))) ?_
    refine g_aload_n C 25 rfl rfl ?_
    refine g_getR C 26 rfl fl_X7_49 rfl rfl ?_
    refine g_iconst C 27 rfl 5 (by decide) ?_
    refine g_iload_n C 28 rfl rfl ?_
    refine g_imul C 29 rfl ?_
    refine g_iconst C 30 rfl 2 (by decide) ?_
    refine g_iadd C 31 rfl ?_
    refine g_ck fun h4 => ?_
    refine g_iald C 32 rfl rfl h4 ?_
    refine g_istore C 33 rfl (Nat.le_of_ble_eq_true rfl) (Or.inr (Or.inr (Or.inl ⟨_, rfl⟩))) ?_
    refine g_aload_n C 34 rfl rfl ?_
    refine g_getR C 35 rfl fl_X7_49 rfl rfl ?_
    refine g_iconst C 36 rfl 5 (by decide) ?_
    refine g_iload_n C 37 rfl rfl ?_
    refine g_imul C 38 rfl ?_
    refine g_iconst C 39 rfl 4 (by decide) ?_
    refine g_iadd C 40 rfl ?_
    refine g_ck fun h5 => ?_
    refine g_iald C 41 rfl rfl h5 ?_
    refine g_istore C 42 rfl (Nat.le_of_ble_eq_true rfl) (Or.inr (Or.inr (Or.inl ⟨_, rfl⟩))) ?_
    refine g_aload_n C 43 rfl rfl ?_
    refine g_iload_n C 44 rfl rfl ?_
    refine g_callV (ψ₁ := sw_eV) C 45 rfl [(.int r1)] [] ml_X7_145 rfl (Nat.le_of_ble_eq_true rfl) (by decide) rfl rfl (fun b hb => m_X7_noMore V.1.2.1 _ _ _ _ C.inj σ r1 b hb) rfl (g_cV fun r6 => ?_)
    refine g_aload_n C 46 rfl rfl ?_
    refine g_iload C 47 rfl rfl ?_
    refine g_callV (ψ₁ := sw_eP r6) C 48 rfl [(.int (σ 15 (sw_ix ((5 * r1) + 2))))] [] ml_X7_149 rfl (Nat.le_of_ble_eq_true rfl) (by decide) rfl rfl (fun b hb => m_X7_isOpen V.1.2.1 _ _ _ _ C.inj r6 (σ 15 (sw_ix ((5 * r1) + 2))) b hb) rfl (g_cP fun r7 => ?_)
    refine g_if_eq C 49 rfl 109 (by decide) ?_ ?_
    · refine g_iload_n C 75 rfl rfl ?_
      refine g_iconst C 76 rfl 3 (by decide) ?_
      refine g_icmp_ne C 77 rfl 139 (by decide) ?_ ?_
      · refine g_iload_n C 93 rfl rfl ?_
        refine g_iconst C 94 rfl 2 (by decide) ?_
        refine g_icmp_ne C 95 rfl 192 (by decide) ?_ ?_
        · exact g_wk (s_X7_address_192 C r6 (σ 15 (sw_ix (5 * r1))) (σ 15 (sw_ix ((5 * r1) + 1))) (σ 15 (sw_ix ((5 * r1) + 2))) (σ 15 (sw_ix ((5 * r1) + 4)))) ⟨rfl, rfl, rfl, rfl, rfl, trivial⟩
        · refine g_aload_n C 96 rfl rfl ?_
          refine g_iload_n C 97 rfl rfl ?_
          refine g_iload C 98 rfl rfl ?_
          refine g_callV (ψ₁ := sw_eP r6) C 99 rfl [(.int (σ 15 (sw_ix ((5 * r1) + 1)))), (.int (σ 15 (sw_ix ((5 * r1) + 2))))] [] ml_X7_186 rfl (Nat.le_of_ble_eq_true rfl) (by decide) rfl rfl (fun b hb => m_X7_howOf V.1.2.1 _ _ _ _ C.inj r6 (σ 15 (sw_ix ((5 * r1) + 1))) (σ 15 (sw_ix ((5 * r1) + 2))) b hb) rfl (g_cP fun r8 => ?_)
          refine g_iconst C 100 rfl 1 (by decide) ?_
          refine g_icmp_ne C 101 rfl 192 (by decide) ?_ ?_
          · exact g_wk (s_X7_address_192 C r6 (σ 15 (sw_ix (5 * r1))) (σ 15 (sw_ix ((5 * r1) + 1))) (σ 15 (sw_ix ((5 * r1) + 2))) (σ 15 (sw_ix ((5 * r1) + 4)))) ⟨rfl, rfl, rfl, rfl, rfl, trivial⟩
          · refine g_aload_n C 102 rfl rfl ?_
            refine g_iload_n C 103 rfl rfl ?_
            refine g_iload C 104 rfl rfl ?_
            refine g_callV (ψ₁ := sw_eV) C 105 rfl [(.int (σ 15 (sw_ix ((5 * r1) + 1)))), (.int (σ 15 (sw_ix ((5 * r1) + 2))))] [] ml_X7_203 rfl (Nat.le_of_ble_eq_true rfl) (by decide) rfl rfl (fun b hb => m_X7_noOther V.1.2.1 _ _ _ _ C.inj r6 (σ 15 (sw_ix ((5 * r1) + 1))) (σ 15 (sw_ix ((5 * r1) + 2))) b hb) rfl (g_cV fun r9 => ?_)
            refine g_aload_n C 106 rfl rfl ?_
            refine g_iload_n C 107 rfl rfl ?_
            refine g_iload C 108 rfl rfl ?_
            refine g_aload_n C 109 rfl rfl ?_
            refine g_getR C 110 rfl fl_X7_43 rfl rfl ?_
            refine g_iload_n C 111 rfl rfl ?_
            refine g_ck fun h10 => ?_
            refine g_iald C 112 rfl rfl h10 ?_
            refine g_iconst C 113 rfl 3 (by decide) ?_
            refine g_callV (ψ₁ := sw_eV) C 114 rfl [(.int (σ 15 (sw_ix ((5 * r1) + 1)))), (.int (σ 15 (sw_ix ((5 * r1) + 2)))), (.int (r9 13 (sw_ix (σ 15 (sw_ix ((5 * r1) + 1)))))), (.int 3)] [] ml_X7_172 rfl (Nat.le_of_ble_eq_true rfl) (by decide) rfl rfl (fun b hb => m_X7_use V.1.2.1 _ _ _ _ C.inj r9 (σ 15 (sw_ix ((5 * r1) + 1))) (σ 15 (sw_ix ((5 * r1) + 2))) (r9 13 (sw_ix (σ 15 (sw_ix ((5 * r1) + 1))))) 3 b hb) rfl (g_cV fun r11 => ?_)
            refine g_aload_n C 115 rfl rfl ?_
            refine g_iload_n C 116 rfl rfl ?_
            refine g_callV (ψ₁ := sw_eV) C 117 rfl [(.int (σ 15 (sw_ix ((5 * r1) + 1))))] [] ml_X7_192 rfl (Nat.le_of_ble_eq_true rfl) (by decide) rfl rfl (fun b hb => m_X7_ends V.1.2.1 _ _ _ _ C.inj r11 (σ 15 (sw_ix ((5 * r1) + 1))) b hb) rfl (g_cV fun r12 => ?_)
            refine g_aload_n C 118 rfl rfl ?_
            refine g_iload_n C 119 rfl rfl ?_
            refine g_bipush C 120 rfl 85 (by decide) ?_
            refine g_iload C 121 rfl rfl ?_
            refine g_callV (ψ₁ := sw_eV) C 122 rfl [(.int (σ 15 (sw_ix ((5 * r1) + 1)))), (.int 85), (.int (σ 15 (sw_ix ((5 * r1) + 2))))] [] ml_X7_209 rfl (Nat.le_of_ble_eq_true rfl) (by decide) rfl rfl (fun b hb => m_X7_orders V.1.2.1 _ _ _ _ C.inj r12 (σ 15 (sw_ix ((5 * r1) + 1))) 85 (σ 15 (sw_ix ((5 * r1) + 2))) b hb) rfl (g_cV fun r13 => ?_)
            refine g_iconst C 123 rfl 1 (by decide) ?_
            skip
            exact g_iret C 124 rfl rfl
      · refine g_aload_n C 78 rfl rfl ?_
        refine g_getR C 79 rfl fl_X7_7 rfl rfl ?_
        refine g_iload C 80 rfl rfl ?_
        refine g_aload_n C 81 rfl rfl ?_
        refine g_iload_n C 82 rfl rfl ?_
        refine g_iload C 83 rfl rfl ?_
        refine g_callV (ψ₁ := sw_eI) C 84 rfl [(.int (σ 15 (sw_ix ((5 * r1) + 1)))), (.int (σ 15 (sw_ix ((5 * r1) + 2))))] [(.int (σ 15 (sw_ix ((5 * r1) + 2)))), (sw_r V 2)] ml_X7_175 rfl (Nat.le_of_ble_eq_true rfl) (by decide) rfl rfl (fun b hb => m_X7_outOfBuffer V.1.2.1 _ _ _ _ C.inj r6 (σ 15 (sw_ix ((5 * r1) + 1))) (σ 15 (sw_ix ((5 * r1) + 2))) b hb) rfl (g_cI fun r14 => ?_)
        refine g_ck fun h15 => ?_
        refine g_iast C 85 rfl rfl h15 (fun s16 => ?_)
        refine g_aload_n C 86 rfl rfl ?_
        refine g_iload_n C 87 rfl rfl ?_
        refine g_bipush C 88 rfl 66 (by decide) ?_
        refine g_iload C 89 rfl rfl ?_
        refine g_callV (ψ₁ := sw_eV) C 90 rfl [(.int (σ 15 (sw_ix ((5 * r1) + 1)))), (.int 66), (.int (σ 15 (sw_ix ((5 * r1) + 2))))] [] ml_X7_209 rfl (Nat.le_of_ble_eq_true rfl) (by decide) rfl rfl (fun b hb => m_X7_orders V.1.2.1 _ _ _ _ C.inj s16 (σ 15 (sw_ix ((5 * r1) + 1))) 66 (σ 15 (sw_ix ((5 * r1) + 2))) b hb) rfl (g_cV fun r17 => ?_)
        refine g_iconst C 91 rfl 0 (by decide) ?_
        skip
        exact g_iret C 92 rfl rfl
    · refine g_aload_n C 50 rfl rfl ?_
      refine g_iload_n C 51 rfl rfl ?_
      refine g_iload_n C 52 rfl rfl ?_
      refine g_iload C 53 rfl rfl ?_
      refine g_callV (ψ₁ := sw_eV) C 54 rfl [(.int (σ 15 (sw_ix (5 * r1)))), (.int (σ 15 (sw_ix ((5 * r1) + 1)))), (.int (σ 15 (sw_ix ((5 * r1) + 2))))] [] ml_X7_138 rfl (Nat.le_of_ble_eq_true rfl) (by decide) rfl rfl (fun b hb => m_X7_asks V.1.2.1 _ _ _ _ C.inj r6 (σ 15 (sw_ix (5 * r1))) (σ 15 (sw_ix ((5 * r1) + 1))) (σ 15 (sw_ix ((5 * r1) + 2))) b hb) rfl (g_cV fun r18 => ?_)
      refine g_aload_n C 55 rfl rfl ?_
      refine g_getR C 56 rfl fl_X7_49 rfl rfl ?_
      refine g_iconst C 57 rfl 5 (by decide) ?_
      refine g_aload_n C 58 rfl rfl ?_
      refine g_getI C 59 rfl fl_X7_97 rfl rfl ?_
      refine g_imul C 60 rfl ?_
      refine g_iconst C 61 rfl 1 (by decide) ?_
      refine g_isub C 62 rfl ?_
      refine g_iload C 63 rfl rfl ?_
      refine g_iconst C 64 rfl 1 (by decide) ?_
      refine g_iadd C 65 rfl ?_
      refine g_ck fun h19 => ?_
      refine g_iast C 66 rfl rfl h19 (fun s20 => ?_)
      refine g_aload_n C 67 rfl rfl ?_
      refine g_dupR C 68 rfl ?_
      refine g_getI C 69 rfl fl_X7_109 rfl rfl ?_
      refine g_iconst C 70 rfl 1 (by decide) ?_
      refine g_iadd C 71 rfl ?_
      refine g_put C 72 rfl fp_X7_109 rfl rfl (fun s21 => ?_)
      refine g_iconst C 73 rfl 0 (by decide) ?_
      skip
      exact g_iret C 74 rfl rfl
  · refine g_iconst C 7 rfl 0 (by decide) ?_
    skip
    exact g_iret C 8 rfl rfl
set_option maxHeartbeats 1000000 in
set_option maxRecDepth 100000 in
theorem m_X7_address (l : Launch) (dC : Nat → ClassId) (dI : Nat → Nat → Nat) (dA : Nat → ClassId) (ad : Nat → Nat) (hI : sw_inj sw_ZM ad) (σ : sw_St)  (b : (Int32 × sw_St)) (hb : f_X7_address σ = some b) : sw_M sw_ZM l yX7_address cX7_address 6 (some .int) 4 dC dI dA ad [(sw_rv ad 1)] σ (sw_eI b) :=
  sw_mk1 (ψ := sw_eI) 5 (by decide) sw_ZMok hI dk_X7_address rfl (sw_c1_all _ ⟨sw_rv_cat _ _, trivial⟩) hb (fun p e R M C => s_X7_address C σ)
/-! SplitWatchModel.oneTurn()I -/
def L_X7_oneTurn : sw_Is := [(0, .aload_n 0, 1, 1), (1, .dup, 1, 2), (2, .getfield 94, 3, 5), (5, .iconst 1, 1, 6), (6, .iadd, 1, 7), (7, .putfield 94, 3, 10), (10, .aload_n 0, 1, 11), (11, .invokevirtual 214, 3, 14), (14, .ifCond .eq 7, 3, 17), (17, .iconst 1, 1, 18), (18, .goto 4, 3, 21), (21, .iconst 0, 1, 22), (22, .istore_n 1, 1, 23), (23, .iload_n 1, 1, 24), (24, .aload_n 0, 1, 25), (25, .invokevirtual 218, 3, 28), (28, .iadd, 1, 29), (29, .ireturn, 1, 30)]
theorem dk_X7_oneTurn : sw_dc cX7_oneTurn L_X7_oneTurn = true := by decide +kernel
def f_X7_oneTurn_22  (σ : sw_St) (y0 : Int32) : Option (Int32 × sw_St) := (f_X7_address σ).bind fun r1 => (some ((y0 + r1.1), r1.2))
def f_X7_oneTurn (σ : sw_St)  : Option (Int32 × sw_St) := sw_pt σ 1 4 ((σ 1 4) + 1) fun s1 => ((f_X7_answer s1).bind fun r2 => (if r2.1 = 0 then (f_X7_oneTurn_22 r2.2 0) else (f_X7_oneTurn_22 r2.2 1)))
set_option maxHeartbeats 1000000 in
set_option maxRecDepth 100000 in
theorem s_X7_oneTurn_22 {V : sw_V} (C : sw_Cx sw_ZM V cX7_oneTurn RX7 2 (some .int) L_X7_oneTurn 5) (σ : sw_St) (y0 : Int32) : sw_S sw_ZM V sw_eI [some (sw_r V 1), none] [(.int y0)] 22 σ (f_X7_oneTurn_22 σ y0) := by
  unfold f_X7_oneTurn_22
  refine g_istore_n C 12 rfl (Nat.le_of_ble_eq_true rfl) (Or.inr (Or.inr (Or.inr ⟨_, rfl⟩))) ?_
  refine g_iload_n C 13 rfl rfl ?_
  refine g_aload_n C 14 rfl rfl ?_
  refine g_callV (ψ₁ := sw_eI) C 15 rfl [] [(.int y0)] ml_X7_218 rfl (Nat.le_of_ble_eq_true rfl) (by decide) rfl rfl (fun b hb => m_X7_address V.1.2.1 _ _ _ _ C.inj σ b hb) rfl (g_cI fun r1 => ?_)
  refine g_iadd C 16 rfl ?_
  skip
  exact g_iret C 17 rfl rfl
set_option maxHeartbeats 1000000 in
set_option maxRecDepth 100000 in
theorem s_X7_oneTurn {V : sw_V} (C : sw_Cx sw_ZM V cX7_oneTurn RX7 2 (some .int) L_X7_oneTurn 5) (σ : sw_St)  : sw_S sw_ZM V sw_eI [some (sw_r V 1), none] [] 0 σ (f_X7_oneTurn σ) := by
  unfold f_X7_oneTurn
  refine g_aload_n C 0 rfl rfl ?_
  refine g_dupR C 1 rfl ?_
  refine g_getI C 2 rfl fl_X7_94 rfl rfl ?_
  refine g_iconst C 3 rfl 1 (by decide) ?_
  refine g_iadd C 4 rfl ?_
  refine g_put C 5 rfl fp_X7_94 rfl rfl (fun s1 => ?_)
  refine g_aload_n C 6 rfl rfl ?_
  refine g_callV (ψ₁ := sw_eI) C 7 rfl [] [] ml_X7_214 rfl (Nat.le_of_ble_eq_true rfl) (by decide) rfl rfl (fun b hb => m_X7_answer V.1.2.1 _ _ _ _ C.inj s1 b hb) rfl (g_cI fun r2 => ?_)
  refine g_if_eq C 8 rfl 21 (by decide) ?_ ?_
  · refine g_iconst C 11 rfl 0 (by decide) ?_
    exact g_wk (s_X7_oneTurn_22 C r2.2 0) ⟨rfl, trivial⟩
  · refine g_iconst C 9 rfl 1 (by decide) ?_
    refine g_goto C 10 rfl 22 (by decide) ?_
    exact g_wk (s_X7_oneTurn_22 C r2.2 1) ⟨rfl, trivial⟩
set_option maxHeartbeats 1000000 in
set_option maxRecDepth 100000 in
theorem m_X7_oneTurn (l : Launch) (dC : Nat → ClassId) (dI : Nat → Nat → Nat) (dA : Nat → ClassId) (ad : Nat → Nat) (hI : sw_inj sw_ZM ad) (σ : sw_St)  (b : (Int32 × sw_St)) (hb : f_X7_oneTurn σ = some b) : sw_M sw_ZM l yX7_oneTurn cX7_oneTurn 2 (some .int) 5 dC dI dA ad [(sw_rv ad 1)] σ (sw_eI b) :=
  sw_mk1 (ψ := sw_eI) 1 (by decide) sw_ZMok hI dk_X7_oneTurn rfl (sw_c1_all _ ⟨sw_rv_cat _ _, trivial⟩) hb (fun p e R M C => s_X7_oneTurn C σ)
/-! SplitWatchModel.turn(I)I -/
def L_X7_turn : sw_Is := [(0, .iload_n 1, 1, 1), (1, .i2l, 1, 2), (2, .lconst 1, 1, 3), (3, .ldc2_w 222, 3, 6), (6, .invokestatic 75, 3, 9), (9, .ifCond .ne 5, 3, 12), (12, .iconst (-1), 1, 13), (13, .ireturn, 1, 14), (14, .iconst 0, 1, 15), (15, .istore_n 2, 1, 16), (16, .iconst 0, 1, 17), (17, .istore_n 3, 1, 18), (18, .iload_n 3, 1, 19), (19, .iload_n 1, 1, 20), (20, .if_icmp .ge 16, 3, 23), (23, .iload_n 2, 1, 24), (24, .aload_n 0, 1, 25), (25, .invokevirtual 224, 3, 28), (28, .iadd, 1, 29), (29, .istore_n 2, 1, 30), (30, .iinc 3 1, 3, 33), (33, .goto (-15), 3, 36), (36, .iload_n 2, 1, 37), (37, .ireturn, 1, 38)]
theorem dk_X7_turn : sw_dc cX7_turn L_X7_turn = true := by decide +kernel
def f_X7_turn_18  : Nat → sw_St → Int32 → Int32 → Int32 → Option (Int32 × sw_St)
  | 0 => fun _ _ _ _ => none
  | n + 1 => fun σ x1 x2 x3 => if x1 ≤ x3 then (some (x2, σ)) else ((f_X7_oneTurn σ).bind fun r1 => ((f_X7_turn_18 n) r1.2 x1 (x2 + r1.1) (x3 + 1)))
def f_X7_turn (σ : sw_St) (x1 : Int32) : Option (Int32 × sw_St) := (f_X7_in σ (Int32.toInt64 x1) (1 : Int64) (99 : Int64)).bind fun r1 => (if r1 = 0 then (some ((-1), σ)) else (f_X7_turn_18 sw_fuel σ x1 0 0))
set_option maxHeartbeats 1000000 in
set_option maxRecDepth 100000 in
theorem s_X7_turn_18 {V : sw_V} (C : sw_Cx sw_ZM V cX7_turn RX7 4 (some .int) L_X7_turn 6) : ∀ (n : Nat) (σ : sw_St) (x1 : Int32) (x2 : Int32) (x3 : Int32), sw_S sw_ZM V sw_eI [some (sw_r V 1), some (.int x1), some (.int x2), some (.int x3)] [] 18 σ (f_X7_turn_18 n σ x1 x2 x3) := by
  intro n
  induction n with
  | zero =>
    intro σ x1 x2 x3
    exact g_none
  | succ n ih =>
    intro σ x1 x2 x3
    rw [f_X7_turn_18]
    refine g_iload_n C 12 rfl rfl ?_
    refine g_iload_n C 13 rfl rfl ?_
    refine g_icmp_ge C 14 rfl 36 (by decide) ?_ ?_
    · refine g_iload_n C 22 rfl rfl ?_
      skip
      exact g_iret C 23 rfl rfl
    · refine g_iload_n C 15 rfl rfl ?_
      refine g_aload_n C 16 rfl rfl ?_
      refine g_callV (ψ₁ := sw_eI) C 17 rfl [] [(.int x2)] ml_X7_224 rfl (Nat.le_of_ble_eq_true rfl) (by decide) rfl rfl (fun b hb => m_X7_oneTurn V.1.2.1 _ _ _ _ C.inj σ b hb) rfl (g_cI fun r1 => ?_)
      refine g_iadd C 18 rfl ?_
      refine g_istore_n C 19 rfl (Nat.le_of_ble_eq_true rfl) (Or.inr (Or.inr (Or.inl ⟨_, rfl⟩))) ?_
      refine g_iinc C 20 rfl 1 (by decide) rfl (Nat.le_of_ble_eq_true rfl) (Or.inr (Or.inr (Or.inl ⟨_, rfl⟩))) ?_
      refine g_goto C 21 rfl 18 (by decide) ?_
      exact g_wk (ih r1.2 x1 (x2 + r1.1) (x3 + 1)) ⟨rfl, rfl, rfl, rfl, trivial⟩
set_option maxHeartbeats 1000000 in
set_option maxRecDepth 100000 in
theorem s_X7_turn {V : sw_V} (C : sw_Cx sw_ZM V cX7_turn RX7 4 (some .int) L_X7_turn 6) (σ : sw_St) (x1 : Int32) : sw_S sw_ZM V sw_eI [some (sw_r V 1), some (.int x1), none, none] [] 0 σ (f_X7_turn σ x1) := by
  unfold f_X7_turn
  refine g_iload_n C 0 rfl rfl ?_
  refine g_i2l C 1 rfl ?_
  refine g_lconst C 2 rfl (1 : Int64) (by decide) ?_
  refine g_ldc2 C 3 rfl (99 : Int64) q_963 ?_
  refine g_callS (ψ₁ := sw_eP σ) C 4 rfl [(.long (Int32.toInt64 x1)), (.long (1 : Int64)), (.long (99 : Int64))] [] ml_X7_75 rfl (Nat.le_of_ble_eq_true rfl) (by decide) (fun b hb => m_X7_in V.1.2.1 _ _ _ _ C.inj σ (Int32.toInt64 x1) (1 : Int64) (99 : Int64) b hb) rfl (g_cP fun r1 => ?_)
  refine g_if_ne C 5 rfl 14 (by decide) ?_ ?_
  · refine g_iconst C 8 rfl 0 (by decide) ?_
    refine g_istore_n C 9 rfl (Nat.le_of_ble_eq_true rfl) (Or.inr (Or.inr (Or.inl ⟨_, rfl⟩))) ?_
    refine g_iconst C 10 rfl 0 (by decide) ?_
    refine g_istore_n C 11 rfl (Nat.le_of_ble_eq_true rfl) (Or.inr (Or.inr (Or.inl ⟨_, rfl⟩))) ?_
    exact g_wk (s_X7_turn_18 C sw_fuel σ x1 0 0) ⟨rfl, rfl, rfl, rfl, trivial⟩
  · refine g_iconst C 6 rfl (-1) (by decide) ?_
    skip
    exact g_iret C 7 rfl rfl
set_option maxHeartbeats 1000000 in
set_option maxRecDepth 100000 in
theorem m_X7_turn (l : Launch) (dC : Nat → ClassId) (dI : Nat → Nat → Nat) (dA : Nat → ClassId) (ad : Nat → Nat) (hI : sw_inj sw_ZM ad) (σ : sw_St) (x1 : Int32) (b : (Int32 × sw_St)) (hb : f_X7_turn σ x1 = some b) : sw_M sw_ZM l yX7_turn cX7_turn 4 (some .int) 6 dC dI dA ad [(sw_rv ad 1), (.int x1)] σ (sw_eI b) :=
  sw_mk1 (ψ := sw_eI) 2 (by decide) sw_ZMok hI dk_X7_turn rfl (sw_c1_all _ ⟨sw_rv_cat _ _, rfl, trivial⟩) hb (fun p e R M C => s_X7_turn C σ x1)
/-! SplitWatchModel.write(I)I -/
def L_X7_write : sw_Is := [(0, .iload_n 1, 1, 1), (1, .i2l, 1, 2), (2, .ldc2_w 227, 3, 5), (5, .ldc2_w 229, 3, 8), (8, .invokestatic 75, 3, 11), (11, .ifCond .ne 5, 3, 14), (14, .iconst (-1), 1, 15), (15, .ireturn, 1, 16), (16, .aload_n 0, 1, 17), (17, .getfield 231, 3, 20), (20, .sipush 200, 3, 23), (23, .if_icmp .ne 6, 3, 26), (26, .bipush (-3), 2, 28), (28, .ireturn, 1, 29), (29, .aload_n 0, 1, 30), (30, .getfield 58, 3, 33), (33, .aload_n 0, 1, 34), (34, .getfield 231, 3, 37), (37, .iload_n 1, 1, 38), (38, .iastore, 1, 39), (39, .aload_n 0, 1, 40), (40, .dup, 1, 41), (41, .getfield 231, 3, 44), (44, .iconst 1, 1, 45), (45, .iadd, 1, 46), (46, .putfield 231, 3, 49), (49, .aload_n 0, 1, 50), (50, .getfield 231, 3, 53), (53, .ireturn, 1, 54)]
theorem dk_X7_write : sw_dc cX7_write L_X7_write = true := by decide +kernel
def f_X7_write (σ : sw_St) (x1 : Int32) : Option (Int32 × sw_St) := (f_X7_in σ (Int32.toInt64 x1) (32 : Int64) (126 : Int64)).bind fun r1 => (if r1 = 0 then (some ((-1), σ)) else (if (σ 1 29) = 200 then (some ((-3), σ)) else (sw_ck (sw_in (σ 1 29) 200) (sw_pt σ 18 (sw_ix (σ 1 29)) x1 fun s3 => (sw_pt s3 1 29 ((s3 1 29) + 1) fun s4 => (some ((s4 1 29), s4)))))))
set_option maxHeartbeats 1000000 in
set_option maxRecDepth 100000 in
theorem s_X7_write {V : sw_V} (C : sw_Cx sw_ZM V cX7_write RX7 2 (some .int) L_X7_write 1) (σ : sw_St) (x1 : Int32) : sw_S sw_ZM V sw_eI [some (sw_r V 1), some (.int x1)] [] 0 σ (f_X7_write σ x1) := by
  unfold f_X7_write
  refine g_iload_n C 0 rfl rfl ?_
  refine g_i2l C 1 rfl ?_
  refine g_ldc2 C 2 rfl (32 : Int64) q_1024 ?_
  refine g_ldc2 C 3 rfl (126 : Int64) q_1025 ?_
  refine g_callS (ψ₁ := sw_eP σ) C 4 rfl [(.long (Int32.toInt64 x1)), (.long (32 : Int64)), (.long (126 : Int64))] [] ml_X7_75 rfl (Nat.le_of_ble_eq_true rfl) (by decide) (fun b hb => m_X7_in V.1.2.1 _ _ _ _ C.inj σ (Int32.toInt64 x1) (32 : Int64) (126 : Int64) b hb) rfl (g_cP fun r1 => ?_)
  refine g_if_ne C 5 rfl 16 (by decide) ?_ ?_
  · refine g_aload_n C 8 rfl rfl ?_
    refine g_getI C 9 rfl fl_X7_231 rfl rfl ?_
    refine g_sipush C 10 rfl 200 (by decide) ?_
    refine g_icmp_ne C 11 rfl 29 (by decide) ?_ ?_
    · refine g_aload_n C 14 rfl rfl ?_
      refine g_getR C 15 rfl fl_X7_58 rfl rfl ?_
      refine g_aload_n C 16 rfl rfl ?_
      refine g_getI C 17 rfl fl_X7_231 rfl rfl ?_
      refine g_iload_n C 18 rfl rfl ?_
      refine g_ck fun h2 => ?_
      refine g_iast C 19 rfl rfl h2 (fun s3 => ?_)
      refine g_aload_n C 20 rfl rfl ?_
      refine g_dupR C 21 rfl ?_
      refine g_getI C 22 rfl fl_X7_231 rfl rfl ?_
      refine g_iconst C 23 rfl 1 (by decide) ?_
      refine g_iadd C 24 rfl ?_
      refine g_put C 25 rfl fp_X7_231 rfl rfl (fun s4 => ?_)
      refine g_aload_n C 26 rfl rfl ?_
      refine g_getI C 27 rfl fl_X7_231 rfl rfl ?_
      skip
      exact g_iret C 28 rfl rfl
    · refine g_bipush C 12 rfl (-3) (by decide) ?_
      skip
      exact g_iret C 13 rfl rfl
  · refine g_iconst C 6 rfl (-1) (by decide) ?_
    skip
    exact g_iret C 7 rfl rfl
set_option maxHeartbeats 1000000 in
set_option maxRecDepth 100000 in
theorem m_X7_write (l : Launch) (dC : Nat → ClassId) (dI : Nat → Nat → Nat) (dA : Nat → ClassId) (ad : Nat → Nat) (hI : sw_inj sw_ZM ad) (σ : sw_St) (x1 : Int32) (b : (Int32 × sw_St)) (hb : f_X7_write σ x1 = some b) : sw_M sw_ZM l yX7_write cX7_write 2 (some .int) 1 dC dI dA ad [(sw_rv ad 1), (.int x1)] σ (sw_eI b) :=
  sw_mk1 (ψ := sw_eI) 0 (by decide) sw_ZMok hI dk_X7_write rfl (sw_c1_all _ ⟨sw_rv_cat _ _, rfl, trivial⟩) hb (fun p e R M C => s_X7_write C σ x1)
/-! SplitWatchModel.wipe()I -/
def L_X7_wipe : sw_Is := [(0, .aload_n 0, 1, 1), (1, .getfield 231, 3, 4), (4, .istore_n 1, 1, 5), (5, .aload_n 0, 1, 6), (6, .iconst 0, 1, 7), (7, .putfield 231, 3, 10), (10, .iload_n 1, 1, 11), (11, .ireturn, 1, 12)]
theorem dk_X7_wipe : sw_dc cX7_wipe L_X7_wipe = true := by decide +kernel
def f_X7_wipe (σ : sw_St)  : Option (Int32 × sw_St) := sw_pt σ 1 29 0 fun s1 => (some ((σ 1 29), s1))
set_option maxHeartbeats 1000000 in
set_option maxRecDepth 100000 in
theorem s_X7_wipe {V : sw_V} (C : sw_Cx sw_ZM V cX7_wipe RX7 2 (some .int) L_X7_wipe 0) (σ : sw_St)  : sw_S sw_ZM V sw_eI [some (sw_r V 1), none] [] 0 σ (f_X7_wipe σ) := by
  unfold f_X7_wipe
  refine g_aload_n C 0 rfl rfl ?_
  refine g_getI C 1 rfl fl_X7_231 rfl rfl ?_
  refine g_istore_n C 2 rfl (Nat.le_of_ble_eq_true rfl) (Or.inr (Or.inr (Or.inr ⟨_, rfl⟩))) ?_
  refine g_aload_n C 3 rfl rfl ?_
  refine g_iconst C 4 rfl 0 (by decide) ?_
  refine g_put C 5 rfl fp_X7_231 rfl rfl (fun s1 => ?_)
  refine g_iload_n C 6 rfl rfl ?_
  skip
  exact g_iret C 7 rfl rfl
set_option maxHeartbeats 1000000 in
set_option maxRecDepth 100000 in
theorem m_X7_wipe (l : Launch) (dC : Nat → ClassId) (dI : Nat → Nat → Nat) (dA : Nat → ClassId) (ad : Nat → Nat) (hI : sw_inj sw_ZM ad) (σ : sw_St)  (b : (Int32 × sw_St)) (hb : f_X7_wipe σ = some b) : sw_M sw_ZM l yX7_wipe cX7_wipe 2 (some .int) 0 dC dI dA ad [(sw_rv ad 1)] σ (sw_eI b) :=
  sw_mk1 (ψ := sw_eI) 1 (by decide) sw_ZMok hI dk_X7_wipe rfl (sw_c1_all _ ⟨sw_rv_cat _ _, trivial⟩) hb (fun p e R M C => s_X7_wipe C σ)
/-! SplitWatchModel.letterAt(I)I -/
def L_X7_letterAt : sw_Is := [(0, .iload_n 1, 1, 1), (1, .aload_n 0, 1, 2), (2, .getfield 231, 3, 5), (5, .if_icmp .ge 12, 3, 8), (8, .aload_n 0, 1, 9), (9, .getfield 58, 3, 12), (12, .iload_n 1, 1, 13), (13, .iaload, 1, 14), (14, .goto 4, 3, 17), (17, .iconst 0, 1, 18), (18, .ireturn, 1, 19)]
theorem dk_X7_letterAt : sw_dc cX7_letterAt L_X7_letterAt = true := by decide +kernel
def f_X7_letterAt (σ : sw_St) (x1 : Int32) : Option Int32 := if (σ 1 29) ≤ x1 then (some 0) else (sw_ck (sw_in x1 200) (some (σ 18 (sw_ix x1))))
set_option maxHeartbeats 1000000 in
set_option maxRecDepth 100000 in
theorem s_X7_letterAt {V : sw_V} (C : sw_Cx sw_ZM V cX7_letterAt RX7 2 (some .int) L_X7_letterAt 0) (σ : sw_St) (x1 : Int32) : sw_S sw_ZM V (sw_eP σ) [some (sw_r V 1), some (.int x1)] [] 0 σ (f_X7_letterAt σ x1) := by
  unfold f_X7_letterAt
  refine g_iload_n C 0 rfl rfl ?_
  refine g_aload_n C 1 rfl rfl ?_
  refine g_getI C 2 rfl fl_X7_231 rfl rfl ?_
  refine g_icmp_ge C 3 rfl 17 (by decide) ?_ ?_
  · refine g_iconst C 9 rfl 0 (by decide) ?_
    skip
    exact g_iret C 10 rfl rfl
  · refine g_aload_n C 4 rfl rfl ?_
    refine g_getR C 5 rfl fl_X7_58 rfl rfl ?_
    refine g_iload_n C 6 rfl rfl ?_
    refine g_ck fun h1 => ?_
    refine g_iald C 7 rfl rfl h1 ?_
    refine g_goto C 8 rfl 18 (by decide) ?_
    skip
    exact g_iret C 10 rfl rfl
set_option maxHeartbeats 1000000 in
set_option maxRecDepth 100000 in
theorem m_X7_letterAt (l : Launch) (dC : Nat → ClassId) (dI : Nat → Nat → Nat) (dA : Nat → ClassId) (ad : Nat → Nat) (hI : sw_inj sw_ZM ad) (σ : sw_St) (x1 : Int32) (b : Int32) (hb : f_X7_letterAt σ x1 = some b) : sw_M sw_ZM l yX7_letterAt cX7_letterAt 2 (some .int) 0 dC dI dA ad [(sw_rv ad 1), (.int x1)] σ ((sw_eP σ) b) :=
  sw_mk1 (ψ := (sw_eP σ)) 0 (by decide) sw_ZMok hI dk_X7_letterAt rfl (sw_c1_all _ ⟨sw_rv_cat _ _, rfl, trivial⟩) hb (fun p e R M C => s_X7_letterAt C σ x1)
/-! SplitWatchModel.word()J -/
def L_X7_word : sw_Is := [(0, .lconst 0, 1, 1), (1, .lstore_n 1, 1, 2), (2, .iconst 0, 1, 3), (3, .istore_n 3, 1, 4), (4, .aload_n 0, 1, 5), (5, .aload_n 0, 1, 6), (6, .getfield 234, 3, 9), (9, .invokevirtual 237, 3, 12), (12, .i2l, 1, 13), (13, .ldc2_w 240, 3, 16), (16, .ldc2_w 242, 3, 19), (19, .invokestatic 75, 3, 22), (22, .ifCond .eq 49, 3, 25), (25, .iload_n 3, 1, 26), (26, .bipush 7, 2, 28), (28, .if_icmp .ge 25, 3, 31), (31, .ldc2_w 244, 3, 34), (34, .lload_n 1, 1, 35), (35, .lmul, 1, 36), (36, .aload_n 0, 1, 37), (37, .aload_n 0, 1, 38), (38, .getfield 234, 3, 41), (41, .invokevirtual 237, 3, 44), (44, .i2l, 1, 45), (45, .ladd, 1, 46), (46, .ldc2_w 246, 3, 49), (49, .lsub, 1, 50), (50, .goto 4, 3, 53), (53, .lload_n 1, 1, 54), (54, .lstore_n 1, 1, 55), (55, .iinc 3 1, 3, 58), (58, .aload_n 0, 1, 59), (59, .dup, 1, 60), (60, .getfield 234, 3, 63), (63, .iconst 1, 1, 64), (64, .iadd, 1, 65), (65, .putfield 234, 3, 68), (68, .goto (-64), 3, 71), (71, .lload_n 1, 1, 72), (72, .lreturn, 1, 73)]
theorem dk_X7_word : sw_dc cX7_word L_X7_word = true := by decide +kernel
def f_X7_word_54 (k4 : sw_St → Int64 → Int32 → Option (Int64 × sw_St)) (σ : sw_St) (x3 : Int32) (y0 : Int64) : Option (Int64 × sw_St) := sw_pt σ 1 31 ((σ 1 31) + 1) fun s1 => (k4 s1 y0 (x3 + 1))
def f_X7_word_4  : Nat → sw_St → Int64 → Int32 → Option (Int64 × sw_St)
  | 0 => fun _ _ _ => none
  | n + 1 => fun σ x1 x3 => (f_X7_letterAt σ (σ 1 31)).bind fun r1 => ((f_X7_in σ (Int32.toInt64 r1) (97 : Int64) (122 : Int64)).bind fun r2 => (if r2 = 0 then (some (x1, σ)) else (if 7 ≤ x3 then (f_X7_word_54 (f_X7_word_4 n) σ x3 x1) else ((f_X7_letterAt σ (σ 1 31)).bind fun r3 => (f_X7_word_54 (f_X7_word_4 n) σ x3 ((((27 : Int64) * x1) + (Int32.toInt64 r3)) - (96 : Int64)))))))
def f_X7_word (σ : sw_St)  : Option (Int64 × sw_St) := f_X7_word_4 sw_fuel σ (0 : Int64) 0
set_option maxHeartbeats 1000000 in
set_option maxRecDepth 100000 in
theorem s_X7_word_54 {V : sw_V} (C : sw_Cx sw_ZM V cX7_word RX7 4 (some .long) L_X7_word 1) (k4 : sw_St → Int64 → Int32 → Option (Int64 × sw_St)) (hk4 : ∀ (σ : sw_St) (x1 : Int64) (x3 : Int32), sw_S sw_ZM V sw_eM [some (sw_r V 1), some (.long x1), none, some (.int x3)] [] 4 σ (k4 σ x1 x3)) (σ : sw_St) (x3 : Int32) (y0 : Int64) : sw_S sw_ZM V sw_eM [some (sw_r V 1), none, none, some (.int x3)] [(.long y0)] 54 σ (f_X7_word_54 k4 σ x3 y0) := by
  unfold f_X7_word_54
  refine g_lstore_n C 29 rfl (Nat.le_of_ble_eq_true rfl) (Or.inr (Or.inr (Or.inr ⟨_, rfl⟩))) ?_
  refine g_iinc C 30 rfl 1 (by decide) rfl (Nat.le_of_ble_eq_true rfl) (Or.inr (Or.inl rfl)) ?_
  refine g_aload_n C 31 rfl rfl ?_
  refine g_dupR C 32 rfl ?_
  refine g_getI C 33 rfl fl_X7_234 rfl rfl ?_
  refine g_iconst C 34 rfl 1 (by decide) ?_
  refine g_iadd C 35 rfl ?_
  refine g_put C 36 rfl fp_X7_234 rfl rfl (fun s1 => ?_)
  refine g_goto C 37 rfl 4 (by decide) ?_
  exact g_wk (hk4 s1 y0 (x3 + 1)) ⟨rfl, rfl, rfl, trivial⟩
set_option maxHeartbeats 1000000 in
set_option maxRecDepth 100000 in
theorem s_X7_word_4 {V : sw_V} (C : sw_Cx sw_ZM V cX7_word RX7 4 (some .long) L_X7_word 1) : ∀ (n : Nat) (σ : sw_St) (x1 : Int64) (x3 : Int32), sw_S sw_ZM V sw_eM [some (sw_r V 1), some (.long x1), none, some (.int x3)] [] 4 σ (f_X7_word_4 n σ x1 x3) := by
  intro n
  induction n with
  | zero =>
    intro σ x1 x3
    exact g_none
  | succ n ih =>
    intro σ x1 x3
    rw [f_X7_word_4]
    refine g_aload_n C 4 rfl rfl ?_
    refine g_aload_n C 5 rfl rfl ?_
    refine g_getI C 6 rfl fl_X7_234 rfl rfl ?_
    refine g_callV (ψ₁ := sw_eP σ) C 7 rfl [(.int (σ 1 31))] [] ml_X7_237 rfl (Nat.le_of_ble_eq_true rfl) (by decide) rfl rfl (fun b hb => m_X7_letterAt V.1.2.1 _ _ _ _ C.inj σ (σ 1 31) b hb) rfl (g_cP fun r1 => ?_)
    refine g_i2l C 8 rfl ?_
    refine g_ldc2 C 9 rfl (97 : Int64) q_1046 ?_
    refine g_ldc2 C 10 rfl (122 : Int64) q_1047 ?_
    refine g_callS (ψ₁ := sw_eP σ) C 11 rfl [(.long (Int32.toInt64 r1)), (.long (97 : Int64)), (.long (122 : Int64))] [] ml_X7_75 rfl (Nat.le_of_ble_eq_true rfl) (by decide) (fun b hb => m_X7_in V.1.2.1 _ _ _ _ C.inj σ (Int32.toInt64 r1) (97 : Int64) (122 : Int64) b hb) rfl (g_cP fun r2 => ?_)
    refine g_if_eq C 12 rfl 71 (by decide) ?_ ?_
    · refine g_lload_n C 38 rfl rfl ?_
      exact g_lret C 39 rfl rfl
    · refine g_iload_n C 13 rfl rfl ?_
      refine g_bipush C 14 rfl 7 (by decide) ?_
      refine g_icmp_ge C 15 rfl 53 (by decide) ?_ ?_
      · refine g_lload_n C 28 rfl rfl ?_
        exact g_wk (s_X7_word_54 C (f_X7_word_4 n) ih σ x3 x1) ⟨rfl, rfl, trivial⟩
      · refine g_ldc2 C 16 rfl (27 : Int64) q_1048 ?_
        refine g_lload_n C 17 rfl rfl ?_
        refine g_lmul C 18 rfl ?_
        refine g_aload_n C 19 rfl rfl ?_
        refine g_aload_n C 20 rfl rfl ?_
        refine g_getI C 21 rfl fl_X7_234 rfl rfl ?_
        refine g_callV (ψ₁ := sw_eP σ) C 22 rfl [(.int (σ 1 31))] [(.long ((27 : Int64) * x1))] ml_X7_237 rfl (Nat.le_of_ble_eq_true rfl) (by decide) rfl rfl (fun b hb => m_X7_letterAt V.1.2.1 _ _ _ _ C.inj σ (σ 1 31) b hb) rfl (g_cP fun r3 => ?_)
        refine g_i2l C 23 rfl ?_
        refine g_ladd C 24 rfl ?_
        refine g_ldc2 C 25 rfl (96 : Int64) q_1049 ?_
        refine g_lsub C 26 rfl ?_
        refine g_goto C 27 rfl 54 (by decide) ?_
        exact g_wk (s_X7_word_54 C (f_X7_word_4 n) ih σ x3 ((((27 : Int64) * x1) + (Int32.toInt64 r3)) - (96 : Int64))) ⟨rfl, rfl, trivial⟩
set_option maxHeartbeats 1000000 in
set_option maxRecDepth 100000 in
theorem s_X7_word {V : sw_V} (C : sw_Cx sw_ZM V cX7_word RX7 4 (some .long) L_X7_word 1) (σ : sw_St)  : sw_S sw_ZM V sw_eM [some (sw_r V 1), none, none, none] [] 0 σ (f_X7_word σ) := by
  unfold f_X7_word
  refine g_lconst C 0 rfl (0 : Int64) (by decide) ?_
  refine g_lstore_n C 1 rfl (Nat.le_of_ble_eq_true rfl) (Or.inr (Or.inr (Or.inr ⟨_, rfl⟩))) ?_
  refine g_iconst C 2 rfl 0 (by decide) ?_
  refine g_istore_n C 3 rfl (Nat.le_of_ble_eq_true rfl) (Or.inr (Or.inl rfl)) ?_
  exact g_wk (s_X7_word_4 C sw_fuel σ (0 : Int64) 0) ⟨rfl, rfl, rfl, trivial⟩
set_option maxHeartbeats 1000000 in
set_option maxRecDepth 100000 in
theorem m_X7_word (l : Launch) (dC : Nat → ClassId) (dI : Nat → Nat → Nat) (dA : Nat → ClassId) (ad : Nat → Nat) (hI : sw_inj sw_ZM ad) (σ : sw_St)  (b : (Int64 × sw_St)) (hb : f_X7_word σ = some b) : sw_M sw_ZM l yX7_word cX7_word 4 (some .long) 1 dC dI dA ad [(sw_rv ad 1)] σ (sw_eM b) :=
  sw_mk1 (ψ := sw_eM) 3 (by decide) sw_ZMok hI dk_X7_word rfl (sw_c1_all _ ⟨sw_rv_cat _ _, trivial⟩) hb (fun p e R M C => s_X7_word C σ)
/-! SplitWatchModel.wordOf(IIII)J -/
def L_X7_wordOf : sw_Is := [(0, .ldc2_w 244, 3, 3), (3, .iload_n 0, 1, 4), (4, .bipush 96, 2, 6), (6, .isub, 1, 7), (7, .i2l, 1, 8), (8, .lmul, 1, 9), (9, .iload_n 1, 1, 10), (10, .i2l, 1, 11), (11, .ladd, 1, 12), (12, .ldc2_w 246, 3, 15), (15, .lsub, 1, 16), (16, .ldc2_w 244, 3, 19), (19, .lmul, 1, 20), (20, .iload_n 2, 1, 21), (21, .i2l, 1, 22), (22, .ladd, 1, 23), (23, .ldc2_w 246, 3, 26), (26, .lsub, 1, 27), (27, .ldc2_w 244, 3, 30), (30, .lmul, 1, 31), (31, .iload_n 3, 1, 32), (32, .i2l, 1, 33), (33, .ladd, 1, 34), (34, .ldc2_w 246, 3, 37), (37, .lsub, 1, 38), (38, .lreturn, 1, 39)]
theorem dk_X7_wordOf : sw_dc cX7_wordOf L_X7_wordOf = true := by decide +kernel
def f_X7_wordOf (σ : sw_St) (x0 : Int32) (x1 : Int32) (x2 : Int32) (x3 : Int32) : Option Int64 := some ((((((((((27 : Int64) * (Int32.toInt64 (x0 - 96))) + (Int32.toInt64 x1)) - (96 : Int64)) * (27 : Int64)) + (Int32.toInt64 x2)) - (96 : Int64)) * (27 : Int64)) + (Int32.toInt64 x3)) - (96 : Int64))
set_option maxHeartbeats 1000000 in
set_option maxRecDepth 100000 in
theorem s_X7_wordOf {V : sw_V} (C : sw_Cx sw_ZM V cX7_wordOf RX7 4 (some .long) L_X7_wordOf 0) (σ : sw_St) (x0 : Int32) (x1 : Int32) (x2 : Int32) (x3 : Int32) : sw_S sw_ZM V (sw_eL σ) [some (.int x0), some (.int x1), some (.int x2), some (.int x3)] [] 0 σ (f_X7_wordOf σ x0 x1 x2 x3) := by
  unfold f_X7_wordOf
  refine g_ldc2 C 0 rfl (27 : Int64) q_1048 ?_
  refine g_iload_n C 1 rfl rfl ?_
  refine g_bipush C 2 rfl 96 (by decide) ?_
  refine g_isub C 3 rfl ?_
  refine g_i2l C 4 rfl ?_
  refine g_lmul C 5 rfl ?_
  refine g_iload_n C 6 rfl rfl ?_
  refine g_i2l C 7 rfl ?_
  refine g_ladd C 8 rfl ?_
  refine g_ldc2 C 9 rfl (96 : Int64) q_1049 ?_
  refine g_lsub C 10 rfl ?_
  refine g_ldc2 C 11 rfl (27 : Int64) q_1048 ?_
  refine g_lmul C 12 rfl ?_
  refine g_iload_n C 13 rfl rfl ?_
  refine g_i2l C 14 rfl ?_
  refine g_ladd C 15 rfl ?_
  refine g_ldc2 C 16 rfl (96 : Int64) q_1049 ?_
  refine g_lsub C 17 rfl ?_
  refine g_ldc2 C 18 rfl (27 : Int64) q_1048 ?_
  refine g_lmul C 19 rfl ?_
  refine g_iload_n C 20 rfl rfl ?_
  refine g_i2l C 21 rfl ?_
  refine g_ladd C 22 rfl ?_
  refine g_ldc2 C 23 rfl (96 : Int64) q_1049 ?_
  refine g_lsub C 24 rfl ?_
  exact g_lret C 25 rfl rfl
set_option maxHeartbeats 1000000 in
set_option maxRecDepth 100000 in
theorem m_X7_wordOf (l : Launch) (dC : Nat → ClassId) (dI : Nat → Nat → Nat) (dA : Nat → ClassId) (ad : Nat → Nat) (hI : sw_inj sw_ZM ad) (σ : sw_St) (x0 : Int32) (x1 : Int32) (x2 : Int32) (x3 : Int32) (b : Int64) (hb : f_X7_wordOf σ x0 x1 x2 x3 = some b) : sw_M sw_ZM l yX7_wordOf cX7_wordOf 4 (some .long) 0 dC dI dA ad [(.int x0), (.int x1), (.int x2), (.int x3)] σ ((sw_eL σ) b) :=
  sw_mk1 (ψ := (sw_eL σ)) 0 (by decide) sw_ZMok hI dk_X7_wordOf rfl (sw_c1_all _ ⟨rfl, rfl, rfl, rfl, trivial⟩) hb (fun p e R M C => s_X7_wordOf C σ x0 x1 x2 x3)
/-! SplitWatchModel.number(II)I -/
def L_X7_number : sw_Is := [(0, .aload_n 0, 1, 1), (1, .aload_n 0, 1, 2), (2, .getfield 234, 3, 5), (5, .invokevirtual 237, 3, 8), (8, .bipush 32, 2, 10), (10, .if_icmp .eq 6, 3, 13), (13, .bipush (-4), 2, 15), (15, .ireturn, 1, 16), (16, .aload_n 0, 1, 17), (17, .dup, 1, 18), (18, .getfield 234, 3, 21), (21, .iconst 1, 1, 22), (22, .iadd, 1, 23), (23, .putfield 234, 3, 26), (26, .iconst 0, 1, 27), (27, .istore_n 3, 1, 28), (28, .iconst 0, 1, 29), (29, .istore 4, 2, 31), (31, .aload_n 0, 1, 32), (32, .aload_n 0, 1, 33), (33, .getfield 234, 3, 36), (36, .invokevirtual 237, 3, 39), (39, .i2l, 1, 40), (40, .ldc2_w 248, 3, 43), (43, .ldc2_w 250, 3, 46), (46, .invokestatic 75, 3, 49), (49, .ifCond .eq 42, 3, 52), (52, .iload 4, 2, 54), (54, .iconst 5, 1, 55), (55, .if_icmp .ge 36, 3, 58), (58, .bipush 10, 2, 60), (60, .iload_n 3, 1, 61), (61, .imul, 1, 62), (62, .aload_n 0, 1, 63), (63, .aload_n 0, 1, 64), (64, .getfield 234, 3, 67), (67, .invokevirtual 237, 3, 70), (70, .iadd, 1, 71), (71, .bipush 48, 2, 73), (73, .isub, 1, 74), (74, .istore_n 3, 1, 75), (75, .iinc 4 1, 3, 78), (78, .aload_n 0, 1, 79), (79, .dup, 1, 80), (80, .getfield 234, 3, 83), (83, .iconst 1, 1, 84), (84, .iadd, 1, 85), (85, .putfield 234, 3, 88), (88, .goto (-57), 3, 91), (91, .iload 4, 2, 93), (93, .i2l, 1, 94), (94, .lconst 1, 1, 95), (95, .ldc2_w 73, 3, 98), (98, .invokestatic 75, 3, 101), (101, .ifCond .eq 19, 3, 104), (104, .iload_n 3, 1, 105), (105, .i2l, 1, 106), (106, .iload_n 1, 1, 107), (107, .i2l, 1, 108), (108, .iload_n 2, 1, 109), (109, .i2l, 1, 110), (110, .invokestatic 75, 3, 113), (113, .ifCond .eq 7, 3, 116), (116, .iload_n 3, 1, 117), (117, .goto 5, 3, 120), (120, .bipush (-4), 2, 122), (122, .ireturn, 1, 123)]
theorem dk_X7_number : sw_dc cX7_number L_X7_number = true := by decide +kernel
def f_X7_number_91  (σ : sw_St) (x1 : Int32) (x2 : Int32) (x3 : Int32) (x4 : Int32) : Option (Int32 × sw_St) := (f_X7_in σ (Int32.toInt64 x4) (1 : Int64) (4 : Int64)).bind fun r1 => (if r1 = 0 then (some ((-4), σ)) else ((f_X7_in σ (Int32.toInt64 x3) (Int32.toInt64 x1) (Int32.toInt64 x2)).bind fun r2 => (if r2 = 0 then (some ((-4), σ)) else (some (x3, σ)))))
def f_X7_number_31  : Nat → sw_St → Int32 → Int32 → Int32 → Int32 → Option (Int32 × sw_St)
  | 0 => fun _ _ _ _ _ => none
  | n + 1 => fun σ x1 x2 x3 x4 => (f_X7_letterAt σ (σ 1 31)).bind fun r1 => ((f_X7_in σ (Int32.toInt64 r1) (48 : Int64) (57 : Int64)).bind fun r2 => (if r2 = 0 then (f_X7_number_91 σ x1 x2 x3 x4) else (if 5 ≤ x4 then (f_X7_number_91 σ x1 x2 x3 x4) else ((f_X7_letterAt σ (σ 1 31)).bind fun r3 => (sw_pt σ 1 31 ((σ 1 31) + 1) fun s4 => ((f_X7_number_31 n) s4 x1 x2 (((10 * x3) + r3) - 48) (x4 + 1)))))))
def f_X7_number (σ : sw_St) (x1 : Int32) (x2 : Int32) : Option (Int32 × sw_St) := (f_X7_letterAt σ (σ 1 31)).bind fun r1 => (if r1 = 32 then (sw_pt σ 1 31 ((σ 1 31) + 1) fun s2 => (f_X7_number_31 sw_fuel s2 x1 x2 0 0)) else (some ((-4), σ)))
set_option maxHeartbeats 1000000 in
set_option maxRecDepth 100000 in
theorem s_X7_number_91 {V : sw_V} (C : sw_Cx sw_ZM V cX7_number RX7 5 (some .int) L_X7_number 1) (σ : sw_St) (x1 : Int32) (x2 : Int32) (x3 : Int32) (x4 : Int32) : sw_S sw_ZM V sw_eI [none, some (.int x1), some (.int x2), some (.int x3), some (.int x4)] [] 91 σ (f_X7_number_91 σ x1 x2 x3 x4) := by
  unfold f_X7_number_91
  refine g_iload C 49 rfl rfl ?_
  refine g_i2l C 50 rfl ?_
  refine g_lconst C 51 rfl (1 : Int64) (by decide) ?_
  refine g_ldc2 C 52 rfl (4 : Int64) q_770 ?_
  refine g_callS (ψ₁ := sw_eP σ) C 53 rfl [(.long (Int32.toInt64 x4)), (.long (1 : Int64)), (.long (4 : Int64))] [] ml_X7_75 rfl (Nat.le_of_ble_eq_true rfl) (by decide) (fun b hb => m_X7_in V.1.2.1 _ _ _ _ C.inj σ (Int32.toInt64 x4) (1 : Int64) (4 : Int64) b hb) rfl (g_cP fun r1 => ?_)
  refine g_if_eq C 54 rfl 120 (by decide) ?_ ?_
  · refine g_bipush C 65 rfl (-4) (by decide) ?_
    skip
    exact g_iret C 66 rfl rfl
  · refine g_iload_n C 55 rfl rfl ?_
    refine g_i2l C 56 rfl ?_
    refine g_iload_n C 57 rfl rfl ?_
    refine g_i2l C 58 rfl ?_
    refine g_iload_n C 59 rfl rfl ?_
    refine g_i2l C 60 rfl ?_
    refine g_callS (ψ₁ := sw_eP σ) C 61 rfl [(.long (Int32.toInt64 x3)), (.long (Int32.toInt64 x1)), (.long (Int32.toInt64 x2))] [] ml_X7_75 rfl (Nat.le_of_ble_eq_true rfl) (by decide) (fun b hb => m_X7_in V.1.2.1 _ _ _ _ C.inj σ (Int32.toInt64 x3) (Int32.toInt64 x1) (Int32.toInt64 x2) b hb) rfl (g_cP fun r2 => ?_)
    refine g_if_eq C 62 rfl 120 (by decide) ?_ ?_
    · refine g_bipush C 65 rfl (-4) (by decide) ?_
      skip
      exact g_iret C 66 rfl rfl
    · refine g_iload_n C 63 rfl rfl ?_
      refine g_goto C 64 rfl 122 (by decide) ?_
      skip
      exact g_iret C 66 rfl rfl
set_option maxHeartbeats 1000000 in
set_option maxRecDepth 100000 in
theorem s_X7_number_31 {V : sw_V} (C : sw_Cx sw_ZM V cX7_number RX7 5 (some .int) L_X7_number 1) : ∀ (n : Nat) (σ : sw_St) (x1 : Int32) (x2 : Int32) (x3 : Int32) (x4 : Int32), sw_S sw_ZM V sw_eI [some (sw_r V 1), some (.int x1), some (.int x2), some (.int x3), some (.int x4)] [] 31 σ (f_X7_number_31 n σ x1 x2 x3 x4) := by
  intro n
  induction n with
  | zero =>
    intro σ x1 x2 x3 x4
    exact g_none
  | succ n ih =>
    intro σ x1 x2 x3 x4
    rw [f_X7_number_31]
    refine g_aload_n C 18 rfl rfl ?_
    refine g_aload_n C 19 rfl rfl ?_
    refine g_getI C 20 rfl fl_X7_234 rfl rfl ?_
    refine g_callV (ψ₁ := sw_eP σ) C 21 rfl [(.int (σ 1 31))] [] ml_X7_237 rfl (Nat.le_of_ble_eq_true rfl) (by decide) rfl rfl (fun b hb => m_X7_letterAt V.1.2.1 _ _ _ _ C.inj σ (σ 1 31) b hb) rfl (g_cP fun r1 => ?_)
    refine g_i2l C 22 rfl ?_
    refine g_ldc2 C 23 rfl (48 : Int64) q_1058 ?_
    refine g_ldc2 C 24 rfl (57 : Int64) q_1059 ?_
    refine g_callS (ψ₁ := sw_eP σ) C 25 rfl [(.long (Int32.toInt64 r1)), (.long (48 : Int64)), (.long (57 : Int64))] [] ml_X7_75 rfl (Nat.le_of_ble_eq_true rfl) (by decide) (fun b hb => m_X7_in V.1.2.1 _ _ _ _ C.inj σ (Int32.toInt64 r1) (48 : Int64) (57 : Int64) b hb) rfl (g_cP fun r2 => ?_)
    refine g_if_eq C 26 rfl 91 (by decide) ?_ ?_
    · exact g_wk (s_X7_number_91 C σ x1 x2 x3 x4) ⟨rfl, rfl, rfl, rfl, trivial⟩
    · refine g_iload C 27 rfl rfl ?_
      refine g_iconst C 28 rfl 5 (by decide) ?_
      refine g_icmp_ge C 29 rfl 91 (by decide) ?_ ?_
      · exact g_wk (s_X7_number_91 C σ x1 x2 x3 x4) ⟨rfl, rfl, rfl, rfl, trivial⟩
      · refine g_bipush C 30 rfl 10 (by decide) ?_
        refine g_iload_n C 31 rfl rfl ?_
        refine g_imul C 32 rfl ?_
        refine g_aload_n C 33 rfl rfl ?_
        refine g_aload_n C 34 rfl rfl ?_
        refine g_getI C 35 rfl fl_X7_234 rfl rfl ?_
        refine g_callV (ψ₁ := sw_eP σ) C 36 rfl [(.int (σ 1 31))] [(.int (10 * x3))] ml_X7_237 rfl (Nat.le_of_ble_eq_true rfl) (by decide) rfl rfl (fun b hb => m_X7_letterAt V.1.2.1 _ _ _ _ C.inj σ (σ 1 31) b hb) rfl (g_cP fun r3 => ?_)
        refine g_iadd C 37 rfl ?_
        refine g_bipush C 38 rfl 48 (by decide) ?_
        refine g_isub C 39 rfl ?_
        refine g_istore_n C 40 rfl (Nat.le_of_ble_eq_true rfl) (Or.inr (Or.inr (Or.inl ⟨_, rfl⟩))) ?_
        refine g_iinc C 41 rfl 1 (by decide) rfl (Nat.le_of_ble_eq_true rfl) (Or.inr (Or.inr (Or.inl ⟨_, rfl⟩))) ?_
        refine g_aload_n C 42 rfl rfl ?_
        refine g_dupR C 43 rfl ?_
        refine g_getI C 44 rfl fl_X7_234 rfl rfl ?_
        refine g_iconst C 45 rfl 1 (by decide) ?_
        refine g_iadd C 46 rfl ?_
        refine g_put C 47 rfl fp_X7_234 rfl rfl (fun s4 => ?_)
        refine g_goto C 48 rfl 31 (by decide) ?_
        exact g_wk (ih s4 x1 x2 (((10 * x3) + r3) - 48) (x4 + 1)) ⟨rfl, rfl, rfl, rfl, rfl, trivial⟩
set_option maxHeartbeats 1000000 in
set_option maxRecDepth 100000 in
theorem s_X7_number {V : sw_V} (C : sw_Cx sw_ZM V cX7_number RX7 5 (some .int) L_X7_number 1) (σ : sw_St) (x1 : Int32) (x2 : Int32) : sw_S sw_ZM V sw_eI [some (sw_r V 1), some (.int x1), some (.int x2), none, none] [] 0 σ (f_X7_number σ x1 x2) := by
  unfold f_X7_number
  refine g_aload_n C 0 rfl rfl ?_
  refine g_aload_n C 1 rfl rfl ?_
  refine g_getI C 2 rfl fl_X7_234 rfl rfl ?_
  refine g_callV (ψ₁ := sw_eP σ) C 3 rfl [(.int (σ 1 31))] [] ml_X7_237 rfl (Nat.le_of_ble_eq_true rfl) (by decide) rfl rfl (fun b hb => m_X7_letterAt V.1.2.1 _ _ _ _ C.inj σ (σ 1 31) b hb) rfl (g_cP fun r1 => ?_)
  refine g_bipush C 4 rfl 32 (by decide) ?_
  refine g_icmp_eq C 5 rfl 16 (by decide) ?_ ?_
  · refine g_aload_n C 8 rfl rfl ?_
    refine g_dupR C 9 rfl ?_
    refine g_getI C 10 rfl fl_X7_234 rfl rfl ?_
    refine g_iconst C 11 rfl 1 (by decide) ?_
    refine g_iadd C 12 rfl ?_
    refine g_put C 13 rfl fp_X7_234 rfl rfl (fun s2 => ?_)
    refine g_iconst C 14 rfl 0 (by decide) ?_
    refine g_istore_n C 15 rfl (Nat.le_of_ble_eq_true rfl) (Or.inr (Or.inr (Or.inl ⟨_, rfl⟩))) ?_
    refine g_iconst C 16 rfl 0 (by decide) ?_
    refine g_istore C 17 rfl (Nat.le_of_ble_eq_true rfl) (Or.inr (Or.inr (Or.inl ⟨_, rfl⟩))) ?_
    exact g_wk (s_X7_number_31 C sw_fuel s2 x1 x2 0 0) ⟨rfl, rfl, rfl, rfl, rfl, trivial⟩
  · refine g_bipush C 6 rfl (-4) (by decide) ?_
    skip
    exact g_iret C 7 rfl rfl
set_option maxHeartbeats 1000000 in
set_option maxRecDepth 100000 in
theorem m_X7_number (l : Launch) (dC : Nat → ClassId) (dI : Nat → Nat → Nat) (dA : Nat → ClassId) (ad : Nat → Nat) (hI : sw_inj sw_ZM ad) (σ : sw_St) (x1 : Int32) (x2 : Int32) (b : (Int32 × sw_St)) (hb : f_X7_number σ x1 x2 = some b) : sw_M sw_ZM l yX7_number cX7_number 5 (some .int) 1 dC dI dA ad [(sw_rv ad 1), (.int x1), (.int x2)] σ (sw_eI b) :=
  sw_mk1 (ψ := sw_eI) 2 (by decide) sw_ZMok hI dk_X7_number rfl (sw_c1_all _ ⟨sw_rv_cat _ _, rfl, rfl, trivial⟩) hb (fun p e R M C => s_X7_number C σ x1 x2)
/-! SplitWatchModel.reads()Z -/
def L_X7_reads : sw_Is := [(0, .aload_n 0, 1, 1), (1, .invokevirtual 252, 3, 4), (4, .lstore_n 1, 1, 5), (5, .aload_n 0, 1, 6), (6, .lload_n 1, 1, 7), (7, .bipush 114, 2, 9), (9, .bipush 101, 2, 11), (11, .bipush 97, 2, 13), (13, .bipush 100, 2, 15), (15, .invokestatic 256, 3, 18), (18, .lcmp, 1, 19), (19, .ifCond .ne 7, 3, 22), (22, .iconst 0, 1, 23), (23, .goto 73, 3, 26), (26, .lload_n 1, 1, 27), (27, .ldc2_w 244, 3, 30), (30, .bipush 115, 2, 32), (32, .bipush 116, 2, 34), (34, .bipush 111, 2, 36), (36, .bipush 114, 2, 38), (38, .invokestatic 256, 3, 41), (41, .lmul, 1, 42), (42, .ldc2_w 260, 3, 45), (45, .ladd, 1, 46), (46, .lcmp, 1, 47), (47, .ifCond .ne 7, 3, 50), (50, .iconst 1, 1, 51), (51, .goto 45, 3, 54), (54, .lload_n 1, 1, 55), (55, .bipush 100, 2, 57), (57, .bipush 114, 2, 59), (59, .bipush 111, 2, 61), (61, .bipush 112, 2, 63), (63, .invokestatic 256, 3, 66), (66, .lcmp, 1, 67), (67, .ifCond .ne 7, 3, 70), (70, .iconst 2, 1, 71), (71, .goto 25, 3, 74), (74, .lload_n 1, 1, 75), (75, .bipush 116, 2, 77), (77, .bipush 117, 2, 79), (79, .bipush 114, 2, 81), (81, .bipush 110, 2, 83), (83, .invokestatic 256, 3, 86), (86, .lcmp, 1, 87), (87, .ifCond .ne 7, 3, 90), (90, .iconst 3, 1, 91), (91, .goto 5, 3, 94), (94, .bipush (-4), 2, 96), (96, .putfield 262, 3, 99), (99, .aload_n 0, 1, 100), (100, .getfield 262, 3, 103), (103, .bipush (-4), 2, 105), (105, .if_icmp .ne 5, 3, 108), (108, .iconst 0, 1, 109), (109, .ireturn, 1, 110), (110, .aload_n 0, 1, 111), (111, .getfield 61, 3, 114), (114, .iconst 0, 1, 115), (115, .aload_n 0, 1, 116), (116, .getfield 262, 3, 119), (119, .iconst 3, 1, 120), (120, .if_icmp .ne 13, 3, 123), (123, .aload_n 0, 1, 124), (124, .iconst 1, 1, 125), (125, .bipush 99, 2, 127), (127, .invokevirtual 265, 3, 130), (130, .goto 14, 3, 133), (133, .aload_n 0, 1, 134), (134, .iconst 0, 1, 135), (135, .aload_n 0, 1, 136), (136, .getfield 81, 3, 139), (139, .iconst 1, 1, 140), (140, .isub, 1, 141), (141, .invokevirtual 265, 3, 144), (144, .iastore, 1, 145), (145, .aload_n 0, 1, 146), (146, .getfield 61, 3, 149), (149, .iconst 0, 1, 150), (150, .iaload, 1, 151), (151, .bipush (-4), 2, 153), (153, .if_icmp .eq 7, 3, 156), (156, .iconst 1, 1, 157), (157, .goto 4, 3, 160), (160, .iconst 0, 1, 161), (161, .istore_n 3, 1, 162), (162, .iload_n 3, 1, 163), (163, .ifCond .eq 41, 3, 166), (166, .aload_n 0, 1, 167), (167, .getfield 262, 3, 170), (170, .iconst 3, 1, 171), (171, .if_icmp .ge 33, 3, 174), (174, .aload_n 0, 1, 175), (175, .getfield 61, 3, 178), (178, .iconst 1, 1, 179), (179, .aload_n 0, 1, 180), (180, .iconst 0, 1, 181), (181, .bipush 7, 2, 183), (183, .invokevirtual 265, 3, 186), (186, .iastore, 1, 187), (187, .aload_n 0, 1, 188), (188, .getfield 61, 3, 191), (191, .iconst 1, 1, 192), (192, .iaload, 1, 193), (193, .bipush (-4), 2, 195), (195, .if_icmp .eq 7, 3, 198), (198, .iconst 1, 1, 199), (199, .goto 4, 3, 202), (202, .iconst 0, 1, 203), (203, .istore_n 3, 1, 204), (204, .iload_n 3, 1, 205), (205, .ifCond .eq 42, 3, 208), (208, .aload_n 0, 1, 209), (209, .getfield 262, 3, 212), (212, .iconst 1, 1, 213), (213, .if_icmp .ne 34, 3, 216), (216, .aload_n 0, 1, 217), (217, .getfield 61, 3, 220), (220, .iconst 2, 1, 221), (221, .aload_n 0, 1, 222), (222, .iconst 0, 1, 223), (223, .sipush 9999, 3, 226), (226, .invokevirtual 265, 3, 229), (229, .iastore, 1, 230), (230, .aload_n 0, 1, 231), (231, .getfield 61, 3, 234), (234, .iconst 2, 1, 235), (235, .iaload, 1, 236), (236, .bipush (-4), 2, 238), (238, .if_icmp .eq 7, 3, 241), (241, .iconst 1, 1, 242), (242, .goto 4, 3, 245), (245, .iconst 0, 1, 246), (246, .istore_n 3, 1, 247), (247, .aload_n 0, 1, 248), (248, .dup, 1, 249), (249, .getfield 234, 3, 252), (252, .iconst 1, 1, 253), (253, .iadd, 1, 254), (254, .putfield 234, 3, 257), (257, .iload_n 3, 1, 258), (258, .ifCond .eq 22, 3, 261), (261, .aload_n 0, 1, 262), (262, .aload_n 0, 1, 263), (263, .getfield 234, 3, 266), (266, .iconst 1, 1, 267), (267, .isub, 1, 268), (268, .invokevirtual 237, 3, 271), (271, .bipush 59, 2, 273), (273, .if_icmp .ne 7, 3, 276), (276, .iconst 1, 1, 277), (277, .goto 4, 3, 280), (280, .iconst 0, 1, 281), (281, .ireturn, 1, 282)]
theorem dk_X7_reads : sw_dc cX7_reads L_X7_reads = true := by decide +kernel
def f_X7_reads_247  (σ : sw_St) (x3 : Int32) : Option (Int32 × sw_St) := sw_pt σ 1 31 ((σ 1 31) + 1) fun s1 => (if x3 = 0 then (some (0, s1)) else ((f_X7_letterAt s1 ((s1 1 31) - 1)).bind fun r2 => (if r2 = 59 then (some (1, s1)) else (some (0, s1)))))
def f_X7_reads_246  (σ : sw_St) (y0 : Int32) : Option (Int32 × sw_St) := f_X7_reads_247 σ y0
def f_X7_reads_204  (σ : sw_St) (x3 : Int32) : Option (Int32 × sw_St) := if x3 = 0 then (f_X7_reads_247 σ x3) else (if (σ 1 33) = 1 then ((f_X7_number σ 0 9999).bind fun r1 => (sw_pt r1.2 19 (sw_ix 2) r1.1 fun s2 => (if (s2 19 (sw_ix 2)) = (-4) then (f_X7_reads_246 s2 0) else (f_X7_reads_246 s2 1)))) else (f_X7_reads_247 σ x3))
def f_X7_reads_203  (σ : sw_St) (y0 : Int32) : Option (Int32 × sw_St) := f_X7_reads_204 σ y0
def f_X7_reads_161  (σ : sw_St) (y0 : Int32) : Option (Int32 × sw_St) := if y0 = 0 then (f_X7_reads_204 σ y0) else (if 3 ≤ (σ 1 33) then (f_X7_reads_204 σ y0) else ((f_X7_number σ 0 7).bind fun r1 => (sw_pt r1.2 19 (sw_ix 1) r1.1 fun s2 => (if (s2 19 (sw_ix 1)) = (-4) then (f_X7_reads_203 s2 0) else (f_X7_reads_203 s2 1)))))
def f_X7_reads_144  (σ : sw_St) (y0 : Int32) (y1 : Int32) : Option (Int32 × sw_St) := sw_ck (sw_in y1 3) (sw_pt σ 19 (sw_ix y1) y0 fun s2 => (if (s2 19 (sw_ix 0)) = (-4) then (f_X7_reads_161 s2 0) else (f_X7_reads_161 s2 1)))
def f_X7_reads_96  (σ : sw_St) (y0 : Int32) : Option (Int32 × sw_St) := sw_pt σ 1 33 y0 fun s1 => (if (s1 1 33) = (-4) then (some (0, s1)) else (if (s1 1 33) = 3 then ((f_X7_number s1 1 99).bind fun r3 => (f_X7_reads_144 r3.2 r3.1 0)) else ((f_X7_number s1 0 ((s1 1 0) - 1)).bind fun r2 => (f_X7_reads_144 r2.2 r2.1 0))))
def f_X7_reads (σ : sw_St)  : Option (Int32 × sw_St) := (f_X7_word σ).bind fun r1 => ((f_X7_wordOf r1.2 114 101 97 100).bind fun r2 => (if (lg_cmp r1.1 r2) = 0 then (f_X7_reads_96 r1.2 0) else ((f_X7_wordOf r1.2 115 116 111 114).bind fun r3 => (if (lg_cmp r1.1 (((27 : Int64) * r3) + (5 : Int64))) = 0 then (f_X7_reads_96 r1.2 1) else ((f_X7_wordOf r1.2 100 114 111 112).bind fun r4 => (if (lg_cmp r1.1 r4) = 0 then (f_X7_reads_96 r1.2 2) else ((f_X7_wordOf r1.2 116 117 114 110).bind fun r5 => (if (lg_cmp r1.1 r5) = 0 then (f_X7_reads_96 r1.2 3) else (f_X7_reads_96 r1.2 (-4))))))))))
set_option maxHeartbeats 1000000 in
set_option maxRecDepth 100000 in
theorem s_X7_reads_247 {V : sw_V} (C : sw_Cx sw_ZM V cX7_reads RX7 4 (some .boolean) L_X7_reads 2) (σ : sw_St) (x3 : Int32) : sw_S sw_ZM V sw_eI [some (sw_r V 1), none, none, some (.int x3)] [] 247 σ (f_X7_reads_247 σ x3) := by
  unfold f_X7_reads_247
  refine g_aload_n C 134 rfl rfl ?_
  refine g_dupR C 135 rfl ?_
  refine g_getI C 136 rfl fl_X7_234 rfl rfl ?_
  refine g_iconst C 137 rfl 1 (by decide) ?_
  refine g_iadd C 138 rfl ?_
  refine g_put C 139 rfl fp_X7_234 rfl rfl (fun s1 => ?_)
  refine g_iload_n C 140 rfl rfl ?_
  refine g_if_eq C 141 rfl 280 (by decide) ?_ ?_
  · refine g_iconst C 152 rfl 0 (by decide) ?_
    skip
    exact g_zret C 153 rfl rfl rfl
  · refine g_aload_n C 142 rfl rfl ?_
    refine g_aload_n C 143 rfl rfl ?_
    refine g_getI C 144 rfl fl_X7_234 rfl rfl ?_
    refine g_iconst C 145 rfl 1 (by decide) ?_
    refine g_isub C 146 rfl ?_
    refine g_callV (ψ₁ := sw_eP s1) C 147 rfl [(.int ((s1 1 31) - 1))] [] ml_X7_237 rfl (Nat.le_of_ble_eq_true rfl) (by decide) rfl rfl (fun b hb => m_X7_letterAt V.1.2.1 _ _ _ _ C.inj s1 ((s1 1 31) - 1) b hb) rfl (g_cP fun r2 => ?_)
    refine g_bipush C 148 rfl 59 (by decide) ?_
    refine g_icmp_ne C 149 rfl 280 (by decide) ?_ ?_
    · refine g_iconst C 152 rfl 0 (by decide) ?_
      skip
      exact g_zret C 153 rfl rfl rfl
    · refine g_iconst C 150 rfl 1 (by decide) ?_
      refine g_goto C 151 rfl 281 (by decide) ?_
      skip
      exact g_zret C 153 rfl rfl rfl
set_option maxHeartbeats 1000000 in
set_option maxRecDepth 100000 in
theorem s_X7_reads_246 {V : sw_V} (C : sw_Cx sw_ZM V cX7_reads RX7 4 (some .boolean) L_X7_reads 2) (σ : sw_St) (y0 : Int32) : sw_S sw_ZM V sw_eI [some (sw_r V 1), none, none, none] [(.int y0)] 246 σ (f_X7_reads_246 σ y0) := by
  unfold f_X7_reads_246
  refine g_istore_n C 133 rfl (Nat.le_of_ble_eq_true rfl) (Or.inr (Or.inl rfl)) ?_
  exact g_wk (s_X7_reads_247 C σ y0) ⟨rfl, rfl, trivial⟩
set_option maxHeartbeats 1000000 in
set_option maxRecDepth 100000 in
theorem s_X7_reads_204 {V : sw_V} (C : sw_Cx sw_ZM V cX7_reads RX7 4 (some .boolean) L_X7_reads 2) (σ : sw_St) (x3 : Int32) : sw_S sw_ZM V sw_eI [some (sw_r V 1), none, none, some (.int x3)] [] 204 σ (f_X7_reads_204 σ x3) := by
  unfold f_X7_reads_204
  refine g_iload_n C 110 rfl rfl ?_
  refine g_if_eq C 111 rfl 247 (by decide) ?_ ?_
  · exact g_wk (s_X7_reads_247 C σ x3) ⟨rfl, rfl, trivial⟩
  · refine g_aload_n C 112 rfl rfl ?_
    refine g_getI C 113 rfl fl_X7_262 rfl rfl ?_
    refine g_iconst C 114 rfl 1 (by decide) ?_
    refine g_icmp_ne C 115 rfl 247 (by decide) ?_ ?_
    · exact g_wk (s_X7_reads_247 C σ x3) ⟨rfl, rfl, trivial⟩
    · refine g_aload_n C 116 rfl rfl ?_
      refine g_getR C 117 rfl fl_X7_61 rfl rfl ?_
      refine g_iconst C 118 rfl 2 (by decide) ?_
      refine g_aload_n C 119 rfl rfl ?_
      refine g_iconst C 120 rfl 0 (by decide) ?_
      refine g_sipush C 121 rfl 9999 (by decide) ?_
      refine g_callV (ψ₁ := sw_eI) C 122 rfl [(.int 0), (.int 9999)] [(.int 2), (sw_r V 19)] ml_X7_265 rfl (Nat.le_of_ble_eq_true rfl) (by decide) rfl rfl (fun b hb => m_X7_number V.1.2.1 _ _ _ _ C.inj σ 0 9999 b hb) rfl (g_cI fun r1 => ?_)
      refine g_iast C 123 rfl rfl (by decide) (fun s2 => ?_)
      refine g_aload_n C 124 rfl rfl ?_
      refine g_getR C 125 rfl fl_X7_61 rfl rfl ?_
      refine g_iconst C 126 rfl 2 (by decide) ?_
      refine g_iald C 127 rfl rfl (by decide) ?_
      refine g_bipush C 128 rfl (-4) (by decide) ?_
      refine g_icmp_eq C 129 rfl 245 (by decide) ?_ ?_
      · refine g_iconst C 132 rfl 0 (by decide) ?_
        exact g_wk (s_X7_reads_246 C s2 0) ⟨rfl, trivial⟩
      · refine g_iconst C 130 rfl 1 (by decide) ?_
        refine g_goto C 131 rfl 246 (by decide) ?_
        exact g_wk (s_X7_reads_246 C s2 1) ⟨rfl, trivial⟩
set_option maxHeartbeats 1000000 in
set_option maxRecDepth 100000 in
theorem s_X7_reads_203 {V : sw_V} (C : sw_Cx sw_ZM V cX7_reads RX7 4 (some .boolean) L_X7_reads 2) (σ : sw_St) (y0 : Int32) : sw_S sw_ZM V sw_eI [some (sw_r V 1), none, none, none] [(.int y0)] 203 σ (f_X7_reads_203 σ y0) := by
  unfold f_X7_reads_203
  refine g_istore_n C 109 rfl (Nat.le_of_ble_eq_true rfl) (Or.inr (Or.inl rfl)) ?_
  exact g_wk (s_X7_reads_204 C σ y0) ⟨rfl, rfl, trivial⟩
set_option maxHeartbeats 1000000 in
set_option maxRecDepth 100000 in
theorem s_X7_reads_161 {V : sw_V} (C : sw_Cx sw_ZM V cX7_reads RX7 4 (some .boolean) L_X7_reads 2) (σ : sw_St) (y0 : Int32) : sw_S sw_ZM V sw_eI [some (sw_r V 1), none, none, none] [(.int y0)] 161 σ (f_X7_reads_161 σ y0) := by
  unfold f_X7_reads_161
  refine g_istore_n C 85 rfl (Nat.le_of_ble_eq_true rfl) (Or.inr (Or.inl rfl)) ?_
  refine g_iload_n C 86 rfl rfl ?_
  refine g_if_eq C 87 rfl 204 (by decide) ?_ ?_
  · exact g_wk (s_X7_reads_204 C σ y0) ⟨rfl, rfl, trivial⟩
  · refine g_aload_n C 88 rfl rfl ?_
    refine g_getI C 89 rfl fl_X7_262 rfl rfl ?_
    refine g_iconst C 90 rfl 3 (by decide) ?_
    refine g_icmp_ge C 91 rfl 204 (by decide) ?_ ?_
    · exact g_wk (s_X7_reads_204 C σ y0) ⟨rfl, rfl, trivial⟩
    · refine g_aload_n C 92 rfl rfl ?_
      refine g_getR C 93 rfl fl_X7_61 rfl rfl ?_
      refine g_iconst C 94 rfl 1 (by decide) ?_
      refine g_aload_n C 95 rfl rfl ?_
      refine g_iconst C 96 rfl 0 (by decide) ?_
      refine g_bipush C 97 rfl 7 (by decide) ?_
      refine g_callV (ψ₁ := sw_eI) C 98 rfl [(.int 0), (.int 7)] [(.int 1), (sw_r V 19)] ml_X7_265 rfl (Nat.le_of_ble_eq_true rfl) (by decide) rfl rfl (fun b hb => m_X7_number V.1.2.1 _ _ _ _ C.inj σ 0 7 b hb) rfl (g_cI fun r1 => ?_)
      refine g_iast C 99 rfl rfl (by decide) (fun s2 => ?_)
      refine g_aload_n C 100 rfl rfl ?_
      refine g_getR C 101 rfl fl_X7_61 rfl rfl ?_
      refine g_iconst C 102 rfl 1 (by decide) ?_
      refine g_iald C 103 rfl rfl (by decide) ?_
      refine g_bipush C 104 rfl (-4) (by decide) ?_
      refine g_icmp_eq C 105 rfl 202 (by decide) ?_ ?_
      · refine g_iconst C 108 rfl 0 (by decide) ?_
        exact g_wk (s_X7_reads_203 C s2 0) ⟨rfl, trivial⟩
      · refine g_iconst C 106 rfl 1 (by decide) ?_
        refine g_goto C 107 rfl 203 (by decide) ?_
        exact g_wk (s_X7_reads_203 C s2 1) ⟨rfl, trivial⟩
set_option maxHeartbeats 1000000 in
set_option maxRecDepth 100000 in
theorem s_X7_reads_144 {V : sw_V} (C : sw_Cx sw_ZM V cX7_reads RX7 4 (some .boolean) L_X7_reads 2) (σ : sw_St) (y0 : Int32) (y1 : Int32) : sw_S sw_ZM V sw_eI [some (sw_r V 1), none, none, none] [(.int y0), (.int y1), (sw_r V 19)] 144 σ (f_X7_reads_144 σ y0 y1) := by
  unfold f_X7_reads_144
  refine g_ck fun h1 => ?_
  refine g_iast C 75 rfl rfl h1 (fun s2 => ?_)
  refine g_aload_n C 76 rfl rfl ?_
  refine g_getR C 77 rfl fl_X7_61 rfl rfl ?_
  refine g_iconst C 78 rfl 0 (by decide) ?_
  refine g_iald C 79 rfl rfl (by decide) ?_
  refine g_bipush C 80 rfl (-4) (by decide) ?_
  refine g_icmp_eq C 81 rfl 160 (by decide) ?_ ?_
  · refine g_iconst C 84 rfl 0 (by decide) ?_
    exact g_wk (s_X7_reads_161 C s2 0) ⟨rfl, trivial⟩
  · refine g_iconst C 82 rfl 1 (by decide) ?_
    refine g_goto C 83 rfl 161 (by decide) ?_
    exact g_wk (s_X7_reads_161 C s2 1) ⟨rfl, trivial⟩
set_option maxHeartbeats 1000000 in
set_option maxRecDepth 100000 in
theorem s_X7_reads_96 {V : sw_V} (C : sw_Cx sw_ZM V cX7_reads RX7 4 (some .boolean) L_X7_reads 2) (σ : sw_St) (y0 : Int32) : sw_S sw_ZM V sw_eI [some (sw_r V 1), none, none, none] [(.int y0), (sw_r V 1)] 96 σ (f_X7_reads_96 σ y0) := by
  unfold f_X7_reads_96
  refine g_put C 49 rfl fp_X7_262 rfl rfl (fun s1 => ?_)
  refine g_aload_n C 50 rfl rfl ?_
  refine g_getI C 51 rfl fl_X7_262 rfl rfl ?_
  refine g_bipush C 52 rfl (-4) (by decide) ?_
  refine g_icmp_ne C 53 rfl 110 (by decide) ?_ ?_
  · refine g_aload_n C 56 rfl rfl ?_
    refine g_getR C 57 rfl fl_X7_61 rfl rfl ?_
    refine g_iconst C 58 rfl 0 (by decide) ?_
    refine g_aload_n C 59 rfl rfl ?_
    refine g_getI C 60 rfl fl_X7_262 rfl rfl ?_
    refine g_iconst C 61 rfl 3 (by decide) ?_
    refine g_icmp_ne C 62 rfl 133 (by decide) ?_ ?_
    · refine g_aload_n C 68 rfl rfl ?_
      refine g_iconst C 69 rfl 0 (by decide) ?_
      refine g_aload_n C 70 rfl rfl ?_
      refine g_getI C 71 rfl fl_X7_81 rfl rfl ?_
      refine g_iconst C 72 rfl 1 (by decide) ?_
      refine g_isub C 73 rfl ?_
      refine g_callV (ψ₁ := sw_eI) C 74 rfl [(.int 0), (.int ((s1 1 0) - 1))] [(.int 0), (sw_r V 19)] ml_X7_265 rfl (Nat.le_of_ble_eq_true rfl) (by decide) rfl rfl (fun b hb => m_X7_number V.1.2.1 _ _ _ _ C.inj s1 0 ((s1 1 0) - 1) b hb) rfl (g_cI fun r2 => ?_)
      exact g_wk (s_X7_reads_144 C r2.2 r2.1 0) ⟨rfl, trivial⟩
    · refine g_aload_n C 63 rfl rfl ?_
      refine g_iconst C 64 rfl 1 (by decide) ?_
      refine g_bipush C 65 rfl 99 (by decide) ?_
      refine g_callV (ψ₁ := sw_eI) C 66 rfl [(.int 1), (.int 99)] [(.int 0), (sw_r V 19)] ml_X7_265 rfl (Nat.le_of_ble_eq_true rfl) (by decide) rfl rfl (fun b hb => m_X7_number V.1.2.1 _ _ _ _ C.inj s1 1 99 b hb) rfl (g_cI fun r3 => ?_)
      refine g_goto C 67 rfl 144 (by decide) ?_
      exact g_wk (s_X7_reads_144 C r3.2 r3.1 0) ⟨rfl, trivial⟩
  · refine g_iconst C 54 rfl 0 (by decide) ?_
    skip
    exact g_zret C 55 rfl rfl rfl
set_option maxHeartbeats 1000000 in
set_option maxRecDepth 100000 in
theorem s_X7_reads {V : sw_V} (C : sw_Cx sw_ZM V cX7_reads RX7 4 (some .boolean) L_X7_reads 2) (σ : sw_St)  : sw_S sw_ZM V sw_eI [some (sw_r V 1), none, none, none] [] 0 σ (f_X7_reads σ) := by
  unfold f_X7_reads
  refine g_aload_n C 0 rfl rfl ?_
  refine g_callV (ψ₁ := sw_eM) C 1 rfl [] [] ml_X7_252 rfl (Nat.le_of_ble_eq_true rfl) (by decide) rfl rfl (fun b hb => m_X7_word V.1.2.1 _ _ _ _ C.inj σ b hb) rfl (g_cM fun r1 => ?_)
  refine g_lstore_n C 2 rfl (Nat.le_of_ble_eq_true rfl) (Or.inr (Or.inr (Or.inr ⟨_, rfl⟩))) ?_
  refine g_aload_n C 3 rfl rfl ?_
  refine g_lload_n C 4 rfl rfl ?_
  refine g_bipush C 5 rfl 114 (by decide) ?_
  refine g_bipush C 6 rfl 101 (by decide) ?_
  refine g_bipush C 7 rfl 97 (by decide) ?_
  refine g_bipush C 8 rfl 100 (by decide) ?_
  refine g_callS (ψ₁ := sw_eL r1.2) C 9 rfl [(.int 114), (.int 101), (.int 97), (.int 100)] [(.long r1.1), (sw_r V 1)] ml_X7_256 rfl (Nat.le_of_ble_eq_true rfl) (by decide) (fun b hb => m_X7_wordOf V.1.2.1 _ _ _ _ C.inj r1.2 114 101 97 100 b hb) rfl (g_cL fun r2 => ?_)
  refine g_lcmp C 10 rfl ?_
  refine g_if_ne C 11 rfl 26 (by decide) ?_ ?_
  · refine g_lload_n C 14 rfl rfl ?_
    refine g_ldc2 C 15 rfl (27 : Int64) q_1048 ?_
    refine g_bipush C 16 rfl 115 (by decide) ?_
    refine g_bipush C 17 rfl 116 (by decide) ?_
    refine g_bipush C 18 rfl 111 (by decide) ?_
    refine g_bipush C 19 rfl 114 (by decide) ?_
    refine g_callS (ψ₁ := sw_eL r1.2) C 20 rfl [(.int 115), (.int 116), (.int 111), (.int 114)] [(.long (27 : Int64)), (.long r1.1), (sw_r V 1)] ml_X7_256 rfl (Nat.le_of_ble_eq_true rfl) (by decide) (fun b hb => m_X7_wordOf V.1.2.1 _ _ _ _ C.inj r1.2 115 116 111 114 b hb) rfl (g_cL fun r3 => ?_)
    refine g_lmul C 21 rfl ?_
    refine g_ldc2 C 22 rfl (5 : Int64) q_1053 ?_
    refine g_ladd C 23 rfl ?_
    refine g_lcmp C 24 rfl ?_
    refine g_if_ne C 25 rfl 54 (by decide) ?_ ?_
    · refine g_lload_n C 28 rfl rfl ?_
      refine g_bipush C 29 rfl 100 (by decide) ?_
      refine g_bipush C 30 rfl 114 (by decide) ?_
      refine g_bipush C 31 rfl 111 (by decide) ?_
      refine g_bipush C 32 rfl 112 (by decide) ?_
      refine g_callS (ψ₁ := sw_eL r1.2) C 33 rfl [(.int 100), (.int 114), (.int 111), (.int 112)] [(.long r1.1), (sw_r V 1)] ml_X7_256 rfl (Nat.le_of_ble_eq_true rfl) (by decide) (fun b hb => m_X7_wordOf V.1.2.1 _ _ _ _ C.inj r1.2 100 114 111 112 b hb) rfl (g_cL fun r4 => ?_)
      refine g_lcmp C 34 rfl ?_
      refine g_if_ne C 35 rfl 74 (by decide) ?_ ?_
      · refine g_lload_n C 38 rfl rfl ?_
        refine g_bipush C 39 rfl 116 (by decide) ?_
        refine g_bipush C 40 rfl 117 (by decide) ?_
        refine g_bipush C 41 rfl 114 (by decide) ?_
        refine g_bipush C 42 rfl 110 (by decide) ?_
        refine g_callS (ψ₁ := sw_eL r1.2) C 43 rfl [(.int 116), (.int 117), (.int 114), (.int 110)] [(.long r1.1), (sw_r V 1)] ml_X7_256 rfl (Nat.le_of_ble_eq_true rfl) (by decide) (fun b hb => m_X7_wordOf V.1.2.1 _ _ _ _ C.inj r1.2 116 117 114 110 b hb) rfl (g_cL fun r5 => ?_)
        refine g_lcmp C 44 rfl ?_
        refine g_if_ne C 45 rfl 94 (by decide) ?_ ?_
        · refine g_bipush C 48 rfl (-4) (by decide) ?_
          exact g_wk (s_X7_reads_96 C r1.2 (-4)) ⟨rfl, trivial⟩
        · refine g_iconst C 46 rfl 3 (by decide) ?_
          refine g_goto C 47 rfl 96 (by decide) ?_
          exact g_wk (s_X7_reads_96 C r1.2 3) ⟨rfl, trivial⟩
      · refine g_iconst C 36 rfl 2 (by decide) ?_
        refine g_goto C 37 rfl 96 (by decide) ?_
        exact g_wk (s_X7_reads_96 C r1.2 2) ⟨rfl, trivial⟩
    · refine g_iconst C 26 rfl 1 (by decide) ?_
      refine g_goto C 27 rfl 96 (by decide) ?_
      exact g_wk (s_X7_reads_96 C r1.2 1) ⟨rfl, trivial⟩
  · refine g_iconst C 12 rfl 0 (by decide) ?_
    refine g_goto C 13 rfl 96 (by decide) ?_
    exact g_wk (s_X7_reads_96 C r1.2 0) ⟨rfl, trivial⟩
set_option maxHeartbeats 1000000 in
set_option maxRecDepth 100000 in
theorem m_X7_reads (l : Launch) (dC : Nat → ClassId) (dI : Nat → Nat → Nat) (dA : Nat → ClassId) (ad : Nat → Nat) (hI : sw_inj sw_ZM ad) (σ : sw_St)  (b : (Int32 × sw_St)) (hb : f_X7_reads σ = some b) : sw_M sw_ZM l yX7_reads cX7_reads 4 (some .boolean) 2 dC dI dA ad [(sw_rv ad 1)] σ (sw_eI b) :=
  sw_mk1 (ψ := sw_eI) 3 (by decide) sw_ZMok hI dk_X7_reads rfl (sw_c1_all _ ⟨sw_rv_cat _ _, trivial⟩) hb (fun p e R M C => s_X7_reads C σ)
/-! SplitWatchModel.fault()I -/
def L_X7_fault : sw_Is := [(0, .aload_n 0, 1, 1), (1, .iconst 0, 1, 2), (2, .putfield 234, 3, 5), (5, .aload_n 0, 1, 6), (6, .getfield 234, 3, 9), (9, .aload_n 0, 1, 10), (10, .getfield 231, 3, 13), (13, .if_icmp .ge 20, 3, 16), (16, .aload_n 0, 1, 17), (17, .getfield 234, 3, 20), (20, .istore_n 1, 1, 21), (21, .aload_n 0, 1, 22), (22, .invokevirtual 268, 3, 25), (25, .ifCond .ne 5, 3, 28), (28, .iload_n 1, 1, 29), (29, .ireturn, 1, 30), (30, .goto (-25), 3, 33), (33, .bipush (-4), 2, 35), (35, .ireturn, 1, 36)]
theorem dk_X7_fault : sw_dc cX7_fault L_X7_fault = true := by decide +kernel
def f_X7_fault_5  : Nat → sw_St → Option (Int32 × sw_St)
  | 0 => fun _ => none
  | n + 1 => fun σ => if (σ 1 29) ≤ (σ 1 31) then (some ((-4), σ)) else ((f_X7_reads σ).bind fun r1 => (if r1.1 = 0 then (some ((σ 1 31), r1.2)) else ((f_X7_fault_5 n) r1.2)))
def f_X7_fault (σ : sw_St)  : Option (Int32 × sw_St) := sw_pt σ 1 31 0 fun s1 => (f_X7_fault_5 sw_fuel s1)
set_option maxHeartbeats 1000000 in
set_option maxRecDepth 100000 in
theorem s_X7_fault_5 {V : sw_V} (C : sw_Cx sw_ZM V cX7_fault RX7 2 (some .int) L_X7_fault 3) : ∀ (n : Nat) (σ : sw_St) , sw_S sw_ZM V sw_eI [some (sw_r V 1), none] [] 5 σ (f_X7_fault_5 n σ) := by
  intro n
  induction n with
  | zero =>
    intro σ
    exact g_none
  | succ n ih =>
    intro σ
    rw [f_X7_fault_5]
    refine g_aload_n C 3 rfl rfl ?_
    refine g_getI C 4 rfl fl_X7_234 rfl rfl ?_
    refine g_aload_n C 5 rfl rfl ?_
    refine g_getI C 6 rfl fl_X7_231 rfl rfl ?_
    refine g_icmp_ge C 7 rfl 33 (by decide) ?_ ?_
    · refine g_bipush C 17 rfl (-4) (by decide) ?_
      skip
      exact g_iret C 18 rfl rfl
    · refine g_aload_n C 8 rfl rfl ?_
      refine g_getI C 9 rfl fl_X7_234 rfl rfl ?_
      refine g_istore_n C 10 rfl (Nat.le_of_ble_eq_true rfl) (Or.inr (Or.inr (Or.inr ⟨_, rfl⟩))) ?_
      refine g_aload_n C 11 rfl rfl ?_
      refine g_callV (ψ₁ := sw_eI) C 12 rfl [] [] ml_X7_268 rfl (Nat.le_of_ble_eq_true rfl) (by decide) rfl rfl (fun b hb => m_X7_reads V.1.2.1 _ _ _ _ C.inj σ b hb) rfl (g_cI fun r1 => ?_)
      refine g_if_ne C 13 rfl 30 (by decide) ?_ ?_
      · refine g_goto C 16 rfl 5 (by decide) ?_
        exact g_wk (ih r1.2) ⟨rfl, trivial⟩
      · refine g_iload_n C 14 rfl rfl ?_
        skip
        exact g_iret C 15 rfl rfl
set_option maxHeartbeats 1000000 in
set_option maxRecDepth 100000 in
theorem s_X7_fault {V : sw_V} (C : sw_Cx sw_ZM V cX7_fault RX7 2 (some .int) L_X7_fault 3) (σ : sw_St)  : sw_S sw_ZM V sw_eI [some (sw_r V 1), none] [] 0 σ (f_X7_fault σ) := by
  unfold f_X7_fault
  refine g_aload_n C 0 rfl rfl ?_
  refine g_iconst C 1 rfl 0 (by decide) ?_
  refine g_put C 2 rfl fp_X7_234 rfl rfl (fun s1 => ?_)
  exact g_wk (s_X7_fault_5 C sw_fuel s1) ⟨rfl, trivial⟩
set_option maxHeartbeats 1000000 in
set_option maxRecDepth 100000 in
theorem m_X7_fault (l : Launch) (dC : Nat → ClassId) (dI : Nat → Nat → Nat) (dA : Nat → ClassId) (ad : Nat → Nat) (hI : sw_inj sw_ZM ad) (σ : sw_St)  (b : (Int32 × sw_St)) (hb : f_X7_fault σ = some b) : sw_M sw_ZM l yX7_fault cX7_fault 2 (some .int) 3 dC dI dA ad [(sw_rv ad 1)] σ (sw_eI b) :=
  sw_mk1 (ψ := sw_eI) 1 (by decide) sw_ZMok hI dk_X7_fault rfl (sw_c1_all _ ⟨sw_rv_cat _ _, trivial⟩) hb (fun p e R M C => s_X7_fault C σ)
/-! SplitWatchModel.does()I -/
def L_X7_does : sw_Is := [(0, .aload_n 0, 1, 1), (1, .getfield 262, 3, 4), (4, .tableswitch 85 0 2 #[28, 45, 68], 28, 32), (32, .aload_n 0, 1, 33), (33, .aload_n 0, 1, 34), (34, .getfield 61, 3, 37), (37, .iconst 0, 1, 38), (38, .iaload, 1, 39), (39, .aload_n 0, 1, 40), (40, .getfield 61, 3, 43), (43, .iconst 1, 1, 44), (44, .iaload, 1, 45), (45, .invokevirtual 271, 3, 48), (48, .ireturn, 1, 49), (49, .aload_n 0, 1, 50), (50, .aload_n 0, 1, 51), (51, .getfield 61, 3, 54), (54, .iconst 0, 1, 55), (55, .iaload, 1, 56), (56, .aload_n 0, 1, 57), (57, .getfield 61, 3, 60), (60, .iconst 1, 1, 61), (61, .iaload, 1, 62), (62, .aload_n 0, 1, 63), (63, .getfield 61, 3, 66), (66, .iconst 2, 1, 67), (67, .iaload, 1, 68), (68, .invokevirtual 274, 3, 71), (71, .ireturn, 1, 72), (72, .aload_n 0, 1, 73), (73, .aload_n 0, 1, 74), (74, .getfield 61, 3, 77), (77, .iconst 0, 1, 78), (78, .iaload, 1, 79), (79, .aload_n 0, 1, 80), (80, .getfield 61, 3, 83), (83, .iconst 1, 1, 84), (84, .iaload, 1, 85), (85, .invokevirtual 277, 3, 88), (88, .ireturn, 1, 89), (89, .aload_n 0, 1, 90), (90, .aload_n 0, 1, 91), (91, .getfield 61, 3, 94), (94, .iconst 0, 1, 95), (95, .iaload, 1, 96), (96, .invokevirtual 280, 3, 99), (99, .ireturn, 1, 100)]
theorem dk_X7_does : sw_dc cX7_does L_X7_does = true := by decide +kernel
def f_X7_does (σ : sw_St)  : Option (Int32 × sw_St) := if (σ 1 33) = 0 then ((f_X7_read σ (σ 19 (sw_ix 0)) (σ 19 (sw_ix 1))).bind fun r1 => (some (r1.1, r1.2))) else (if (σ 1 33) = 1 then ((f_X7_store σ (σ 19 (sw_ix 0)) (σ 19 (sw_ix 1)) (σ 19 (sw_ix 2))).bind fun r3 => (some (r3.1, r3.2))) else (if (σ 1 33) = 2 then ((f_X7_drop σ (σ 19 (sw_ix 0)) (σ 19 (sw_ix 1))).bind fun r5 => (some (r5.1, r5.2))) else ((f_X7_turn σ (σ 19 (sw_ix 0))).bind fun r7 => (some (r7.1, r7.2)))))
set_option maxHeartbeats 1000000 in
set_option maxRecDepth 100000 in
theorem s_X7_does {V : sw_V} (C : sw_Cx sw_ZM V cX7_does RX7 1 (some .int) L_X7_does 7) (σ : sw_St)  : sw_S sw_ZM V sw_eI [some (sw_r V 1)] [] 0 σ (f_X7_does σ) := by
  unfold f_X7_does
  refine g_aload_n C 0 rfl rfl ?_
  refine g_getI C 1 rfl fl_X7_262 rfl rfl ?_
  skip
  refine g_tin C 2 rfl 0 32 (by decide) 28 (by decide) (by decide) ?_ (fun h2 => ?_)
  · refine g_aload_n C 3 rfl rfl ?_
    refine g_aload_n C 4 rfl rfl ?_
    refine g_getR C 5 rfl fl_X7_61 rfl rfl ?_
    refine g_iconst C 6 rfl 0 (by decide) ?_
    refine g_iald C 7 rfl rfl (by decide) ?_
    refine g_aload_n C 8 rfl rfl ?_
    refine g_getR C 9 rfl fl_X7_61 rfl rfl ?_
    refine g_iconst C 10 rfl 1 (by decide) ?_
    refine g_iald C 11 rfl rfl (by decide) ?_
    refine g_callV (ψ₁ := sw_eI) C 12 rfl [(.int (σ 19 (sw_ix 0))), (.int (σ 19 (sw_ix 1)))] [] ml_X7_271 rfl (Nat.le_of_ble_eq_true rfl) (by decide) rfl rfl (fun b hb => m_X7_read V.1.2.1 _ _ _ _ C.inj σ (σ 19 (sw_ix 0)) (σ 19 (sw_ix 1)) b hb) rfl (g_cI fun r1 => ?_)
    skip
    exact g_iret C 13 rfl rfl
  refine g_tin C 2 rfl 1 49 (by decide) 45 (by decide) (by decide) ?_ (fun h4 => ?_)
  · refine g_aload_n C 14 rfl rfl ?_
    refine g_aload_n C 15 rfl rfl ?_
    refine g_getR C 16 rfl fl_X7_61 rfl rfl ?_
    refine g_iconst C 17 rfl 0 (by decide) ?_
    refine g_iald C 18 rfl rfl (by decide) ?_
    refine g_aload_n C 19 rfl rfl ?_
    refine g_getR C 20 rfl fl_X7_61 rfl rfl ?_
    refine g_iconst C 21 rfl 1 (by decide) ?_
    refine g_iald C 22 rfl rfl (by decide) ?_
    refine g_aload_n C 23 rfl rfl ?_
    refine g_getR C 24 rfl fl_X7_61 rfl rfl ?_
    refine g_iconst C 25 rfl 2 (by decide) ?_
    refine g_iald C 26 rfl rfl (by decide) ?_
    refine g_callV (ψ₁ := sw_eI) C 27 rfl [(.int (σ 19 (sw_ix 0))), (.int (σ 19 (sw_ix 1))), (.int (σ 19 (sw_ix 2)))] [] ml_X7_274 rfl (Nat.le_of_ble_eq_true rfl) (by decide) rfl rfl (fun b hb => m_X7_store V.1.2.1 _ _ _ _ C.inj σ (σ 19 (sw_ix 0)) (σ 19 (sw_ix 1)) (σ 19 (sw_ix 2)) b hb) rfl (g_cI fun r3 => ?_)
    skip
    exact g_iret C 28 rfl rfl
  refine g_tin C 2 rfl 2 72 (by decide) 68 (by decide) (by decide) ?_ (fun h6 => ?_)
  · refine g_aload_n C 29 rfl rfl ?_
    refine g_aload_n C 30 rfl rfl ?_
    refine g_getR C 31 rfl fl_X7_61 rfl rfl ?_
    refine g_iconst C 32 rfl 0 (by decide) ?_
    refine g_iald C 33 rfl rfl (by decide) ?_
    refine g_aload_n C 34 rfl rfl ?_
    refine g_getR C 35 rfl fl_X7_61 rfl rfl ?_
    refine g_iconst C 36 rfl 1 (by decide) ?_
    refine g_iald C 37 rfl rfl (by decide) ?_
    refine g_callV (ψ₁ := sw_eI) C 38 rfl [(.int (σ 19 (sw_ix 0))), (.int (σ 19 (sw_ix 1)))] [] ml_X7_277 rfl (Nat.le_of_ble_eq_true rfl) (by decide) rfl rfl (fun b hb => m_X7_drop V.1.2.1 _ _ _ _ C.inj σ (σ 19 (sw_ix 0)) (σ 19 (sw_ix 1)) b hb) rfl (g_cI fun r5 => ?_)
    skip
    exact g_iret C 39 rfl rfl
  refine g_tout C 2 rfl 89 (by have a0 := lv_neT (a := 0) h2 (by decide); have a1 := lv_neT (a := 1) h4 (by decide); have a2 := lv_neT (a := 2) h6 (by decide); omega) (by decide) ?_
  refine g_aload_n C 40 rfl rfl ?_
  refine g_aload_n C 41 rfl rfl ?_
  refine g_getR C 42 rfl fl_X7_61 rfl rfl ?_
  refine g_iconst C 43 rfl 0 (by decide) ?_
  refine g_iald C 44 rfl rfl (by decide) ?_
  refine g_callV (ψ₁ := sw_eI) C 45 rfl [(.int (σ 19 (sw_ix 0)))] [] ml_X7_280 rfl (Nat.le_of_ble_eq_true rfl) (by decide) rfl rfl (fun b hb => m_X7_turn V.1.2.1 _ _ _ _ C.inj σ (σ 19 (sw_ix 0)) b hb) rfl (g_cI fun r7 => ?_)
  skip
  exact g_iret C 46 rfl rfl
set_option maxHeartbeats 1000000 in
set_option maxRecDepth 100000 in
theorem m_X7_does (l : Launch) (dC : Nat → ClassId) (dI : Nat → Nat → Nat) (dA : Nat → ClassId) (ad : Nat → Nat) (hI : sw_inj sw_ZM ad) (σ : sw_St)  (b : (Int32 × sw_St)) (hb : f_X7_does σ = some b) : sw_M sw_ZM l yX7_does cX7_does 1 (some .int) 7 dC dI dA ad [(sw_rv ad 1)] σ (sw_eI b) :=
  sw_mk1 (ψ := sw_eI) 0 (by decide) sw_ZMok hI dk_X7_does rfl (sw_c1_all _ ⟨sw_rv_cat _ _, trivial⟩) hb (fun p e R M C => s_X7_does C σ)
