/-! SplitWatch.count(I)I -/
def L_X6_count : sw_Is := [(0, .iload_n 1, 1, 1), (1, .tableswitch 150 0 10 #[59, 67, 75, 83, 91, 99, 110, 118, 126, 134, 142], 59, 60), (60, .aload_n 0, 1, 61), (61, .getfield 10, 3, 64), (64, .getfield 64, 3, 67), (67, .ireturn, 1, 68), (68, .aload_n 0, 1, 69), (69, .getfield 10, 3, 72), (72, .getfield 214, 3, 75), (75, .ireturn, 1, 76), (76, .aload_n 0, 1, 77), (77, .getfield 10, 3, 80), (80, .getfield 217, 3, 83), (83, .ireturn, 1, 84), (84, .aload_n 0, 1, 85), (85, .getfield 10, 3, 88), (88, .getfield 220, 3, 91), (91, .ireturn, 1, 92), (92, .aload_n 0, 1, 93), (93, .getfield 10, 3, 96), (96, .getfield 173, 3, 99), (99, .ireturn, 1, 100), (100, .aload_n 0, 1, 101), (101, .getfield 10, 3, 104), (104, .getfield 91, 3, 107), (107, .getfield 223, 3, 110), (110, .ireturn, 1, 111), (111, .aload_n 0, 1, 112), (112, .getfield 10, 3, 115), (115, .getfield 226, 3, 118), (118, .ireturn, 1, 119), (119, .aload_n 0, 1, 120), (120, .getfield 10, 3, 123), (123, .getfield 229, 3, 126), (126, .ireturn, 1, 127), (127, .aload_n 0, 1, 128), (128, .getfield 10, 3, 131), (131, .getfield 232, 3, 134), (134, .ireturn, 1, 135), (135, .aload_n 0, 1, 136), (136, .getfield 10, 3, 139), (139, .getfield 235, 3, 142), (142, .ireturn, 1, 143), (143, .aload_n 0, 1, 144), (144, .getfield 23, 3, 147), (147, .getfield 60, 3, 150), (150, .ireturn, 1, 151), (151, .iconst (-1), 1, 152), (152, .ireturn, 1, 153)]
theorem dk_X6_count : sw_dc cX6_count L_X6_count = true := by decide +kernel
def f_X6_count (σ : sw_St) (x1 : Int32) : Option Int32 := if x1 = 0 then (some (σ 2 4)) else (if x1 = 1 then (some (σ 2 5)) else (if x1 = 2 then (some (σ 2 6)) else (if x1 = 3 then (some (σ 2 7)) else (if x1 = 4 then (some (σ 2 8)) else (if x1 = 5 then (some (σ 6 1)) else (if x1 = 6 then (some (σ 2 10)) else (if x1 = 7 then (some (σ 2 11)) else (if x1 = 8 then (some (σ 2 12)) else (if x1 = 9 then (some (σ 2 13)) else (if x1 = 10 then (some (σ 44 2)) else (some (-1))))))))))))
set_option maxHeartbeats 1000000 in
set_option maxRecDepth 100000 in
theorem s_X6_count {V : sw_V} (C : sw_Cx sw_ZX V cX6_count RX6 2 (some .int) L_X6_count 0) (σ : sw_St) (x1 : Int32) : sw_S sw_ZX V (sw_eP σ) [some (sw_r V 1), some (.int x1)] [] 0 σ (f_X6_count σ x1) := by
  unfold f_X6_count
  refine g_iload_n C 0 rfl rfl ?_
  skip
  refine g_tin C 1 rfl 0 60 (by decide) 59 (by decide) (by decide) ?_ (fun h1 => ?_)
  · refine g_aload_n C 2 rfl rfl ?_
    refine g_getR C 3 rfl fl_X6_10 rfl rfl ?_
    refine g_getI C 4 rfl fl_X6_64 rfl rfl ?_
    skip
    exact g_iret C 5 rfl rfl
  refine g_tin C 1 rfl 1 68 (by decide) 67 (by decide) (by decide) ?_ (fun h2 => ?_)
  · refine g_aload_n C 6 rfl rfl ?_
    refine g_getR C 7 rfl fl_X6_10 rfl rfl ?_
    refine g_getI C 8 rfl fl_X6_214 rfl rfl ?_
    skip
    exact g_iret C 9 rfl rfl
  refine g_tin C 1 rfl 2 76 (by decide) 75 (by decide) (by decide) ?_ (fun h3 => ?_)
  · refine g_aload_n C 10 rfl rfl ?_
    refine g_getR C 11 rfl fl_X6_10 rfl rfl ?_
    refine g_getI C 12 rfl fl_X6_217 rfl rfl ?_
    skip
    exact g_iret C 13 rfl rfl
  refine g_tin C 1 rfl 3 84 (by decide) 83 (by decide) (by decide) ?_ (fun h4 => ?_)
  · refine g_aload_n C 14 rfl rfl ?_
    refine g_getR C 15 rfl fl_X6_10 rfl rfl ?_
    refine g_getI C 16 rfl fl_X6_220 rfl rfl ?_
    skip
    exact g_iret C 17 rfl rfl
  refine g_tin C 1 rfl 4 92 (by decide) 91 (by decide) (by decide) ?_ (fun h5 => ?_)
  · refine g_aload_n C 18 rfl rfl ?_
    refine g_getR C 19 rfl fl_X6_10 rfl rfl ?_
    refine g_getI C 20 rfl fl_X6_173 rfl rfl ?_
    skip
    exact g_iret C 21 rfl rfl
  refine g_tin C 1 rfl 5 100 (by decide) 99 (by decide) (by decide) ?_ (fun h6 => ?_)
  · refine g_aload_n C 22 rfl rfl ?_
    refine g_getR C 23 rfl fl_X6_10 rfl rfl ?_
    refine g_getR C 24 rfl fl_X6_91 rfl rfl ?_
    refine g_getI C 25 rfl fl_X6_223 rfl rfl ?_
    skip
    exact g_iret C 26 rfl rfl
  refine g_tin C 1 rfl 6 111 (by decide) 110 (by decide) (by decide) ?_ (fun h7 => ?_)
  · refine g_aload_n C 27 rfl rfl ?_
    refine g_getR C 28 rfl fl_X6_10 rfl rfl ?_
    refine g_getI C 29 rfl fl_X6_226 rfl rfl ?_
    skip
    exact g_iret C 30 rfl rfl
  refine g_tin C 1 rfl 7 119 (by decide) 118 (by decide) (by decide) ?_ (fun h8 => ?_)
  · refine g_aload_n C 31 rfl rfl ?_
    refine g_getR C 32 rfl fl_X6_10 rfl rfl ?_
    refine g_getI C 33 rfl fl_X6_229 rfl rfl ?_
    skip
    exact g_iret C 34 rfl rfl
  refine g_tin C 1 rfl 8 127 (by decide) 126 (by decide) (by decide) ?_ (fun h9 => ?_)
  · refine g_aload_n C 35 rfl rfl ?_
    refine g_getR C 36 rfl fl_X6_10 rfl rfl ?_
    refine g_getI C 37 rfl fl_X6_232 rfl rfl ?_
    skip
    exact g_iret C 38 rfl rfl
  refine g_tin C 1 rfl 9 135 (by decide) 134 (by decide) (by decide) ?_ (fun h10 => ?_)
  · refine g_aload_n C 39 rfl rfl ?_
    refine g_getR C 40 rfl fl_X6_10 rfl rfl ?_
    refine g_getI C 41 rfl fl_X6_235 rfl rfl ?_
    skip
    exact g_iret C 42 rfl rfl
  refine g_tin C 1 rfl 10 143 (by decide) 142 (by decide) (by decide) ?_ (fun h11 => ?_)
  · refine g_aload_n C 43 rfl rfl ?_
    refine g_getR C 44 rfl fl_X6_23 rfl rfl ?_
    refine g_getI C 45 rfl fl_X6_60 rfl rfl ?_
    skip
    exact g_iret C 46 rfl rfl
  refine g_tout C 1 rfl 151 (by have a0 := lv_neT (a := 0) h1 (by decide); have a1 := lv_neT (a := 1) h2 (by decide); have a2 := lv_neT (a := 2) h3 (by decide); have a3 := lv_neT (a := 3) h4 (by decide); have a4 := lv_neT (a := 4) h5 (by decide); have a5 := lv_neT (a := 5) h6 (by decide); have a6 := lv_neT (a := 6) h7 (by decide); have a7 := lv_neT (a := 7) h8 (by decide); have a8 := lv_neT (a := 8) h9 (by decide); have a9 := lv_neT (a := 9) h10 (by decide); have a10 := lv_neT (a := 10) h11 (by decide); omega) (by decide) ?_
  refine g_iconst C 47 rfl (-1) (by decide) ?_
  skip
  exact g_iret C 48 rfl rfl
set_option maxHeartbeats 1000000 in
set_option maxRecDepth 100000 in
theorem m_X6_count (l : Launch) (dC : Nat → ClassId) (dI : Nat → Nat → Nat) (dA : Nat → ClassId) (ad : Nat → Nat) (hI : sw_inj sw_ZX ad) (σ : sw_St) (x1 : Int32) (b : Int32) (hb : f_X6_count σ x1 = some b) : sw_M sw_ZX l yX6_count cX6_count 2 (some .int) 0 dC dI dA ad [(sw_rv ad 1), (.int x1)] σ ((sw_eP σ) b) :=
  sw_mk1 (ψ := (sw_eP σ)) 0 (by decide) sw_ZXok hI dk_X6_count rfl (sw_c1_all _ ⟨sw_rv_cat _ _, rfl, trivial⟩) hb (fun p e R M C => s_X6_count C σ x1)
