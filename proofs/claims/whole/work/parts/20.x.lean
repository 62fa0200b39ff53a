/-! SplitWatch$Log.clear()V -/
def L_X3_clear : sw_Is := [(0, .aload_n 0, 1, 1), (1, .iconst 0, 1, 2), (2, .putfield 15, 3, 5), (5, .aload_n 0, 1, 6), (6, .iconst 0, 1, 7), (7, .putfield 19, 3, 10), (10, .aload_n 0, 1, 11), (11, .iconst 0, 1, 12), (12, .putfield 22, 3, 15), (15, .return_, 1, 16)]
theorem dk_X3_clear : sw_dc cX3_clear L_X3_clear = true := by decide +kernel
def f_X3_clear (σ : sw_St)  : Option sw_St := sw_pt σ 6 1 0 fun s1 => (sw_pt s1 6 2 0 fun s2 => (sw_pt s2 6 3 0 fun s3 => (some s3)))
set_option maxHeartbeats 1000000 in
set_option maxRecDepth 100000 in
theorem s_X3_clear {V : sw_V} (C : sw_Cx sw_ZX V cX3_clear RX3 1 none L_X3_clear 0) (σ : sw_St)  : sw_S sw_ZX V sw_eV [some (sw_r V 6)] [] 0 σ (f_X3_clear σ) := by
  unfold f_X3_clear
  refine g_aload_n C 0 rfl rfl ?_
  refine g_iconst C 1 rfl 0 (by decide) ?_
  refine g_put C 2 rfl fp_X3_15 rfl rfl (fun s1 => ?_)
  refine g_aload_n C 3 rfl rfl ?_
  refine g_iconst C 4 rfl 0 (by decide) ?_
  refine g_put C 5 rfl fp_X3_19 rfl rfl (fun s2 => ?_)
  refine g_aload_n C 6 rfl rfl ?_
  refine g_iconst C 7 rfl 0 (by decide) ?_
  refine g_put C 8 rfl fp_X3_22 rfl rfl (fun s3 => ?_)
  exact g_vret C 9 rfl rfl
set_option maxHeartbeats 1000000 in
set_option maxRecDepth 100000 in
theorem m_X3_clear (l : Launch) (dC : Nat → ClassId) (dI : Nat → Nat → Nat) (dA : Nat → ClassId) (ad : Nat → Nat) (hI : sw_inj sw_ZX ad) (σ : sw_St)  (b : sw_St) (hb : f_X3_clear σ = some b) : sw_M sw_ZX l yX3_clear cX3_clear 1 none 0 dC dI dA ad [(sw_rv ad 6)] σ (sw_eV b) :=
  sw_mk1 (ψ := sw_eV) 0 (by decide) sw_ZXok hI dk_X3_clear rfl (sw_c1_all _ ⟨sw_rv_cat _ _, trivial⟩) hb (fun p e R M C => s_X3_clear C σ)
/-! SplitWatch$Cache.clear()V -/
def L_X1_clear : sw_Is := [(0, .iconst 0, 1, 1), (1, .istore_n 1, 1, 2), (2, .iload_n 1, 1, 3), (3, .bipush 8, 2, 5), (5, .if_icmp .ge 30, 3, 8), (8, .aload_n 0, 1, 9), (9, .getfield 9, 3, 12), (12, .iload_n 1, 1, 13), (13, .iconst 0, 1, 14), (14, .iastore, 1, 15), (15, .aload_n 0, 1, 16), (16, .getfield 15, 3, 19), (19, .iload_n 1, 1, 20), (20, .iconst 0, 1, 21), (21, .iastore, 1, 22), (22, .aload_n 0, 1, 23), (23, .getfield 18, 3, 26), (26, .iload_n 1, 1, 27), (27, .iconst 0, 1, 28), (28, .iastore, 1, 29), (29, .iinc 1 1, 3, 32), (32, .goto (-30), 3, 35), (35, .aload_n 0, 1, 36), (36, .iconst 0, 1, 37), (37, .putfield 21, 3, 40), (40, .return_, 1, 41)]
theorem dk_X1_clear : sw_dc cX1_clear L_X1_clear = true := by decide +kernel
def f_X1_clear_2  : Nat → sw_St → Nat → Int32 → Option sw_St
  | 0 => fun _ _ _ => none
  | n + 1 => fun σ x0 x1 => if 8 ≤ x1 then (sw_ck (sw_isK x0) (sw_pt σ x0 3 0 fun s2 => (some s2))) else (sw_ck (sw_isK x0) (sw_ck (sw_in x1 8) (sw_pt σ (x0 + 1) (sw_ix x1) 0 fun s5 => (sw_pt s5 (x0 + 2) (sw_ix x1) 0 fun s6 => (sw_pt s6 (x0 + 3) (sw_ix x1) 0 fun s7 => ((f_X1_clear_2 n) s7 x0 (x1 + 1)))))))
def f_X1_clear (σ : sw_St) (x0 : Nat) : Option sw_St := f_X1_clear_2 sw_fuel σ x0 0
set_option maxHeartbeats 1000000 in
set_option maxRecDepth 100000 in
theorem s_X1_clear_2 {V : sw_V} (C : sw_Cx sw_ZX V cX1_clear RX1 2 none L_X1_clear 0) : ∀ (n : Nat) (σ : sw_St) (x0 : Nat) (x1 : Int32), sw_S sw_ZX V sw_eV [some (sw_r V x0), some (.int x1)] [] 2 σ (f_X1_clear_2 n σ x0 x1) := by
  intro n
  induction n with
  | zero =>
    intro σ x0 x1
    exact g_none
  | succ n ih =>
    intro σ x0 x1
    rw [f_X1_clear_2]
    refine g_iload_n C 2 rfl rfl ?_
    refine g_bipush C 3 rfl 8 (by decide) ?_
    refine g_icmp_ge C 4 rfl 35 (by decide) ?_ ?_
    · refine g_aload_n C 22 rfl rfl ?_
      refine g_iconst C 23 rfl 0 (by decide) ?_
      refine g_ck fun h1 => ?_
      refine g_put C 24 rfl fp_X1_21 (sh_K h1) rfl (fun s2 => ?_)
      exact g_vret C 25 rfl rfl
    · refine g_aload_n C 5 rfl rfl ?_
      refine g_ck fun h3 => ?_
      refine g_getR C 6 rfl fl_X1_9 (sh_K h3) rfl ?_
      refine g_iload_n C 7 rfl rfl ?_
      refine g_iconst C 8 rfl 0 (by decide) ?_
      refine g_ck fun h4 => ?_
      refine g_iast C 9 rfl (sh_K0 h3) h4 (fun s5 => ?_)
      refine g_aload_n C 10 rfl rfl ?_
      refine g_getR C 11 rfl fl_X1_15 (sh_K h3) rfl ?_
      refine g_iload_n C 12 rfl rfl ?_
      refine g_iconst C 13 rfl 0 (by decide) ?_
      refine g_iast C 14 rfl (sh_K1 h3) h4 (fun s6 => ?_)
      refine g_aload_n C 15 rfl rfl ?_
      refine g_getR C 16 rfl fl_X1_18 (sh_K h3) rfl ?_
      refine g_iload_n C 17 rfl rfl ?_
      refine g_iconst C 18 rfl 0 (by decide) ?_
      refine g_iast C 19 rfl (sh_K2 h3) h4 (fun s7 => ?_)
      refine g_iinc C 20 rfl 1 (by decide) rfl (Nat.le_of_ble_eq_true rfl) (Or.inr (Or.inr (Or.inr ⟨_, rfl⟩))) ?_
      refine g_goto C 21 rfl 2 (by decide) ?_
      exact g_wk (ih s7 x0 (x1 + 1)) ⟨rfl, rfl, trivial⟩
set_option maxHeartbeats 1000000 in
set_option maxRecDepth 100000 in
theorem s_X1_clear {V : sw_V} (C : sw_Cx sw_ZX V cX1_clear RX1 2 none L_X1_clear 0) (σ : sw_St) (x0 : Nat) : sw_S sw_ZX V sw_eV [some (sw_r V x0), none] [] 0 σ (f_X1_clear σ x0) := by
  unfold f_X1_clear
  refine g_iconst C 0 rfl 0 (by decide) ?_
  refine g_istore_n C 1 rfl (Nat.le_of_ble_eq_true rfl) (Or.inr (Or.inr (Or.inr ⟨_, rfl⟩))) ?_
  exact g_wk (s_X1_clear_2 C sw_fuel σ x0 0) ⟨rfl, rfl, trivial⟩
set_option maxHeartbeats 1000000 in
set_option maxRecDepth 100000 in
theorem m_X1_clear (l : Launch) (dC : Nat → ClassId) (dI : Nat → Nat → Nat) (dA : Nat → ClassId) (ad : Nat → Nat) (hI : sw_inj sw_ZX ad) (σ : sw_St) (x0 : Nat) (b : sw_St) (hb : f_X1_clear σ x0 = some b) : sw_M sw_ZX l yX1_clear cX1_clear 2 none 0 dC dI dA ad [(sw_rv ad x0)] σ (sw_eV b) :=
  sw_mk1 (ψ := sw_eV) 1 (by decide) sw_ZXok hI dk_X1_clear rfl (sw_c1_all _ ⟨sw_rv_cat _ _, trivial⟩) hb (fun p e R M C => s_X1_clear C σ x0)
/-! SplitWatch$Core.clear()V -/
def L_X2_clear : sw_Is := [(0, .aload_n 0, 1, 1), (1, .getfield 12, 3, 4), (4, .invokevirtual 31, 3, 7), (7, .aload_n 0, 1, 8), (8, .getfield 27, 3, 11), (11, .iconst 0, 1, 12), (12, .putfield 34, 3, 15), (15, .iconst 0, 1, 16), (16, .istore_n 1, 1, 17), (17, .iload_n 1, 1, 18), (18, .iconst 2, 1, 19), (19, .if_icmp .ge 19, 3, 22), (22, .aload_n 0, 1, 23), (23, .getfield 20, 3, 26), (26, .iload_n 1, 1, 27), (27, .aaload, 1, 28), (28, .iconst 0, 1, 29), (29, .putfield 34, 3, 32), (32, .iinc 1 1, 3, 35), (35, .goto (-18), 3, 38), (38, .aload_n 0, 1, 39), (39, .bipush (-4), 2, 41), (41, .putfield 38, 3, 44), (44, .return_, 1, 45)]
theorem dk_X2_clear : sw_dc cX2_clear L_X2_clear = true := by decide +kernel
def f_X2_clear_17  : Nat → sw_St → Nat → Int32 → Option sw_St
  | 0 => fun _ _ _ => none
  | n + 1 => fun σ x0 x1 => if 2 ≤ x1 then (sw_ck (sw_isC x0) (sw_pt σ x0 3 (-4) fun s2 => (some s2))) else (sw_ck (sw_isC x0) (sw_ck (sw_in x1 2) (sw_pt σ (x0 + 7 + sw_ix x1) 1 0 fun s5 => ((f_X2_clear_17 n) s5 x0 (x1 + 1)))))
def f_X2_clear (σ : sw_St) (x0 : Nat) : Option sw_St := sw_ck (sw_isC x0) ((f_X1_clear σ (x0 + 1)).bind fun r2 => (sw_pt r2 (x0 + 6) 1 0 fun s3 => (f_X2_clear_17 sw_fuel s3 x0 0)))
set_option maxHeartbeats 1000000 in
set_option maxRecDepth 100000 in
theorem s_X2_clear_17 {V : sw_V} (C : sw_Cx sw_ZX V cX2_clear RX2 2 none L_X2_clear 1) : ∀ (n : Nat) (σ : sw_St) (x0 : Nat) (x1 : Int32), sw_S sw_ZX V sw_eV [some (sw_r V x0), some (.int x1)] [] 17 σ (f_X2_clear_17 n σ x0 x1) := by
  intro n
  induction n with
  | zero =>
    intro σ x0 x1
    exact g_none
  | succ n ih =>
    intro σ x0 x1
    rw [f_X2_clear_17]
    refine g_iload_n C 9 rfl rfl ?_
    refine g_iconst C 10 rfl 2 (by decide) ?_
    refine g_icmp_ge C 11 rfl 38 (by decide) ?_ ?_
    · refine g_aload_n C 20 rfl rfl ?_
      refine g_bipush C 21 rfl (-4) (by decide) ?_
      refine g_ck fun h1 => ?_
      refine g_put C 22 rfl fp_X2_38 (sh_C h1) rfl (fun s2 => ?_)
      exact g_vret C 23 rfl rfl
    · refine g_aload_n C 12 rfl rfl ?_
      refine g_ck fun h3 => ?_
      refine g_getR C 13 rfl fl_X2_20 (sh_C h3) rfl ?_
      refine g_iload_n C 14 rfl rfl ?_
      refine g_ck fun h4 => ?_
      refine g_aald C 15 rfl (sh_CB h3) rfl h4 (tg_backs h4) ?_
      refine g_iconst C 16 rfl 0 (by decide) ?_
      refine g_put C 17 rfl fp_X2_34 (sh_Q (kd_backs h3 h4)) rfl (fun s5 => ?_)
      refine g_iinc C 18 rfl 1 (by decide) rfl (Nat.le_of_ble_eq_true rfl) (Or.inr (Or.inr (Or.inr ⟨_, rfl⟩))) ?_
      refine g_goto C 19 rfl 17 (by decide) ?_
      exact g_wk (ih s5 x0 (x1 + 1)) ⟨rfl, rfl, trivial⟩
set_option maxHeartbeats 1000000 in
set_option maxRecDepth 100000 in
theorem s_X2_clear {V : sw_V} (C : sw_Cx sw_ZX V cX2_clear RX2 2 none L_X2_clear 1) (σ : sw_St) (x0 : Nat) : sw_S sw_ZX V sw_eV [some (sw_r V x0), none] [] 0 σ (f_X2_clear σ x0) := by
  unfold f_X2_clear
  refine g_aload_n C 0 rfl rfl ?_
  refine g_ck fun h1 => ?_
  refine g_getR C 1 rfl fl_X2_12 (sh_C h1) rfl ?_
  refine g_callV (ψ₁ := sw_eV) C 2 rfl [] [] ml_X2_31 rfl (Nat.le_of_ble_eq_true rfl) (by decide) (sh_K (kd_CK h1)) rfl (fun b hb => m_X1_clear V.1.2.1 _ _ _ _ C.inj σ (x0 + 1) b hb) rfl (g_cV fun r2 => ?_)
  refine g_aload_n C 3 rfl rfl ?_
  refine g_getR C 4 rfl fl_X2_27 (sh_C h1) rfl ?_
  refine g_iconst C 5 rfl 0 (by decide) ?_
  refine g_put C 6 rfl fp_X2_34 (sh_Q (kd_CQ h1)) rfl (fun s3 => ?_)
  refine g_iconst C 7 rfl 0 (by decide) ?_
  refine g_istore_n C 8 rfl (Nat.le_of_ble_eq_true rfl) (Or.inr (Or.inr (Or.inr ⟨_, rfl⟩))) ?_
  exact g_wk (s_X2_clear_17 C sw_fuel s3 x0 0) ⟨rfl, rfl, trivial⟩
set_option maxHeartbeats 1000000 in
set_option maxRecDepth 100000 in
theorem m_X2_clear (l : Launch) (dC : Nat → ClassId) (dI : Nat → Nat → Nat) (dA : Nat → ClassId) (ad : Nat → Nat) (hI : sw_inj sw_ZX ad) (σ : sw_St) (x0 : Nat) (b : sw_St) (hb : f_X2_clear σ x0 = some b) : sw_M sw_ZX l yX2_clear cX2_clear 2 none 1 dC dI dA ad [(sw_rv ad x0)] σ (sw_eV b) :=
  sw_mk1 (ψ := sw_eV) 1 (by decide) sw_ZXok hI dk_X2_clear rfl (sw_c1_all _ ⟨sw_rv_cat _ _, trivial⟩) hb (fun p e R M C => s_X2_clear C σ x0)
/-! SplitWatch$Bus.reset(IIII)V -/
def L_X0_reset : sw_Is := [(0, .aload_n 0, 1, 1), (1, .iload_n 1, 1, 2), (2, .putfield 44, 3, 5), (5, .aload_n 0, 1, 6), (6, .iload_n 2, 1, 7), (7, .putfield 48, 3, 10), (10, .aload_n 0, 1, 11), (11, .iload_n 3, 1, 12), (12, .putfield 51, 3, 15), (15, .aload_n 0, 1, 16), (16, .iload 4, 2, 18), (18, .putfield 54, 3, 21), (21, .aload_n 0, 1, 22), (22, .iconst 0, 1, 23), (23, .putfield 57, 3, 26), (26, .aload_n 0, 1, 27), (27, .iconst 0, 1, 28), (28, .putfield 60, 3, 31), (31, .aload_n 0, 1, 32), (32, .iconst 0, 1, 33), (33, .putfield 63, 3, 36), (36, .aload_n 0, 1, 37), (37, .iconst 0, 1, 38), (38, .putfield 66, 3, 41), (41, .aload_n 0, 1, 42), (42, .iconst 0, 1, 43), (43, .putfield 69, 3, 46), (46, .aload_n 0, 1, 47), (47, .iconst 0, 1, 48), (48, .putfield 72, 3, 51), (51, .aload_n 0, 1, 52), (52, .getfield 30, 3, 55), (55, .invokevirtual 75, 3, 58), (58, .iconst 0, 1, 59), (59, .istore 5, 2, 61), (61, .iload 5, 2, 63), (63, .iconst 4, 1, 64), (64, .if_icmp .ge 19, 3, 67), (67, .aload_n 0, 1, 68), (68, .getfield 11, 3, 71), (71, .iload 5, 2, 73), (73, .aaload, 1, 74), (74, .invokevirtual 78, 3, 77), (77, .iinc 5 1, 3, 80), (80, .goto (-19), 3, 83), (83, .iconst 0, 1, 84), (84, .istore 5, 2, 86), (86, .iload 5, 2, 88), (88, .bipush 8, 2, 90), (90, .if_icmp .ge 17, 3, 93), (93, .aload_n 0, 1, 94), (94, .getfield 23, 3, 97), (97, .iload 5, 2, 99), (99, .iconst 0, 1, 100), (100, .iastore, 1, 101), (101, .iinc 5 1, 3, 104), (104, .goto (-18), 3, 107), (107, .return_, 1, 108)]
theorem dk_X0_reset : sw_dc cX0_reset L_X0_reset = true := by decide +kernel
def f_X0_reset_86  : Nat → sw_St → Int32 → Option sw_St
  | 0 => fun _ _ => none
  | n + 1 => fun σ x5 => if 8 ≤ x5 then (some σ) else (sw_ck (sw_in x5 8) (sw_pt σ 5 (sw_ix x5) 0 fun s2 => ((f_X0_reset_86 n) s2 (x5 + 1))))
def f_X0_reset_61  : Nat → sw_St → Int32 → Option sw_St
  | 0 => fun _ _ => none
  | n + 1 => fun σ x5 => if 4 ≤ x5 then (f_X0_reset_86 sw_fuel σ 0) else (sw_ck (sw_in x5 4) ((f_X2_clear σ (8 + 9 * sw_ix x5)).bind fun r2 => ((f_X0_reset_61 n) r2 (x5 + 1))))
def f_X0_reset (σ : sw_St) (x1 : Int32) (x2 : Int32) (x3 : Int32) (x4 : Int32) : Option sw_St := sw_pt σ 2 4 x1 fun s1 => (sw_pt s1 2 5 x2 fun s2 => (sw_pt s2 2 6 x3 fun s3 => (sw_pt s3 2 7 x4 fun s4 => (sw_pt s4 2 8 0 fun s5 => (sw_pt s5 2 9 0 fun s6 => (sw_pt s6 2 10 0 fun s7 => (sw_pt s7 2 11 0 fun s8 => (sw_pt s8 2 12 0 fun s9 => (sw_pt s9 2 13 0 fun s10 => ((f_X3_clear s10).bind fun r11 => (f_X0_reset_61 sw_fuel r11 0)))))))))))
set_option maxHeartbeats 1000000 in
set_option maxRecDepth 100000 in
theorem s_X0_reset_86 {V : sw_V} (C : sw_Cx sw_ZX V cX0_reset RX0 6 none L_X0_reset 2) : ∀ (n : Nat) (σ : sw_St) (x5 : Int32), sw_S sw_ZX V sw_eV [some (sw_r V 2), none, none, none, none, some (.int x5)] [] 86 σ (f_X0_reset_86 n σ x5) := by
  intro n
  induction n with
  | zero =>
    intro σ x5
    exact g_none
  | succ n ih =>
    intro σ x5
    rw [f_X0_reset_86]
    refine g_iload C 47 rfl rfl ?_
    refine g_bipush C 48 rfl 8 (by decide) ?_
    refine g_icmp_ge C 49 rfl 107 (by decide) ?_ ?_
    · exact g_vret C 57 rfl rfl
    · refine g_aload_n C 50 rfl rfl ?_
      refine g_getR C 51 rfl fl_X0_23 rfl rfl ?_
      refine g_iload C 52 rfl rfl ?_
      refine g_iconst C 53 rfl 0 (by decide) ?_
      refine g_ck fun h1 => ?_
      refine g_iast C 54 rfl rfl h1 (fun s2 => ?_)
      refine g_iinc C 55 rfl 1 (by decide) rfl (Nat.le_of_ble_eq_true rfl) (Or.inr (Or.inl rfl)) ?_
      refine g_goto C 56 rfl 86 (by decide) ?_
      exact g_wk (ih s2 (x5 + 1)) ⟨rfl, rfl, trivial⟩
set_option maxHeartbeats 1000000 in
set_option maxRecDepth 100000 in
theorem s_X0_reset_61 {V : sw_V} (C : sw_Cx sw_ZX V cX0_reset RX0 6 none L_X0_reset 2) : ∀ (n : Nat) (σ : sw_St) (x5 : Int32), sw_S sw_ZX V sw_eV [some (sw_r V 2), none, none, none, none, some (.int x5)] [] 61 σ (f_X0_reset_61 n σ x5) := by
  intro n
  induction n with
  | zero =>
    intro σ x5
    exact g_none
  | succ n ih =>
    intro σ x5
    rw [f_X0_reset_61]
    refine g_iload C 35 rfl rfl ?_
    refine g_iconst C 36 rfl 4 (by decide) ?_
    refine g_icmp_ge C 37 rfl 83 (by decide) ?_ ?_
    · refine g_iconst C 45 rfl 0 (by decide) ?_
      refine g_istore C 46 rfl (Nat.le_of_ble_eq_true rfl) (Or.inr (Or.inl rfl)) ?_
      exact g_wk (s_X0_reset_86 C sw_fuel σ 0) ⟨rfl, rfl, trivial⟩
    · refine g_aload_n C 38 rfl rfl ?_
      refine g_getR C 39 rfl fl_X0_11 rfl rfl ?_
      refine g_iload C 40 rfl rfl ?_
      refine g_ck fun h1 => ?_
      refine g_aald C 41 rfl rfl rfl h1 (tg_cores h1) ?_
      refine g_callV (ψ₁ := sw_eV) C 42 rfl [] [] ml_X0_78 rfl (Nat.le_of_ble_eq_true rfl) (by decide) (sh_C (kd_cores h1)) rfl (fun b hb => m_X2_clear V.1.2.1 _ _ _ _ C.inj σ (8 + 9 * sw_ix x5) b hb) rfl (g_cV fun r2 => ?_)
      refine g_iinc C 43 rfl 1 (by decide) rfl (Nat.le_of_ble_eq_true rfl) (Or.inr (Or.inl rfl)) ?_
      refine g_goto C 44 rfl 61 (by decide) ?_
      exact g_wk (ih r2 (x5 + 1)) ⟨rfl, rfl, trivial⟩
set_option maxHeartbeats 1000000 in
set_option maxRecDepth 100000 in
theorem s_X0_reset {V : sw_V} (C : sw_Cx sw_ZX V cX0_reset RX0 6 none L_X0_reset 2) (σ : sw_St) (x1 : Int32) (x2 : Int32) (x3 : Int32) (x4 : Int32) : sw_S sw_ZX V sw_eV [some (sw_r V 2), some (.int x1), some (.int x2), some (.int x3), some (.int x4), none] [] 0 σ (f_X0_reset σ x1 x2 x3 x4) := by
  unfold f_X0_reset
  refine g_aload_n C 0 rfl rfl ?_
  refine g_iload_n C 1 rfl rfl ?_
  refine g_put C 2 rfl fp_X0_44 rfl rfl (fun s1 => ?_)
  refine g_aload_n C 3 rfl rfl ?_
  refine g_iload_n C 4 rfl rfl ?_
  refine g_put C 5 rfl fp_X0_48 rfl rfl (fun s2 => ?_)
  refine g_aload_n C 6 rfl rfl ?_
  refine g_iload_n C 7 rfl rfl ?_
  refine g_put C 8 rfl fp_X0_51 rfl rfl (fun s3 => ?_)
  refine g_aload_n C 9 rfl rfl ?_
  refine g_iload C 10 rfl rfl ?_
  refine g_put C 11 rfl fp_X0_54 rfl rfl (fun s4 => ?_)
  refine g_aload_n C 12 rfl rfl ?_
  refine g_iconst C 13 rfl 0 (by decide) ?_
  refine g_put C 14 rfl fp_X0_57 rfl rfl (fun s5 => ?_)
  refine g_aload_n C 15 rfl rfl ?_
  refine g_iconst C 16 rfl 0 (by decide) ?_
  refine g_put C 17 rfl fp_X0_60 rfl rfl (fun s6 => ?_)
  refine g_aload_n C 18 rfl rfl ?_
  refine g_iconst C 19 rfl 0 (by decide) ?_
  refine g_put C 20 rfl fp_X0_63 rfl rfl (fun s7 => ?_)
  refine g_aload_n C 21 rfl rfl ?_
  refine g_iconst C 22 rfl 0 (by decide) ?_
  refine g_put C 23 rfl fp_X0_66 rfl rfl (fun s8 => ?_)
  refine g_aload_n C 24 rfl rfl ?_
  refine g_iconst C 25 rfl 0 (by decide) ?_
  refine g_put C 26 rfl fp_X0_69 rfl rfl (fun s9 => ?_)
  refine g_aload_n C 27 rfl rfl ?_
  refine g_iconst C 28 rfl 0 (by decide) ?_
  refine g_put C 29 rfl fp_X0_72 rfl rfl (fun s10 => ?_)
  refine g_aload_n C 30 rfl rfl ?_
  refine g_getR C 31 rfl fl_X0_30 rfl rfl ?_
  refine g_callV (ψ₁ := sw_eV) C 32 rfl [] [] ml_X0_75 rfl (Nat.le_of_ble_eq_true rfl) (by decide) rfl rfl (fun b hb => m_X3_clear V.1.2.1 _ _ _ _ C.inj s10 b hb) rfl (g_cV fun r11 => ?_)
  refine g_iconst C 33 rfl 0 (by decide) ?_
  refine g_istore C 34 rfl (Nat.le_of_ble_eq_true rfl) (Or.inr (Or.inr (Or.inl ⟨_, rfl⟩))) ?_
  exact g_wk (s_X0_reset_61 C sw_fuel r11 0) ⟨rfl, rfl, trivial⟩
set_option maxHeartbeats 1000000 in
set_option maxRecDepth 100000 in
theorem m_X0_reset (l : Launch) (dC : Nat → ClassId) (dI : Nat → Nat → Nat) (dA : Nat → ClassId) (ad : Nat → Nat) (hI : sw_inj sw_ZX ad) (σ : sw_St) (x1 : Int32) (x2 : Int32) (x3 : Int32) (x4 : Int32) (b : sw_St) (hb : f_X0_reset σ x1 x2 x3 x4 = some b) : sw_M sw_ZX l yX0_reset cX0_reset 6 none 2 dC dI dA ad [(sw_rv ad 2), (.int x1), (.int x2), (.int x3), (.int x4)] σ (sw_eV b) :=
  sw_mk1 (ψ := sw_eV) 1 (by decide) sw_ZXok hI dk_X0_reset rfl (sw_c1_all _ ⟨sw_rv_cat _ _, rfl, rfl, rfl, rfl, trivial⟩) hb (fun p e R M C => s_X0_reset C σ x1 x2 x3 x4)
/-! SplitWatch.isWithin(III)Z -/
def L_X6_isWithin : sw_Is := [(0, .iload_n 0, 1, 1), (1, .iload_n 1, 1, 2), (2, .if_icmp .lt 12, 3, 5), (5, .iload_n 0, 1, 6), (6, .iload_n 2, 1, 7), (7, .if_icmp .gt 7, 3, 10), (10, .iconst 1, 1, 11), (11, .goto 4, 3, 14), (14, .iconst 0, 1, 15), (15, .ireturn, 1, 16)]
theorem dk_X6_isWithin : sw_dc cX6_isWithin L_X6_isWithin = true := by decide +kernel
def f_X6_isWithin (σ : sw_St) (x0 : Int32) (x1 : Int32) (x2 : Int32) : Option Int32 := if x0 < x1 then (some 0) else (if x2 < x0 then (some 0) else (some 1))
set_option maxHeartbeats 1000000 in
set_option maxRecDepth 100000 in
theorem s_X6_isWithin {V : sw_V} (C : sw_Cx sw_ZX V cX6_isWithin RX6 3 (some .boolean) L_X6_isWithin 0) (σ : sw_St) (x0 : Int32) (x1 : Int32) (x2 : Int32) : sw_S sw_ZX V (sw_eP σ) [some (.int x0), some (.int x1), some (.int x2)] [] 0 σ (f_X6_isWithin σ x0 x1 x2) := by
  unfold f_X6_isWithin
  refine g_iload_n C 0 rfl rfl ?_
  refine g_iload_n C 1 rfl rfl ?_
  refine g_icmp_lt C 2 rfl 14 (by decide) ?_ ?_
  · refine g_iconst C 8 rfl 0 (by decide) ?_
    skip
    exact g_zret C 9 rfl rfl rfl
  · refine g_iload_n C 3 rfl rfl ?_
    refine g_iload_n C 4 rfl rfl ?_
    refine g_icmp_gt C 5 rfl 14 (by decide) ?_ ?_
    · refine g_iconst C 8 rfl 0 (by decide) ?_
      skip
      exact g_zret C 9 rfl rfl rfl
    · refine g_iconst C 6 rfl 1 (by decide) ?_
      refine g_goto C 7 rfl 15 (by decide) ?_
      skip
      exact g_zret C 9 rfl rfl rfl
set_option maxHeartbeats 1000000 in
set_option maxRecDepth 100000 in
theorem m_X6_isWithin (l : Launch) (dC : Nat → ClassId) (dI : Nat → Nat → Nat) (dA : Nat → ClassId) (ad : Nat → Nat) (hI : sw_inj sw_ZX ad) (σ : sw_St) (x0 : Int32) (x1 : Int32) (x2 : Int32) (b : Int32) (hb : f_X6_isWithin σ x0 x1 x2 = some b) : sw_M sw_ZX l yX6_isWithin cX6_isWithin 3 (some .boolean) 0 dC dI dA ad [(.int x0), (.int x1), (.int x2)] σ ((sw_eP σ) b) :=
  sw_mk1 (ψ := (sw_eP σ)) 0 (by decide) sw_ZXok hI dk_X6_isWithin rfl (sw_c1_all _ ⟨rfl, rfl, rfl, trivial⟩) hb (fun p e R M C => s_X6_isWithin C σ x0 x1 x2)
/-! SplitWatch$Bus.hasCore(I)Z -/
def L_X0_hasCore : sw_Is := [(0, .iload_n 1, 1, 1), (1, .iconst 0, 1, 2), (2, .aload_n 0, 1, 3), (3, .getfield 44, 3, 6), (6, .iconst 1, 1, 7), (7, .isub, 1, 8), (8, .invokestatic 79, 3, 11), (11, .ireturn, 1, 12)]
theorem dk_X0_hasCore : sw_dc cX0_hasCore L_X0_hasCore = true := by decide +kernel
def f_X0_hasCore (σ : sw_St) (x1 : Int32) : Option Int32 := (f_X6_isWithin σ x1 0 ((σ 2 4) - 1)).bind fun r1 => (sw_ck (sw_fz .boolean r1) (some r1))
set_option maxHeartbeats 1000000 in
set_option maxRecDepth 100000 in
theorem s_X0_hasCore {V : sw_V} (C : sw_Cx sw_ZX V cX0_hasCore RX0 2 (some .boolean) L_X0_hasCore 1) (σ : sw_St) (x1 : Int32) : sw_S sw_ZX V (sw_eP σ) [some (sw_r V 2), some (.int x1)] [] 0 σ (f_X0_hasCore σ x1) := by
  unfold f_X0_hasCore
  refine g_iload_n C 0 rfl rfl ?_
  refine g_iconst C 1 rfl 0 (by decide) ?_
  refine g_aload_n C 2 rfl rfl ?_
  refine g_getI C 3 rfl fl_X0_44 rfl rfl ?_
  refine g_iconst C 4 rfl 1 (by decide) ?_
  refine g_isub C 5 rfl ?_
  refine g_callS (ψ₁ := sw_eP σ) C 6 rfl [(.int x1), (.int 0), (.int ((σ 2 4) - 1))] [] ml_X0_79 rfl (Nat.le_of_ble_eq_true rfl) (by decide) (fun b hb => m_X6_isWithin V.1.2.1 _ _ _ _ C.inj σ x1 0 ((σ 2 4) - 1) b hb) rfl (g_cP fun r1 => ?_)
  refine g_ck fun h2 => ?_
  skip
  exact g_zret C 7 rfl (sw_fz_n h2 ⟨_, rfl⟩) rfl
set_option maxHeartbeats 1000000 in
set_option maxRecDepth 100000 in
theorem m_X0_hasCore (l : Launch) (dC : Nat → ClassId) (dI : Nat → Nat → Nat) (dA : Nat → ClassId) (ad : Nat → Nat) (hI : sw_inj sw_ZX ad) (σ : sw_St) (x1 : Int32) (b : Int32) (hb : f_X0_hasCore σ x1 = some b) : sw_M sw_ZX l yX0_hasCore cX0_hasCore 2 (some .boolean) 1 dC dI dA ad [(sw_rv ad 2), (.int x1)] σ ((sw_eP σ) b) :=
  sw_mk1 (ψ := (sw_eP σ)) 0 (by decide) sw_ZXok hI dk_X0_hasCore rfl (sw_c1_all _ ⟨sw_rv_cat _ _, rfl, trivial⟩) hb (fun p e R M C => s_X0_hasCore C σ x1)
/-! SplitWatch$Cache.held()I -/
def L_X1_held : sw_Is := [(0, .iconst 0, 1, 1), (1, .istore_n 1, 1, 2), (2, .iconst 0, 1, 3), (3, .istore_n 2, 1, 4), (4, .iload_n 2, 1, 5), (5, .bipush 8, 2, 7), (7, .if_icmp .ge 21, 3, 10), (10, .aload_n 0, 1, 11), (11, .getfield 9, 3, 14), (14, .iload_n 2, 1, 15), (15, .iaload, 1, 16), (16, .ifCond .eq 6, 3, 19), (19, .iinc 1 1, 3, 22), (22, .iinc 2 1, 3, 25), (25, .goto (-21), 3, 28), (28, .iload_n 1, 1, 29), (29, .ireturn, 1, 30)]
theorem dk_X1_held : sw_dc cX1_held L_X1_held = true := by decide +kernel
def f_X1_held_4 (σ : sw_St)  : Nat → Nat → Int32 → Int32 → Option Int32
  | 0 => fun _ _ _ => none
  | n + 1 => fun x0 x1 x2 => if 8 ≤ x2 then (some x1) else (sw_ck (sw_isK x0) (sw_ck (sw_in x2 8) (if (σ (x0 + 1) (sw_ix x2)) = 0 then ((f_X1_held_4 σ n) x0 x1 (x2 + 1)) else ((f_X1_held_4 σ n) x0 (x1 + 1) (x2 + 1)))))
def f_X1_held (σ : sw_St) (x0 : Nat) : Option Int32 := f_X1_held_4 σ sw_fuel x0 0 0
set_option maxHeartbeats 1000000 in
set_option maxRecDepth 100000 in
theorem s_X1_held_4 {V : sw_V} (C : sw_Cx sw_ZX V cX1_held RX1 3 (some .int) L_X1_held 0) (σ : sw_St) : ∀ (n : Nat) (x0 : Nat) (x1 : Int32) (x2 : Int32), sw_S sw_ZX V (sw_eP σ) [some (sw_r V x0), some (.int x1), some (.int x2)] [] 4 σ (f_X1_held_4 σ n x0 x1 x2) := by
  intro n
  induction n with
  | zero =>
    intro x0 x1 x2
    exact g_none
  | succ n ih =>
    intro x0 x1 x2
    rw [f_X1_held_4]
    refine g_iload_n C 4 rfl rfl ?_
    refine g_bipush C 5 rfl 8 (by decide) ?_
    refine g_icmp_ge C 6 rfl 28 (by decide) ?_ ?_
    · refine g_iload_n C 15 rfl rfl ?_
      skip
      exact g_iret C 16 rfl rfl
    · refine g_aload_n C 7 rfl rfl ?_
      refine g_ck fun h1 => ?_
      refine g_getR C 8 rfl fl_X1_9 (sh_K h1) rfl ?_
      refine g_iload_n C 9 rfl rfl ?_
      refine g_ck fun h2 => ?_
      refine g_iald C 10 rfl (sh_K0 h1) h2 ?_
      refine g_if_eq C 11 rfl 22 (by decide) ?_ ?_
      · refine g_iinc C 13 rfl 1 (by decide) rfl (Nat.le_of_ble_eq_true rfl) (Or.inr (Or.inr (Or.inl ⟨_, rfl⟩))) ?_
        refine g_goto C 14 rfl 4 (by decide) ?_
        exact g_wk (ih x0 x1 (x2 + 1)) ⟨rfl, rfl, rfl, trivial⟩
      · refine g_iinc C 12 rfl 1 (by decide) rfl (Nat.le_of_ble_eq_true rfl) (Or.inr (Or.inr (Or.inr ⟨_, rfl⟩))) ?_
        refine g_iinc C 13 rfl 1 (by decide) rfl (Nat.le_of_ble_eq_true rfl) (Or.inr (Or.inr (Or.inl ⟨_, rfl⟩))) ?_
        refine g_goto C 14 rfl 4 (by decide) ?_
        exact g_wk (ih x0 (x1 + 1) (x2 + 1)) ⟨rfl, rfl, rfl, trivial⟩
set_option maxHeartbeats 1000000 in
set_option maxRecDepth 100000 in
theorem s_X1_held {V : sw_V} (C : sw_Cx sw_ZX V cX1_held RX1 3 (some .int) L_X1_held 0) (σ : sw_St) (x0 : Nat) : sw_S sw_ZX V (sw_eP σ) [some (sw_r V x0), none, none] [] 0 σ (f_X1_held σ x0) := by
  unfold f_X1_held
  refine g_iconst C 0 rfl 0 (by decide) ?_
  refine g_istore_n C 1 rfl (Nat.le_of_ble_eq_true rfl) (Or.inr (Or.inr (Or.inr ⟨_, rfl⟩))) ?_
  refine g_iconst C 2 rfl 0 (by decide) ?_
  refine g_istore_n C 3 rfl (Nat.le_of_ble_eq_true rfl) (Or.inr (Or.inr (Or.inl ⟨_, rfl⟩))) ?_
  exact g_wk (s_X1_held_4 C σ sw_fuel x0 0 0) ⟨rfl, rfl, rfl, trivial⟩
set_option maxHeartbeats 1000000 in
set_option maxRecDepth 100000 in
theorem m_X1_held (l : Launch) (dC : Nat → ClassId) (dI : Nat → Nat → Nat) (dA : Nat → ClassId) (ad : Nat → Nat) (hI : sw_inj sw_ZX ad) (σ : sw_St) (x0 : Nat) (b : Int32) (hb : f_X1_held σ x0 = some b) : sw_M sw_ZX l yX1_held cX1_held 3 (some .int) 0 dC dI dA ad [(sw_rv ad x0)] σ ((sw_eP σ) b) :=
  sw_mk1 (ψ := (sw_eP σ)) 2 (by decide) sw_ZXok hI dk_X1_held rfl (sw_c1_all _ ⟨sw_rv_cat _ _, trivial⟩) hb (fun p e R M C => s_X1_held C σ x0)
/-! SplitWatch$Cache.oldest()I -/
def L_X1_oldest : sw_Is := [(0, .iconst (-1), 1, 1), (1, .istore_n 1, 1, 2), (2, .iconst 0, 1, 3), (3, .istore_n 2, 1, 4), (4, .iload_n 2, 1, 5), (5, .bipush 8, 2, 7), (7, .if_icmp .ge 40, 3, 10), (10, .aload_n 0, 1, 11), (11, .getfield 9, 3, 14), (14, .iload_n 2, 1, 15), (15, .iaload, 1, 16), (16, .ifCond .eq 25, 3, 19), (19, .iload_n 1, 1, 20), (20, .iconst (-1), 1, 21), (21, .if_icmp .eq 18, 3, 24), (24, .aload_n 0, 1, 25), (25, .getfield 18, 3, 28), (28, .iload_n 2, 1, 29), (29, .iaload, 1, 30), (30, .aload_n 0, 1, 31), (31, .getfield 18, 3, 34), (34, .iload_n 1, 1, 35), (35, .iaload, 1, 36), (36, .if_icmp .ge 5, 3, 39), (39, .iload_n 2, 1, 40), (40, .istore_n 1, 1, 41), (41, .iinc 2 1, 3, 44), (44, .goto (-40), 3, 47), (47, .iload_n 1, 1, 48), (48, .ireturn, 1, 49)]
theorem dk_X1_oldest : sw_dc cX1_oldest L_X1_oldest = true := by decide +kernel
def f_X1_oldest_39 (σ : sw_St) (k4 : Nat → Int32 → Int32 → Option Int32) (x0 : Nat) (x2 : Int32) : Option Int32 := k4 x0 x2 (x2 + 1)
def f_X1_oldest_4 (σ : sw_St)  : Nat → Nat → Int32 → Int32 → Option Int32
  | 0 => fun _ _ _ => none
  | n + 1 => fun x0 x1 x2 => if 8 ≤ x2 then (some x1) else (sw_ck (sw_isK x0) (sw_ck (sw_in x2 8) (if (σ (x0 + 1) (sw_ix x2)) = 0 then ((f_X1_oldest_4 σ n) x0 x1 (x2 + 1)) else (if x1 = (-1) then (f_X1_oldest_39 σ (f_X1_oldest_4 σ n) x0 x2) else (sw_ck (sw_in x1 8) (if (σ (x0 + 3) (sw_ix x1)) ≤ (σ (x0 + 3) (sw_ix x2)) then ((f_X1_oldest_4 σ n) x0 x1 (x2 + 1)) else (f_X1_oldest_39 σ (f_X1_oldest_4 σ n) x0 x2)))))))
def f_X1_oldest (σ : sw_St) (x0 : Nat) : Option Int32 := f_X1_oldest_4 σ sw_fuel x0 (-1) 0
set_option maxHeartbeats 1000000 in
set_option maxRecDepth 100000 in
theorem s_X1_oldest_39 {V : sw_V} (C : sw_Cx sw_ZX V cX1_oldest RX1 3 (some .int) L_X1_oldest 0) (σ : sw_St) (k4 : Nat → Int32 → Int32 → Option Int32) (hk4 : ∀ (x0 : Nat) (x1 : Int32) (x2 : Int32), sw_S sw_ZX V (sw_eP σ) [some (sw_r V x0), some (.int x1), some (.int x2)] [] 4 σ (k4 x0 x1 x2)) (x0 : Nat) (x2 : Int32) : sw_S sw_ZX V (sw_eP σ) [some (sw_r V x0), none, some (.int x2)] [] 39 σ (f_X1_oldest_39 σ k4 x0 x2) := by
  unfold f_X1_oldest_39
  refine g_iload_n C 24 rfl rfl ?_
  refine g_istore_n C 25 rfl (Nat.le_of_ble_eq_true rfl) (Or.inr (Or.inr (Or.inr ⟨_, rfl⟩))) ?_
  refine g_iinc C 26 rfl 1 (by decide) rfl (Nat.le_of_ble_eq_true rfl) (Or.inr (Or.inr (Or.inl ⟨_, rfl⟩))) ?_
  refine g_goto C 27 rfl 4 (by decide) ?_
  exact g_wk (hk4 x0 x2 (x2 + 1)) ⟨rfl, rfl, rfl, trivial⟩
set_option maxHeartbeats 1000000 in
set_option maxRecDepth 100000 in
theorem s_X1_oldest_4 {V : sw_V} (C : sw_Cx sw_ZX V cX1_oldest RX1 3 (some .int) L_X1_oldest 0) (σ : sw_St) : ∀ (n : Nat) (x0 : Nat) (x1 : Int32) (x2 : Int32), sw_S sw_ZX V (sw_eP σ) [some (sw_r V x0), some (.int x1), some (.int x2)] [] 4 σ (f_X1_oldest_4 σ n x0 x1 x2) := by
  intro n
  induction n with
  | zero =>
    intro x0 x1 x2
    exact g_none
  | succ n ih =>
    intro x0 x1 x2
    rw [f_X1_oldest_4]
    refine g_iload_n C 4 rfl rfl ?_
    refine g_bipush C 5 rfl 8 (by decide) ?_
    refine g_icmp_ge C 6 rfl 47 (by decide) ?_ ?_
    · refine g_iload_n C 28 rfl rfl ?_
      skip
      exact g_iret C 29 rfl rfl
    · refine g_aload_n C 7 rfl rfl ?_
      refine g_ck fun h1 => ?_
      refine g_getR C 8 rfl fl_X1_9 (sh_K h1) rfl ?_
      refine g_iload_n C 9 rfl rfl ?_
      refine g_ck fun h2 => ?_
      refine g_iald C 10 rfl (sh_K0 h1) h2 ?_
      refine g_if_eq C 11 rfl 41 (by decide) ?_ ?_
      · refine g_iinc C 26 rfl 1 (by decide) rfl (Nat.le_of_ble_eq_true rfl) (Or.inr (Or.inr (Or.inl ⟨_, rfl⟩))) ?_
        refine g_goto C 27 rfl 4 (by decide) ?_
        exact g_wk (ih x0 x1 (x2 + 1)) ⟨rfl, rfl, rfl, trivial⟩
      · refine g_iload_n C 12 rfl rfl ?_
        refine g_iconst C 13 rfl (-1) (by decide) ?_
        refine g_icmp_eq C 14 rfl 39 (by decide) ?_ ?_
        · exact g_wk (s_X1_oldest_39 C σ (f_X1_oldest_4 σ n) ih x0 x2) ⟨rfl, rfl, trivial⟩
        · refine g_aload_n C 15 rfl rfl ?_
          refine g_getR C 16 rfl fl_X1_18 (sh_K h1) rfl ?_
          refine g_iload_n C 17 rfl rfl ?_
          refine g_iald C 18 rfl (sh_K2 h1) h2 ?_
          refine g_aload_n C 19 rfl rfl ?_
          refine g_getR C 20 rfl fl_X1_18 (sh_K h1) rfl ?_
          refine g_iload_n C 21 rfl rfl ?_
          refine g_ck fun h3 => ?_
          refine g_iald C 22 rfl (sh_K2 h1) h3 ?_
          refine g_icmp_ge C 23 rfl 41 (by decide) ?_ ?_
          · refine g_iinc C 26 rfl 1 (by decide) rfl (Nat.le_of_ble_eq_true rfl) (Or.inr (Or.inr (Or.inl ⟨_, rfl⟩))) ?_
            refine g_goto C 27 rfl 4 (by decide) ?_
            exact g_wk (ih x0 x1 (x2 + 1)) ⟨rfl, rfl, rfl, trivial⟩
          · exact g_wk (s_X1_oldest_39 C σ (f_X1_oldest_4 σ n) ih x0 x2) ⟨rfl, rfl, trivial⟩
set_option maxHeartbeats 1000000 in
set_option maxRecDepth 100000 in
theorem s_X1_oldest {V : sw_V} (C : sw_Cx sw_ZX V cX1_oldest RX1 3 (some .int) L_X1_oldest 0) (σ : sw_St) (x0 : Nat) : sw_S sw_ZX V (sw_eP σ) [some (sw_r V x0), none, none] [] 0 σ (f_X1_oldest σ x0) := by
  unfold f_X1_oldest
  refine g_iconst C 0 rfl (-1) (by decide) ?_
  refine g_istore_n C 1 rfl (Nat.le_of_ble_eq_true rfl) (Or.inr (Or.inr (Or.inr ⟨_, rfl⟩))) ?_
  refine g_iconst C 2 rfl 0 (by decide) ?_
  refine g_istore_n C 3 rfl (Nat.le_of_ble_eq_true rfl) (Or.inr (Or.inr (Or.inl ⟨_, rfl⟩))) ?_
  exact g_wk (s_X1_oldest_4 C σ sw_fuel x0 (-1) 0) ⟨rfl, rfl, rfl, trivial⟩
set_option maxHeartbeats 1000000 in
set_option maxRecDepth 100000 in
theorem m_X1_oldest (l : Launch) (dC : Nat → ClassId) (dI : Nat → Nat → Nat) (dA : Nat → ClassId) (ad : Nat → Nat) (hI : sw_inj sw_ZX ad) (σ : sw_St) (x0 : Nat) (b : Int32) (hb : f_X1_oldest σ x0 = some b) : sw_M sw_ZX l yX1_oldest cX1_oldest 3 (some .int) 0 dC dI dA ad [(sw_rv ad x0)] σ ((sw_eP σ) b) :=
  sw_mk1 (ψ := (sw_eP σ)) 2 (by decide) sw_ZXok hI dk_X1_oldest rfl (sw_c1_all _ ⟨sw_rv_cat _ _, trivial⟩) hb (fun p e R M C => s_X1_oldest C σ x0)
/-! SplitWatch$Core.freeBack()LSplitWatch$Request; -/
def L_X2_freeBack : sw_Is := [(0, .iconst 0, 1, 1), (1, .istore_n 1, 1, 2), (2, .iload_n 1, 1, 3), (3, .iconst 2, 1, 4), (4, .if_icmp .ge 28, 3, 7), (7, .aload_n 0, 1, 8), (8, .getfield 20, 3, 11), (11, .iload_n 1, 1, 12), (12, .aaload, 1, 13), (13, .getfield 34, 3, 16), (16, .ifCond .ne 10, 3, 19), (19, .aload_n 0, 1, 20), (20, .getfield 20, 3, 23), (23, .iload_n 1, 1, 24), (24, .aaload, 1, 25), (25, .areturn, 1, 26), (26, .iinc 1 1, 3, 29), (29, .goto (-27), 3, 32), (32, .aconst_null, 1, 33), (33, .areturn, 1, 34)]
theorem dk_X2_freeBack : sw_dc cX2_freeBack L_X2_freeBack = true := by decide +kernel
def f_X2_freeBack_2 (σ : sw_St)  : Nat → Nat → Int32 → Option Nat
  | 0 => fun _ _ => none
  | n + 1 => fun x0 x1 => if 2 ≤ x1 then (some 0) else (sw_ck (sw_isC x0) (sw_ck (sw_in x1 2) (if (σ (x0 + 7 + sw_ix x1) 1) = 0 then (some (x0 + 7 + sw_ix x1)) else ((f_X2_freeBack_2 σ n) x0 (x1 + 1)))))
def f_X2_freeBack (σ : sw_St) (x0 : Nat) : Option Nat := f_X2_freeBack_2 σ sw_fuel x0 0
set_option maxHeartbeats 1000000 in
set_option maxRecDepth 100000 in
theorem s_X2_freeBack_2 {V : sw_V} (C : sw_Cx sw_ZX V cX2_freeBack RX2 2 (some (.object "SplitWatch$Request")) L_X2_freeBack 0) (σ : sw_St) : ∀ (n : Nat) (x0 : Nat) (x1 : Int32), sw_S sw_ZX V (sw_eR V.2.2.2.2.2 σ) [some (sw_r V x0), some (.int x1)] [] 2 σ (f_X2_freeBack_2 σ n x0 x1) := by
  intro n
  induction n with
  | zero =>
    intro x0 x1
    exact g_none
  | succ n ih =>
    intro x0 x1
    rw [f_X2_freeBack_2]
    refine g_iload_n C 2 rfl rfl ?_
    refine g_iconst C 3 rfl 2 (by decide) ?_
    refine g_icmp_ge C 4 rfl 32 (by decide) ?_ ?_
    · refine g_null C 18 rfl ?_
      exact g_aret C 19 rfl rfl
    · refine g_aload_n C 5 rfl rfl ?_
      refine g_ck fun h1 => ?_
      refine g_getR C 6 rfl fl_X2_20 (sh_C h1) rfl ?_
      refine g_iload_n C 7 rfl rfl ?_
      refine g_ck fun h2 => ?_
      refine g_aald C 8 rfl (sh_CB h1) rfl h2 (tg_backs h2) ?_
      refine g_getI C 9 rfl fl_X2_34 (sh_Q (kd_backs h1 h2)) rfl ?_
      refine g_if_ne C 10 rfl 26 (by decide) ?_ ?_
      · refine g_iinc C 16 rfl 1 (by decide) rfl (Nat.le_of_ble_eq_true rfl) (Or.inr (Or.inr (Or.inr ⟨_, rfl⟩))) ?_
        refine g_goto C 17 rfl 2 (by decide) ?_
        exact g_wk (ih x0 (x1 + 1)) ⟨rfl, rfl, trivial⟩
      · refine g_aload_n C 11 rfl rfl ?_
        refine g_getR C 12 rfl fl_X2_20 (sh_C h1) rfl ?_
        refine g_iload_n C 13 rfl rfl ?_
        refine g_aald C 14 rfl (sh_CB h1) rfl h2 (tg_backs h2) ?_
        exact g_aret C 15 rfl rfl
set_option maxHeartbeats 1000000 in
set_option maxRecDepth 100000 in
theorem s_X2_freeBack {V : sw_V} (C : sw_Cx sw_ZX V cX2_freeBack RX2 2 (some (.object "SplitWatch$Request")) L_X2_freeBack 0) (σ : sw_St) (x0 : Nat) : sw_S sw_ZX V (sw_eR V.2.2.2.2.2 σ) [some (sw_r V x0), none] [] 0 σ (f_X2_freeBack σ x0) := by
  unfold f_X2_freeBack
  refine g_iconst C 0 rfl 0 (by decide) ?_
  refine g_istore_n C 1 rfl (Nat.le_of_ble_eq_true rfl) (Or.inr (Or.inr (Or.inr ⟨_, rfl⟩))) ?_
  exact g_wk (s_X2_freeBack_2 C σ sw_fuel x0 0) ⟨rfl, rfl, trivial⟩
set_option maxHeartbeats 1000000 in
set_option maxRecDepth 100000 in
theorem m_X2_freeBack (l : Launch) (dC : Nat → ClassId) (dI : Nat → Nat → Nat) (dA : Nat → ClassId) (ad : Nat → Nat) (hI : sw_inj sw_ZX ad) (σ : sw_St) (x0 : Nat) (b : Nat) (hb : f_X2_freeBack σ x0 = some b) : sw_M sw_ZX l yX2_freeBack cX2_freeBack 2 (some (.object "SplitWatch$Request")) 0 dC dI dA ad [(sw_rv ad x0)] σ ((sw_eR ad σ) b) :=
  sw_mk1 (ψ := (sw_eR ad σ)) 1 (by decide) sw_ZXok hI dk_X2_freeBack rfl (sw_c1_all _ ⟨sw_rv_cat _ _, trivial⟩) hb (fun p e R M C => s_X2_freeBack C σ x0)
/-! SplitWatch$Bus.canFill(LSplitWatch$Core;)Z -/
def L_X0_canFill : sw_Is := [(0, .aload_n 1, 1, 1), (1, .getfield 105, 3, 4), (4, .invokevirtual 173, 3, 7), (7, .aload_n 0, 1, 8), (8, .getfield 48, 3, 11), (11, .if_icmp .ge 5, 3, 14), (14, .iconst 1, 1, 15), (15, .ireturn, 1, 16), (16, .aload_n 1, 1, 17), (17, .getfield 105, 3, 20), (20, .invokevirtual 177, 3, 23), (23, .istore_n 2, 1, 24), (24, .iload_n 2, 1, 25), (25, .iconst (-1), 1, 26), (26, .if_icmp .eq 23, 3, 29), (29, .aload_n 1, 1, 30), (30, .getfield 105, 3, 33), (33, .getfield 109, 3, 36), (36, .iload_n 2, 1, 37), (37, .iaload, 1, 38), (38, .iconst 3, 1, 39), (39, .if_icmp .ne 10, 3, 42), (42, .aload_n 1, 1, 43), (43, .invokevirtual 135, 3, 46), (46, .ifnull 7, 3, 49), (49, .iconst 1, 1, 50), (50, .goto 4, 3, 53), (53, .iconst 0, 1, 54), (54, .ireturn, 1, 55)]
theorem dk_X0_canFill : sw_dc cX0_canFill L_X0_canFill = true := by decide +kernel
def f_X0_canFill (σ : sw_St) (x1 : Nat) : Option Int32 := sw_ck (sw_isC x1) ((f_X1_held σ (x1 + 1)).bind fun r2 => (if (σ 2 5) ≤ r2 then ((f_X1_oldest σ (x1 + 1)).bind fun r3 => (if r3 = (-1) then (some 1) else (sw_ck (sw_in r3 8) (if (σ ((x1 + 1) + 1) (sw_ix r3)) = 3 then ((f_X2_freeBack σ x1).bind fun r5 => (if r5 = 0 then (some 0) else (some 1))) else (some 1))))) else (some 1)))
set_option maxHeartbeats 1000000 in
set_option maxRecDepth 100000 in
theorem s_X0_canFill {V : sw_V} (C : sw_Cx sw_ZX V cX0_canFill RX0 3 (some .boolean) L_X0_canFill 1) (σ : sw_St) (x1 : Nat) : sw_S sw_ZX V (sw_eP σ) [some (sw_r V 2), some (sw_r V x1), none] [] 0 σ (f_X0_canFill σ x1) := by
  unfold f_X0_canFill
  refine g_aload_n C 0 rfl rfl ?_
  refine g_ck fun h1 => ?_
  refine g_getR C 1 rfl fl_X0_105 (sh_C h1) rfl ?_
  refine g_callV (ψ₁ := sw_eP σ) C 2 rfl [] [] ml_X0_173 rfl (Nat.le_of_ble_eq_true rfl) (by decide) (sh_K (kd_CK h1)) rfl (fun b hb => m_X1_held V.1.2.1 _ _ _ _ C.inj σ (x1 + 1) b hb) rfl (g_cP fun r2 => ?_)
  refine g_aload_n C 3 rfl rfl ?_
  refine g_getI C 4 rfl fl_X0_48 rfl rfl ?_
  refine g_icmp_ge C 5 rfl 16 (by decide) ?_ ?_
  · refine g_aload_n C 8 rfl rfl ?_
    refine g_getR C 9 rfl fl_X0_105 (sh_C h1) rfl ?_
    refine g_callV (ψ₁ := sw_eP σ) C 10 rfl [] [] ml_X0_177 rfl (Nat.le_of_ble_eq_true rfl) (by decide) (sh_K (kd_CK h1)) rfl (fun b hb => m_X1_oldest V.1.2.1 _ _ _ _ C.inj σ (x1 + 1) b hb) rfl (g_cP fun r3 => ?_)
    refine g_istore_n C 11 rfl (Nat.le_of_ble_eq_true rfl) (Or.inr (Or.inr (Or.inr ⟨_, rfl⟩))) ?_
    refine g_iload_n C 12 rfl rfl ?_
    refine g_iconst C 13 rfl (-1) (by decide) ?_
    refine g_icmp_eq C 14 rfl 49 (by decide) ?_ ?_
    · refine g_iconst C 25 rfl 1 (by decide) ?_
      refine g_goto C 26 rfl 54 (by decide) ?_
      skip
      exact g_zret C 28 rfl rfl rfl
    · refine g_aload_n C 15 rfl rfl ?_
      refine g_getR C 16 rfl fl_X0_105 (sh_C h1) rfl ?_
      refine g_getR C 17 rfl fl_X0_109 (sh_K (kd_CK h1)) rfl ?_
      refine g_iload_n C 18 rfl rfl ?_
      refine g_ck fun h4 => ?_
      refine g_iald C 19 rfl (sh_K0 (kd_CK h1)) h4 ?_
      refine g_iconst C 20 rfl 3 (by decide) ?_
      refine g_icmp_ne C 21 rfl 49 (by decide) ?_ ?_
      · refine g_iconst C 25 rfl 1 (by decide) ?_
        refine g_goto C 26 rfl 54 (by decide) ?_
        skip
        exact g_zret C 28 rfl rfl rfl
      · refine g_aload_n C 22 rfl rfl ?_
        refine g_callV (ψ₁ := sw_eR V.2.2.2.2.2 σ) C 23 rfl [] [] ml_X0_135 rfl (Nat.le_of_ble_eq_true rfl) (by decide) (sh_C h1) rfl (fun b hb => m_X2_freeBack V.1.2.1 _ _ _ _ C.inj σ x1 b hb) rfl (g_cR fun r5 => ?_)
        refine g_ifnull C 24 rfl 53 (by decide) ?_ ?_
        · refine g_iconst C 27 rfl 0 (by decide) ?_
          skip
          exact g_zret C 28 rfl rfl rfl
        · refine g_iconst C 25 rfl 1 (by decide) ?_
          refine g_goto C 26 rfl 54 (by decide) ?_
          skip
          exact g_zret C 28 rfl rfl rfl
  · refine g_iconst C 6 rfl 1 (by decide) ?_
    skip
    exact g_zret C 7 rfl rfl rfl
set_option maxHeartbeats 1000000 in
set_option maxRecDepth 100000 in
theorem m_X0_canFill (l : Launch) (dC : Nat → ClassId) (dI : Nat → Nat → Nat) (dA : Nat → ClassId) (ad : Nat → Nat) (hI : sw_inj sw_ZX ad) (σ : sw_St) (x1 : Nat) (b : Int32) (hb : f_X0_canFill σ x1 = some b) : sw_M sw_ZX l yX0_canFill cX0_canFill 3 (some .boolean) 1 dC dI dA ad [(sw_rv ad 2), (sw_rv ad x1)] σ ((sw_eP σ) b) :=
  sw_mk1 (ψ := (sw_eP σ)) 1 (by decide) sw_ZXok hI dk_X0_canFill rfl (sw_c1_all _ ⟨sw_rv_cat _ _, sw_rv_cat _ _, trivial⟩) hb (fun p e R M C => s_X0_canFill C σ x1)
/-! SplitWatch$Bus.ask(LSplitWatch$Request;III)V -/
def L_X0_ask : sw_Is := [(0, .aload_n 1, 1, 1), (1, .iconst 1, 1, 2), (2, .putfield 98, 3, 5), (5, .aload_n 1, 1, 6), (6, .iload_n 2, 1, 7), (7, .putfield 148, 3, 10), (10, .aload_n 1, 1, 11), (11, .iload_n 3, 1, 12), (12, .putfield 151, 3, 15), (15, .aload_n 1, 1, 16), (16, .iload 4, 2, 18), (18, .putfield 154, 3, 21), (21, .aload_n 1, 1, 22), (22, .aload_n 0, 1, 23), (23, .getfield 57, 3, 26), (26, .putfield 156, 3, 29), (29, .aload_n 1, 1, 30), (30, .aload_n 0, 1, 31), (31, .getfield 60, 3, 34), (34, .putfield 159, 3, 37), (37, .aload_n 1, 1, 38), (38, .iconst 0, 1, 39), (39, .putfield 162, 3, 42), (42, .aload_n 0, 1, 43), (43, .dup, 1, 44), (44, .getfield 60, 3, 47), (47, .iconst 1, 1, 48), (48, .iadd, 1, 49), (49, .putfield 60, 3, 52), (52, .return_, 1, 53)]
theorem dk_X0_ask : sw_dc cX0_ask L_X0_ask = true := by decide +kernel
def f_X0_ask (σ : sw_St) (x1 : Nat) (x2 : Int32) (x3 : Int32) (x4 : Int32) : Option sw_St := sw_ck (sw_isQ x1) (sw_pt σ x1 1 1 fun s2 => (sw_pt s2 x1 2 x2 fun s3 => (sw_pt s3 x1 3 x3 fun s4 => (sw_pt s4 x1 4 x4 fun s5 => (sw_pt s5 x1 5 (s5 2 8) fun s6 => (sw_pt s6 x1 6 (s6 2 9) fun s7 => (sw_pt s7 x1 7 0 fun s8 => (sw_pt s8 2 9 ((s8 2 9) + 1) fun s9 => (some s9)))))))))
set_option maxHeartbeats 1000000 in
set_option maxRecDepth 100000 in
theorem s_X0_ask {V : sw_V} (C : sw_Cx sw_ZX V cX0_ask RX0 5 none L_X0_ask 0) (σ : sw_St) (x1 : Nat) (x2 : Int32) (x3 : Int32) (x4 : Int32) : sw_S sw_ZX V sw_eV [some (sw_r V 2), some (sw_r V x1), some (.int x2), some (.int x3), some (.int x4)] [] 0 σ (f_X0_ask σ x1 x2 x3 x4) := by
  unfold f_X0_ask
  refine g_aload_n C 0 rfl rfl ?_
  refine g_iconst C 1 rfl 1 (by decide) ?_
  refine g_ck fun h1 => ?_
  refine g_put C 2 rfl fp_X0_98 (sh_Q h1) rfl (fun s2 => ?_)
  refine g_aload_n C 3 rfl rfl ?_
  refine g_iload_n C 4 rfl rfl ?_
  refine g_put C 5 rfl fp_X0_148 (sh_Q h1) rfl (fun s3 => ?_)
  refine g_aload_n C 6 rfl rfl ?_
  refine g_iload_n C 7 rfl rfl ?_
  refine g_put C 8 rfl fp_X0_151 (sh_Q h1) rfl (fun s4 => ?_)
  refine g_aload_n C 9 rfl rfl ?_
  refine g_iload C 10 rfl rfl ?_
  refine g_put C 11 rfl fp_X0_154 (sh_Q h1) rfl (fun s5 => ?_)
  refine g_aload_n C 12 rfl rfl ?_
  refine g_aload_n C 13 rfl rfl ?_
  refine g_getI C 14 rfl fl_X0_57 rfl rfl ?_
  refine g_put C 15 rfl fp_X0_156 (sh_Q h1) rfl (fun s6 => ?_)
  refine g_aload_n C 16 rfl rfl ?_
  refine g_aload_n C 17 rfl rfl ?_
  refine g_getI C 18 rfl fl_X0_60 rfl rfl ?_
  refine g_put C 19 rfl fp_X0_159 (sh_Q h1) rfl (fun s7 => ?_)
  refine g_aload_n C 20 rfl rfl ?_
  refine g_iconst C 21 rfl 0 (by decide) ?_
  refine g_put C 22 rfl fp_X0_162 (sh_Q h1) rfl (fun s8 => ?_)
  refine g_aload_n C 23 rfl rfl ?_
  refine g_dupR C 24 rfl ?_
  refine g_getI C 25 rfl fl_X0_60 rfl rfl ?_
  refine g_iconst C 26 rfl 1 (by decide) ?_
  refine g_iadd C 27 rfl ?_
  refine g_put C 28 rfl fp_X0_60 rfl rfl (fun s9 => ?_)
  exact g_vret C 29 rfl rfl
set_option maxHeartbeats 1000000 in
set_option maxRecDepth 100000 in
theorem m_X0_ask (l : Launch) (dC : Nat → ClassId) (dI : Nat → Nat → Nat) (dA : Nat → ClassId) (ad : Nat → Nat) (hI : sw_inj sw_ZX ad) (σ : sw_St) (x1 : Nat) (x2 : Int32) (x3 : Int32) (x4 : Int32) (b : sw_St) (hb : f_X0_ask σ x1 x2 x3 x4 = some b) : sw_M sw_ZX l yX0_ask cX0_ask 5 none 0 dC dI dA ad [(sw_rv ad 2), (sw_rv ad x1), (.int x2), (.int x3), (.int x4)] σ (sw_eV b) :=
  sw_mk1 (ψ := sw_eV) 0 (by decide) sw_ZXok hI dk_X0_ask rfl (sw_c1_all _ ⟨sw_rv_cat _ _, sw_rv_cat _ _, rfl, rfl, rfl, trivial⟩) hb (fun p e R M C => s_X0_ask C σ x1 x2 x3 x4)
/-! SplitWatch$Bus.giveUp(LSplitWatch$Core;I)V -/
def L_X0_giveUp : sw_Is := [(0, .aload_n 1, 1, 1), (1, .getfield 105, 3, 4), (4, .getfield 109, 3, 7), (7, .iload_n 2, 1, 8), (8, .iaload, 1, 9), (9, .iconst 3, 1, 10), (10, .if_icmp .ne 29, 3, 13), (13, .aload_n 1, 1, 14), (14, .invokevirtual 135, 3, 17), (17, .astore_n 3, 1, 18), (18, .aload_n 3, 1, 19), (19, .ifnonnull 4, 3, 22), (22, .return_, 1, 23), (23, .aload_n 0, 1, 24), (24, .aload_n 3, 1, 25), (25, .iconst 3, 1, 26), (26, .iload_n 2, 1, 27), (27, .aload_n 1, 1, 28), (28, .getfield 105, 3, 31), (31, .getfield 121, 3, 34), (34, .iload_n 2, 1, 35), (35, .iaload, 1, 36), (36, .invokevirtual 114, 3, 39), (39, .aload_n 1, 1, 40), (40, .getfield 105, 3, 43), (43, .getfield 109, 3, 46), (46, .iload_n 2, 1, 47), (47, .iconst 0, 1, 48), (48, .iastore, 1, 49), (49, .return_, 1, 50)]
theorem dk_X0_giveUp : sw_dc cX0_giveUp L_X0_giveUp = true := by decide +kernel
def f_X0_giveUp_39  (σ : sw_St) (x1 : Nat) (x2 : Int32) : Option sw_St := sw_ck (sw_isC x1) (sw_ck (sw_in x2 8) (sw_pt σ ((x1 + 1) + 1) (sw_ix x2) 0 fun s3 => (some s3)))
def f_X0_giveUp (σ : sw_St) (x1 : Nat) (x2 : Int32) : Option sw_St := sw_ck (sw_isC x1) (sw_ck (sw_in x2 8) (if (σ ((x1 + 1) + 1) (sw_ix x2)) = 3 then ((f_X2_freeBack σ x1).bind fun r3 => (if r3 = 0 then (some σ) else ((f_X0_ask σ r3 3 x2 (σ ((x1 + 1) + 2) (sw_ix x2))).bind fun r4 => (f_X0_giveUp_39 r4 x1 x2)))) else (f_X0_giveUp_39 σ x1 x2)))
set_option maxHeartbeats 1000000 in
set_option maxRecDepth 100000 in
theorem s_X0_giveUp_39 {V : sw_V} (C : sw_Cx sw_ZX V cX0_giveUp RX0 4 none L_X0_giveUp 1) (σ : sw_St) (x1 : Nat) (x2 : Int32) : sw_S sw_ZX V sw_eV [none, some (sw_r V x1), some (.int x2), none] [] 39 σ (f_X0_giveUp_39 σ x1 x2) := by
  unfold f_X0_giveUp_39
  refine g_aload_n C 23 rfl rfl ?_
  refine g_ck fun h1 => ?_
  refine g_getR C 24 rfl fl_X0_105 (sh_C h1) rfl ?_
  refine g_getR C 25 rfl fl_X0_109 (sh_K (kd_CK h1)) rfl ?_
  refine g_iload_n C 26 rfl rfl ?_
  refine g_iconst C 27 rfl 0 (by decide) ?_
  refine g_ck fun h2 => ?_
  refine g_iast C 28 rfl (sh_K0 (kd_CK h1)) h2 (fun s3 => ?_)
  exact g_vret C 29 rfl rfl
set_option maxHeartbeats 1000000 in
set_option maxRecDepth 100000 in
theorem s_X0_giveUp {V : sw_V} (C : sw_Cx sw_ZX V cX0_giveUp RX0 4 none L_X0_giveUp 1) (σ : sw_St) (x1 : Nat) (x2 : Int32) : sw_S sw_ZX V sw_eV [some (sw_r V 2), some (sw_r V x1), some (.int x2), none] [] 0 σ (f_X0_giveUp σ x1 x2) := by
  unfold f_X0_giveUp
  refine g_aload_n C 0 rfl rfl ?_
  refine g_ck fun h1 => ?_
  refine g_getR C 1 rfl fl_X0_105 (sh_C h1) rfl ?_
  refine g_getR C 2 rfl fl_X0_109 (sh_K (kd_CK h1)) rfl ?_
  refine g_iload_n C 3 rfl rfl ?_
  refine g_ck fun h2 => ?_
  refine g_iald C 4 rfl (sh_K0 (kd_CK h1)) h2 ?_
  refine g_iconst C 5 rfl 3 (by decide) ?_
  refine g_icmp_ne C 6 rfl 39 (by decide) ?_ ?_
  · exact g_wk (s_X0_giveUp_39 C σ x1 x2) ⟨rfl, rfl, trivial⟩
  · refine g_aload_n C 7 rfl rfl ?_
    refine g_callV (ψ₁ := sw_eR V.2.2.2.2.2 σ) C 8 rfl [] [] ml_X0_135 rfl (Nat.le_of_ble_eq_true rfl) (by decide) (sh_C h1) rfl (fun b hb => m_X2_freeBack V.1.2.1 _ _ _ _ C.inj σ x1 b hb) rfl (g_cR fun r3 => ?_)
    refine g_astore_n C 9 rfl (Nat.le_of_ble_eq_true rfl) (Or.inr (Or.inr (Or.inl ⟨_, rfl⟩))) ?_
    refine g_aload_n C 10 rfl rfl ?_
    refine g_ifnonnull C 11 rfl 23 (by decide) ?_ ?_
    · refine g_aload_n C 13 rfl rfl ?_
      refine g_aload_n C 14 rfl rfl ?_
      refine g_iconst C 15 rfl 3 (by decide) ?_
      refine g_iload_n C 16 rfl rfl ?_
      refine g_aload_n C 17 rfl rfl ?_
      refine g_getR C 18 rfl fl_X0_105 (sh_C h1) rfl ?_
      refine g_getR C 19 rfl fl_X0_121 (sh_K (kd_CK h1)) rfl ?_
      refine g_iload_n C 20 rfl rfl ?_
      refine g_iald C 21 rfl (sh_K1 (kd_CK h1)) h2 ?_
      refine g_callV (ψ₁ := sw_eV) C 22 rfl [(sw_r V r3), (.int 3), (.int x2), (.int (σ ((x1 + 1) + 2) (sw_ix x2)))] [] ml_X0_114 rfl (Nat.le_of_ble_eq_true rfl) (by decide) rfl rfl (fun b hb => m_X0_ask V.1.2.1 _ _ _ _ C.inj σ r3 3 x2 (σ ((x1 + 1) + 2) (sw_ix x2)) b hb) rfl (g_cV fun r4 => ?_)
      exact g_wk (s_X0_giveUp_39 C r4 x1 x2) ⟨rfl, rfl, trivial⟩
    · exact g_vret C 12 rfl rfl
set_option maxHeartbeats 1000000 in
set_option maxRecDepth 100000 in
theorem m_X0_giveUp (l : Launch) (dC : Nat → ClassId) (dI : Nat → Nat → Nat) (dA : Nat → ClassId) (ad : Nat → Nat) (hI : sw_inj sw_ZX ad) (σ : sw_St) (x1 : Nat) (x2 : Int32) (b : sw_St) (hb : f_X0_giveUp σ x1 x2 = some b) : sw_M sw_ZX l yX0_giveUp cX0_giveUp 4 none 1 dC dI dA ad [(sw_rv ad 2), (sw_rv ad x1), (.int x2)] σ (sw_eV b) :=
  sw_mk1 (ψ := sw_eV) 1 (by decide) sw_ZXok hI dk_X0_giveUp rfl (sw_c1_all _ ⟨sw_rv_cat _ _, sw_rv_cat _ _, rfl, trivial⟩) hb (fun p e R M C => s_X0_giveUp C σ x1 x2)
/-! SplitWatch$Cache.use(I)V -/
def L_X1_use : sw_Is := [(0, .aload_n 0, 1, 1), (1, .dup, 1, 2), (2, .getfield 21, 3, 5), (5, .iconst 1, 1, 6), (6, .iadd, 1, 7), (7, .putfield 21, 3, 10), (10, .aload_n 0, 1, 11), (11, .getfield 18, 3, 14), (14, .iload_n 1, 1, 15), (15, .aload_n 0, 1, 16), (16, .getfield 21, 3, 19), (19, .iastore, 1, 20), (20, .return_, 1, 21)]
theorem dk_X1_use : sw_dc cX1_use L_X1_use = true := by decide +kernel
def f_X1_use (σ : sw_St) (x0 : Nat) (x1 : Int32) : Option sw_St := sw_ck (sw_isK x0) (sw_pt σ x0 3 ((σ x0 3) + 1) fun s2 => (sw_ck (sw_in x1 8) (sw_pt s2 (x0 + 3) (sw_ix x1) (s2 x0 3) fun s4 => (some s4))))
set_option maxHeartbeats 1000000 in
set_option maxRecDepth 100000 in
theorem s_X1_use {V : sw_V} (C : sw_Cx sw_ZX V cX1_use RX1 2 none L_X1_use 0) (σ : sw_St) (x0 : Nat) (x1 : Int32) : sw_S sw_ZX V sw_eV [some (sw_r V x0), some (.int x1)] [] 0 σ (f_X1_use σ x0 x1) := by
  unfold f_X1_use
  refine g_aload_n C 0 rfl rfl ?_
  refine g_dupR C 1 rfl ?_
  refine g_ck fun h1 => ?_
  refine g_getI C 2 rfl fl_X1_21 (sh_K h1) rfl ?_
  refine g_iconst C 3 rfl 1 (by decide) ?_
  refine g_iadd C 4 rfl ?_
  refine g_put C 5 rfl fp_X1_21 (sh_K h1) rfl (fun s2 => ?_)
  refine g_aload_n C 6 rfl rfl ?_
  refine g_getR C 7 rfl fl_X1_18 (sh_K h1) rfl ?_
  refine g_iload_n C 8 rfl rfl ?_
  refine g_aload_n C 9 rfl rfl ?_
  refine g_getI C 10 rfl fl_X1_21 (sh_K h1) rfl ?_
  refine g_ck fun h3 => ?_
  refine g_iast C 11 rfl (sh_K2 h1) h3 (fun s4 => ?_)
  exact g_vret C 12 rfl rfl
set_option maxHeartbeats 1000000 in
set_option maxRecDepth 100000 in
theorem m_X1_use (l : Launch) (dC : Nat → ClassId) (dI : Nat → Nat → Nat) (dA : Nat → ClassId) (ad : Nat → Nat) (hI : sw_inj sw_ZX ad) (σ : sw_St) (x0 : Nat) (x1 : Int32) (b : sw_St) (hb : f_X1_use σ x0 x1 = some b) : sw_M sw_ZX l yX1_use cX1_use 2 none 0 dC dI dA ad [(sw_rv ad x0), (.int x1)] σ (sw_eV b) :=
  sw_mk1 (ψ := sw_eV) 0 (by decide) sw_ZXok hI dk_X1_use rfl (sw_c1_all _ ⟨sw_rv_cat _ _, rfl, trivial⟩) hb (fun p e R M C => s_X1_use C σ x0 x1)
/-! SplitWatch$Cache.put(III)V -/
def L_X1_put : sw_Is := [(0, .aload_n 0, 1, 1), (1, .getfield 9, 3, 4), (4, .iload_n 1, 1, 5), (5, .iload_n 2, 1, 6), (6, .iastore, 1, 7), (7, .aload_n 0, 1, 8), (8, .getfield 15, 3, 11), (11, .iload_n 1, 1, 12), (12, .iload_n 3, 1, 13), (13, .iastore, 1, 14), (14, .aload_n 0, 1, 15), (15, .iload_n 1, 1, 16), (16, .invokevirtual 25, 3, 19), (19, .return_, 1, 20)]
theorem dk_X1_put : sw_dc cX1_put L_X1_put = true := by decide +kernel
def f_X1_put (σ : sw_St) (x0 : Nat) (x1 : Int32) (x2 : Int32) (x3 : Int32) : Option sw_St := sw_ck (sw_isK x0) (sw_ck (sw_in x1 8) (sw_pt σ (x0 + 1) (sw_ix x1) x2 fun s3 => (sw_pt s3 (x0 + 2) (sw_ix x1) x3 fun s4 => ((f_X1_use s4 x0 x1).bind fun r5 => (some r5)))))
set_option maxHeartbeats 1000000 in
set_option maxRecDepth 100000 in
theorem s_X1_put {V : sw_V} (C : sw_Cx sw_ZX V cX1_put RX1 4 none L_X1_put 1) (σ : sw_St) (x0 : Nat) (x1 : Int32) (x2 : Int32) (x3 : Int32) : sw_S sw_ZX V sw_eV [some (sw_r V x0), some (.int x1), some (.int x2), some (.int x3)] [] 0 σ (f_X1_put σ x0 x1 x2 x3) := by
  unfold f_X1_put
  refine g_aload_n C 0 rfl rfl ?_
  refine g_ck fun h1 => ?_
  refine g_getR C 1 rfl fl_X1_9 (sh_K h1) rfl ?_
  refine g_iload_n C 2 rfl rfl ?_
  refine g_iload_n C 3 rfl rfl ?_
  refine g_ck fun h2 => ?_
  refine g_iast C 4 rfl (sh_K0 h1) h2 (fun s3 => ?_)
  refine g_aload_n C 5 rfl rfl ?_
  refine g_getR C 6 rfl fl_X1_15 (sh_K h1) rfl ?_
  refine g_iload_n C 7 rfl rfl ?_
  refine g_iload_n C 8 rfl rfl ?_
  refine g_iast C 9 rfl (sh_K1 h1) h2 (fun s4 => ?_)
  refine g_aload_n C 10 rfl rfl ?_
  refine g_iload_n C 11 rfl rfl ?_
  refine g_callV (ψ₁ := sw_eV) C 12 rfl [(.int x1)] [] ml_X1_25 rfl (Nat.le_of_ble_eq_true rfl) (by decide) (sh_K h1) rfl (fun b hb => m_X1_use V.1.2.1 _ _ _ _ C.inj s4 x0 x1 b hb) rfl (g_cV fun r5 => ?_)
  exact g_vret C 13 rfl rfl
set_option maxHeartbeats 1000000 in
set_option maxRecDepth 100000 in
theorem m_X1_put (l : Launch) (dC : Nat → ClassId) (dI : Nat → Nat → Nat) (dA : Nat → ClassId) (ad : Nat → Nat) (hI : sw_inj sw_ZX ad) (σ : sw_St) (x0 : Nat) (x1 : Int32) (x2 : Int32) (x3 : Int32) (b : sw_St) (hb : f_X1_put σ x0 x1 x2 x3 = some b) : sw_M sw_ZX l yX1_put cX1_put 4 none 1 dC dI dA ad [(sw_rv ad x0), (.int x1), (.int x2), (.int x3)] σ (sw_eV b) :=
  sw_mk1 (ψ := sw_eV) 0 (by decide) sw_ZXok hI dk_X1_put rfl (sw_c1_all _ ⟨sw_rv_cat _ _, rfl, rfl, rfl, trivial⟩) hb (fun p e R M C => s_X1_put C σ x0 x1 x2 x3)
/-! SplitWatch$Bus.fill(LSplitWatch$Core;III)V -/
def L_X0_fill : sw_Is := [(0, .aload_n 1, 1, 1), (1, .getfield 105, 3, 4), (4, .invokevirtual 173, 3, 7), (7, .aload_n 0, 1, 8), (8, .getfield 48, 3, 11), (11, .if_icmp .lt 25, 3, 14), (14, .aload_n 1, 1, 15), (15, .getfield 105, 3, 18), (18, .invokevirtual 177, 3, 21), (21, .istore 5, 2, 23), (23, .iload 5, 2, 25), (25, .iconst (-1), 1, 26), (26, .if_icmp .eq 10, 3, 29), (29, .aload_n 0, 1, 30), (30, .aload_n 1, 1, 31), (31, .iload 5, 2, 33), (33, .invokevirtual 139, 3, 36), (36, .aload_n 1, 1, 37), (37, .getfield 105, 3, 40), (40, .iload_n 2, 1, 41), (41, .iload_n 3, 1, 42), (42, .iload 4, 2, 44), (44, .invokevirtual 131, 3, 47), (47, .return_, 1, 48)]
theorem dk_X0_fill : sw_dc cX0_fill L_X0_fill = true := by decide +kernel
def f_X0_fill_36  (σ : sw_St) (x1 : Nat) (x2 : Int32) (x3 : Int32) (x4 : Int32) : Option sw_St := sw_ck (sw_isC x1) ((f_X1_put σ (x1 + 1) x2 x3 x4).bind fun r2 => (some r2))
def f_X0_fill (σ : sw_St) (x1 : Nat) (x2 : Int32) (x3 : Int32) (x4 : Int32) : Option sw_St := sw_ck (sw_isC x1) ((f_X1_held σ (x1 + 1)).bind fun r2 => (if r2 < (σ 2 5) then (f_X0_fill_36 σ x1 x2 x3 x4) else ((f_X1_oldest σ (x1 + 1)).bind fun r3 => (if r3 = (-1) then (f_X0_fill_36 σ x1 x2 x3 x4) else ((f_X0_giveUp σ x1 r3).bind fun r4 => (f_X0_fill_36 r4 x1 x2 x3 x4))))))
set_option maxHeartbeats 1000000 in
set_option maxRecDepth 100000 in
theorem s_X0_fill_36 {V : sw_V} (C : sw_Cx sw_ZX V cX0_fill RX0 6 none L_X0_fill 2) (σ : sw_St) (x1 : Nat) (x2 : Int32) (x3 : Int32) (x4 : Int32) : sw_S sw_ZX V sw_eV [none, some (sw_r V x1), some (.int x2), some (.int x3), some (.int x4), none] [] 36 σ (f_X0_fill_36 σ x1 x2 x3 x4) := by
  unfold f_X0_fill_36
  refine g_aload_n C 17 rfl rfl ?_
  refine g_ck fun h1 => ?_
  refine g_getR C 18 rfl fl_X0_105 (sh_C h1) rfl ?_
  refine g_iload_n C 19 rfl rfl ?_
  refine g_iload_n C 20 rfl rfl ?_
  refine g_iload C 21 rfl rfl ?_
  refine g_callV (ψ₁ := sw_eV) C 22 rfl [(.int x2), (.int x3), (.int x4)] [] ml_X0_131 rfl (Nat.le_of_ble_eq_true rfl) (by decide) (sh_K (kd_CK h1)) rfl (fun b hb => m_X1_put V.1.2.1 _ _ _ _ C.inj σ (x1 + 1) x2 x3 x4 b hb) rfl (g_cV fun r2 => ?_)
  exact g_vret C 23 rfl rfl
set_option maxHeartbeats 1000000 in
set_option maxRecDepth 100000 in
theorem s_X0_fill {V : sw_V} (C : sw_Cx sw_ZX V cX0_fill RX0 6 none L_X0_fill 2) (σ : sw_St) (x1 : Nat) (x2 : Int32) (x3 : Int32) (x4 : Int32) : sw_S sw_ZX V sw_eV [some (sw_r V 2), some (sw_r V x1), some (.int x2), some (.int x3), some (.int x4), none] [] 0 σ (f_X0_fill σ x1 x2 x3 x4) := by
  unfold f_X0_fill
  refine g_aload_n C 0 rfl rfl ?_
  refine g_ck fun h1 => ?_
  refine g_getR C 1 rfl fl_X0_105 (sh_C h1) rfl ?_
  refine g_callV (ψ₁ := sw_eP σ) C 2 rfl [] [] ml_X0_173 rfl (Nat.le_of_ble_eq_true rfl) (by decide) (sh_K (kd_CK h1)) rfl (fun b hb => m_X1_held V.1.2.1 _ _ _ _ C.inj σ (x1 + 1) b hb) rfl (g_cP fun r2 => ?_)
  refine g_aload_n C 3 rfl rfl ?_
  refine g_getI C 4 rfl fl_X0_48 rfl rfl ?_
  refine g_icmp_lt C 5 rfl 36 (by decide) ?_ ?_
  · exact g_wk (s_X0_fill_36 C σ x1 x2 x3 x4) ⟨rfl, rfl, rfl, rfl, trivial⟩
  · refine g_aload_n C 6 rfl rfl ?_
    refine g_getR C 7 rfl fl_X0_105 (sh_C h1) rfl ?_
    refine g_callV (ψ₁ := sw_eP σ) C 8 rfl [] [] ml_X0_177 rfl (Nat.le_of_ble_eq_true rfl) (by decide) (sh_K (kd_CK h1)) rfl (fun b hb => m_X1_oldest V.1.2.1 _ _ _ _ C.inj σ (x1 + 1) b hb) rfl (g_cP fun r3 => ?_)
    refine g_istore C 9 rfl (Nat.le_of_ble_eq_true rfl) (Or.inr (Or.inr (Or.inl ⟨_, rfl⟩))) ?_
    refine g_iload C 10 rfl rfl ?_
    refine g_iconst C 11 rfl (-1) (by decide) ?_
    refine g_icmp_eq C 12 rfl 36 (by decide) ?_ ?_
    · exact g_wk (s_X0_fill_36 C σ x1 x2 x3 x4) ⟨rfl, rfl, rfl, rfl, trivial⟩
    · refine g_aload_n C 13 rfl rfl ?_
      refine g_aload_n C 14 rfl rfl ?_
      refine g_iload C 15 rfl rfl ?_
      refine g_callV (ψ₁ := sw_eV) C 16 rfl [(sw_r V x1), (.int r3)] [] ml_X0_139 rfl (Nat.le_of_ble_eq_true rfl) (by decide) rfl rfl (fun b hb => m_X0_giveUp V.1.2.1 _ _ _ _ C.inj σ x1 r3 b hb) rfl (g_cV fun r4 => ?_)
      exact g_wk (s_X0_fill_36 C r4 x1 x2 x3 x4) ⟨rfl, rfl, rfl, rfl, trivial⟩
set_option maxHeartbeats 1000000 in
set_option maxRecDepth 100000 in
theorem m_X0_fill (l : Launch) (dC : Nat → ClassId) (dI : Nat → Nat → Nat) (dA : Nat → ClassId) (ad : Nat → Nat) (hI : sw_inj sw_ZX ad) (σ : sw_St) (x1 : Nat) (x2 : Int32) (x3 : Int32) (x4 : Int32) (b : sw_St) (hb : f_X0_fill σ x1 x2 x3 x4 = some b) : sw_M sw_ZX l yX0_fill cX0_fill 6 none 2 dC dI dA ad [(sw_rv ad 2), (sw_rv ad x1), (.int x2), (.int x3), (.int x4)] σ (sw_eV b) :=
  sw_mk1 (ψ := sw_eV) 1 (by decide) sw_ZXok hI dk_X0_fill rfl (sw_c1_all _ ⟨sw_rv_cat _ _, sw_rv_cat _ _, rfl, rfl, rfl, trivial⟩) hb (fun p e R M C => s_X0_fill C σ x1 x2 x3 x4)
/-! SplitWatch$Bus.answerTurn()V -/
def L_X0_answerTurn : sw_Is := [(0, .aconst_null, 1, 1), (1, .astore_n 1, 1, 2), (2, .iconst 0, 1, 3), (3, .istore_n 2, 1, 4), (4, .iload_n 2, 1, 5), (5, .aload_n 0, 1, 6), (6, .getfield 44, 3, 9), (9, .if_icmp .ge 80, 3, 12), (12, .aload_n 0, 1, 13), (13, .getfield 11, 3, 16), (16, .iload_n 2, 1, 17), (17, .aaload, 1, 18), (18, .getfield 37, 3, 21), (21, .astore_n 3, 1, 22), (22, .aload_n 3, 1, 23), (23, .getfield 98, 3, 26), (26, .iconst 2, 1, 27), (27, .if_icmp .ne 31, 3, 30), (30, .aload_n 3, 1, 31), (31, .getfield 180, 3, 34), (34, .aload_n 0, 1, 35), (35, .getfield 57, 3, 38), (38, .if_icmp .gt 20, 3, 41), (41, .aload_n 0, 1, 42), (42, .aload_n 0, 1, 43), (43, .getfield 11, 3, 46), (46, .iload_n 2, 1, 47), (47, .aaload, 1, 48), (48, .invokevirtual 183, 3, 51), (51, .ifCond .eq 7, 3, 54), (54, .iconst 1, 1, 55), (55, .goto 4, 3, 58), (58, .iconst 0, 1, 59), (59, .istore 4, 2, 61), (61, .iload 4, 2, 63), (63, .ifCond .eq 20, 3, 66), (66, .aload_n 1, 1, 67), (67, .ifnull 14, 3, 70), (70, .aload_n 3, 1, 71), (71, .getfield 187, 3, 74), (74, .aload_n 1, 1, 75), (75, .getfield 187, 3, 78), (78, .if_icmp .ge 5, 3, 81), (81, .aload_n 3, 1, 82), (82, .astore_n 1, 1, 83), (83, .iinc 2 1, 3, 86), (86, .goto (-82), 3, 89), (89, .aload_n 1, 1, 90), (90, .ifnonnull 4, 3, 93), (93, .return_, 1, 94), (94, .aload_n 0, 1, 95), (95, .getfield 11, 3, 98), (98, .aload_n 1, 1, 99), (99, .getfield 190, 3, 102), (102, .aaload, 1, 103), (103, .astore_n 2, 1, 104), (104, .aload_n 0, 1, 105), (105, .aload_n 2, 1, 106), (106, .aload_n 1, 1, 107), (107, .getfield 151, 3, 110), (110, .aload_n 1, 1, 111), (111, .getfield 193, 3, 114), (114, .aload_n 1, 1, 115), (115, .getfield 154, 3, 118), (118, .invokevirtual 169, 3, 121), (121, .aload_n 1, 1, 122), (122, .getfield 148, 3, 125), (125, .ifCond .ne 11, 3, 128), (128, .aload_n 2, 1, 129), (129, .aload_n 1, 1, 130), (130, .getfield 154, 3, 133), (133, .putfield 124, 3, 136), (136, .aload_n 1, 1, 137), (137, .iconst 0, 1, 138), (138, .putfield 98, 3, 141), (141, .aload_n 0, 1, 142), (142, .dup, 1, 143), (143, .getfield 69, 3, 146), (146, .iconst 1, 1, 147), (147, .iadd, 1, 148), (148, .putfield 69, 3, 151), (151, .aload_n 0, 1, 152), (152, .dup, 1, 153), (153, .getfield 72, 3, 156), (156, .iconst 1, 1, 157), (157, .iadd, 1, 158), (158, .putfield 72, 3, 161), (161, .return_, 1, 162)]
theorem dk_X0_answerTurn : sw_dc cX0_answerTurn L_X0_answerTurn = true := by decide +kernel
def f_X0_answerTurn_81 (k4 : sw_St → Nat → Int32 → Option sw_St) (σ : sw_St) (x2 : Int32) (x3 : Nat) : Option sw_St := k4 σ x3 (x2 + 1)
def f_X0_answerTurn_59 (k4 : sw_St → Nat → Int32 → Option sw_St) (σ : sw_St) (x1 : Nat) (x2 : Int32) (x3 : Nat) (y0 : Int32) : Option sw_St := if y0 = 0 then (k4 σ x1 (x2 + 1)) else (if x1 = 0 then (f_X0_answerTurn_81 k4 σ x2 x3) else (sw_ck (sw_isQ x3) (sw_ck (sw_isQ x1) (if (σ x1 8) ≤ (σ x3 8) then (k4 σ x1 (x2 + 1)) else (f_X0_answerTurn_81 k4 σ x2 x3)))))
def f_X0_answerTurn_58 (k4 : sw_St → Nat → Int32 → Option sw_St) (σ : sw_St) (x1 : Nat) (x2 : Int32) (x3 : Nat) : Option sw_St := f_X0_answerTurn_59 k4 σ x1 x2 x3 0
def f_X0_answerTurn_136  (σ : sw_St) (x1 : Nat) : Option sw_St := sw_ck (sw_isQ x1) (sw_pt σ x1 1 0 fun s2 => (sw_pt s2 2 12 ((s2 2 12) + 1) fun s3 => (sw_pt s3 2 13 ((s3 2 13) + 1) fun s4 => (some s4))))
def f_X0_answerTurn_4  : Nat → sw_St → Nat → Int32 → Option sw_St
  | 0 => fun _ _ _ => none
  | n + 1 => fun σ x1 x2 => if (σ 2 4) ≤ x2 then (if x1 = 0 then (some σ) else (sw_ck (sw_isQ x1) (sw_ck (sw_in (σ x1 0) 4) ((f_X0_fill σ (8 + 9 * sw_ix (σ x1 0)) (σ x1 3) (σ x1 10) (σ x1 4)).bind fun r3 => (if (r3 x1 2) = 0 then (sw_pt r3 (8 + 9 * sw_ix (σ x1 0)) 3 (r3 x1 4) fun s4 => (f_X0_answerTurn_136 s4 x1)) else (f_X0_answerTurn_136 r3 x1)))))) else (sw_ck (sw_in x2 4) (if (σ ((8 + 9 * sw_ix x2) + 6) 1) = 2 then (if (σ 2 8) < (σ ((8 + 9 * sw_ix x2) + 6) 9) then (f_X0_answerTurn_58 (f_X0_answerTurn_4 n) σ x1 x2 ((8 + 9 * sw_ix x2) + 6)) else ((f_X0_canFill σ (8 + 9 * sw_ix x2)).bind fun r6 => (if r6 = 0 then (f_X0_answerTurn_58 (f_X0_answerTurn_4 n) σ x1 x2 ((8 + 9 * sw_ix x2) + 6)) else (f_X0_answerTurn_59 (f_X0_answerTurn_4 n) σ x1 x2 ((8 + 9 * sw_ix x2) + 6) 1)))) else (f_X0_answerTurn_58 (f_X0_answerTurn_4 n) σ x1 x2 ((8 + 9 * sw_ix x2) + 6))))
def f_X0_answerTurn (σ : sw_St)  : Option sw_St := f_X0_answerTurn_4 sw_fuel σ 0 0
set_option maxHeartbeats 1000000 in
set_option maxRecDepth 100000 in
theorem s_X0_answerTurn_81 {V : sw_V} (C : sw_Cx sw_ZX V cX0_answerTurn RX0 5 none L_X0_answerTurn 3) (k4 : sw_St → Nat → Int32 → Option sw_St) (hk4 : ∀ (σ : sw_St) (x1 : Nat) (x2 : Int32), sw_S sw_ZX V sw_eV [some (sw_r V 2), some (sw_r V x1), some (.int x2), none, none] [] 4 σ (k4 σ x1 x2)) (σ : sw_St) (x2 : Int32) (x3 : Nat) : sw_S sw_ZX V sw_eV [some (sw_r V 2), none, some (.int x2), some (sw_r V x3), none] [] 81 σ (f_X0_answerTurn_81 k4 σ x2 x3) := by
  unfold f_X0_answerTurn_81
  refine g_aload_n C 43 rfl rfl ?_
  refine g_astore_n C 44 rfl (Nat.le_of_ble_eq_true rfl) (Or.inr (Or.inr (Or.inr ⟨_, rfl⟩))) ?_
  refine g_iinc C 45 rfl 1 (by decide) rfl (Nat.le_of_ble_eq_true rfl) (Or.inr (Or.inr (Or.inr ⟨_, rfl⟩))) ?_
  refine g_goto C 46 rfl 4 (by decide) ?_
  exact g_wk (hk4 σ x3 (x2 + 1)) ⟨rfl, rfl, rfl, trivial⟩
set_option maxHeartbeats 1000000 in
set_option maxRecDepth 100000 in
theorem s_X0_answerTurn_59 {V : sw_V} (C : sw_Cx sw_ZX V cX0_answerTurn RX0 5 none L_X0_answerTurn 3) (k4 : sw_St → Nat → Int32 → Option sw_St) (hk4 : ∀ (σ : sw_St) (x1 : Nat) (x2 : Int32), sw_S sw_ZX V sw_eV [some (sw_r V 2), some (sw_r V x1), some (.int x2), none, none] [] 4 σ (k4 σ x1 x2)) (σ : sw_St) (x1 : Nat) (x2 : Int32) (x3 : Nat) (y0 : Int32) : sw_S sw_ZX V sw_eV [some (sw_r V 2), some (sw_r V x1), some (.int x2), some (sw_r V x3), none] [(.int y0)] 59 σ (f_X0_answerTurn_59 k4 σ x1 x2 x3 y0) := by
  unfold f_X0_answerTurn_59
  refine g_istore C 33 rfl (Nat.le_of_ble_eq_true rfl) (Or.inr (Or.inr (Or.inr ⟨_, rfl⟩))) ?_
  refine g_iload C 34 rfl rfl ?_
  refine g_if_eq C 35 rfl 83 (by decide) ?_ ?_
  · refine g_iinc C 45 rfl 1 (by decide) rfl (Nat.le_of_ble_eq_true rfl) (Or.inr (Or.inr (Or.inr ⟨_, rfl⟩))) ?_
    refine g_goto C 46 rfl 4 (by decide) ?_
    exact g_wk (hk4 σ x1 (x2 + 1)) ⟨rfl, rfl, rfl, trivial⟩
  · refine g_aload_n C 36 rfl rfl ?_
    refine g_ifnull C 37 rfl 81 (by decide) ?_ ?_
    · exact g_wk (s_X0_answerTurn_81 C k4 hk4 σ x2 x3) ⟨rfl, rfl, rfl, trivial⟩
    · refine g_aload_n C 38 rfl rfl ?_
      refine g_ck fun h1 => ?_
      refine g_getI C 39 rfl fl_X0_187 (sh_Q h1) rfl ?_
      refine g_aload_n C 40 rfl rfl ?_
      refine g_ck fun h2 => ?_
      refine g_getI C 41 rfl fl_X0_187 (sh_Q h2) rfl ?_
      refine g_icmp_ge C 42 rfl 83 (by decide) ?_ ?_
      · refine g_iinc C 45 rfl 1 (by decide) rfl (Nat.le_of_ble_eq_true rfl) (Or.inr (Or.inr (Or.inr ⟨_, rfl⟩))) ?_
        refine g_goto C 46 rfl 4 (by decide) ?_
        exact g_wk (hk4 σ x1 (x2 + 1)) ⟨rfl, rfl, rfl, trivial⟩
      · exact g_wk (s_X0_answerTurn_81 C k4 hk4 σ x2 x3) ⟨rfl, rfl, rfl, trivial⟩
set_option maxHeartbeats 1000000 in
set_option maxRecDepth 100000 in
theorem s_X0_answerTurn_58 {V : sw_V} (C : sw_Cx sw_ZX V cX0_answerTurn RX0 5 none L_X0_answerTurn 3) (k4 : sw_St → Nat → Int32 → Option sw_St) (hk4 : ∀ (σ : sw_St) (x1 : Nat) (x2 : Int32), sw_S sw_ZX V sw_eV [some (sw_r V 2), some (sw_r V x1), some (.int x2), none, none] [] 4 σ (k4 σ x1 x2)) (σ : sw_St) (x1 : Nat) (x2 : Int32) (x3 : Nat) : sw_S sw_ZX V sw_eV [some (sw_r V 2), some (sw_r V x1), some (.int x2), some (sw_r V x3), none] [] 58 σ (f_X0_answerTurn_58 k4 σ x1 x2 x3) := by
  unfold f_X0_answerTurn_58
  refine g_iconst C 32 rfl 0 (by decide) ?_
  exact g_wk (s_X0_answerTurn_59 C k4 hk4 σ x1 x2 x3 0) ⟨rfl, rfl, rfl, rfl, trivial⟩
set_option maxHeartbeats 1000000 in
set_option maxRecDepth 100000 in
theorem s_X0_answerTurn_136 {V : sw_V} (C : sw_Cx sw_ZX V cX0_answerTurn RX0 5 none L_X0_answerTurn 3) (σ : sw_St) (x1 : Nat) : sw_S sw_ZX V sw_eV [some (sw_r V 2), some (sw_r V x1), none, none, none] [] 136 σ (f_X0_answerTurn_136 σ x1) := by
  unfold f_X0_answerTurn_136
  refine g_aload_n C 72 rfl rfl ?_
  refine g_iconst C 73 rfl 0 (by decide) ?_
  refine g_ck fun h1 => ?_
  refine g_put C 74 rfl fp_X0_98 (sh_Q h1) rfl (fun s2 => ?_)
  refine g_aload_n C 75 rfl rfl ?_
  refine g_dupR C 76 rfl ?_
  refine g_getI C 77 rfl fl_X0_69 rfl rfl ?_
  refine g_iconst C 78 rfl 1 (by decide) ?_
  refine g_iadd C 79 rfl ?_
  refine g_put C 80 rfl fp_X0_69 rfl rfl (fun s3 => ?_)
  refine g_aload_n C 81 rfl rfl ?_
  refine g_dupR C 82 rfl ?_
  refine g_getI C 83 rfl fl_X0_72 rfl rfl ?_
  refine g_iconst C 84 rfl 1 (by decide) ?_
  refine g_iadd C 85 rfl ?_
  refine g_put C 86 rfl fp_X0_72 rfl rfl (fun s4 => ?_)
  exact g_vret C 87 rfl rfl
set_option maxHeartbeats 1000000 in
set_option maxRecDepth 100000 in
theorem s_X0_answerTurn_4 {V : sw_V} (C : sw_Cx sw_ZX V cX0_answerTurn RX0 5 none L_X0_answerTurn 3) : ∀ (n : Nat) (σ : sw_St) (x1 : Nat) (x2 : Int32), sw_S sw_ZX V sw_eV [some (sw_r V 2), some (sw_r V x1), some (.int x2), none, none] [] 4 σ (f_X0_answerTurn_4 n σ x1 x2) := by
  intro n
  induction n with
  | zero =>
    intro σ x1 x2
    exact g_none
  | succ n ih =>
    intro σ x1 x2
    rw [f_X0_answerTurn_4]
    refine g_iload_n C 4 rfl rfl ?_
    refine g_aload_n C 5 rfl rfl ?_
    refine g_getI C 6 rfl fl_X0_44 rfl rfl ?_
    refine g_icmp_ge C 7 rfl 89 (by decide) ?_ ?_
    · refine g_aload_n C 47 rfl rfl ?_
      refine g_ifnonnull C 48 rfl 94 (by decide) ?_ ?_
      · refine g_aload_n C 50 rfl rfl ?_
        refine g_getR C 51 rfl fl_X0_11 rfl rfl ?_
        refine g_aload_n C 52 rfl rfl ?_
        refine g_ck fun h1 => ?_
        refine g_getI C 53 rfl fl_X0_190 (sh_Q h1) rfl ?_
        refine g_ck fun h2 => ?_
        refine g_aald C 54 rfl rfl rfl h2 (tg_cores h2) ?_
        refine g_astore_n C 55 rfl (Nat.le_of_ble_eq_true rfl) (Or.inr (Or.inr (Or.inr ⟨_, rfl⟩))) ?_
        refine g_aload_n C 56 rfl rfl ?_
        refine g_aload_n C 57 rfl rfl ?_
        refine g_aload_n C 58 rfl rfl ?_
        refine g_getI C 59 rfl fl_X0_151 (sh_Q h1) rfl ?_
        refine g_aload_n C 60 rfl rfl ?_
        refine g_getI C 61 rfl fl_X0_193 (sh_Q h1) rfl ?_
        refine g_aload_n C 62 rfl rfl ?_
        refine g_getI C 63 rfl fl_X0_154 (sh_Q h1) rfl ?_
        refine g_callV (ψ₁ := sw_eV) C 64 rfl [(sw_r V (8 + 9 * sw_ix (σ x1 0))), (.int (σ x1 3)), (.int (σ x1 10)), (.int (σ x1 4))] [] ml_X0_169 rfl (Nat.le_of_ble_eq_true rfl) (by decide) rfl rfl (fun b hb => m_X0_fill V.1.2.1 _ _ _ _ C.inj σ (8 + 9 * sw_ix (σ x1 0)) (σ x1 3) (σ x1 10) (σ x1 4) b hb) rfl (g_cV fun r3 => ?_)
        refine g_aload_n C 65 rfl rfl ?_
        refine g_getI C 66 rfl fl_X0_148 (sh_Q h1) rfl ?_
        refine g_if_ne C 67 rfl 136 (by decide) ?_ ?_
        · exact g_wk (s_X0_answerTurn_136 C r3 x1) ⟨rfl, rfl, trivial⟩
        · refine g_aload_n C 68 rfl rfl ?_
          refine g_aload_n C 69 rfl rfl ?_
          refine g_getI C 70 rfl fl_X0_154 (sh_Q h1) rfl ?_
          refine g_put C 71 rfl fp_X0_124 (sh_C (kd_cores h2)) rfl (fun s4 => ?_)
          exact g_wk (s_X0_answerTurn_136 C s4 x1) ⟨rfl, rfl, trivial⟩
      · exact g_vret C 49 rfl rfl
    · refine g_aload_n C 8 rfl rfl ?_
      refine g_getR C 9 rfl fl_X0_11 rfl rfl ?_
      refine g_iload_n C 10 rfl rfl ?_
      refine g_ck fun h5 => ?_
      refine g_aald C 11 rfl rfl rfl h5 (tg_cores h5) ?_
      refine g_getR C 12 rfl fl_X0_37 (sh_C (kd_cores h5)) rfl ?_
      refine g_astore_n C 13 rfl (Nat.le_of_ble_eq_true rfl) (Or.inr (Or.inr (Or.inl ⟨_, rfl⟩))) ?_
      refine g_aload_n C 14 rfl rfl ?_
      refine g_getI C 15 rfl fl_X0_98 (sh_Q (kd_CQ (kd_cores h5))) rfl ?_
      refine g_iconst C 16 rfl 2 (by decide) ?_
      refine g_icmp_ne C 17 rfl 58 (by decide) ?_ ?_
      · exact g_wk (s_X0_answerTurn_58 C (f_X0_answerTurn_4 n) ih σ x1 x2 ((8 + 9 * sw_ix x2) + 6)) ⟨rfl, rfl, rfl, rfl, trivial⟩
      · refine g_aload_n C 18 rfl rfl ?_
        refine g_getI C 19 rfl fl_X0_180 (sh_Q (kd_CQ (kd_cores h5))) rfl ?_
        refine g_aload_n C 20 rfl rfl ?_
        refine g_getI C 21 rfl fl_X0_57 rfl rfl ?_
        refine g_icmp_gt C 22 rfl 58 (by decide) ?_ ?_
        · exact g_wk (s_X0_answerTurn_58 C (f_X0_answerTurn_4 n) ih σ x1 x2 ((8 + 9 * sw_ix x2) + 6)) ⟨rfl, rfl, rfl, rfl, trivial⟩
        · refine g_aload_n C 23 rfl rfl ?_
          refine g_aload_n C 24 rfl rfl ?_
          refine g_getR C 25 rfl fl_X0_11 rfl rfl ?_
          refine g_iload_n C 26 rfl rfl ?_
          refine g_aald C 27 rfl rfl rfl h5 (tg_cores h5) ?_
          refine g_callV (ψ₁ := sw_eP σ) C 28 rfl [(sw_r V (8 + 9 * sw_ix x2))] [] ml_X0_183 rfl (Nat.le_of_ble_eq_true rfl) (by decide) rfl rfl (fun b hb => m_X0_canFill V.1.2.1 _ _ _ _ C.inj σ (8 + 9 * sw_ix x2) b hb) rfl (g_cP fun r6 => ?_)
          refine g_if_eq C 29 rfl 58 (by decide) ?_ ?_
          · exact g_wk (s_X0_answerTurn_58 C (f_X0_answerTurn_4 n) ih σ x1 x2 ((8 + 9 * sw_ix x2) + 6)) ⟨rfl, rfl, rfl, rfl, trivial⟩
          · refine g_iconst C 30 rfl 1 (by decide) ?_
            refine g_goto C 31 rfl 59 (by decide) ?_
            exact g_wk (s_X0_answerTurn_59 C (f_X0_answerTurn_4 n) ih σ x1 x2 ((8 + 9 * sw_ix x2) + 6) 1) ⟨rfl, rfl, rfl, rfl, trivial⟩
set_option maxHeartbeats 1000000 in
set_option maxRecDepth 100000 in
theorem s_X0_answerTurn {V : sw_V} (C : sw_Cx sw_ZX V cX0_answerTurn RX0 5 none L_X0_answerTurn 3) (σ : sw_St)  : sw_S sw_ZX V sw_eV [some (sw_r V 2), none, none, none, none] [] 0 σ (f_X0_answerTurn σ) := by
  unfold f_X0_answerTurn
  refine g_null C 0 rfl ?_
  refine g_astore_n C 1 rfl (Nat.le_of_ble_eq_true rfl) (Or.inr (Or.inr (Or.inr ⟨_, rfl⟩))) ?_
  refine g_iconst C 2 rfl 0 (by decide) ?_
  refine g_istore_n C 3 rfl (Nat.le_of_ble_eq_true rfl) (Or.inr (Or.inr (Or.inr ⟨_, rfl⟩))) ?_
  exact g_wk (s_X0_answerTurn_4 C sw_fuel σ 0 0) ⟨rfl, rfl, rfl, trivial⟩
set_option maxHeartbeats 1000000 in
set_option maxRecDepth 100000 in
theorem m_X0_answerTurn (l : Launch) (dC : Nat → ClassId) (dI : Nat → Nat → Nat) (dA : Nat → ClassId) (ad : Nat → Nat) (hI : sw_inj sw_ZX ad) (σ : sw_St)  (b : sw_St) (hb : f_X0_answerTurn σ = some b) : sw_M sw_ZX l yX0_answerTurn cX0_answerTurn 5 none 3 dC dI dA ad [(sw_rv ad 2)] σ (sw_eV b) :=
  sw_mk1 (ψ := sw_eV) 4 (by decide) sw_ZXok hI dk_X0_answerTurn rfl (sw_c1_all _ ⟨sw_rv_cat _ _, trivial⟩) hb (fun p e R M C => s_X0_answerTurn C σ)
/-! SplitWatch$Bus.openOf(I)LSplitWatch$Request; -/
def L_X0_openOf : sw_Is := [(0, .iconst 0, 1, 1), (1, .istore_n 2, 1, 2), (2, .iload_n 2, 1, 3), (3, .aload_n 0, 1, 4), (4, .getfield 44, 3, 7), (7, .if_icmp .ge 37, 3, 10), (10, .aload_n 0, 1, 11), (11, .getfield 11, 3, 14), (14, .iload_n 2, 1, 15), (15, .aaload, 1, 16), (16, .getfield 37, 3, 19), (19, .astore_n 3, 1, 20), (20, .aload_n 3, 1, 21), (21, .getfield 98, 3, 24), (24, .iconst 2, 1, 25), (25, .if_icmp .ne 13, 3, 28), (28, .aload_n 3, 1, 29), (29, .getfield 151, 3, 32), (32, .iload_n 1, 1, 33), (33, .if_icmp .ne 5, 3, 36), (36, .aload_n 3, 1, 37), (37, .areturn, 1, 38), (38, .iinc 2 1, 3, 41), (41, .goto (-39), 3, 44), (44, .aconst_null, 1, 45), (45, .areturn, 1, 46)]
theorem dk_X0_openOf : sw_dc cX0_openOf L_X0_openOf = true := by decide +kernel
def f_X0_openOf_2 (σ : sw_St)  : Nat → Int32 → Int32 → Option Nat
  | 0 => fun _ _ => none
  | n + 1 => fun x1 x2 => if (σ 2 4) ≤ x2 then (some 0) else (sw_ck (sw_in x2 4) (if (σ ((8 + 9 * sw_ix x2) + 6) 1) = 2 then (if (σ ((8 + 9 * sw_ix x2) + 6) 3) = x1 then (some ((8 + 9 * sw_ix x2) + 6)) else ((f_X0_openOf_2 σ n) x1 (x2 + 1))) else ((f_X0_openOf_2 σ n) x1 (x2 + 1))))
def f_X0_openOf (σ : sw_St) (x1 : Int32) : Option Nat := f_X0_openOf_2 σ sw_fuel x1 0
set_option maxHeartbeats 1000000 in
set_option maxRecDepth 100000 in
theorem s_X0_openOf_2 {V : sw_V} (C : sw_Cx sw_ZX V cX0_openOf RX0 4 (some (.object "SplitWatch$Request")) L_X0_openOf 0) (σ : sw_St) : ∀ (n : Nat) (x1 : Int32) (x2 : Int32), sw_S sw_ZX V (sw_eR V.2.2.2.2.2 σ) [some (sw_r V 2), some (.int x1), some (.int x2), none] [] 2 σ (f_X0_openOf_2 σ n x1 x2) := by
  intro n
  induction n with
  | zero =>
    intro x1 x2
    exact g_none
  | succ n ih =>
    intro x1 x2
    rw [f_X0_openOf_2]
    refine g_iload_n C 2 rfl rfl ?_
    refine g_aload_n C 3 rfl rfl ?_
    refine g_getI C 4 rfl fl_X0_44 rfl rfl ?_
    refine g_icmp_ge C 5 rfl 44 (by decide) ?_ ?_
    · refine g_null C 24 rfl ?_
      exact g_aret C 25 rfl rfl
    · refine g_aload_n C 6 rfl rfl ?_
      refine g_getR C 7 rfl fl_X0_11 rfl rfl ?_
      refine g_iload_n C 8 rfl rfl ?_
      refine g_ck fun h1 => ?_
      refine g_aald C 9 rfl rfl rfl h1 (tg_cores h1) ?_
      refine g_getR C 10 rfl fl_X0_37 (sh_C (kd_cores h1)) rfl ?_
      refine g_astore_n C 11 rfl (Nat.le_of_ble_eq_true rfl) (Or.inr (Or.inr (Or.inl ⟨_, rfl⟩))) ?_
      refine g_aload_n C 12 rfl rfl ?_
      refine g_getI C 13 rfl fl_X0_98 (sh_Q (kd_CQ (kd_cores h1))) rfl ?_
      refine g_iconst C 14 rfl 2 (by decide) ?_
      refine g_icmp_ne C 15 rfl 38 (by decide) ?_ ?_
      · refine g_iinc C 22 rfl 1 (by decide) rfl (Nat.le_of_ble_eq_true rfl) (Or.inr (Or.inr (Or.inl ⟨_, rfl⟩))) ?_
        refine g_goto C 23 rfl 2 (by decide) ?_
        exact g_wk (ih x1 (x2 + 1)) ⟨rfl, rfl, rfl, trivial⟩
      · refine g_aload_n C 16 rfl rfl ?_
        refine g_getI C 17 rfl fl_X0_151 (sh_Q (kd_CQ (kd_cores h1))) rfl ?_
        refine g_iload_n C 18 rfl rfl ?_
        refine g_icmp_ne C 19 rfl 38 (by decide) ?_ ?_
        · refine g_iinc C 22 rfl 1 (by decide) rfl (Nat.le_of_ble_eq_true rfl) (Or.inr (Or.inr (Or.inl ⟨_, rfl⟩))) ?_
          refine g_goto C 23 rfl 2 (by decide) ?_
          exact g_wk (ih x1 (x2 + 1)) ⟨rfl, rfl, rfl, trivial⟩
        · refine g_aload_n C 20 rfl rfl ?_
          exact g_aret C 21 rfl rfl
set_option maxHeartbeats 1000000 in
set_option maxRecDepth 100000 in
theorem s_X0_openOf {V : sw_V} (C : sw_Cx sw_ZX V cX0_openOf RX0 4 (some (.object "SplitWatch$Request")) L_X0_openOf 0) (σ : sw_St) (x1 : Int32) : sw_S sw_ZX V (sw_eR V.2.2.2.2.2 σ) [some (sw_r V 2), some (.int x1), none, none] [] 0 σ (f_X0_openOf σ x1) := by
  unfold f_X0_openOf
  refine g_iconst C 0 rfl 0 (by decide) ?_
  refine g_istore_n C 1 rfl (Nat.le_of_ble_eq_true rfl) (Or.inr (Or.inr (Or.inl ⟨_, rfl⟩))) ?_
  exact g_wk (s_X0_openOf_2 C σ sw_fuel x1 0) ⟨rfl, rfl, rfl, trivial⟩
set_option maxHeartbeats 1000000 in
set_option maxRecDepth 100000 in
theorem m_X0_openOf (l : Launch) (dC : Nat → ClassId) (dI : Nat → Nat → Nat) (dA : Nat → ClassId) (ad : Nat → Nat) (hI : sw_inj sw_ZX ad) (σ : sw_St) (x1 : Int32) (b : Nat) (hb : f_X0_openOf σ x1 = some b) : sw_M sw_ZX l yX0_openOf cX0_openOf 4 (some (.object "SplitWatch$Request")) 0 dC dI dA ad [(sw_rv ad 2), (.int x1)] σ ((sw_eR ad σ) b) :=
  sw_mk1 (ψ := (sw_eR ad σ)) 2 (by decide) sw_ZXok hI dk_X0_openOf rfl (sw_c1_all _ ⟨sw_rv_cat _ _, rfl, trivial⟩) hb (fun p e R M C => s_X0_openOf C σ x1)
/-! SplitWatch$Bus.keyOf(LSplitWatch$Request;)I -/
def L_X0_keyOf : sw_Is := [(0, .aload_n 1, 1, 1), (1, .getfield 162, 3, 4), (4, .iconst 3, 1, 5), (5, .if_icmp .lt 18, 3, 8), (8, .aload_n 0, 1, 9), (9, .aload_n 1, 1, 10), (10, .getfield 151, 3, 13), (13, .invokevirtual 199, 3, 16), (16, .ifnonnull 7, 3, 19), (19, .iconst 1, 1, 20), (20, .goto 4, 3, 23), (23, .iconst 0, 1, 24), (24, .istore_n 2, 1, 25), (25, .iload_n 2, 1, 26), (26, .ifCond .eq 13, 3, 29), (29, .aload_n 1, 1, 30), (30, .getfield 159, 3, 33), (33, .ldc 236, 2, 35), (35, .isub, 1, 36), (36, .goto 7, 3, 39), (39, .aload_n 1, 1, 40), (40, .getfield 159, 3, 43), (43, .ireturn, 1, 44)]
theorem dk_X0_keyOf : sw_dc cX0_keyOf L_X0_keyOf = true := by decide +kernel
def f_X0_keyOf_24 (σ : sw_St)  (x1 : Nat) (y0 : Int32) : Option Int32 := if y0 = 0 then (sw_ck (sw_isQ x1) (some (σ x1 6))) else (sw_ck (sw_isQ x1) (some ((σ x1 6) - 1073741824)))
def f_X0_keyOf_23 (σ : sw_St)  (x1 : Nat) : Option Int32 := f_X0_keyOf_24 σ x1 0
def f_X0_keyOf (σ : sw_St) (x1 : Nat) : Option Int32 := sw_ck (sw_isQ x1) (if (σ x1 7) < 3 then (f_X0_keyOf_23 σ x1) else ((f_X0_openOf σ (σ x1 3)).bind fun r2 => (if r2 = 0 then (f_X0_keyOf_24 σ x1 1) else (f_X0_keyOf_23 σ x1))))
set_option maxHeartbeats 1000000 in
set_option maxRecDepth 100000 in
theorem s_X0_keyOf_24 {V : sw_V} (C : sw_Cx sw_ZX V cX0_keyOf RX0 3 (some .int) L_X0_keyOf 1) (σ : sw_St) (x1 : Nat) (y0 : Int32) : sw_S sw_ZX V (sw_eP σ) [none, some (sw_r V x1), none] [(.int y0)] 24 σ (f_X0_keyOf_24 σ x1 y0) := by
  unfold f_X0_keyOf_24
  refine g_istore_n C 12 rfl (Nat.le_of_ble_eq_true rfl) (Or.inr (Or.inr (Or.inr ⟨_, rfl⟩))) ?_
  refine g_iload_n C 13 rfl rfl ?_
  refine g_if_eq C 14 rfl 39 (by decide) ?_ ?_
  · refine g_aload_n C 20 rfl rfl ?_
    refine g_ck fun h1 => ?_
    refine g_getI C 21 rfl fl_X0_159 (sh_Q h1) rfl ?_
    skip
    exact g_iret C 22 rfl rfl
  · refine g_aload_n C 15 rfl rfl ?_
    refine g_ck fun h2 => ?_
    refine g_getI C 16 rfl fl_X0_159 (sh_Q h2) rfl ?_
    refine g_ldc C 17 rfl 1073741824 q_472 ?_
    refine g_isub C 18 rfl ?_
    refine g_goto C 19 rfl 43 (by decide) ?_
    skip
    exact g_iret C 22 rfl rfl
set_option maxHeartbeats 1000000 in
set_option maxRecDepth 100000 in
theorem s_X0_keyOf_23 {V : sw_V} (C : sw_Cx sw_ZX V cX0_keyOf RX0 3 (some .int) L_X0_keyOf 1) (σ : sw_St) (x1 : Nat) : sw_S sw_ZX V (sw_eP σ) [none, some (sw_r V x1), none] [] 23 σ (f_X0_keyOf_23 σ x1) := by
  unfold f_X0_keyOf_23
  refine g_iconst C 11 rfl 0 (by decide) ?_
  exact g_wk (s_X0_keyOf_24 C σ x1 0) ⟨rfl, trivial⟩
set_option maxHeartbeats 1000000 in
set_option maxRecDepth 100000 in
theorem s_X0_keyOf {V : sw_V} (C : sw_Cx sw_ZX V cX0_keyOf RX0 3 (some .int) L_X0_keyOf 1) (σ : sw_St) (x1 : Nat) : sw_S sw_ZX V (sw_eP σ) [some (sw_r V 2), some (sw_r V x1), none] [] 0 σ (f_X0_keyOf σ x1) := by
  unfold f_X0_keyOf
  refine g_aload_n C 0 rfl rfl ?_
  refine g_ck fun h1 => ?_
  refine g_getI C 1 rfl fl_X0_162 (sh_Q h1) rfl ?_
  refine g_iconst C 2 rfl 3 (by decide) ?_
  refine g_icmp_lt C 3 rfl 23 (by decide) ?_ ?_
  · exact g_wk (s_X0_keyOf_23 C σ x1) ⟨rfl, trivial⟩
  · refine g_aload_n C 4 rfl rfl ?_
    refine g_aload_n C 5 rfl rfl ?_
    refine g_getI C 6 rfl fl_X0_151 (sh_Q h1) rfl ?_
    refine g_callV (ψ₁ := sw_eR V.2.2.2.2.2 σ) C 7 rfl [(.int (σ x1 3))] [] ml_X0_199 rfl (Nat.le_of_ble_eq_true rfl) (by decide) rfl rfl (fun b hb => m_X0_openOf V.1.2.1 _ _ _ _ C.inj σ (σ x1 3) b hb) rfl (g_cR fun r2 => ?_)
    refine g_ifnonnull C 8 rfl 23 (by decide) ?_ ?_
    · exact g_wk (s_X0_keyOf_23 C σ x1) ⟨rfl, trivial⟩
    · refine g_iconst C 9 rfl 1 (by decide) ?_
      refine g_goto C 10 rfl 24 (by decide) ?_
      exact g_wk (s_X0_keyOf_24 C σ x1 1) ⟨rfl, trivial⟩
set_option maxHeartbeats 1000000 in
set_option maxRecDepth 100000 in
theorem m_X0_keyOf (l : Launch) (dC : Nat → ClassId) (dI : Nat → Nat → Nat) (dA : Nat → ClassId) (ad : Nat → Nat) (hI : sw_inj sw_ZX ad) (σ : sw_St) (x1 : Nat) (b : Int32) (hb : f_X0_keyOf σ x1 = some b) : sw_M sw_ZX l yX0_keyOf cX0_keyOf 3 (some .int) 1 dC dI dA ad [(sw_rv ad 2), (sw_rv ad x1)] σ ((sw_eP σ) b) :=
  sw_mk1 (ψ := (sw_eP σ)) 1 (by decide) sw_ZXok hI dk_X0_keyOf rfl (sw_c1_all _ ⟨sw_rv_cat _ _, sw_rv_cat _ _, trivial⟩) hb (fun p e R M C => s_X0_keyOf C σ x1)
/-! SplitWatch$Bus.nextWaiting()LSplitWatch$Request; -/
def L_X0_nextWaiting : sw_Is := [(0, .aconst_null, 1, 1), (1, .astore_n 1, 1, 2), (2, .iconst 0, 1, 3), (3, .istore_n 2, 1, 4), (4, .iload_n 2, 1, 5), (5, .aload_n 0, 1, 6), (6, .getfield 19, 3, 9), (9, .arraylength, 1, 10), (10, .if_icmp .ge 43, 3, 13), (13, .aload_n 0, 1, 14), (14, .getfield 19, 3, 17), (17, .iload_n 2, 1, 18), (18, .aaload, 1, 19), (19, .astore_n 3, 1, 20), (20, .aload_n 3, 1, 21), (21, .getfield 98, 3, 24), (24, .iconst 1, 1, 25), (25, .if_icmp .ne 22, 3, 28), (28, .aload_n 1, 1, 29), (29, .ifnull 16, 3, 32), (32, .aload_n 0, 1, 33), (33, .aload_n 3, 1, 34), (34, .invokevirtual 237, 3, 37), (37, .aload_n 0, 1, 38), (38, .aload_n 1, 1, 39), (39, .invokevirtual 237, 3, 42), (42, .if_icmp .ge 5, 3, 45), (45, .aload_n 3, 1, 46), (46, .astore_n 1, 1, 47), (47, .iinc 2 1, 3, 50), (50, .goto (-46), 3, 53), (53, .aload_n 1, 1, 54), (54, .areturn, 1, 55)]
theorem dk_X0_nextWaiting : sw_dc cX0_nextWaiting L_X0_nextWaiting = true := by decide +kernel
def f_X0_nextWaiting_45 (σ : sw_St) (k4 : Nat → Int32 → Option Nat) (x2 : Int32) (x3 : Nat) : Option Nat := k4 x3 (x2 + 1)
def f_X0_nextWaiting_4 (σ : sw_St)  : Nat → Nat → Int32 → Option Nat
  | 0 => fun _ _ => none
  | n + 1 => fun x1 x2 => if 12 ≤ x2 then (some x1) else (sw_ck (sw_in x2 12) (if (σ (sw_rq (sw_ix x2)) 1) = 1 then (if x1 = 0 then (f_X0_nextWaiting_45 σ (f_X0_nextWaiting_4 σ n) x2 (sw_rq (sw_ix x2))) else ((f_X0_keyOf σ (sw_rq (sw_ix x2))).bind fun r2 => ((f_X0_keyOf σ x1).bind fun r3 => (if r3 ≤ r2 then ((f_X0_nextWaiting_4 σ n) x1 (x2 + 1)) else (f_X0_nextWaiting_45 σ (f_X0_nextWaiting_4 σ n) x2 (sw_rq (sw_ix x2))))))) else ((f_X0_nextWaiting_4 σ n) x1 (x2 + 1))))
def f_X0_nextWaiting (σ : sw_St)  : Option Nat := f_X0_nextWaiting_4 σ sw_fuel 0 0
set_option maxHeartbeats 1000000 in
set_option maxRecDepth 100000 in
theorem s_X0_nextWaiting_45 {V : sw_V} (C : sw_Cx sw_ZX V cX0_nextWaiting RX0 4 (some (.object "SplitWatch$Request")) L_X0_nextWaiting 2) (σ : sw_St) (k4 : Nat → Int32 → Option Nat) (hk4 : ∀ (x1 : Nat) (x2 : Int32), sw_S sw_ZX V (sw_eR V.2.2.2.2.2 σ) [some (sw_r V 2), some (sw_r V x1), some (.int x2), none] [] 4 σ (k4 x1 x2)) (x2 : Int32) (x3 : Nat) : sw_S sw_ZX V (sw_eR V.2.2.2.2.2 σ) [some (sw_r V 2), none, some (.int x2), some (sw_r V x3)] [] 45 σ (f_X0_nextWaiting_45 σ k4 x2 x3) := by
  unfold f_X0_nextWaiting_45
  refine g_aload_n C 27 rfl rfl ?_
  refine g_astore_n C 28 rfl (Nat.le_of_ble_eq_true rfl) (Or.inr (Or.inr (Or.inr ⟨_, rfl⟩))) ?_
  refine g_iinc C 29 rfl 1 (by decide) rfl (Nat.le_of_ble_eq_true rfl) (Or.inr (Or.inr (Or.inr ⟨_, rfl⟩))) ?_
  refine g_goto C 30 rfl 4 (by decide) ?_
  exact g_wk (hk4 x3 (x2 + 1)) ⟨rfl, rfl, rfl, trivial⟩
set_option maxHeartbeats 1000000 in
set_option maxRecDepth 100000 in
theorem s_X0_nextWaiting_4 {V : sw_V} (C : sw_Cx sw_ZX V cX0_nextWaiting RX0 4 (some (.object "SplitWatch$Request")) L_X0_nextWaiting 2) (σ : sw_St) : ∀ (n : Nat) (x1 : Nat) (x2 : Int32), sw_S sw_ZX V (sw_eR V.2.2.2.2.2 σ) [some (sw_r V 2), some (sw_r V x1), some (.int x2), none] [] 4 σ (f_X0_nextWaiting_4 σ n x1 x2) := by
  intro n
  induction n with
  | zero =>
    intro x1 x2
    exact g_none
  | succ n ih =>
    intro x1 x2
    rw [f_X0_nextWaiting_4]
    refine g_iload_n C 4 rfl rfl ?_
    refine g_aload_n C 5 rfl rfl ?_
    refine g_getR C 6 rfl fl_X0_19 rfl rfl ?_
    refine g_alen C 7 rfl rfl (by decide) 12 (by decide) ?_
    refine g_icmp_ge C 8 rfl 53 (by decide) ?_ ?_
    · refine g_aload_n C 31 rfl rfl ?_
      exact g_aret C 32 rfl rfl
    · refine g_aload_n C 9 rfl rfl ?_
      refine g_getR C 10 rfl fl_X0_19 rfl rfl ?_
      refine g_iload_n C 11 rfl rfl ?_
      refine g_ck fun h1 => ?_
      refine g_aald C 12 rfl rfl rfl h1 (tg_reqs h1) ?_
      refine g_astore_n C 13 rfl (Nat.le_of_ble_eq_true rfl) (Or.inr (Or.inr (Or.inl ⟨_, rfl⟩))) ?_
      refine g_aload_n C 14 rfl rfl ?_
      refine g_getI C 15 rfl fl_X0_98 (sh_Q (kd_reqs h1)) rfl ?_
      refine g_iconst C 16 rfl 1 (by decide) ?_
      refine g_icmp_ne C 17 rfl 47 (by decide) ?_ ?_
      · refine g_iinc C 29 rfl 1 (by decide) rfl (Nat.le_of_ble_eq_true rfl) (Or.inr (Or.inr (Or.inr ⟨_, rfl⟩))) ?_
        refine g_goto C 30 rfl 4 (by decide) ?_
        exact g_wk (ih x1 (x2 + 1)) ⟨rfl, rfl, rfl, trivial⟩
      · refine g_aload_n C 18 rfl rfl ?_
        refine g_ifnull C 19 rfl 45 (by decide) ?_ ?_
        · exact g_wk (s_X0_nextWaiting_45 C σ (f_X0_nextWaiting_4 σ n) ih x2 (sw_rq (sw_ix x2))) ⟨rfl, rfl, rfl, trivial⟩
        · refine g_aload_n C 20 rfl rfl ?_
          refine g_aload_n C 21 rfl rfl ?_
          refine g_callV (ψ₁ := sw_eP σ) C 22 rfl [(sw_r V (sw_rq (sw_ix x2)))] [] ml_X0_237 rfl (Nat.le_of_ble_eq_true rfl) (by decide) rfl rfl (fun b hb => m_X0_keyOf V.1.2.1 _ _ _ _ C.inj σ (sw_rq (sw_ix x2)) b hb) rfl (g_cP fun r2 => ?_)
          refine g_aload_n C 23 rfl rfl ?_
          refine g_aload_n C 24 rfl rfl ?_
          refine g_callV (ψ₁ := sw_eP σ) C 25 rfl [(sw_r V x1)] [(.int r2)] ml_X0_237 rfl (Nat.le_of_ble_eq_true rfl) (by decide) rfl rfl (fun b hb => m_X0_keyOf V.1.2.1 _ _ _ _ C.inj σ x1 b hb) rfl (g_cP fun r3 => ?_)
          refine g_icmp_ge C 26 rfl 47 (by decide) ?_ ?_
          · refine g_iinc C 29 rfl 1 (by decide) rfl (Nat.le_of_ble_eq_true rfl) (Or.inr (Or.inr (Or.inr ⟨_, rfl⟩))) ?_
            refine g_goto C 30 rfl 4 (by decide) ?_
            exact g_wk (ih x1 (x2 + 1)) ⟨rfl, rfl, rfl, trivial⟩
          · exact g_wk (s_X0_nextWaiting_45 C σ (f_X0_nextWaiting_4 σ n) ih x2 (sw_rq (sw_ix x2))) ⟨rfl, rfl, rfl, trivial⟩
set_option maxHeartbeats 1000000 in
set_option maxRecDepth 100000 in
theorem s_X0_nextWaiting {V : sw_V} (C : sw_Cx sw_ZX V cX0_nextWaiting RX0 4 (some (.object "SplitWatch$Request")) L_X0_nextWaiting 2) (σ : sw_St)  : sw_S sw_ZX V (sw_eR V.2.2.2.2.2 σ) [some (sw_r V 2), none, none, none] [] 0 σ (f_X0_nextWaiting σ) := by
  unfold f_X0_nextWaiting
  refine g_null C 0 rfl ?_
  refine g_astore_n C 1 rfl (Nat.le_of_ble_eq_true rfl) (Or.inr (Or.inr (Or.inr ⟨_, rfl⟩))) ?_
  refine g_iconst C 2 rfl 0 (by decide) ?_
  refine g_istore_n C 3 rfl (Nat.le_of_ble_eq_true rfl) (Or.inr (Or.inr (Or.inr ⟨_, rfl⟩))) ?_
  exact g_wk (s_X0_nextWaiting_4 C σ sw_fuel 0 0) ⟨rfl, rfl, rfl, trivial⟩
set_option maxHeartbeats 1000000 in
set_option maxRecDepth 100000 in
theorem m_X0_nextWaiting (l : Launch) (dC : Nat → ClassId) (dI : Nat → Nat → Nat) (dA : Nat → ClassId) (ad : Nat → Nat) (hI : sw_inj sw_ZX ad) (σ : sw_St)  (b : Nat) (hb : f_X0_nextWaiting σ = some b) : sw_M sw_ZX l yX0_nextWaiting cX0_nextWaiting 4 (some (.object "SplitWatch$Request")) 2 dC dI dA ad [(sw_rv ad 2)] σ ((sw_eR ad σ) b) :=
  sw_mk1 (ψ := (sw_eR ad σ)) 3 (by decide) sw_ZXok hI dk_X0_nextWaiting rfl (sw_c1_all _ ⟨sw_rv_cat _ _, trivial⟩) hb (fun p e R M C => s_X0_nextWaiting C σ)
/-! SplitWatch$Bus.sendAway(LSplitWatch$Request;)V -/
def L_X0_sendAway : sw_Is := [(0, .aload_n 1, 1, 1), (1, .dup, 1, 2), (2, .getfield 162, 3, 5), (5, .iconst 1, 1, 6), (6, .iadd, 1, 7), (7, .putfield 162, 3, 10), (10, .aload_n 1, 1, 11), (11, .aload_n 0, 1, 12), (12, .getfield 60, 3, 15), (15, .putfield 159, 3, 18), (18, .aload_n 0, 1, 19), (19, .dup, 1, 20), (20, .getfield 60, 3, 23), (23, .iconst 1, 1, 24), (24, .iadd, 1, 25), (25, .putfield 60, 3, 28), (28, .aload_n 0, 1, 29), (29, .dup, 1, 30), (30, .getfield 63, 3, 33), (33, .iconst 1, 1, 34), (34, .iadd, 1, 35), (35, .putfield 63, 3, 38), (38, .return_, 1, 39)]
theorem dk_X0_sendAway : sw_dc cX0_sendAway L_X0_sendAway = true := by decide +kernel
def f_X0_sendAway (σ : sw_St) (x1 : Nat) : Option sw_St := sw_ck (sw_isQ x1) (sw_pt σ x1 7 ((σ x1 7) + 1) fun s2 => (sw_pt s2 x1 6 (s2 2 9) fun s3 => (sw_pt s3 2 9 ((s3 2 9) + 1) fun s4 => (sw_pt s4 2 10 ((s4 2 10) + 1) fun s5 => (some s5)))))
set_option maxHeartbeats 1000000 in
set_option maxRecDepth 100000 in
theorem s_X0_sendAway {V : sw_V} (C : sw_Cx sw_ZX V cX0_sendAway RX0 2 none L_X0_sendAway 0) (σ : sw_St) (x1 : Nat) : sw_S sw_ZX V sw_eV [some (sw_r V 2), some (sw_r V x1)] [] 0 σ (f_X0_sendAway σ x1) := by
  unfold f_X0_sendAway
  refine g_aload_n C 0 rfl rfl ?_
  refine g_dupR C 1 rfl ?_
  refine g_ck fun h1 => ?_
  refine g_getI C 2 rfl fl_X0_162 (sh_Q h1) rfl ?_
  refine g_iconst C 3 rfl 1 (by decide) ?_
  refine g_iadd C 4 rfl ?_
  refine g_put C 5 rfl fp_X0_162 (sh_Q h1) rfl (fun s2 => ?_)
  refine g_aload_n C 6 rfl rfl ?_
  refine g_aload_n C 7 rfl rfl ?_
  refine g_getI C 8 rfl fl_X0_60 rfl rfl ?_
  refine g_put C 9 rfl fp_X0_159 (sh_Q h1) rfl (fun s3 => ?_)
  refine g_aload_n C 10 rfl rfl ?_
  refine g_dupR C 11 rfl ?_
  refine g_getI C 12 rfl fl_X0_60 rfl rfl ?_
  refine g_iconst C 13 rfl 1 (by decide) ?_
  refine g_iadd C 14 rfl ?_
  refine g_put C 15 rfl fp_X0_60 rfl rfl (fun s4 => ?_)
  refine g_aload_n C 16 rfl rfl ?_
  refine g_dupR C 17 rfl ?_
  refine g_getI C 18 rfl fl_X0_63 rfl rfl ?_
  refine g_iconst C 19 rfl 1 (by decide) ?_
  refine g_iadd C 20 rfl ?_
  refine g_put C 21 rfl fp_X0_63 rfl rfl (fun s5 => ?_)
  exact g_vret C 22 rfl rfl
set_option maxHeartbeats 1000000 in
set_option maxRecDepth 100000 in
theorem m_X0_sendAway (l : Launch) (dC : Nat → ClassId) (dI : Nat → Nat → Nat) (dA : Nat → ClassId) (ad : Nat → Nat) (hI : sw_inj sw_ZX ad) (σ : sw_St) (x1 : Nat) (b : sw_St) (hb : f_X0_sendAway σ x1 = some b) : sw_M sw_ZX l yX0_sendAway cX0_sendAway 2 none 0 dC dI dA ad [(sw_rv ad 2), (sw_rv ad x1)] σ (sw_eV b) :=
  sw_mk1 (ψ := sw_eV) 0 (by decide) sw_ZXok hI dk_X0_sendAway rfl (sw_c1_all _ ⟨sw_rv_cat _ _, sw_rv_cat _ _, trivial⟩) hb (fun p e R M C => s_X0_sendAway C σ x1)
/-! SplitWatch$Log.add(ICI)V -/
def L_X3_add : sw_Is := [(0, .aload_n 0, 1, 1), (1, .getfield 22, 3, 4), (4, .iconst 3, 1, 5), (5, .imul, 1, 6), (6, .istore 4, 2, 8), (8, .aload_n 0, 1, 9), (9, .getfield 11, 3, 12), (12, .iload 4, 2, 14), (14, .bipush 48, 2, 16), (16, .iload_n 1, 1, 17), (17, .iadd, 1, 18), (18, .i2c, 1, 19), (19, .castore, 1, 20), (20, .aload_n 0, 1, 21), (21, .getfield 11, 3, 24), (24, .iload 4, 2, 26), (26, .iconst 1, 1, 27), (27, .iadd, 1, 28), (28, .iload_n 2, 1, 29), (29, .castore, 1, 30), (30, .aload_n 0, 1, 31), (31, .getfield 11, 3, 34), (34, .iload 4, 2, 36), (36, .iconst 2, 1, 37), (37, .iadd, 1, 38), (38, .bipush 48, 2, 40), (40, .iload_n 3, 1, 41), (41, .iadd, 1, 42), (42, .i2c, 1, 43), (43, .castore, 1, 44), (44, .aload_n 0, 1, 45), (45, .dup, 1, 46), (46, .getfield 15, 3, 49), (49, .iconst 1, 1, 50), (50, .iadd, 1, 51), (51, .putfield 15, 3, 54), (54, .aload_n 0, 1, 55), (55, .aload_n 0, 1, 56), (56, .getfield 19, 3, 59), (59, .iconst 1, 1, 60), (60, .iadd, 1, 61), (61, .bipush 16, 2, 63), (63, .invokestatic 25, 3, 66), (66, .putfield 19, 3, 69), (69, .aload_n 0, 1, 70), (70, .aload_n 0, 1, 71), (71, .getfield 22, 3, 74), (74, .iconst 1, 1, 75), (75, .iadd, 1, 76), (76, .bipush 16, 2, 78), (78, .irem, 1, 79), (79, .putfield 22, 3, 82), (82, .return_, 1, 83)]
theorem dk_X3_add : sw_dc cX3_add L_X3_add = true := by decide +kernel
def f_X3_add (σ : sw_St) (x1 : Int32) (x2 : Int32) (x3 : Int32) : Option sw_St := sw_ck (sw_in ((σ 6 3) * 3) 48) (sw_pt σ 7 (sw_ix ((σ 6 3) * 3)) (vp_nar .char (sw_c16 (48 + x1))) fun s2 => (sw_ck (sw_in (((σ 6 3) * 3) + 1) 48) (sw_pt s2 7 (sw_ix (((σ 6 3) * 3) + 1)) (vp_nar .char x2) fun s4 => (sw_ck (sw_in (((σ 6 3) * 3) + 2) 48) (sw_pt s4 7 (sw_ix (((σ 6 3) * 3) + 2)) (vp_nar .char (sw_c16 (48 + x3))) fun s6 => (sw_pt s6 6 1 ((s6 6 1) + 1) fun s7 => (sw_pt s7 6 2 (if 16 < ((s7 6 2) + 1) then 16 else ((s7 6 2) + 1)) fun s8 => (sw_pt s8 6 3 (sw_rem ((s8 6 3) + 1) 16) fun s9 => (some s9)))))))))
set_option maxHeartbeats 1000000 in
set_option maxRecDepth 100000 in
theorem s_X3_add {V : sw_V} (C : sw_Cx sw_ZX V cX3_add RX3 5 none L_X3_add 1) (σ : sw_St) (x1 : Int32) (x2 : Int32) (x3 : Int32) : sw_S sw_ZX V sw_eV [some (sw_r V 6), some (.int x1), some (.int x2), some (.int x3), none] [] 0 σ (f_X3_add σ x1 x2 x3) := by
  unfold f_X3_add
  refine g_aload_n C 0 rfl rfl ?_
  refine g_getI C 1 rfl fl_X3_22 rfl rfl ?_
  refine g_iconst C 2 rfl 3 (by decide) ?_
  refine g_imul C 3 rfl ?_
  refine g_istore C 4 rfl (Nat.le_of_ble_eq_true rfl) (Or.inr (Or.inr (Or.inl ⟨_, rfl⟩))) ?_
  refine g_aload_n C 5 rfl rfl ?_
  refine g_getR C 6 rfl fl_X3_11 rfl rfl ?_
  refine g_iload C 7 rfl rfl ?_
  refine g_bipush C 8 rfl 48 (by decide) ?_
  refine g_iload_n C 9 rfl rfl ?_
  refine g_iadd C 10 rfl ?_
  refine g_i2c C 11 rfl ?_
  refine g_ck fun h1 => ?_
  refine g_cast C 12 rfl rfl h1 (fun s2 => ?_)
  refine g_aload_n C 13 rfl rfl ?_
  refine g_getR C 14 rfl fl_X3_11 rfl rfl ?_
  refine g_iload C 15 rfl rfl ?_
  refine g_iconst C 16 rfl 1 (by decide) ?_
  refine g_iadd C 17 rfl ?_
  refine g_iload_n C 18 rfl rfl ?_
  refine g_ck fun h3 => ?_
  refine g_cast C 19 rfl rfl h3 (fun s4 => ?_)
  refine g_aload_n C 20 rfl rfl ?_
  refine g_getR C 21 rfl fl_X3_11 rfl rfl ?_
  refine g_iload C 22 rfl rfl ?_
  refine g_iconst C 23 rfl 2 (by decide) ?_
  refine g_iadd C 24 rfl ?_
  refine g_bipush C 25 rfl 48 (by decide) ?_
  refine g_iload_n C 26 rfl rfl ?_
  refine g_iadd C 27 rfl ?_
  refine g_i2c C 28 rfl ?_
  refine g_ck fun h5 => ?_
  refine g_cast C 29 rfl rfl h5 (fun s6 => ?_)
  refine g_aload_n C 30 rfl rfl ?_
  refine g_dupR C 31 rfl ?_
  refine g_getI C 32 rfl fl_X3_15 rfl rfl ?_
  refine g_iconst C 33 rfl 1 (by decide) ?_
  refine g_iadd C 34 rfl ?_
  refine g_put C 35 rfl fp_X3_15 rfl rfl (fun s7 => ?_)
  refine g_aload_n C 36 rfl rfl ?_
  refine g_aload_n C 37 rfl rfl ?_
  refine g_getI C 38 rfl fl_X3_19 rfl rfl ?_
  refine g_iconst C 39 rfl 1 (by decide) ?_
  refine g_iadd C 40 rfl ?_
  refine g_bipush C 41 rfl 16 (by decide) ?_
  refine g_mmin C 42 rfl q_485 q_486 q_104 q_487 (by decide) (Nat.le_of_ble_eq_true rfl) ?_
  refine g_put C 43 rfl fp_X3_19 rfl rfl (fun s8 => ?_)
  refine g_aload_n C 44 rfl rfl ?_
  refine g_aload_n C 45 rfl rfl ?_
  refine g_getI C 46 rfl fl_X3_22 rfl rfl ?_
  refine g_iconst C 47 rfl 1 (by decide) ?_
  refine g_iadd C 48 rfl ?_
  refine g_bipush C 49 rfl 16 (by decide) ?_
  refine g_irem C 50 rfl (by decide) ?_
  refine g_put C 51 rfl fp_X3_22 rfl rfl (fun s9 => ?_)
  exact g_vret C 52 rfl rfl
set_option maxHeartbeats 1000000 in
set_option maxRecDepth 100000 in
theorem m_X3_add (l : Launch) (dC : Nat → ClassId) (dI : Nat → Nat → Nat) (dA : Nat → ClassId) (ad : Nat → Nat) (hI : sw_inj sw_ZX ad) (σ : sw_St) (x1 : Int32) (x2 : Int32) (x3 : Int32) (b : sw_St) (hb : f_X3_add σ x1 x2 x3 = some b) : sw_M sw_ZX l yX3_add cX3_add 5 none 1 dC dI dA ad [(sw_rv ad 6), (.int x1), (.int x2), (.int x3)] σ (sw_eV b) :=
  sw_mk1 (ψ := sw_eV) 1 (by decide) sw_ZXok hI dk_X3_add rfl (sw_c1_all _ ⟨sw_rv_cat _ _, rfl, rfl, rfl, trivial⟩) hb (fun p e R M C => s_X3_add C σ x1 x2 x3)
/-! SplitWatch$Bus.orderBack(LSplitWatch$Request;)V -/
def L_X0_orderBack : sw_Is := [(0, .aload_n 0, 1, 1), (1, .getfield 30, 3, 4), (4, .aload_n 1, 1, 5), (5, .getfield 190, 3, 8), (8, .bipush 66, 2, 10), (10, .aload_n 1, 1, 11), (11, .getfield 151, 3, 14), (14, .invokevirtual 219, 3, 17), (17, .aload_n 0, 1, 18), (18, .getfield 23, 3, 21), (21, .aload_n 1, 1, 22), (22, .getfield 151, 3, 25), (25, .aload_n 1, 1, 26), (26, .getfield 154, 3, 29), (29, .iastore, 1, 30), (30, .aload_n 1, 1, 31), (31, .iconst 0, 1, 32), (32, .putfield 98, 3, 35), (35, .return_, 1, 36)]
theorem dk_X0_orderBack : sw_dc cX0_orderBack L_X0_orderBack = true := by decide +kernel
def f_X0_orderBack (σ : sw_St) (x1 : Nat) : Option sw_St := sw_ck (sw_isQ x1) ((f_X3_add σ (σ x1 0) 66 (σ x1 3)).bind fun r2 => (sw_ck (sw_in (r2 x1 3) 8) (sw_pt r2 5 (sw_ix (r2 x1 3)) (r2 x1 4) fun s4 => (sw_pt s4 x1 1 0 fun s5 => (some s5)))))
set_option maxHeartbeats 1000000 in
set_option maxRecDepth 100000 in
theorem s_X0_orderBack {V : sw_V} (C : sw_Cx sw_ZX V cX0_orderBack RX0 2 none L_X0_orderBack 2) (σ : sw_St) (x1 : Nat) : sw_S sw_ZX V sw_eV [some (sw_r V 2), some (sw_r V x1)] [] 0 σ (f_X0_orderBack σ x1) := by
  unfold f_X0_orderBack
  refine g_aload_n C 0 rfl rfl ?_
  refine g_getR C 1 rfl fl_X0_30 rfl rfl ?_
  refine g_aload_n C 2 rfl rfl ?_
  refine g_ck fun h1 => ?_
  refine g_getI C 3 rfl fl_X0_190 (sh_Q h1) rfl ?_
  refine g_bipush C 4 rfl 66 (by decide) ?_
  refine g_aload_n C 5 rfl rfl ?_
  refine g_getI C 6 rfl fl_X0_151 (sh_Q h1) rfl ?_
  refine g_callV (ψ₁ := sw_eV) C 7 rfl [(.int (σ x1 0)), (.int 66), (.int (σ x1 3))] [] ml_X0_219 rfl (Nat.le_of_ble_eq_true rfl) (by decide) rfl rfl (fun b hb => m_X3_add V.1.2.1 _ _ _ _ C.inj σ (σ x1 0) 66 (σ x1 3) b hb) rfl (g_cV fun r2 => ?_)
  refine g_aload_n C 8 rfl rfl ?_
  refine g_getR C 9 rfl fl_X0_23 rfl rfl ?_
  refine g_aload_n C 10 rfl rfl ?_
  refine g_getI C 11 rfl fl_X0_151 (sh_Q h1) rfl ?_
  refine g_aload_n C 12 rfl rfl ?_
  refine g_getI C 13 rfl fl_X0_154 (sh_Q h1) rfl ?_
  refine g_ck fun h3 => ?_
  refine g_iast C 14 rfl rfl h3 (fun s4 => ?_)
  refine g_aload_n C 15 rfl rfl ?_
  refine g_iconst C 16 rfl 0 (by decide) ?_
  refine g_put C 17 rfl fp_X0_98 (sh_Q h1) rfl (fun s5 => ?_)
  exact g_vret C 18 rfl rfl
set_option maxHeartbeats 1000000 in
set_option maxRecDepth 100000 in
theorem m_X0_orderBack (l : Launch) (dC : Nat → ClassId) (dI : Nat → Nat → Nat) (dA : Nat → ClassId) (ad : Nat → Nat) (hI : sw_inj sw_ZX ad) (σ : sw_St) (x1 : Nat) (b : sw_St) (hb : f_X0_orderBack σ x1 = some b) : sw_M sw_ZX l yX0_orderBack cX0_orderBack 2 none 2 dC dI dA ad [(sw_rv ad 2), (sw_rv ad x1)] σ (sw_eV b) :=
  sw_mk1 (ψ := sw_eV) 0 (by decide) sw_ZXok hI dk_X0_orderBack rfl (sw_c1_all _ ⟨sw_rv_cat _ _, sw_rv_cat _ _, trivial⟩) hb (fun p e R M C => s_X0_orderBack C σ x1)
