set_option maxHeartbeats 1000000 in
set_option maxRecDepth 100000 in
theorem sB_X3_clear {V : sw_V} (C : sw_Cx sw_ZB V cX3_clear RX3 1 none L_X3_clear 0) (σ : sw_St)  : sw_S sw_ZB V sw_eV [some (sw_r V 6)] [] 0 σ (f_X3_clear σ) := by
  unfold f_X3_clear
  refine g_aload_n C 0 rfl rfl ?_
  refine g_iconst C 1 rfl 0 (by decide) ?_
  refine g_put C 2 rfl fp_X3_15 rfl rfl (fun s1 => ?_)
  refine g_aload_n C 3 rfl rfl ?_
  refine g_iconst C 4 rfl 0 (by decide) ?_
  refine g_put C 5 rfl fp_X3_19 rfl rfl (fun s2 => ?_)
  refine g_aload_n C 6 rfl rfl ?_
  refine g_iconst C 7 rfl 0 (by decide) ?_
  refine g_put C 8 rfl fp_X3_22 rfl rfl (fun s3 => ?_)
  exact g_vret C 9 rfl rfl
set_option maxHeartbeats 1000000 in
set_option maxRecDepth 100000 in
theorem mB_X3_clear (l : Launch) (dC : Nat → ClassId) (dI : Nat → Nat → Nat) (dA : Nat → ClassId) (ad : Nat → Nat) (hI : sw_inj sw_ZB ad) (σ : sw_St)  (b : sw_St) (hb : f_X3_clear σ = some b) : sw_M sw_ZB l yX3_clear cX3_clear 1 none 0 dC dI dA ad [(sw_rv ad 6)] σ (sw_eV b) :=
  sw_mk1 (ψ := sw_eV) 0 (by decide) sw_ZBok hI dk_X3_clear rfl (sw_c1_all _ ⟨sw_rv_cat _ _, trivial⟩) hb (fun p e R M C => sB_X3_clear C σ)
set_option maxHeartbeats 1000000 in
set_option maxRecDepth 100000 in
theorem sB_X1_clear_2 {V : sw_V} (C : sw_Cx sw_ZB V cX1_clear RX1 2 none L_X1_clear 0) : ∀ (n : Nat) (σ : sw_St) (x0 : Nat) (x1 : Int32), sw_S sw_ZB V sw_eV [some (sw_r V x0), some (.int x1)] [] 2 σ (f_X1_clear_2 n σ x0 x1) := by
  intro n
  induction n with
  | zero =>
    intro σ x0 x1
    exact g_none
  | succ n ih =>
    intro σ x0 x1
    rw [f_X1_clear_2]
    refine g_iload_n C 2 rfl rfl ?_
    refine g_bipush C 3 rfl 8 (by decide) ?_
    refine g_icmp_ge C 4 rfl 35 (by decide) ?_ ?_
    · refine g_aload_n C 22 rfl rfl ?_
      refine g_iconst C 23 rfl 0 (by decide) ?_
      refine g_ck fun h1 => ?_
      refine g_put C 24 rfl fp_X1_21 (shb_K h1) rfl (fun s2 => ?_)
      exact g_vret C 25 rfl rfl
    · refine g_aload_n C 5 rfl rfl ?_
      refine g_ck fun h3 => ?_
      refine g_getR C 6 rfl fl_X1_9 (shb_K h3) rfl ?_
      refine g_iload_n C 7 rfl rfl ?_
      refine g_iconst C 8 rfl 0 (by decide) ?_
      refine g_ck fun h4 => ?_
      refine g_iast C 9 rfl (shb_K0 h3) h4 (fun s5 => ?_)
      refine g_aload_n C 10 rfl rfl ?_
      refine g_getR C 11 rfl fl_X1_15 (shb_K h3) rfl ?_
      refine g_iload_n C 12 rfl rfl ?_
      refine g_iconst C 13 rfl 0 (by decide) ?_
      refine g_iast C 14 rfl (shb_K1 h3) h4 (fun s6 => ?_)
      refine g_aload_n C 15 rfl rfl ?_
      refine g_getR C 16 rfl fl_X1_18 (shb_K h3) rfl ?_
      refine g_iload_n C 17 rfl rfl ?_
      refine g_iconst C 18 rfl 0 (by decide) ?_
      refine g_iast C 19 rfl (shb_K2 h3) h4 (fun s7 => ?_)
      refine g_iinc C 20 rfl 1 (by decide) rfl (Nat.le_of_ble_eq_true rfl) (Or.inr (Or.inr (Or.inr ⟨_, rfl⟩))) ?_
      refine g_goto C 21 rfl 2 (by decide) ?_
      exact g_wk (ih s7 x0 (x1 + 1)) ⟨rfl, rfl, trivial⟩
set_option maxHeartbeats 1000000 in
set_option maxRecDepth 100000 in
theorem sB_X1_clear {V : sw_V} (C : sw_Cx sw_ZB V cX1_clear RX1 2 none L_X1_clear 0) (σ : sw_St) (x0 : Nat) : sw_S sw_ZB V sw_eV [some (sw_r V x0), none] [] 0 σ (f_X1_clear σ x0) := by
  unfold f_X1_clear
  refine g_iconst C 0 rfl 0 (by decide) ?_
  refine g_istore_n C 1 rfl (Nat.le_of_ble_eq_true rfl) (Or.inr (Or.inr (Or.inr ⟨_, rfl⟩))) ?_
  exact g_wk (sB_X1_clear_2 C sw_fuel σ x0 0) ⟨rfl, rfl, trivial⟩
set_option maxHeartbeats 1000000 in
set_option maxRecDepth 100000 in
theorem mB_X1_clear (l : Launch) (dC : Nat → ClassId) (dI : Nat → Nat → Nat) (dA : Nat → ClassId) (ad : Nat → Nat) (hI : sw_inj sw_ZB ad) (σ : sw_St) (x0 : Nat) (b : sw_St) (hb : f_X1_clear σ x0 = some b) : sw_M sw_ZB l yX1_clear cX1_clear 2 none 0 dC dI dA ad [(sw_rv ad x0)] σ (sw_eV b) :=
  sw_mk1 (ψ := sw_eV) 1 (by decide) sw_ZBok hI dk_X1_clear rfl (sw_c1_all _ ⟨sw_rv_cat _ _, trivial⟩) hb (fun p e R M C => sB_X1_clear C σ x0)
set_option maxHeartbeats 1000000 in
set_option maxRecDepth 100000 in
theorem sB_X2_clear_17 {V : sw_V} (C : sw_Cx sw_ZB V cX2_clear RX2 2 none L_X2_clear 1) : ∀ (n : Nat) (σ : sw_St) (x0 : Nat) (x1 : Int32), sw_S sw_ZB V sw_eV [some (sw_r V x0), some (.int x1)] [] 17 σ (f_X2_clear_17 n σ x0 x1) := by
  intro n
  induction n with
  | zero =>
    intro σ x0 x1
    exact g_none
  | succ n ih =>
    intro σ x0 x1
    rw [f_X2_clear_17]
    refine g_iload_n C 9 rfl rfl ?_
    refine g_iconst C 10 rfl 2 (by decide) ?_
    refine g_icmp_ge C 11 rfl 38 (by decide) ?_ ?_
    · refine g_aload_n C 20 rfl rfl ?_
      refine g_bipush C 21 rfl (-4) (by decide) ?_
      refine g_ck fun h1 => ?_
      refine g_put C 22 rfl fp_X2_38 (shb_C h1) rfl (fun s2 => ?_)
      exact g_vret C 23 rfl rfl
    · refine g_aload_n C 12 rfl rfl ?_
      refine g_ck fun h3 => ?_
      refine g_getR C 13 rfl fl_X2_20 (shb_C h3) rfl ?_
      refine g_iload_n C 14 rfl rfl ?_
      refine g_ck fun h4 => ?_
      refine g_aald C 15 rfl (shb_CB h3) rfl h4 (tg_backs h4) ?_
      refine g_iconst C 16 rfl 0 (by decide) ?_
      refine g_put C 17 rfl fp_X2_34 (shb_Q (kd_backs h3 h4)) rfl (fun s5 => ?_)
      refine g_iinc C 18 rfl 1 (by decide) rfl (Nat.le_of_ble_eq_true rfl) (Or.inr (Or.inr (Or.inr ⟨_, rfl⟩))) ?_
      refine g_goto C 19 rfl 17 (by decide) ?_
      exact g_wk (ih s5 x0 (x1 + 1)) ⟨rfl, rfl, trivial⟩
set_option maxHeartbeats 1000000 in
set_option maxRecDepth 100000 in
theorem sB_X2_clear {V : sw_V} (C : sw_Cx sw_ZB V cX2_clear RX2 2 none L_X2_clear 1) (σ : sw_St) (x0 : Nat) : sw_S sw_ZB V sw_eV [some (sw_r V x0), none] [] 0 σ (f_X2_clear σ x0) := by
  unfold f_X2_clear
  refine g_aload_n C 0 rfl rfl ?_
  refine g_ck fun h1 => ?_
  refine g_getR C 1 rfl fl_X2_12 (shb_C h1) rfl ?_
  refine g_callV (ψ₁ := sw_eV) C 2 rfl [] [] ml_X2_31 rfl (Nat.le_of_ble_eq_true rfl) (by decide) (shb_K (kd_CK h1)) rfl (fun b hb => mB_X1_clear V.1.2.1 _ _ _ _ C.inj σ (x0 + 1) b hb) rfl (g_cV fun r2 => ?_)
  refine g_aload_n C 3 rfl rfl ?_
  refine g_getR C 4 rfl fl_X2_27 (shb_C h1) rfl ?_
  refine g_iconst C 5 rfl 0 (by decide) ?_
  refine g_put C 6 rfl fp_X2_34 (shb_Q (kd_CQ h1)) rfl (fun s3 => ?_)
  refine g_iconst C 7 rfl 0 (by decide) ?_
  refine g_istore_n C 8 rfl (Nat.le_of_ble_eq_true rfl) (Or.inr (Or.inr (Or.inr ⟨_, rfl⟩))) ?_
  exact g_wk (sB_X2_clear_17 C sw_fuel s3 x0 0) ⟨rfl, rfl, trivial⟩
set_option maxHeartbeats 1000000 in
set_option maxRecDepth 100000 in
theorem mB_X2_clear (l : Launch) (dC : Nat → ClassId) (dI : Nat → Nat → Nat) (dA : Nat → ClassId) (ad : Nat → Nat) (hI : sw_inj sw_ZB ad) (σ : sw_St) (x0 : Nat) (b : sw_St) (hb : f_X2_clear σ x0 = some b) : sw_M sw_ZB l yX2_clear cX2_clear 2 none 1 dC dI dA ad [(sw_rv ad x0)] σ (sw_eV b) :=
  sw_mk1 (ψ := sw_eV) 1 (by decide) sw_ZBok hI dk_X2_clear rfl (sw_c1_all _ ⟨sw_rv_cat _ _, trivial⟩) hb (fun p e R M C => sB_X2_clear C σ x0)
set_option maxHeartbeats 1000000 in
set_option maxRecDepth 100000 in
theorem sB_X0_reset_86 {V : sw_V} (C : sw_Cx sw_ZB V cX0_reset RX0 6 none L_X0_reset 2) : ∀ (n : Nat) (σ : sw_St) (x5 : Int32), sw_S sw_ZB V sw_eV [some (sw_r V 2), none, none, none, none, some (.int x5)] [] 86 σ (f_X0_reset_86 n σ x5) := by
  intro n
  induction n with
  | zero =>
    intro σ x5
    exact g_none
  | succ n ih =>
    intro σ x5
    rw [f_X0_reset_86]
    refine g_iload C 47 rfl rfl ?_
    refine g_bipush C 48 rfl 8 (by decide) ?_
    refine g_icmp_ge C 49 rfl 107 (by decide) ?_ ?_
    · exact g_vret C 57 rfl rfl
    · refine g_aload_n C 50 rfl rfl ?_
      refine g_getR C 51 rfl fl_X0_23 rfl rfl ?_
      refine g_iload C 52 rfl rfl ?_
      refine g_iconst C 53 rfl 0 (by decide) ?_
      refine g_ck fun h1 => ?_
      refine g_iast C 54 rfl rfl h1 (fun s2 => ?_)
      refine g_iinc C 55 rfl 1 (by decide) rfl (Nat.le_of_ble_eq_true rfl) (Or.inr (Or.inl rfl)) ?_
      refine g_goto C 56 rfl 86 (by decide) ?_
      exact g_wk (ih s2 (x5 + 1)) ⟨rfl, rfl, trivial⟩
set_option maxHeartbeats 1000000 in
set_option maxRecDepth 100000 in
theorem sB_X0_reset_61 {V : sw_V} (C : sw_Cx sw_ZB V cX0_reset RX0 6 none L_X0_reset 2) : ∀ (n : Nat) (σ : sw_St) (x5 : Int32), sw_S sw_ZB V sw_eV [some (sw_r V 2), none, none, none, none, some (.int x5)] [] 61 σ (f_X0_reset_61 n σ x5) := by
  intro n
  induction n with
  | zero =>
    intro σ x5
    exact g_none
  | succ n ih =>
    intro σ x5
    rw [f_X0_reset_61]
    refine g_iload C 35 rfl rfl ?_
    refine g_iconst C 36 rfl 4 (by decide) ?_
    refine g_icmp_ge C 37 rfl 83 (by decide) ?_ ?_
    · refine g_iconst C 45 rfl 0 (by decide) ?_
      refine g_istore C 46 rfl (Nat.le_of_ble_eq_true rfl) (Or.inr (Or.inl rfl)) ?_
      exact g_wk (sB_X0_reset_86 C sw_fuel σ 0) ⟨rfl, rfl, trivial⟩
    · refine g_aload_n C 38 rfl rfl ?_
      refine g_getR C 39 rfl fl_X0_11 rfl rfl ?_
      refine g_iload C 40 rfl rfl ?_
      refine g_ck fun h1 => ?_
      refine g_aald C 41 rfl rfl rfl h1 (tg_cores h1) ?_
      refine g_callV (ψ₁ := sw_eV) C 42 rfl [] [] ml_X0_78 rfl (Nat.le_of_ble_eq_true rfl) (by decide) (shb_C (kd_cores h1)) rfl (fun b hb => mB_X2_clear V.1.2.1 _ _ _ _ C.inj σ (8 + 9 * sw_ix x5) b hb) rfl (g_cV fun r2 => ?_)
      refine g_iinc C 43 rfl 1 (by decide) rfl (Nat.le_of_ble_eq_true rfl) (Or.inr (Or.inl rfl)) ?_
      refine g_goto C 44 rfl 61 (by decide) ?_
      exact g_wk (ih r2 (x5 + 1)) ⟨rfl, rfl, trivial⟩
set_option maxHeartbeats 1000000 in
set_option maxRecDepth 100000 in
theorem sB_X0_reset {V : sw_V} (C : sw_Cx sw_ZB V cX0_reset RX0 6 none L_X0_reset 2) (σ : sw_St) (x1 : Int32) (x2 : Int32) (x3 : Int32) (x4 : Int32) : sw_S sw_ZB V sw_eV [some (sw_r V 2), some (.int x1), some (.int x2), some (.int x3), some (.int x4), none] [] 0 σ (f_X0_reset σ x1 x2 x3 x4) := by
  unfold f_X0_reset
  refine g_aload_n C 0 rfl rfl ?_
  refine g_iload_n C 1 rfl rfl ?_
  refine g_put C 2 rfl fp_X0_44 rfl rfl (fun s1 => ?_)
  refine g_aload_n C 3 rfl rfl ?_
  refine g_iload_n C 4 rfl rfl ?_
  refine g_put C 5 rfl fp_X0_48 rfl rfl (fun s2 => ?_)
  refine g_aload_n C 6 rfl rfl ?_
  refine g_iload_n C 7 rfl rfl ?_
  refine g_put C 8 rfl fp_X0_51 rfl rfl (fun s3 => ?_)
  refine g_aload_n C 9 rfl rfl ?_
  refine g_iload C 10 rfl rfl ?_
  refine g_put C 11 rfl fp_X0_54 rfl rfl (fun s4 => ?_)
  refine g_aload_n C 12 rfl rfl ?_
  refine g_iconst C 13 rfl 0 (by decide) ?_
  refine g_put C 14 rfl fp_X0_57 rfl rfl (fun s5 => ?_)
  refine g_aload_n C 15 rfl rfl ?_
  refine g_iconst C 16 rfl 0 (by decide) ?_
  refine g_put C 17 rfl fp_X0_60 rfl rfl (fun s6 => ?_)
  refine g_aload_n C 18 rfl rfl ?_
  refine g_iconst C 19 rfl 0 (by decide) ?_
  refine g_put C 20 rfl fp_X0_63 rfl rfl (fun s7 => ?_)
  refine g_aload_n C 21 rfl rfl ?_
  refine g_iconst C 22 rfl 0 (by decide) ?_
  refine g_put C 23 rfl fp_X0_66 rfl rfl (fun s8 => ?_)
  refine g_aload_n C 24 rfl rfl ?_
  refine g_iconst C 25 rfl 0 (by decide) ?_
  refine g_put C 26 rfl fp_X0_69 rfl rfl (fun s9 => ?_)
  refine g_aload_n C 27 rfl rfl ?_
  refine g_iconst C 28 rfl 0 (by decide) ?_
  refine g_put C 29 rfl fp_X0_72 rfl rfl (fun s10 => ?_)
  refine g_aload_n C 30 rfl rfl ?_
  refine g_getR C 31 rfl fl_X0_30 rfl rfl ?_
  refine g_callV (ψ₁ := sw_eV) C 32 rfl [] [] ml_X0_75 rfl (Nat.le_of_ble_eq_true rfl) (by decide) rfl rfl (fun b hb => mB_X3_clear V.1.2.1 _ _ _ _ C.inj s10 b hb) rfl (g_cV fun r11 => ?_)
  refine g_iconst C 33 rfl 0 (by decide) ?_
  refine g_istore C 34 rfl (Nat.le_of_ble_eq_true rfl) (Or.inr (Or.inr (Or.inl ⟨_, rfl⟩))) ?_
  exact g_wk (sB_X0_reset_61 C sw_fuel r11 0) ⟨rfl, rfl, trivial⟩
set_option maxHeartbeats 1000000 in
set_option maxRecDepth 100000 in
theorem mB_X0_reset (l : Launch) (dC : Nat → ClassId) (dI : Nat → Nat → Nat) (dA : Nat → ClassId) (ad : Nat → Nat) (hI : sw_inj sw_ZB ad) (σ : sw_St) (x1 : Int32) (x2 : Int32) (x3 : Int32) (x4 : Int32) (b : sw_St) (hb : f_X0_reset σ x1 x2 x3 x4 = some b) : sw_M sw_ZB l yX0_reset cX0_reset 6 none 2 dC dI dA ad [(sw_rv ad 2), (.int x1), (.int x2), (.int x3), (.int x4)] σ (sw_eV b) :=
  sw_mk1 (ψ := sw_eV) 1 (by decide) sw_ZBok hI dk_X0_reset rfl (sw_c1_all _ ⟨sw_rv_cat _ _, rfl, rfl, rfl, rfl, trivial⟩) hb (fun p e R M C => sB_X0_reset C σ x1 x2 x3 x4)
