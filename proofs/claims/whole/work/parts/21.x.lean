/-! SplitWatch$Cache.isSole(I)Z -/
def L_X1_isSole : sw_Is := [(0, .aload_n 0, 1, 1), (1, .getfield 9, 3, 4), (4, .iload_n 1, 1, 5), (5, .iaload, 1, 6), (6, .iconst 2, 1, 7), (7, .if_icmp .eq 13, 3, 10), (10, .aload_n 0, 1, 11), (11, .getfield 9, 3, 14), (14, .iload_n 1, 1, 15), (15, .iaload, 1, 16), (16, .iconst 3, 1, 17), (17, .if_icmp .ne 7, 3, 20), (20, .iconst 1, 1, 21), (21, .goto 4, 3, 24), (24, .iconst 0, 1, 25), (25, .ireturn, 1, 26)]
theorem dk_X1_isSole : sw_dc cX1_isSole L_X1_isSole = true := by decide +kernel
def f_X1_isSole (σ : sw_St) (x0 : Nat) (x1 : Int32) : Option Int32 := sw_ck (sw_isK x0) (sw_ck (sw_in x1 8) (if (σ (x0 + 1) (sw_ix x1)) = 2 then (some 1) else (if (σ (x0 + 1) (sw_ix x1)) = 3 then (some 1) else (some 0))))
set_option maxHeartbeats 1000000 in
set_option maxRecDepth 100000 in
theorem s_X1_isSole {V : sw_V} (C : sw_Cx sw_ZX V cX1_isSole RX1 2 (some .boolean) L_X1_isSole 0) (σ : sw_St) (x0 : Nat) (x1 : Int32) : sw_S sw_ZX V (sw_eP σ) [some (sw_r V x0), some (.int x1)] [] 0 σ (f_X1_isSole σ x0 x1) := by
  unfold f_X1_isSole
  refine g_aload_n C 0 rfl rfl ?_
  refine g_ck fun h1 => ?_
  refine g_getR C 1 rfl fl_X1_9 (sh_K h1) rfl ?_
  refine g_iload_n C 2 rfl rfl ?_
  refine g_ck fun h2 => ?_
  refine g_iald C 3 rfl (sh_K0 h1) h2 ?_
  refine g_iconst C 4 rfl 2 (by decide) ?_
  refine g_icmp_eq C 5 rfl 20 (by decide) ?_ ?_
  · refine g_iconst C 12 rfl 1 (by decide) ?_
    refine g_goto C 13 rfl 25 (by decide) ?_
    skip
    exact g_zret C 15 rfl rfl rfl
  · refine g_aload_n C 6 rfl rfl ?_
    refine g_getR C 7 rfl fl_X1_9 (sh_K h1) rfl ?_
    refine g_iload_n C 8 rfl rfl ?_
    refine g_iald C 9 rfl (sh_K0 h1) h2 ?_
    refine g_iconst C 10 rfl 3 (by decide) ?_
    refine g_icmp_ne C 11 rfl 24 (by decide) ?_ ?_
    · refine g_iconst C 14 rfl 0 (by decide) ?_
      skip
      exact g_zret C 15 rfl rfl rfl
    · refine g_iconst C 12 rfl 1 (by decide) ?_
      refine g_goto C 13 rfl 25 (by decide) ?_
      skip
      exact g_zret C 15 rfl rfl rfl
set_option maxHeartbeats 1000000 in
set_option maxRecDepth 100000 in
theorem m_X1_isSole (l : Launch) (dC : Nat → ClassId) (dI : Nat → Nat → Nat) (dA : Nat → ClassId) (ad : Nat → Nat) (hI : sw_inj sw_ZX ad) (σ : sw_St) (x0 : Nat) (x1 : Int32) (b : Int32) (hb : f_X1_isSole σ x0 x1 = some b) : sw_M sw_ZX l yX1_isSole cX1_isSole 2 (some .boolean) 0 dC dI dA ad [(sw_rv ad x0), (.int x1)] σ ((sw_eP σ) b) :=
  sw_mk1 (ψ := (sw_eP σ)) 0 (by decide) sw_ZXok hI dk_X1_isSole rfl (sw_c1_all _ ⟨sw_rv_cat _ _, rfl, trivial⟩) hb (fun p e R M C => s_X1_isSole C σ x0 x1)
/-! SplitWatch$Core.backOf(I)LSplitWatch$Request; -/
def L_X2_backOf : sw_Is := [(0, .iconst 0, 1, 1), (1, .istore_n 2, 1, 2), (2, .iload_n 2, 1, 3), (3, .iconst 2, 1, 4), (4, .if_icmp .ge 42, 3, 7), (7, .aload_n 0, 1, 8), (8, .getfield 20, 3, 11), (11, .iload_n 2, 1, 12), (12, .aaload, 1, 13), (13, .getfield 34, 3, 16), (16, .iconst 1, 1, 17), (17, .if_icmp .ne 23, 3, 20), (20, .aload_n 0, 1, 21), (21, .getfield 20, 3, 24), (24, .iload_n 2, 1, 25), (25, .aaload, 1, 26), (26, .getfield 41, 3, 29), (29, .iload_n 1, 1, 30), (30, .if_icmp .ne 10, 3, 33), (33, .aload_n 0, 1, 34), (34, .getfield 20, 3, 37), (37, .iload_n 2, 1, 38), (38, .aaload, 1, 39), (39, .areturn, 1, 40), (40, .iinc 2 1, 3, 43), (43, .goto (-41), 3, 46), (46, .aconst_null, 1, 47), (47, .areturn, 1, 48)]
theorem dk_X2_backOf : sw_dc cX2_backOf L_X2_backOf = true := by decide +kernel
def f_X2_backOf_2 (σ : sw_St)  : Nat → Nat → Int32 → Int32 → Option Nat
  | 0 => fun _ _ _ => none
  | n + 1 => fun x0 x1 x2 => if 2 ≤ x2 then (some 0) else (sw_ck (sw_isC x0) (sw_ck (sw_in x2 2) (if (σ (x0 + 7 + sw_ix x2) 1) = 1 then (if (σ (x0 + 7 + sw_ix x2) 3) = x1 then (some (x0 + 7 + sw_ix x2)) else ((f_X2_backOf_2 σ n) x0 x1 (x2 + 1))) else ((f_X2_backOf_2 σ n) x0 x1 (x2 + 1)))))
def f_X2_backOf (σ : sw_St) (x0 : Nat) (x1 : Int32) : Option Nat := f_X2_backOf_2 σ sw_fuel x0 x1 0
set_option maxHeartbeats 1000000 in
set_option maxRecDepth 100000 in
theorem s_X2_backOf_2 {V : sw_V} (C : sw_Cx sw_ZX V cX2_backOf RX2 3 (some (.object "SplitWatch$Request")) L_X2_backOf 0) (σ : sw_St) : ∀ (n : Nat) (x0 : Nat) (x1 : Int32) (x2 : Int32), sw_S sw_ZX V (sw_eR V.2.2.2.2.2 σ) [some (sw_r V x0), some (.int x1), some (.int x2)] [] 2 σ (f_X2_backOf_2 σ n x0 x1 x2) := by
  intro n
  induction n with
  | zero =>
    intro x0 x1 x2
    exact g_none
  | succ n ih =>
    intro x0 x1 x2
    rw [f_X2_backOf_2]
    refine g_iload_n C 2 rfl rfl ?_
    refine g_iconst C 3 rfl 2 (by decide) ?_
    refine g_icmp_ge C 4 rfl 46 (by decide) ?_ ?_
    · refine g_null C 26 rfl ?_
      exact g_aret C 27 rfl rfl
    · refine g_aload_n C 5 rfl rfl ?_
      refine g_ck fun h1 => ?_
      refine g_getR C 6 rfl fl_X2_20 (sh_C h1) rfl ?_
      refine g_iload_n C 7 rfl rfl ?_
      refine g_ck fun h2 => ?_
      refine g_aald C 8 rfl (sh_CB h1) rfl h2 (tg_backs h2) ?_
      refine g_getI C 9 rfl fl_X2_34 (sh_Q (kd_backs h1 h2)) rfl ?_
      refine g_iconst C 10 rfl 1 (by decide) ?_
      refine g_icmp_ne C 11 rfl 40 (by decide) ?_ ?_
      · refine g_iinc C 24 rfl 1 (by decide) rfl (Nat.le_of_ble_eq_true rfl) (Or.inr (Or.inr (Or.inl ⟨_, rfl⟩))) ?_
        refine g_goto C 25 rfl 2 (by decide) ?_
        exact g_wk (ih x0 x1 (x2 + 1)) ⟨rfl, rfl, rfl, trivial⟩
      · refine g_aload_n C 12 rfl rfl ?_
        refine g_getR C 13 rfl fl_X2_20 (sh_C h1) rfl ?_
        refine g_iload_n C 14 rfl rfl ?_
        refine g_aald C 15 rfl (sh_CB h1) rfl h2 (tg_backs h2) ?_
        refine g_getI C 16 rfl fl_X2_41 (sh_Q (kd_backs h1 h2)) rfl ?_
        refine g_iload_n C 17 rfl rfl ?_
        refine g_icmp_ne C 18 rfl 40 (by decide) ?_ ?_
        · refine g_iinc C 24 rfl 1 (by decide) rfl (Nat.le_of_ble_eq_true rfl) (Or.inr (Or.inr (Or.inl ⟨_, rfl⟩))) ?_
          refine g_goto C 25 rfl 2 (by decide) ?_
          exact g_wk (ih x0 x1 (x2 + 1)) ⟨rfl, rfl, rfl, trivial⟩
        · refine g_aload_n C 19 rfl rfl ?_
          refine g_getR C 20 rfl fl_X2_20 (sh_C h1) rfl ?_
          refine g_iload_n C 21 rfl rfl ?_
          refine g_aald C 22 rfl (sh_CB h1) rfl h2 (tg_backs h2) ?_
          exact g_aret C 23 rfl rfl
set_option maxHeartbeats 1000000 in
set_option maxRecDepth 100000 in
theorem s_X2_backOf {V : sw_V} (C : sw_Cx sw_ZX V cX2_backOf RX2 3 (some (.object "SplitWatch$Request")) L_X2_backOf 0) (σ : sw_St) (x0 : Nat) (x1 : Int32) : sw_S sw_ZX V (sw_eR V.2.2.2.2.2 σ) [some (sw_r V x0), some (.int x1), none] [] 0 σ (f_X2_backOf σ x0 x1) := by
  unfold f_X2_backOf
  refine g_iconst C 0 rfl 0 (by decide) ?_
  refine g_istore_n C 1 rfl (Nat.le_of_ble_eq_true rfl) (Or.inr (Or.inr (Or.inl ⟨_, rfl⟩))) ?_
  exact g_wk (s_X2_backOf_2 C σ sw_fuel x0 x1 0) ⟨rfl, rfl, rfl, trivial⟩
set_option maxHeartbeats 1000000 in
set_option maxRecDepth 100000 in
theorem m_X2_backOf (l : Launch) (dC : Nat → ClassId) (dI : Nat → Nat → Nat) (dA : Nat → ClassId) (ad : Nat → Nat) (hI : sw_inj sw_ZX ad) (σ : sw_St) (x0 : Nat) (x1 : Int32) (b : Nat) (hb : f_X2_backOf σ x0 x1 = some b) : sw_M sw_ZX l yX2_backOf cX2_backOf 3 (some (.object "SplitWatch$Request")) 0 dC dI dA ad [(sw_rv ad x0), (.int x1)] σ ((sw_eR ad σ) b) :=
  sw_mk1 (ψ := (sw_eR ad σ)) 1 (by decide) sw_ZXok hI dk_X2_backOf rfl (sw_c1_all _ ⟨sw_rv_cat _ _, rfl, trivial⟩) hb (fun p e R M C => s_X2_backOf C σ x0 x1)
/-! SplitWatch$Bus.answerTime(II)I -/
def L_X0_answerTime : sw_Is := [(0, .iconst 0, 1, 1), (1, .istore_n 3, 1, 2), (2, .iload_n 3, 1, 3), (3, .aload_n 0, 1, 4), (4, .getfield 44, 3, 7), (7, .if_icmp .ge 48, 3, 10), (10, .iload_n 3, 1, 11), (11, .iload_n 1, 1, 12), (12, .if_icmp .eq 37, 3, 15), (15, .aload_n 0, 1, 16), (16, .getfield 11, 3, 19), (19, .iload_n 3, 1, 20), (20, .aaload, 1, 21), (21, .getfield 105, 3, 24), (24, .iload_n 2, 1, 25), (25, .invokevirtual 127, 3, 28), (28, .ifCond .ne 16, 3, 31), (31, .aload_n 0, 1, 32), (32, .getfield 11, 3, 35), (35, .iload_n 3, 1, 36), (36, .aaload, 1, 37), (37, .iload_n 2, 1, 38), (38, .invokevirtual 165, 3, 41), (41, .ifnull 8, 3, 44), (44, .aload_n 0, 1, 45), (45, .getfield 51, 3, 48), (48, .ireturn, 1, 49), (49, .iinc 3 1, 3, 52), (52, .goto (-50), 3, 55), (55, .aload_n 0, 1, 56), (56, .getfield 54, 3, 59), (59, .ireturn, 1, 60)]
theorem dk_X0_answerTime : sw_dc cX0_answerTime L_X0_answerTime = true := by decide +kernel
def f_X0_answerTime_2 (σ : sw_St)  : Nat → Int32 → Int32 → Int32 → Option Int32
  | 0 => fun _ _ _ => none
  | n + 1 => fun x1 x2 x3 => if (σ 2 4) ≤ x3 then (some (σ 2 7)) else (if x3 = x1 then ((f_X0_answerTime_2 σ n) x1 x2 (x3 + 1)) else (sw_ck (sw_in x3 4) ((f_X1_isSole σ ((8 + 9 * sw_ix x3) + 1) x2).bind fun r2 => (if r2 = 0 then ((f_X2_backOf σ (8 + 9 * sw_ix x3) x2).bind fun r3 => (if r3 = 0 then ((f_X0_answerTime_2 σ n) x1 x2 (x3 + 1)) else (some (σ 2 6)))) else (some (σ 2 6))))))
def f_X0_answerTime (σ : sw_St) (x1 : Int32) (x2 : Int32) : Option Int32 := f_X0_answerTime_2 σ sw_fuel x1 x2 0
set_option maxHeartbeats 1000000 in
set_option maxRecDepth 100000 in
theorem s_X0_answerTime_2 {V : sw_V} (C : sw_Cx sw_ZX V cX0_answerTime RX0 4 (some .int) L_X0_answerTime 1) (σ : sw_St) : ∀ (n : Nat) (x1 : Int32) (x2 : Int32) (x3 : Int32), sw_S sw_ZX V (sw_eP σ) [some (sw_r V 2), some (.int x1), some (.int x2), some (.int x3)] [] 2 σ (f_X0_answerTime_2 σ n x1 x2 x3) := by
  intro n
  induction n with
  | zero =>
    intro x1 x2 x3
    exact g_none
  | succ n ih =>
    intro x1 x2 x3
    rw [f_X0_answerTime_2]
    refine g_iload_n C 2 rfl rfl ?_
    refine g_aload_n C 3 rfl rfl ?_
    refine g_getI C 4 rfl fl_X0_44 rfl rfl ?_
    refine g_icmp_ge C 5 rfl 55 (by decide) ?_ ?_
    · refine g_aload_n C 29 rfl rfl ?_
      refine g_getI C 30 rfl fl_X0_54 rfl rfl ?_
      skip
      exact g_iret C 31 rfl rfl
    · refine g_iload_n C 6 rfl rfl ?_
      refine g_iload_n C 7 rfl rfl ?_
      refine g_icmp_eq C 8 rfl 49 (by decide) ?_ ?_
      · refine g_iinc C 27 rfl 1 (by decide) rfl (Nat.le_of_ble_eq_true rfl) (Or.inr (Or.inr (Or.inl ⟨_, rfl⟩))) ?_
        refine g_goto C 28 rfl 2 (by decide) ?_
        exact g_wk (ih x1 x2 (x3 + 1)) ⟨rfl, rfl, rfl, rfl, trivial⟩
      · refine g_aload_n C 9 rfl rfl ?_
        refine g_getR C 10 rfl fl_X0_11 rfl rfl ?_
        refine g_iload_n C 11 rfl rfl ?_
        refine g_ck fun h1 => ?_
        refine g_aald C 12 rfl rfl rfl h1 (tg_cores h1) ?_
        refine g_getR C 13 rfl fl_X0_105 (sh_C (kd_cores h1)) rfl ?_
        refine g_iload_n C 14 rfl rfl ?_
        refine g_callV (ψ₁ := sw_eP σ) C 15 rfl [(.int x2)] [] ml_X0_127 rfl (Nat.le_of_ble_eq_true rfl) (by decide) (sh_K (kd_CK (kd_cores h1))) rfl (fun b hb => m_X1_isSole V.1.2.1 _ _ _ _ C.inj σ ((8 + 9 * sw_ix x3) + 1) x2 b hb) rfl (g_cP fun r2 => ?_)
        refine g_if_ne C 16 rfl 44 (by decide) ?_ ?_
        · refine g_aload_n C 24 rfl rfl ?_
          refine g_getI C 25 rfl fl_X0_51 rfl rfl ?_
          skip
          exact g_iret C 26 rfl rfl
        · refine g_aload_n C 17 rfl rfl ?_
          refine g_getR C 18 rfl fl_X0_11 rfl rfl ?_
          refine g_iload_n C 19 rfl rfl ?_
          refine g_aald C 20 rfl rfl rfl h1 (tg_cores h1) ?_
          refine g_iload_n C 21 rfl rfl ?_
          refine g_callV (ψ₁ := sw_eR V.2.2.2.2.2 σ) C 22 rfl [(.int x2)] [] ml_X0_165 rfl (Nat.le_of_ble_eq_true rfl) (by decide) (sh_C (kd_cores h1)) rfl (fun b hb => m_X2_backOf V.1.2.1 _ _ _ _ C.inj σ (8 + 9 * sw_ix x3) x2 b hb) rfl (g_cR fun r3 => ?_)
          refine g_ifnull C 23 rfl 49 (by decide) ?_ ?_
          · refine g_iinc C 27 rfl 1 (by decide) rfl (Nat.le_of_ble_eq_true rfl) (Or.inr (Or.inr (Or.inl ⟨_, rfl⟩))) ?_
            refine g_goto C 28 rfl 2 (by decide) ?_
            exact g_wk (ih x1 x2 (x3 + 1)) ⟨rfl, rfl, rfl, rfl, trivial⟩
          · refine g_aload_n C 24 rfl rfl ?_
            refine g_getI C 25 rfl fl_X0_51 rfl rfl ?_
            skip
            exact g_iret C 26 rfl rfl
set_option maxHeartbeats 1000000 in
set_option maxRecDepth 100000 in
theorem s_X0_answerTime {V : sw_V} (C : sw_Cx sw_ZX V cX0_answerTime RX0 4 (some .int) L_X0_answerTime 1) (σ : sw_St) (x1 : Int32) (x2 : Int32) : sw_S sw_ZX V (sw_eP σ) [some (sw_r V 2), some (.int x1), some (.int x2), none] [] 0 σ (f_X0_answerTime σ x1 x2) := by
  unfold f_X0_answerTime
  refine g_iconst C 0 rfl 0 (by decide) ?_
  refine g_istore_n C 1 rfl (Nat.le_of_ble_eq_true rfl) (Or.inr (Or.inr (Or.inl ⟨_, rfl⟩))) ?_
  exact g_wk (s_X0_answerTime_2 C σ sw_fuel x1 x2 0) ⟨rfl, rfl, rfl, rfl, trivial⟩
set_option maxHeartbeats 1000000 in
set_option maxRecDepth 100000 in
theorem m_X0_answerTime (l : Launch) (dC : Nat → ClassId) (dI : Nat → Nat → Nat) (dA : Nat → ClassId) (ad : Nat → Nat) (hI : sw_inj sw_ZX ad) (σ : sw_St) (x1 : Int32) (x2 : Int32) (b : Int32) (hb : f_X0_answerTime σ x1 x2 = some b) : sw_M sw_ZX l yX0_answerTime cX0_answerTime 4 (some .int) 1 dC dI dA ad [(sw_rv ad 2), (.int x1), (.int x2)] σ ((sw_eP σ) b) :=
  sw_mk1 (ψ := (sw_eP σ)) 1 (by decide) sw_ZXok hI dk_X0_answerTime rfl (sw_c1_all _ ⟨sw_rv_cat _ _, rfl, rfl, trivial⟩) hb (fun p e R M C => s_X0_answerTime C σ x1 x2)
/-! SplitWatch$Bus.bringToMemory(LSplitWatch$Core;I)V -/
def L_X0_bringToMemory : sw_Is := [(0, .aload_n 1, 1, 1), (1, .getfield 105, 3, 4), (4, .iload_n 2, 1, 5), (5, .invokevirtual 127, 3, 8), (8, .ifCond .eq 28, 3, 11), (11, .aload_n 0, 1, 12), (12, .getfield 23, 3, 15), (15, .iload_n 2, 1, 16), (16, .aload_n 1, 1, 17), (17, .getfield 105, 3, 20), (20, .getfield 121, 3, 23), (23, .iload_n 2, 1, 24), (24, .iaload, 1, 25), (25, .iastore, 1, 26), (26, .aload_n 1, 1, 27), (27, .getfield 105, 3, 30), (30, .getfield 109, 3, 33), (33, .iload_n 2, 1, 34), (34, .iconst 1, 1, 35), (35, .iastore, 1, 36), (36, .aload_n 1, 1, 37), (37, .iload_n 2, 1, 38), (38, .invokevirtual 165, 3, 41), (41, .astore_n 3, 1, 42), (42, .aload_n 3, 1, 43), (43, .ifnull 18, 3, 46), (46, .aload_n 0, 1, 47), (47, .getfield 23, 3, 50), (50, .iload_n 2, 1, 51), (51, .aload_n 3, 1, 52), (52, .getfield 154, 3, 55), (55, .iastore, 1, 56), (56, .aload_n 3, 1, 57), (57, .iconst 0, 1, 58), (58, .putfield 98, 3, 61), (61, .return_, 1, 62)]
theorem dk_X0_bringToMemory : sw_dc cX0_bringToMemory L_X0_bringToMemory = true := by decide +kernel
def f_X0_bringToMemory_36  (σ : sw_St) (x1 : Nat) (x2 : Int32) : Option sw_St := sw_ck (sw_isC x1) ((f_X2_backOf σ x1 x2).bind fun r2 => (if r2 = 0 then (some σ) else (sw_ck (sw_isQ r2) (sw_ck (sw_in x2 8) (sw_pt σ 5 (sw_ix x2) (σ r2 4) fun s5 => (sw_pt s5 r2 1 0 fun s6 => (some s6)))))))
def f_X0_bringToMemory (σ : sw_St) (x1 : Nat) (x2 : Int32) : Option sw_St := sw_ck (sw_isC x1) ((f_X1_isSole σ (x1 + 1) x2).bind fun r2 => (if r2 = 0 then (f_X0_bringToMemory_36 σ x1 x2) else (sw_ck (sw_in x2 8) (sw_pt σ 5 (sw_ix x2) (σ ((x1 + 1) + 2) (sw_ix x2)) fun s4 => (sw_pt s4 ((x1 + 1) + 1) (sw_ix x2) 1 fun s5 => (f_X0_bringToMemory_36 s5 x1 x2))))))
set_option maxHeartbeats 1000000 in
set_option maxRecDepth 100000 in
theorem s_X0_bringToMemory_36 {V : sw_V} (C : sw_Cx sw_ZX V cX0_bringToMemory RX0 4 none L_X0_bringToMemory 1) (σ : sw_St) (x1 : Nat) (x2 : Int32) : sw_S sw_ZX V sw_eV [some (sw_r V 2), some (sw_r V x1), some (.int x2), none] [] 36 σ (f_X0_bringToMemory_36 σ x1 x2) := by
  unfold f_X0_bringToMemory_36
  refine g_aload_n C 20 rfl rfl ?_
  refine g_iload_n C 21 rfl rfl ?_
  refine g_ck fun h1 => ?_
  refine g_callV (ψ₁ := sw_eR V.2.2.2.2.2 σ) C 22 rfl [(.int x2)] [] ml_X0_165 rfl (Nat.le_of_ble_eq_true rfl) (by decide) (sh_C h1) rfl (fun b hb => m_X2_backOf V.1.2.1 _ _ _ _ C.inj σ x1 x2 b hb) rfl (g_cR fun r2 => ?_)
  refine g_astore_n C 23 rfl (Nat.le_of_ble_eq_true rfl) (Or.inr (Or.inr (Or.inl ⟨_, rfl⟩))) ?_
  refine g_aload_n C 24 rfl rfl ?_
  refine g_ifnull C 25 rfl 61 (by decide) ?_ ?_
  · exact g_vret C 35 rfl rfl
  · refine g_aload_n C 26 rfl rfl ?_
    refine g_getR C 27 rfl fl_X0_23 rfl rfl ?_
    refine g_iload_n C 28 rfl rfl ?_
    refine g_aload_n C 29 rfl rfl ?_
    refine g_ck fun h3 => ?_
    refine g_getI C 30 rfl fl_X0_154 (sh_Q h3) rfl ?_
    refine g_ck fun h4 => ?_
    refine g_iast C 31 rfl rfl h4 (fun s5 => ?_)
    refine g_aload_n C 32 rfl rfl ?_
    refine g_iconst C 33 rfl 0 (by decide) ?_
    refine g_put C 34 rfl fp_X0_98 (sh_Q h3) rfl (fun s6 => ?_)
    exact g_vret C 35 rfl rfl
set_option maxHeartbeats 1000000 in
set_option maxRecDepth 100000 in
theorem s_X0_bringToMemory {V : sw_V} (C : sw_Cx sw_ZX V cX0_bringToMemory RX0 4 none L_X0_bringToMemory 1) (σ : sw_St) (x1 : Nat) (x2 : Int32) : sw_S sw_ZX V sw_eV [some (sw_r V 2), some (sw_r V x1), some (.int x2), none] [] 0 σ (f_X0_bringToMemory σ x1 x2) := by
  unfold f_X0_bringToMemory
  refine g_aload_n C 0 rfl rfl ?_
  refine g_ck fun h1 => ?_
  refine g_getR C 1 rfl fl_X0_105 (sh_C h1) rfl ?_
  refine g_iload_n C 2 rfl rfl ?_
  refine g_callV (ψ₁ := sw_eP σ) C 3 rfl [(.int x2)] [] ml_X0_127 rfl (Nat.le_of_ble_eq_true rfl) (by decide) (sh_K (kd_CK h1)) rfl (fun b hb => m_X1_isSole V.1.2.1 _ _ _ _ C.inj σ (x1 + 1) x2 b hb) rfl (g_cP fun r2 => ?_)
  refine g_if_eq C 4 rfl 36 (by decide) ?_ ?_
  · exact g_wk (s_X0_bringToMemory_36 C σ x1 x2) ⟨rfl, rfl, rfl, trivial⟩
  · refine g_aload_n C 5 rfl rfl ?_
    refine g_getR C 6 rfl fl_X0_23 rfl rfl ?_
    refine g_iload_n C 7 rfl rfl ?_
    refine g_aload_n C 8 rfl rfl ?_
    refine g_getR C 9 rfl fl_X0_105 (sh_C h1) rfl ?_
    refine g_getR C 10 rfl fl_X0_121 (sh_K (kd_CK h1)) rfl ?_
    refine g_iload_n C 11 rfl rfl ?_
    refine g_ck fun h3 => ?_
    refine g_iald C 12 rfl (sh_K1 (kd_CK h1)) h3 ?_
    refine g_iast C 13 rfl rfl h3 (fun s4 => ?_)
    refine g_aload_n C 14 rfl rfl ?_
    refine g_getR C 15 rfl fl_X0_105 (sh_C h1) rfl ?_
    refine g_getR C 16 rfl fl_X0_109 (sh_K (kd_CK h1)) rfl ?_
    refine g_iload_n C 17 rfl rfl ?_
    refine g_iconst C 18 rfl 1 (by decide) ?_
    refine g_iast C 19 rfl (sh_K0 (kd_CK h1)) h3 (fun s5 => ?_)
    exact g_wk (s_X0_bringToMemory_36 C s5 x1 x2) ⟨rfl, rfl, rfl, trivial⟩
set_option maxHeartbeats 1000000 in
set_option maxRecDepth 100000 in
theorem m_X0_bringToMemory (l : Launch) (dC : Nat → ClassId) (dI : Nat → Nat → Nat) (dA : Nat → ClassId) (ad : Nat → Nat) (hI : sw_inj sw_ZX ad) (σ : sw_St) (x1 : Nat) (x2 : Int32) (b : sw_St) (hb : f_X0_bringToMemory σ x1 x2 = some b) : sw_M sw_ZX l yX0_bringToMemory cX0_bringToMemory 4 none 1 dC dI dA ad [(sw_rv ad 2), (sw_rv ad x1), (.int x2)] σ (sw_eV b) :=
  sw_mk1 (ψ := sw_eV) 1 (by decide) sw_ZXok hI dk_X0_bringToMemory rfl (sw_c1_all _ ⟨sw_rv_cat _ _, sw_rv_cat _ _, rfl, trivial⟩) hb (fun p e R M C => s_X0_bringToMemory C σ x1 x2)
/-! SplitWatch$Bus.orderRead(LSplitWatch$Request;)V -/
def L_X0_orderRead : sw_Is := [(0, .aload_n 1, 1, 1), (1, .getfield 151, 3, 4), (4, .istore_n 2, 1, 5), (5, .aload_n 0, 1, 6), (6, .getfield 30, 3, 9), (9, .aload_n 1, 1, 10), (10, .getfield 190, 3, 13), (13, .bipush 82, 2, 15), (15, .iload_n 2, 1, 16), (16, .invokevirtual 219, 3, 19), (19, .aload_n 1, 1, 20), (20, .iconst 2, 1, 21), (21, .putfield 98, 3, 24), (24, .aload_n 1, 1, 25), (25, .aload_n 0, 1, 26), (26, .getfield 30, 3, 29), (29, .getfield 227, 3, 32), (32, .putfield 187, 3, 35), (35, .aload_n 1, 1, 36), (36, .aload_n 0, 1, 37), (37, .getfield 57, 3, 40), (40, .aload_n 0, 1, 41), (41, .aload_n 1, 1, 42), (42, .getfield 190, 3, 45), (45, .iload_n 2, 1, 46), (46, .invokevirtual 230, 3, 49), (49, .iadd, 1, 50), (50, .putfield 180, 3, 53), (53, .aload_n 1, 1, 54), (54, .iconst 2, 1, 55), (55, .putfield 193, 3, 58), (58, .iconst 0, 1, 59), (59, .istore_n 3, 1, 60), (60, .iload_n 3, 1, 61), (61, .aload_n 0, 1, 62), (62, .getfield 44, 3, 65), (65, .if_icmp .ge 50, 3, 68), (68, .iload_n 3, 1, 69), (69, .aload_n 1, 1, 70), (70, .getfield 190, 3, 73), (73, .if_icmp .eq 36, 3, 76), (76, .aload_n 0, 1, 77), (77, .aload_n 0, 1, 78), (78, .getfield 11, 3, 81), (81, .iload_n 3, 1, 82), (82, .aaload, 1, 83), (83, .iload_n 2, 1, 84), (84, .invokevirtual 233, 3, 87), (87, .aload_n 0, 1, 88), (88, .getfield 11, 3, 91), (91, .iload_n 3, 1, 92), (92, .aaload, 1, 93), (93, .getfield 105, 3, 96), (96, .getfield 109, 3, 99), (99, .iload_n 2, 1, 100), (100, .iaload, 1, 101), (101, .ifCond .eq 8, 3, 104), (104, .aload_n 1, 1, 105), (105, .iconst 1, 1, 106), (106, .putfield 193, 3, 109), (109, .iinc 3 1, 3, 112), (112, .goto (-52), 3, 115), (115, .aload_n 1, 1, 116), (116, .aload_n 0, 1, 117), (117, .getfield 23, 3, 120), (120, .iload_n 2, 1, 121), (121, .iaload, 1, 122), (122, .putfield 154, 3, 125), (125, .return_, 1, 126)]
theorem dk_X0_orderRead : sw_dc cX0_orderRead L_X0_orderRead = true := by decide +kernel
def f_X0_orderRead_60  : Nat → sw_St → Nat → Int32 → Int32 → Option sw_St
  | 0 => fun _ _ _ _ => none
  | n + 1 => fun σ x1 x2 x3 => if (σ 2 4) ≤ x3 then (sw_ck (sw_in x2 8) (sw_ck (sw_isQ x1) (sw_pt σ x1 4 (σ 5 (sw_ix x2)) fun s3 => (some s3)))) else (sw_ck (sw_isQ x1) (if x3 = (σ x1 0) then ((f_X0_orderRead_60 n) σ x1 x2 (x3 + 1)) else (sw_ck (sw_in x3 4) ((f_X0_bringToMemory σ (8 + 9 * sw_ix x3) x2).bind fun r6 => (sw_ck (sw_in x2 8) (if (r6 (((8 + 9 * sw_ix x3) + 1) + 1) (sw_ix x2)) = 0 then ((f_X0_orderRead_60 n) r6 x1 x2 (x3 + 1)) else (sw_pt r6 x1 10 1 fun s8 => ((f_X0_orderRead_60 n) s8 x1 x2 (x3 + 1)))))))))
def f_X0_orderRead (σ : sw_St) (x1 : Nat) : Option sw_St := sw_ck (sw_isQ x1) ((f_X3_add σ (σ x1 0) 82 (σ x1 3)).bind fun r2 => (sw_pt r2 x1 1 2 fun s3 => (sw_pt s3 x1 8 (s3 6 1) fun s4 => ((f_X0_answerTime s4 (s4 x1 0) (σ x1 3)).bind fun r5 => (sw_pt s4 x1 9 ((s4 2 8) + r5) fun s6 => (sw_pt s6 x1 10 2 fun s7 => (f_X0_orderRead_60 sw_fuel s7 x1 (σ x1 3) 0)))))))
set_option maxHeartbeats 1000000 in
set_option maxRecDepth 100000 in
theorem s_X0_orderRead_60 {V : sw_V} (C : sw_Cx sw_ZX V cX0_orderRead RX0 4 none L_X0_orderRead 2) : ∀ (n : Nat) (σ : sw_St) (x1 : Nat) (x2 : Int32) (x3 : Int32), sw_S sw_ZX V sw_eV [some (sw_r V 2), some (sw_r V x1), some (.int x2), some (.int x3)] [] 60 σ (f_X0_orderRead_60 n σ x1 x2 x3) := by
  intro n
  induction n with
  | zero =>
    intro σ x1 x2 x3
    exact g_none
  | succ n ih =>
    intro σ x1 x2 x3
    rw [f_X0_orderRead_60]
    refine g_iload_n C 33 rfl rfl ?_
    refine g_aload_n C 34 rfl rfl ?_
    refine g_getI C 35 rfl fl_X0_44 rfl rfl ?_
    refine g_icmp_ge C 36 rfl 115 (by decide) ?_ ?_
    · refine g_aload_n C 62 rfl rfl ?_
      refine g_aload_n C 63 rfl rfl ?_
      refine g_getR C 64 rfl fl_X0_23 rfl rfl ?_
      refine g_iload_n C 65 rfl rfl ?_
      refine g_ck fun h1 => ?_
      refine g_iald C 66 rfl rfl h1 ?_
      refine g_ck fun h2 => ?_
      refine g_put C 67 rfl fp_X0_154 (sh_Q h2) rfl (fun s3 => ?_)
      exact g_vret C 68 rfl rfl
    · refine g_iload_n C 37 rfl rfl ?_
      refine g_aload_n C 38 rfl rfl ?_
      refine g_ck fun h4 => ?_
      refine g_getI C 39 rfl fl_X0_190 (sh_Q h4) rfl ?_
      refine g_icmp_eq C 40 rfl 109 (by decide) ?_ ?_
      · refine g_iinc C 60 rfl 1 (by decide) rfl (Nat.le_of_ble_eq_true rfl) (Or.inr (Or.inr (Or.inl ⟨_, rfl⟩))) ?_
        refine g_goto C 61 rfl 60 (by decide) ?_
        exact g_wk (ih σ x1 x2 (x3 + 1)) ⟨rfl, rfl, rfl, rfl, trivial⟩
      · refine g_aload_n C 41 rfl rfl ?_
        refine g_aload_n C 42 rfl rfl ?_
        refine g_getR C 43 rfl fl_X0_11 rfl rfl ?_
        refine g_iload_n C 44 rfl rfl ?_
        refine g_ck fun h5 => ?_
        refine g_aald C 45 rfl rfl rfl h5 (tg_cores h5) ?_
        refine g_iload_n C 46 rfl rfl ?_
        refine g_callV (ψ₁ := sw_eV) C 47 rfl [(sw_r V (8 + 9 * sw_ix x3)), (.int x2)] [] ml_X0_233 rfl (Nat.le_of_ble_eq_true rfl) (by decide) rfl rfl (fun b hb => m_X0_bringToMemory V.1.2.1 _ _ _ _ C.inj σ (8 + 9 * sw_ix x3) x2 b hb) rfl (g_cV fun r6 => ?_)
        refine g_aload_n C 48 rfl rfl ?_
        refine g_getR C 49 rfl fl_X0_11 rfl rfl ?_
        refine g_iload_n C 50 rfl rfl ?_
        refine g_aald C 51 rfl rfl rfl h5 (tg_cores h5) ?_
        refine g_getR C 52 rfl fl_X0_105 (sh_C (kd_cores h5)) rfl ?_
        refine g_getR C 53 rfl fl_X0_109 (sh_K (kd_CK (kd_cores h5))) rfl ?_
        refine g_iload_n C 54 rfl rfl ?_
        refine g_ck fun h7 => ?_
        refine g_iald C 55 rfl (sh_K0 (kd_CK (kd_cores h5))) h7 ?_
        refine g_if_eq C 56 rfl 109 (by decide) ?_ ?_
        · refine g_iinc C 60 rfl 1 (by decide) rfl (Nat.le_of_ble_eq_true rfl) (Or.inr (Or.inr (Or.inl ⟨_, rfl⟩))) ?_
          refine g_goto C 61 rfl 60 (by decide) ?_
          exact g_wk (ih r6 x1 x2 (x3 + 1)) ⟨rfl, rfl, rfl, rfl, trivial⟩
        · refine g_aload_n C 57 rfl rfl ?_
          refine g_iconst C 58 rfl 1 (by decide) ?_
          refine g_put C 59 rfl fp_X0_193 (sh_Q h4) rfl (fun s8 => ?_)
          refine g_iinc C 60 rfl 1 (by decide) rfl (Nat.le_of_ble_eq_true rfl) (Or.inr (Or.inr (Or.inl ⟨_, rfl⟩))) ?_
          refine g_goto C 61 rfl 60 (by decide) ?_
          exact g_wk (ih s8 x1 x2 (x3 + 1)) ⟨rfl, rfl, rfl, rfl, trivial⟩
set_option maxHeartbeats 1000000 in
set_option maxRecDepth 100000 in
theorem s_X0_orderRead {V : sw_V} (C : sw_Cx sw_ZX V cX0_orderRead RX0 4 none L_X0_orderRead 2) (σ : sw_St) (x1 : Nat) : sw_S sw_ZX V sw_eV [some (sw_r V 2), some (sw_r V x1), none, none] [] 0 σ (f_X0_orderRead σ x1) := by
  unfold f_X0_orderRead
  refine g_aload_n C 0 rfl rfl ?_
  refine g_ck fun h1 => ?_
  refine g_getI C 1 rfl fl_X0_151 (sh_Q h1) rfl ?_
  refine g_istore_n C 2 rfl (Nat.le_of_ble_eq_true rfl) (Or.inr (Or.inr (Or.inr ⟨_, rfl⟩))) ?_
  refine g_aload_n C 3 rfl rfl ?_
  refine g_getR C 4 rfl fl_X0_30 rfl rfl ?_
  refine g_aload_n C 5 rfl rfl ?_
  refine g_getI C 6 rfl fl_X0_190 (sh_Q h1) rfl ?_
  refine g_bipush C 7 rfl 82 (by decide) ?_
  refine g_iload_n C 8 rfl rfl ?_
  refine g_callV (ψ₁ := sw_eV) C 9 rfl [(.int (σ x1 0)), (.int 82), (.int (σ x1 3))] [] ml_X0_219 rfl (Nat.le_of_ble_eq_true rfl) (by decide) rfl rfl (fun b hb => m_X3_add V.1.2.1 _ _ _ _ C.inj σ (σ x1 0) 82 (σ x1 3) b hb) rfl (g_cV fun r2 => ?_)
  refine g_aload_n C 10 rfl rfl ?_
  refine g_iconst C 11 rfl 2 (by decide) ?_
  refine g_put C 12 rfl fp_X0_98 (sh_Q h1) rfl (fun s3 => ?_)
  refine g_aload_n C 13 rfl rfl ?_
  refine g_aload_n C 14 rfl rfl ?_
  refine g_getR C 15 rfl fl_X0_30 rfl rfl ?_
  refine g_getI C 16 rfl fl_X0_227 rfl rfl ?_
  refine g_put C 17 rfl fp_X0_187 (sh_Q h1) rfl (fun s4 => ?_)
  refine g_aload_n C 18 rfl rfl ?_
  refine g_aload_n C 19 rfl rfl ?_
  refine g_getI C 20 rfl fl_X0_57 rfl rfl ?_
  refine g_aload_n C 21 rfl rfl ?_
  refine g_aload_n C 22 rfl rfl ?_
  refine g_getI C 23 rfl fl_X0_190 (sh_Q h1) rfl ?_
  refine g_iload_n C 24 rfl rfl ?_
  refine g_callV (ψ₁ := sw_eP s4) C 25 rfl [(.int (s4 x1 0)), (.int (σ x1 3))] [(.int (s4 2 8)), (sw_r V x1)] ml_X0_230 rfl (Nat.le_of_ble_eq_true rfl) (by decide) rfl rfl (fun b hb => m_X0_answerTime V.1.2.1 _ _ _ _ C.inj s4 (s4 x1 0) (σ x1 3) b hb) rfl (g_cP fun r5 => ?_)
  refine g_iadd C 26 rfl ?_
  refine g_put C 27 rfl fp_X0_180 (sh_Q h1) rfl (fun s6 => ?_)
  refine g_aload_n C 28 rfl rfl ?_
  refine g_iconst C 29 rfl 2 (by decide) ?_
  refine g_put C 30 rfl fp_X0_193 (sh_Q h1) rfl (fun s7 => ?_)
  refine g_iconst C 31 rfl 0 (by decide) ?_
  refine g_istore_n C 32 rfl (Nat.le_of_ble_eq_true rfl) (Or.inr (Or.inr (Or.inl ⟨_, rfl⟩))) ?_
  exact g_wk (s_X0_orderRead_60 C sw_fuel s7 x1 (σ x1 3) 0) ⟨rfl, rfl, rfl, rfl, trivial⟩
set_option maxHeartbeats 1000000 in
set_option maxRecDepth 100000 in
theorem m_X0_orderRead (l : Launch) (dC : Nat → ClassId) (dI : Nat → Nat → Nat) (dA : Nat → ClassId) (ad : Nat → Nat) (hI : sw_inj sw_ZX ad) (σ : sw_St) (x1 : Nat) (b : sw_St) (hb : f_X0_orderRead σ x1 = some b) : sw_M sw_ZX l yX0_orderRead cX0_orderRead 4 none 2 dC dI dA ad [(sw_rv ad 2), (sw_rv ad x1)] σ (sw_eV b) :=
  sw_mk1 (ψ := sw_eV) 2 (by decide) sw_ZXok hI dk_X0_orderRead rfl (sw_c1_all _ ⟨sw_rv_cat _ _, sw_rv_cat _ _, trivial⟩) hb (fun p e R M C => s_X0_orderRead C σ x1)
/-! SplitWatch$Bus.takeFromOthers(II)V -/
def L_X0_takeFromOthers : sw_Is := [(0, .iconst 0, 1, 1), (1, .istore_n 3, 1, 2), (2, .iload_n 3, 1, 3), (3, .aload_n 0, 1, 4), (4, .getfield 44, 3, 7), (7, .if_icmp .ge 52, 3, 10), (10, .iload_n 3, 1, 11), (11, .iload_n 1, 1, 12), (12, .if_icmp .eq 41, 3, 15), (15, .aload_n 0, 1, 16), (16, .getfield 11, 3, 19), (19, .iload_n 3, 1, 20), (20, .aaload, 1, 21), (21, .getfield 105, 3, 24), (24, .getfield 109, 3, 27), (27, .iload_n 2, 1, 28), (28, .iconst 0, 1, 29), (29, .iastore, 1, 30), (30, .aload_n 0, 1, 31), (31, .getfield 11, 3, 34), (34, .iload_n 3, 1, 35), (35, .aaload, 1, 36), (36, .iload_n 2, 1, 37), (37, .invokevirtual 165, 3, 40), (40, .astore 4, 2, 42), (42, .aload 4, 2, 44), (44, .ifnull 9, 3, 47), (47, .aload 4, 2, 49), (49, .iconst 0, 1, 50), (50, .putfield 98, 3, 53), (53, .iinc 3 1, 3, 56), (56, .goto (-54), 3, 59), (59, .return_, 1, 60)]
theorem dk_X0_takeFromOthers : sw_dc cX0_takeFromOthers L_X0_takeFromOthers = true := by decide +kernel
def f_X0_takeFromOthers_2  : Nat → sw_St → Int32 → Int32 → Int32 → Option sw_St
  | 0 => fun _ _ _ _ => none
  | n + 1 => fun σ x1 x2 x3 => if (σ 2 4) ≤ x3 then (some σ) else (if x3 = x1 then ((f_X0_takeFromOthers_2 n) σ x1 x2 (x3 + 1)) else (sw_ck (sw_in x3 4) (sw_ck (sw_in x2 8) (sw_pt σ (((8 + 9 * sw_ix x3) + 1) + 1) (sw_ix x2) 0 fun s3 => ((f_X2_backOf s3 (8 + 9 * sw_ix x3) x2).bind fun r4 => (if r4 = 0 then ((f_X0_takeFromOthers_2 n) s3 x1 x2 (x3 + 1)) else (sw_ck (sw_isQ r4) (sw_pt s3 r4 1 0 fun s6 => ((f_X0_takeFromOthers_2 n) s6 x1 x2 (x3 + 1))))))))))
def f_X0_takeFromOthers (σ : sw_St) (x1 : Int32) (x2 : Int32) : Option sw_St := f_X0_takeFromOthers_2 sw_fuel σ x1 x2 0
set_option maxHeartbeats 1000000 in
set_option maxRecDepth 100000 in
theorem s_X0_takeFromOthers_2 {V : sw_V} (C : sw_Cx sw_ZX V cX0_takeFromOthers RX0 5 none L_X0_takeFromOthers 1) : ∀ (n : Nat) (σ : sw_St) (x1 : Int32) (x2 : Int32) (x3 : Int32), sw_S sw_ZX V sw_eV [some (sw_r V 2), some (.int x1), some (.int x2), some (.int x3), none] [] 2 σ (f_X0_takeFromOthers_2 n σ x1 x2 x3) := by
  intro n
  induction n with
  | zero =>
    intro σ x1 x2 x3
    exact g_none
  | succ n ih =>
    intro σ x1 x2 x3
    rw [f_X0_takeFromOthers_2]
    refine g_iload_n C 2 rfl rfl ?_
    refine g_aload_n C 3 rfl rfl ?_
    refine g_getI C 4 rfl fl_X0_44 rfl rfl ?_
    refine g_icmp_ge C 5 rfl 59 (by decide) ?_ ?_
    · exact g_vret C 32 rfl rfl
    · refine g_iload_n C 6 rfl rfl ?_
      refine g_iload_n C 7 rfl rfl ?_
      refine g_icmp_eq C 8 rfl 53 (by decide) ?_ ?_
      · refine g_iinc C 30 rfl 1 (by decide) rfl (Nat.le_of_ble_eq_true rfl) (Or.inr (Or.inr (Or.inl ⟨_, rfl⟩))) ?_
        refine g_goto C 31 rfl 2 (by decide) ?_
        exact g_wk (ih σ x1 x2 (x3 + 1)) ⟨rfl, rfl, rfl, rfl, trivial⟩
      · refine g_aload_n C 9 rfl rfl ?_
        refine g_getR C 10 rfl fl_X0_11 rfl rfl ?_
        refine g_iload_n C 11 rfl rfl ?_
        refine g_ck fun h1 => ?_
        refine g_aald C 12 rfl rfl rfl h1 (tg_cores h1) ?_
        refine g_getR C 13 rfl fl_X0_105 (sh_C (kd_cores h1)) rfl ?_
        refine g_getR C 14 rfl fl_X0_109 (sh_K (kd_CK (kd_cores h1))) rfl ?_
        refine g_iload_n C 15 rfl rfl ?_
        refine g_iconst C 16 rfl 0 (by decide) ?_
        refine g_ck fun h2 => ?_
        refine g_iast C 17 rfl (sh_K0 (kd_CK (kd_cores h1))) h2 (fun s3 => ?_)
        refine g_aload_n C 18 rfl rfl ?_
        refine g_getR C 19 rfl fl_X0_11 rfl rfl ?_
        refine g_iload_n C 20 rfl rfl ?_
        refine g_aald C 21 rfl rfl rfl h1 (tg_cores h1) ?_
        refine g_iload_n C 22 rfl rfl ?_
        refine g_callV (ψ₁ := sw_eR V.2.2.2.2.2 s3) C 23 rfl [(.int x2)] [] ml_X0_165 rfl (Nat.le_of_ble_eq_true rfl) (by decide) (sh_C (kd_cores h1)) rfl (fun b hb => m_X2_backOf V.1.2.1 _ _ _ _ C.inj s3 (8 + 9 * sw_ix x3) x2 b hb) rfl (g_cR fun r4 => ?_)
        refine g_astore C 24 rfl (Nat.le_of_ble_eq_true rfl) (Or.inr (Or.inr (Or.inl ⟨_, rfl⟩))) ?_
        refine g_aload C 25 rfl rfl ?_
        refine g_ifnull C 26 rfl 53 (by decide) ?_ ?_
        · refine g_iinc C 30 rfl 1 (by decide) rfl (Nat.le_of_ble_eq_true rfl) (Or.inr (Or.inr (Or.inl ⟨_, rfl⟩))) ?_
          refine g_goto C 31 rfl 2 (by decide) ?_
          exact g_wk (ih s3 x1 x2 (x3 + 1)) ⟨rfl, rfl, rfl, rfl, trivial⟩
        · refine g_aload C 27 rfl rfl ?_
          refine g_iconst C 28 rfl 0 (by decide) ?_
          refine g_ck fun h5 => ?_
          refine g_put C 29 rfl fp_X0_98 (sh_Q h5) rfl (fun s6 => ?_)
          refine g_iinc C 30 rfl 1 (by decide) rfl (Nat.le_of_ble_eq_true rfl) (Or.inr (Or.inr (Or.inl ⟨_, rfl⟩))) ?_
          refine g_goto C 31 rfl 2 (by decide) ?_
          exact g_wk (ih s6 x1 x2 (x3 + 1)) ⟨rfl, rfl, rfl, rfl, trivial⟩
set_option maxHeartbeats 1000000 in
set_option maxRecDepth 100000 in
theorem s_X0_takeFromOthers {V : sw_V} (C : sw_Cx sw_ZX V cX0_takeFromOthers RX0 5 none L_X0_takeFromOthers 1) (σ : sw_St) (x1 : Int32) (x2 : Int32) : sw_S sw_ZX V sw_eV [some (sw_r V 2), some (.int x1), some (.int x2), none, none] [] 0 σ (f_X0_takeFromOthers σ x1 x2) := by
  unfold f_X0_takeFromOthers
  refine g_iconst C 0 rfl 0 (by decide) ?_
  refine g_istore_n C 1 rfl (Nat.le_of_ble_eq_true rfl) (Or.inr (Or.inr (Or.inl ⟨_, rfl⟩))) ?_
  exact g_wk (s_X0_takeFromOthers_2 C sw_fuel σ x1 x2 0) ⟨rfl, rfl, rfl, rfl, trivial⟩
set_option maxHeartbeats 1000000 in
set_option maxRecDepth 100000 in
theorem m_X0_takeFromOthers (l : Launch) (dC : Nat → ClassId) (dI : Nat → Nat → Nat) (dA : Nat → ClassId) (ad : Nat → Nat) (hI : sw_inj sw_ZX ad) (σ : sw_St) (x1 : Int32) (x2 : Int32) (b : sw_St) (hb : f_X0_takeFromOthers σ x1 x2 = some b) : sw_M sw_ZX l yX0_takeFromOthers cX0_takeFromOthers 5 none 1 dC dI dA ad [(sw_rv ad 2), (.int x1), (.int x2)] σ (sw_eV b) :=
  sw_mk1 (ψ := sw_eV) 2 (by decide) sw_ZXok hI dk_X0_takeFromOthers rfl (sw_c1_all _ ⟨sw_rv_cat _ _, rfl, rfl, trivial⟩) hb (fun p e R M C => s_X0_takeFromOthers C σ x1 x2)
/-! SplitWatch$Bus.orderOwn(LSplitWatch$Request;C)V -/
def L_X0_orderOwn : sw_Is := [(0, .aload_n 1, 1, 1), (1, .getfield 151, 3, 4), (4, .istore_n 3, 1, 5), (5, .aload_n 0, 1, 6), (6, .getfield 30, 3, 9), (9, .aload_n 1, 1, 10), (10, .getfield 190, 3, 13), (13, .iload_n 2, 1, 14), (14, .iload_n 3, 1, 15), (15, .invokevirtual 219, 3, 18), (18, .aload_n 1, 1, 19), (19, .iconst 1, 1, 20), (20, .putfield 148, 3, 23), (23, .aload_n 1, 1, 24), (24, .iconst 2, 1, 25), (25, .putfield 98, 3, 28), (28, .aload_n 1, 1, 29), (29, .aload_n 0, 1, 30), (30, .getfield 30, 3, 33), (33, .getfield 227, 3, 36), (36, .putfield 187, 3, 39), (39, .aload_n 1, 1, 40), (40, .aload_n 0, 1, 41), (41, .getfield 57, 3, 44), (44, .aload_n 0, 1, 45), (45, .aload_n 1, 1, 46), (46, .getfield 190, 3, 49), (49, .iload_n 3, 1, 50), (50, .invokevirtual 230, 3, 53), (53, .iadd, 1, 54), (54, .putfield 180, 3, 57), (57, .aload_n 1, 1, 58), (58, .iconst 3, 1, 59), (59, .putfield 193, 3, 62), (62, .aload_n 0, 1, 63), (63, .aload_n 1, 1, 64), (64, .getfield 190, 3, 67), (67, .iload_n 3, 1, 68), (68, .invokevirtual 223, 3, 71), (71, .return_, 1, 72)]
theorem dk_X0_orderOwn : sw_dc cX0_orderOwn L_X0_orderOwn = true := by decide +kernel
def f_X0_orderOwn (σ : sw_St) (x1 : Nat) (x2 : Int32) : Option sw_St := sw_ck (sw_isQ x1) ((f_X3_add σ (σ x1 0) x2 (σ x1 3)).bind fun r2 => (sw_pt r2 x1 2 1 fun s3 => (sw_pt s3 x1 1 2 fun s4 => (sw_pt s4 x1 8 (s4 6 1) fun s5 => ((f_X0_answerTime s5 (s5 x1 0) (σ x1 3)).bind fun r6 => (sw_pt s5 x1 9 ((s5 2 8) + r6) fun s7 => (sw_pt s7 x1 10 3 fun s8 => ((f_X0_takeFromOthers s8 (s8 x1 0) (σ x1 3)).bind fun r9 => (some r9)))))))))
set_option maxHeartbeats 1000000 in
set_option maxRecDepth 100000 in
theorem s_X0_orderOwn {V : sw_V} (C : sw_Cx sw_ZX V cX0_orderOwn RX0 4 none L_X0_orderOwn 2) (σ : sw_St) (x1 : Nat) (x2 : Int32) : sw_S sw_ZX V sw_eV [some (sw_r V 2), some (sw_r V x1), some (.int x2), none] [] 0 σ (f_X0_orderOwn σ x1 x2) := by
  unfold f_X0_orderOwn
  refine g_aload_n C 0 rfl rfl ?_
  refine g_ck fun h1 => ?_
  refine g_getI C 1 rfl fl_X0_151 (sh_Q h1) rfl ?_
  refine g_istore_n C 2 rfl (Nat.le_of_ble_eq_true rfl) (Or.inr (Or.inr (Or.inl ⟨_, rfl⟩))) ?_
  refine g_aload_n C 3 rfl rfl ?_
  refine g_getR C 4 rfl fl_X0_30 rfl rfl ?_
  refine g_aload_n C 5 rfl rfl ?_
  refine g_getI C 6 rfl fl_X0_190 (sh_Q h1) rfl ?_
  refine g_iload_n C 7 rfl rfl ?_
  refine g_iload_n C 8 rfl rfl ?_
  refine g_callV (ψ₁ := sw_eV) C 9 rfl [(.int (σ x1 0)), (.int x2), (.int (σ x1 3))] [] ml_X0_219 rfl (Nat.le_of_ble_eq_true rfl) (by decide) rfl rfl (fun b hb => m_X3_add V.1.2.1 _ _ _ _ C.inj σ (σ x1 0) x2 (σ x1 3) b hb) rfl (g_cV fun r2 => ?_)
  refine g_aload_n C 10 rfl rfl ?_
  refine g_iconst C 11 rfl 1 (by decide) ?_
  refine g_put C 12 rfl fp_X0_148 (sh_Q h1) rfl (fun s3 => ?_)
  refine g_aload_n C 13 rfl rfl ?_
  refine g_iconst C 14 rfl 2 (by decide) ?_
  refine g_put C 15 rfl fp_X0_98 (sh_Q h1) rfl (fun s4 => ?_)
  refine g_aload_n C 16 rfl rfl ?_
  refine g_aload_n C 17 rfl rfl ?_
  refine g_getR C 18 rfl fl_X0_30 rfl rfl ?_
  refine g_getI C 19 rfl fl_X0_227 rfl rfl ?_
  refine g_put C 20 rfl fp_X0_187 (sh_Q h1) rfl (fun s5 => ?_)
  refine g_aload_n C 21 rfl rfl ?_
  refine g_aload_n C 22 rfl rfl ?_
  refine g_getI C 23 rfl fl_X0_57 rfl rfl ?_
  refine g_aload_n C 24 rfl rfl ?_
  refine g_aload_n C 25 rfl rfl ?_
  refine g_getI C 26 rfl fl_X0_190 (sh_Q h1) rfl ?_
  refine g_iload_n C 27 rfl rfl ?_
  refine g_callV (ψ₁ := sw_eP s5) C 28 rfl [(.int (s5 x1 0)), (.int (σ x1 3))] [(.int (s5 2 8)), (sw_r V x1)] ml_X0_230 rfl (Nat.le_of_ble_eq_true rfl) (by decide) rfl rfl (fun b hb => m_X0_answerTime V.1.2.1 _ _ _ _ C.inj s5 (s5 x1 0) (σ x1 3) b hb) rfl (g_cP fun r6 => ?_)
  refine g_iadd C 29 rfl ?_
  refine g_put C 30 rfl fp_X0_180 (sh_Q h1) rfl (fun s7 => ?_)
  refine g_aload_n C 31 rfl rfl ?_
  refine g_iconst C 32 rfl 3 (by decide) ?_
  refine g_put C 33 rfl fp_X0_193 (sh_Q h1) rfl (fun s8 => ?_)
  refine g_aload_n C 34 rfl rfl ?_
  refine g_aload_n C 35 rfl rfl ?_
  refine g_getI C 36 rfl fl_X0_190 (sh_Q h1) rfl ?_
  refine g_iload_n C 37 rfl rfl ?_
  refine g_callV (ψ₁ := sw_eV) C 38 rfl [(.int (s8 x1 0)), (.int (σ x1 3))] [] ml_X0_223 rfl (Nat.le_of_ble_eq_true rfl) (by decide) rfl rfl (fun b hb => m_X0_takeFromOthers V.1.2.1 _ _ _ _ C.inj s8 (s8 x1 0) (σ x1 3) b hb) rfl (g_cV fun r9 => ?_)
  exact g_vret C 39 rfl rfl
set_option maxHeartbeats 1000000 in
set_option maxRecDepth 100000 in
theorem m_X0_orderOwn (l : Launch) (dC : Nat → ClassId) (dI : Nat → Nat → Nat) (dA : Nat → ClassId) (ad : Nat → Nat) (hI : sw_inj sw_ZX ad) (σ : sw_St) (x1 : Nat) (x2 : Int32) (b : sw_St) (hb : f_X0_orderOwn σ x1 x2 = some b) : sw_M sw_ZX l yX0_orderOwn cX0_orderOwn 4 none 2 dC dI dA ad [(sw_rv ad 2), (sw_rv ad x1), (.int x2)] σ (sw_eV b) :=
  sw_mk1 (ψ := sw_eV) 1 (by decide) sw_ZXok hI dk_X0_orderOwn rfl (sw_c1_all _ ⟨sw_rv_cat _ _, sw_rv_cat _ _, rfl, trivial⟩) hb (fun p e R M C => s_X0_orderOwn C σ x1 x2)
/-! SplitWatch$Bus.orderRise(LSplitWatch$Request;)V -/
def L_X0_orderRise : sw_Is := [(0, .aload_n 0, 1, 1), (1, .getfield 30, 3, 4), (4, .aload_n 1, 1, 5), (5, .getfield 190, 3, 8), (8, .bipush 85, 2, 10), (10, .aload_n 1, 1, 11), (11, .getfield 151, 3, 14), (14, .invokevirtual 219, 3, 17), (17, .aload_n 0, 1, 18), (18, .aload_n 1, 1, 19), (19, .getfield 190, 3, 22), (22, .aload_n 1, 1, 23), (23, .getfield 151, 3, 26), (26, .invokevirtual 223, 3, 29), (29, .aload_n 0, 1, 30), (30, .getfield 11, 3, 33), (33, .aload_n 1, 1, 34), (34, .getfield 190, 3, 37), (37, .aaload, 1, 38), (38, .getfield 105, 3, 41), (41, .aload_n 1, 1, 42), (42, .getfield 151, 3, 45), (45, .iconst 3, 1, 46), (46, .aload_n 1, 1, 47), (47, .getfield 154, 3, 50), (50, .invokevirtual 131, 3, 53), (53, .aload_n 1, 1, 54), (54, .iconst 0, 1, 55), (55, .putfield 98, 3, 58), (58, .aload_n 0, 1, 59), (59, .dup, 1, 60), (60, .getfield 69, 3, 63), (63, .iconst 1, 1, 64), (64, .iadd, 1, 65), (65, .putfield 69, 3, 68), (68, .return_, 1, 69)]
theorem dk_X0_orderRise : sw_dc cX0_orderRise L_X0_orderRise = true := by decide +kernel
def f_X0_orderRise (σ : sw_St) (x1 : Nat) : Option sw_St := sw_ck (sw_isQ x1) ((f_X3_add σ (σ x1 0) 85 (σ x1 3)).bind fun r2 => ((f_X0_takeFromOthers r2 (r2 x1 0) (r2 x1 3)).bind fun r3 => (sw_ck (sw_in (r3 x1 0) 4) ((f_X1_put r3 ((8 + 9 * sw_ix (r3 x1 0)) + 1) (r3 x1 3) 3 (r3 x1 4)).bind fun r5 => (sw_pt r5 x1 1 0 fun s6 => (sw_pt s6 2 12 ((s6 2 12) + 1) fun s7 => (some s7)))))))
set_option maxHeartbeats 1000000 in
set_option maxRecDepth 100000 in
theorem s_X0_orderRise {V : sw_V} (C : sw_Cx sw_ZX V cX0_orderRise RX0 2 none L_X0_orderRise 2) (σ : sw_St) (x1 : Nat) : sw_S sw_ZX V sw_eV [some (sw_r V 2), some (sw_r V x1)] [] 0 σ (f_X0_orderRise σ x1) := by
  unfold f_X0_orderRise
  refine g_aload_n C 0 rfl rfl ?_
  refine g_getR C 1 rfl fl_X0_30 rfl rfl ?_
  refine g_aload_n C 2 rfl rfl ?_
  refine g_ck fun h1 => ?_
  refine g_getI C 3 rfl fl_X0_190 (sh_Q h1) rfl ?_
  refine g_bipush C 4 rfl 85 (by decide) ?_
  refine g_aload_n C 5 rfl rfl ?_
  refine g_getI C 6 rfl fl_X0_151 (sh_Q h1) rfl ?_
  refine g_callV (ψ₁ := sw_eV) C 7 rfl [(.int (σ x1 0)), (.int 85), (.int (σ x1 3))] [] ml_X0_219 rfl (Nat.le_of_ble_eq_true rfl) (by decide) rfl rfl (fun b hb => m_X3_add V.1.2.1 _ _ _ _ C.inj σ (σ x1 0) 85 (σ x1 3) b hb) rfl (g_cV fun r2 => ?_)
  refine g_aload_n C 8 rfl rfl ?_
  refine g_aload_n C 9 rfl rfl ?_
  refine g_getI C 10 rfl fl_X0_190 (sh_Q h1) rfl ?_
  refine g_aload_n C 11 rfl rfl ?_
  refine g_getI C 12 rfl fl_X0_151 (sh_Q h1) rfl ?_
  refine g_callV (ψ₁ := sw_eV) C 13 rfl [(.int (r2 x1 0)), (.int (r2 x1 3))] [] ml_X0_223 rfl (Nat.le_of_ble_eq_true rfl) (by decide) rfl rfl (fun b hb => m_X0_takeFromOthers V.1.2.1 _ _ _ _ C.inj r2 (r2 x1 0) (r2 x1 3) b hb) rfl (g_cV fun r3 => ?_)
  refine g_aload_n C 14 rfl rfl ?_
  refine g_getR C 15 rfl fl_X0_11 rfl rfl ?_
  refine g_aload_n C 16 rfl rfl ?_
  refine g_getI C 17 rfl fl_X0_190 (sh_Q h1) rfl ?_
  refine g_ck fun h4 => ?_
  refine g_aald C 18 rfl rfl rfl h4 (tg_cores h4) ?_
  refine g_getR C 19 rfl fl_X0_105 (sh_C (kd_cores h4)) rfl ?_
  refine g_aload_n C 20 rfl rfl ?_
  refine g_getI C 21 rfl fl_X0_151 (sh_Q h1) rfl ?_
  refine g_iconst C 22 rfl 3 (by decide) ?_
  refine g_aload_n C 23 rfl rfl ?_
  refine g_getI C 24 rfl fl_X0_154 (sh_Q h1) rfl ?_
  refine g_callV (ψ₁ := sw_eV) C 25 rfl [(.int (r3 x1 3)), (.int 3), (.int (r3 x1 4))] [] ml_X0_131 rfl (Nat.le_of_ble_eq_true rfl) (by decide) (sh_K (kd_CK (kd_cores h4))) rfl (fun b hb => m_X1_put V.1.2.1 _ _ _ _ C.inj r3 ((8 + 9 * sw_ix (r3 x1 0)) + 1) (r3 x1 3) 3 (r3 x1 4) b hb) rfl (g_cV fun r5 => ?_)
  refine g_aload_n C 26 rfl rfl ?_
  refine g_iconst C 27 rfl 0 (by decide) ?_
  refine g_put C 28 rfl fp_X0_98 (sh_Q h1) rfl (fun s6 => ?_)
  refine g_aload_n C 29 rfl rfl ?_
  refine g_dupR C 30 rfl ?_
  refine g_getI C 31 rfl fl_X0_69 rfl rfl ?_
  refine g_iconst C 32 rfl 1 (by decide) ?_
  refine g_iadd C 33 rfl ?_
  refine g_put C 34 rfl fp_X0_69 rfl rfl (fun s7 => ?_)
  exact g_vret C 35 rfl rfl
set_option maxHeartbeats 1000000 in
set_option maxRecDepth 100000 in
theorem m_X0_orderRise (l : Launch) (dC : Nat → ClassId) (dI : Nat → Nat → Nat) (dA : Nat → ClassId) (ad : Nat → Nat) (hI : sw_inj sw_ZX ad) (σ : sw_St) (x1 : Nat) (b : sw_St) (hb : f_X0_orderRise σ x1 = some b) : sw_M sw_ZX l yX0_orderRise cX0_orderRise 2 none 2 dC dI dA ad [(sw_rv ad 2), (sw_rv ad x1)] σ (sw_eV b) :=
  sw_mk1 (ψ := sw_eV) 0 (by decide) sw_ZXok hI dk_X0_orderRise rfl (sw_c1_all _ ⟨sw_rv_cat _ _, sw_rv_cat _ _, trivial⟩) hb (fun p e R M C => s_X0_orderRise C σ x1)
/-! SplitWatch$Bus.addressTurn()V -/
def L_X0_addressTurn : sw_Is := [(0, .aload_n 0, 1, 1), (1, .invokevirtual 196, 3, 4), (4, .astore_n 1, 1, 5), (5, .aload_n 1, 1, 6), (6, .ifnonnull 4, 3, 9), (9, .return_, 1, 10), (10, .aload_n 0, 1, 11), (11, .aload_n 1, 1, 12), (12, .getfield 151, 3, 15), (15, .invokevirtual 199, 3, 18), (18, .ifnull 9, 3, 21), (21, .aload_n 0, 1, 22), (22, .aload_n 1, 1, 23), (23, .invokevirtual 202, 3, 26), (26, .return_, 1, 27), (27, .aload_n 0, 1, 28), (28, .getfield 11, 3, 31), (31, .aload_n 1, 1, 32), (32, .getfield 190, 3, 35), (35, .aaload, 1, 36), (36, .getfield 105, 3, 39), (39, .getfield 109, 3, 42), (42, .aload_n 1, 1, 43), (43, .getfield 151, 3, 46), (46, .iaload, 1, 47), (47, .iconst 1, 1, 48), (48, .if_icmp .ne 7, 3, 51), (51, .iconst 1, 1, 52), (52, .goto 4, 3, 55), (55, .iconst 0, 1, 56), (56, .istore_n 2, 1, 57), (57, .aload_n 1, 1, 58), (58, .getfield 148, 3, 61), (61, .tableswitch 57 0 3 #[39, 47, 57, 31], 31, 92), (92, .aload_n 0, 1, 93), (93, .aload_n 1, 1, 94), (94, .invokevirtual 206, 3, 97), (97, .goto 50, 3, 100), (100, .aload_n 0, 1, 101), (101, .aload_n 1, 1, 102), (102, .invokevirtual 209, 3, 105), (105, .goto 42, 3, 108), (108, .aload_n 0, 1, 109), (109, .aload_n 1, 1, 110), (110, .bipush 79, 2, 112), (112, .invokevirtual 212, 3, 115), (115, .goto 32, 3, 118), (118, .iload_n 2, 1, 119), (119, .ifCond .eq 11, 3, 122), (122, .aload_n 0, 1, 123), (123, .aload_n 1, 1, 124), (124, .invokevirtual 216, 3, 127), (127, .goto 20, 3, 130), (130, .aload_n 0, 1, 131), (131, .dup, 1, 132), (132, .getfield 66, 3, 135), (135, .iconst 1, 1, 136), (136, .iadd, 1, 137), (137, .putfield 66, 3, 140), (140, .aload_n 0, 1, 141), (141, .aload_n 1, 1, 142), (142, .bipush 87, 2, 144), (144, .invokevirtual 212, 3, 147), (147, .return_, 1, 148)]
theorem dk_X0_addressTurn : sw_dc cX0_addressTurn L_X0_addressTurn = true := by decide +kernel
def f_X0_addressTurn_56  (σ : sw_St) (x1 : Nat) (y0 : Int32) : Option sw_St := sw_ck (sw_isQ x1) (if (σ x1 2) = 0 then ((f_X0_orderRead σ x1).bind fun r2 => (some r2)) else (if (σ x1 2) = 1 then ((f_X0_orderOwn σ x1 79).bind fun r4 => (some r4)) else (if (σ x1 2) = 2 then (if y0 = 0 then (sw_pt σ 2 11 ((σ 2 11) + 1) fun s6 => ((f_X0_orderOwn s6 x1 87).bind fun r7 => (some r7))) else ((f_X0_orderRise σ x1).bind fun r8 => (some r8))) else (if (σ x1 2) = 3 then ((f_X0_orderBack σ x1).bind fun r10 => (some r10)) else (if y0 = 0 then (sw_pt σ 2 11 ((σ 2 11) + 1) fun s12 => ((f_X0_orderOwn s12 x1 87).bind fun r13 => (some r13))) else ((f_X0_orderRise σ x1).bind fun r14 => (some r14)))))))
def f_X0_addressTurn (σ : sw_St)  : Option sw_St := (f_X0_nextWaiting σ).bind fun r1 => (if r1 = 0 then (some σ) else (sw_ck (sw_isQ r1) ((f_X0_openOf σ (σ r1 3)).bind fun r3 => (if r3 = 0 then (sw_ck (sw_in (σ r1 0) 4) (sw_ck (sw_in (σ r1 3) 8) (if (σ (((8 + 9 * sw_ix (σ r1 0)) + 1) + 1) (sw_ix (σ r1 3))) = 1 then (f_X0_addressTurn_56 σ r1 1) else (f_X0_addressTurn_56 σ r1 0)))) else ((f_X0_sendAway σ r1).bind fun r6 => (some r6))))))
set_option maxHeartbeats 1000000 in
set_option maxRecDepth 100000 in
theorem s_X0_addressTurn_56 {V : sw_V} (C : sw_Cx sw_ZX V cX0_addressTurn RX0 3 none L_X0_addressTurn 3) (σ : sw_St) (x1 : Nat) (y0 : Int32) : sw_S sw_ZX V sw_eV [some (sw_r V 2), some (sw_r V x1), none] [(.int y0)] 56 σ (f_X0_addressTurn_56 σ x1 y0) := by
  unfold f_X0_addressTurn_56
  refine g_istore_n C 30 rfl (Nat.le_of_ble_eq_true rfl) (Or.inr (Or.inr (Or.inr ⟨_, rfl⟩))) ?_
  refine g_aload_n C 31 rfl rfl ?_
  refine g_ck fun h1 => ?_
  refine g_getI C 32 rfl fl_X0_148 (sh_Q h1) rfl ?_
  skip
  refine g_tin C 33 rfl 0 100 (by decide) 39 (by decide) (by decide) ?_ (fun h3 => ?_)
  · refine g_aload_n C 38 rfl rfl ?_
    refine g_aload_n C 39 rfl rfl ?_
    refine g_callV (ψ₁ := sw_eV) C 40 rfl [(sw_r V x1)] [] ml_X0_209 rfl (Nat.le_of_ble_eq_true rfl) (by decide) rfl rfl (fun b hb => m_X0_orderRead V.1.2.1 _ _ _ _ C.inj σ x1 b hb) rfl (g_cV fun r2 => ?_)
    refine g_goto C 41 rfl 147 (by decide) ?_
    exact g_vret C 63 rfl rfl
  refine g_tin C 33 rfl 1 108 (by decide) 47 (by decide) (by decide) ?_ (fun h5 => ?_)
  · refine g_aload_n C 42 rfl rfl ?_
    refine g_aload_n C 43 rfl rfl ?_
    refine g_bipush C 44 rfl 79 (by decide) ?_
    refine g_callV (ψ₁ := sw_eV) C 45 rfl [(sw_r V x1), (.int 79)] [] ml_X0_212 rfl (Nat.le_of_ble_eq_true rfl) (by decide) rfl rfl (fun b hb => m_X0_orderOwn V.1.2.1 _ _ _ _ C.inj σ x1 79 b hb) rfl (g_cV fun r4 => ?_)
    refine g_goto C 46 rfl 147 (by decide) ?_
    exact g_vret C 63 rfl rfl
  refine g_tin C 33 rfl 2 118 (by decide) 57 (by decide) (by decide) ?_ (fun h9 => ?_)
  · refine g_iload_n C 47 rfl rfl ?_
    refine g_if_eq C 48 rfl 130 (by decide) ?_ ?_
    · refine g_aload_n C 53 rfl rfl ?_
      refine g_dupR C 54 rfl ?_
      refine g_getI C 55 rfl fl_X0_66 rfl rfl ?_
      refine g_iconst C 56 rfl 1 (by decide) ?_
      refine g_iadd C 57 rfl ?_
      refine g_put C 58 rfl fp_X0_66 rfl rfl (fun s6 => ?_)
      refine g_aload_n C 59 rfl rfl ?_
      refine g_aload_n C 60 rfl rfl ?_
      refine g_bipush C 61 rfl 87 (by decide) ?_
      refine g_callV (ψ₁ := sw_eV) C 62 rfl [(sw_r V x1), (.int 87)] [] ml_X0_212 rfl (Nat.le_of_ble_eq_true rfl) (by decide) rfl rfl (fun b hb => m_X0_orderOwn V.1.2.1 _ _ _ _ C.inj s6 x1 87 b hb) rfl (g_cV fun r7 => ?_)
      exact g_vret C 63 rfl rfl
    · refine g_aload_n C 49 rfl rfl ?_
      refine g_aload_n C 50 rfl rfl ?_
      refine g_callV (ψ₁ := sw_eV) C 51 rfl [(sw_r V x1)] [] ml_X0_216 rfl (Nat.le_of_ble_eq_true rfl) (by decide) rfl rfl (fun b hb => m_X0_orderRise V.1.2.1 _ _ _ _ C.inj σ x1 b hb) rfl (g_cV fun r8 => ?_)
      refine g_goto C 52 rfl 147 (by decide) ?_
      exact g_vret C 63 rfl rfl
  refine g_tin C 33 rfl 3 92 (by decide) 31 (by decide) (by decide) ?_ (fun h11 => ?_)
  · refine g_aload_n C 34 rfl rfl ?_
    refine g_aload_n C 35 rfl rfl ?_
    refine g_callV (ψ₁ := sw_eV) C 36 rfl [(sw_r V x1)] [] ml_X0_206 rfl (Nat.le_of_ble_eq_true rfl) (by decide) rfl rfl (fun b hb => m_X0_orderBack V.1.2.1 _ _ _ _ C.inj σ x1 b hb) rfl (g_cV fun r10 => ?_)
    refine g_goto C 37 rfl 147 (by decide) ?_
    exact g_vret C 63 rfl rfl
  refine g_tout C 33 rfl 118 (by have a0 := lv_neT (a := 0) h3 (by decide); have a1 := lv_neT (a := 1) h5 (by decide); have a2 := lv_neT (a := 2) h9 (by decide); have a3 := lv_neT (a := 3) h11 (by decide); omega) (by decide) ?_
  refine g_iload_n C 47 rfl rfl ?_
  refine g_if_eq C 48 rfl 130 (by decide) ?_ ?_
  · refine g_aload_n C 53 rfl rfl ?_
    refine g_dupR C 54 rfl ?_
    refine g_getI C 55 rfl fl_X0_66 rfl rfl ?_
    refine g_iconst C 56 rfl 1 (by decide) ?_
    refine g_iadd C 57 rfl ?_
    refine g_put C 58 rfl fp_X0_66 rfl rfl (fun s12 => ?_)
    refine g_aload_n C 59 rfl rfl ?_
    refine g_aload_n C 60 rfl rfl ?_
    refine g_bipush C 61 rfl 87 (by decide) ?_
    refine g_callV (ψ₁ := sw_eV) C 62 rfl [(sw_r V x1), (.int 87)] [] ml_X0_212 rfl (Nat.le_of_ble_eq_true rfl) (by decide) rfl rfl (fun b hb => m_X0_orderOwn V.1.2.1 _ _ _ _ C.inj s12 x1 87 b hb) rfl (g_cV fun r13 => ?_)
    exact g_vret C 63 rfl rfl
  · refine g_aload_n C 49 rfl rfl ?_
    refine g_aload_n C 50 rfl rfl ?_
    refine g_callV (ψ₁ := sw_eV) C 51 rfl [(sw_r V x1)] [] ml_X0_216 rfl (Nat.le_of_ble_eq_true rfl) (by decide) rfl rfl (fun b hb => m_X0_orderRise V.1.2.1 _ _ _ _ C.inj σ x1 b hb) rfl (g_cV fun r14 => ?_)
    refine g_goto C 52 rfl 147 (by decide) ?_
    exact g_vret C 63 rfl rfl
set_option maxHeartbeats 1000000 in
set_option maxRecDepth 100000 in
theorem s_X0_addressTurn {V : sw_V} (C : sw_Cx sw_ZX V cX0_addressTurn RX0 3 none L_X0_addressTurn 3) (σ : sw_St)  : sw_S sw_ZX V sw_eV [some (sw_r V 2), none, none] [] 0 σ (f_X0_addressTurn σ) := by
  unfold f_X0_addressTurn
  refine g_aload_n C 0 rfl rfl ?_
  refine g_callV (ψ₁ := sw_eR V.2.2.2.2.2 σ) C 1 rfl [] [] ml_X0_196 rfl (Nat.le_of_ble_eq_true rfl) (by decide) rfl rfl (fun b hb => m_X0_nextWaiting V.1.2.1 _ _ _ _ C.inj σ b hb) rfl (g_cR fun r1 => ?_)
  refine g_astore_n C 2 rfl (Nat.le_of_ble_eq_true rfl) (Or.inr (Or.inr (Or.inr ⟨_, rfl⟩))) ?_
  refine g_aload_n C 3 rfl rfl ?_
  refine g_ifnonnull C 4 rfl 10 (by decide) ?_ ?_
  · refine g_aload_n C 6 rfl rfl ?_
    refine g_aload_n C 7 rfl rfl ?_
    refine g_ck fun h2 => ?_
    refine g_getI C 8 rfl fl_X0_151 (sh_Q h2) rfl ?_
    refine g_callV (ψ₁ := sw_eR V.2.2.2.2.2 σ) C 9 rfl [(.int (σ r1 3))] [] ml_X0_199 rfl (Nat.le_of_ble_eq_true rfl) (by decide) rfl rfl (fun b hb => m_X0_openOf V.1.2.1 _ _ _ _ C.inj σ (σ r1 3) b hb) rfl (g_cR fun r3 => ?_)
    refine g_ifnull C 10 rfl 27 (by decide) ?_ ?_
    · refine g_aload_n C 15 rfl rfl ?_
      refine g_getR C 16 rfl fl_X0_11 rfl rfl ?_
      refine g_aload_n C 17 rfl rfl ?_
      refine g_getI C 18 rfl fl_X0_190 (sh_Q h2) rfl ?_
      refine g_ck fun h4 => ?_
      refine g_aald C 19 rfl rfl rfl h4 (tg_cores h4) ?_
      refine g_getR C 20 rfl fl_X0_105 (sh_C (kd_cores h4)) rfl ?_
      refine g_getR C 21 rfl fl_X0_109 (sh_K (kd_CK (kd_cores h4))) rfl ?_
      refine g_aload_n C 22 rfl rfl ?_
      refine g_getI C 23 rfl fl_X0_151 (sh_Q h2) rfl ?_
      refine g_ck fun h5 => ?_
      refine g_iald C 24 rfl (sh_K0 (kd_CK (kd_cores h4))) h5 ?_
      refine g_iconst C 25 rfl 1 (by decide) ?_
      refine g_icmp_ne C 26 rfl 55 (by decide) ?_ ?_
      · refine g_iconst C 29 rfl 0 (by decide) ?_
        exact g_wk (s_X0_addressTurn_56 C σ r1 0) ⟨rfl, rfl, trivial⟩
      · refine g_iconst C 27 rfl 1 (by decide) ?_
        refine g_goto C 28 rfl 56 (by decide) ?_
        exact g_wk (s_X0_addressTurn_56 C σ r1 1) ⟨rfl, rfl, trivial⟩
    · refine g_aload_n C 11 rfl rfl ?_
      refine g_aload_n C 12 rfl rfl ?_
      refine g_callV (ψ₁ := sw_eV) C 13 rfl [(sw_r V r1)] [] ml_X0_202 rfl (Nat.le_of_ble_eq_true rfl) (by decide) rfl rfl (fun b hb => m_X0_sendAway V.1.2.1 _ _ _ _ C.inj σ r1 b hb) rfl (g_cV fun r6 => ?_)
      exact g_vret C 14 rfl rfl
  · exact g_vret C 5 rfl rfl
set_option maxHeartbeats 1000000 in
set_option maxRecDepth 100000 in
theorem m_X0_addressTurn (l : Launch) (dC : Nat → ClassId) (dI : Nat → Nat → Nat) (dA : Nat → ClassId) (ad : Nat → Nat) (hI : sw_inj sw_ZX ad) (σ : sw_St)  (b : sw_St) (hb : f_X0_addressTurn σ = some b) : sw_M sw_ZX l yX0_addressTurn cX0_addressTurn 3 none 3 dC dI dA ad [(sw_rv ad 2)] σ (sw_eV b) :=
  sw_mk1 (ψ := sw_eV) 2 (by decide) sw_ZXok hI dk_X0_addressTurn rfl (sw_c1_all _ ⟨sw_rv_cat _ _, trivial⟩) hb (fun p e R M C => s_X0_addressTurn C σ)
/-! SplitWatch$Bus.runTurns(I)I -/
def L_X0_runTurns : sw_Is := [(0, .aload_n 0, 1, 1), (1, .getfield 69, 3, 4), (4, .istore_n 2, 1, 5), (5, .iconst 0, 1, 6), (6, .istore_n 3, 1, 7), (7, .iload_n 3, 1, 8), (8, .iload_n 1, 1, 9), (9, .if_icmp .ge 27, 3, 12), (12, .aload_n 0, 1, 13), (13, .dup, 1, 14), (14, .getfield 57, 3, 17), (17, .iconst 1, 1, 18), (18, .iadd, 1, 19), (19, .putfield 57, 3, 22), (22, .aload_n 0, 1, 23), (23, .invokevirtual 142, 3, 26), (26, .aload_n 0, 1, 27), (27, .invokevirtual 145, 3, 30), (30, .iinc 3 1, 3, 33), (33, .goto (-26), 3, 36), (36, .aload_n 0, 1, 37), (37, .getfield 69, 3, 40), (40, .iload_n 2, 1, 41), (41, .isub, 1, 42), (42, .ireturn, 1, 43)]
theorem dk_X0_runTurns : sw_dc cX0_runTurns L_X0_runTurns = true := by decide +kernel
def f_X0_runTurns_7  : Nat → sw_St → Int32 → Int32 → Int32 → Option (Int32 × sw_St)
  | 0 => fun _ _ _ _ => none
  | n + 1 => fun σ x1 x2 x3 => if x1 ≤ x3 then (some (((σ 2 12) - x2), σ)) else (sw_pt σ 2 8 ((σ 2 8) + 1) fun s1 => ((f_X0_answerTurn s1).bind fun r2 => ((f_X0_addressTurn r2).bind fun r3 => ((f_X0_runTurns_7 n) r3 x1 x2 (x3 + 1)))))
def f_X0_runTurns (σ : sw_St) (x1 : Int32) : Option (Int32 × sw_St) := f_X0_runTurns_7 sw_fuel σ x1 (σ 2 12) 0
set_option maxHeartbeats 1000000 in
set_option maxRecDepth 100000 in
theorem s_X0_runTurns_7 {V : sw_V} (C : sw_Cx sw_ZX V cX0_runTurns RX0 4 (some .int) L_X0_runTurns 4) : ∀ (n : Nat) (σ : sw_St) (x1 : Int32) (x2 : Int32) (x3 : Int32), sw_S sw_ZX V sw_eI [some (sw_r V 2), some (.int x1), some (.int x2), some (.int x3)] [] 7 σ (f_X0_runTurns_7 n σ x1 x2 x3) := by
  intro n
  induction n with
  | zero =>
    intro σ x1 x2 x3
    exact g_none
  | succ n ih =>
    intro σ x1 x2 x3
    rw [f_X0_runTurns_7]
    refine g_iload_n C 5 rfl rfl ?_
    refine g_iload_n C 6 rfl rfl ?_
    refine g_icmp_ge C 7 rfl 36 (by decide) ?_ ?_
    · refine g_aload_n C 20 rfl rfl ?_
      refine g_getI C 21 rfl fl_X0_69 rfl rfl ?_
      refine g_iload_n C 22 rfl rfl ?_
      refine g_isub C 23 rfl ?_
      skip
      exact g_iret C 24 rfl rfl
    · refine g_aload_n C 8 rfl rfl ?_
      refine g_dupR C 9 rfl ?_
      refine g_getI C 10 rfl fl_X0_57 rfl rfl ?_
      refine g_iconst C 11 rfl 1 (by decide) ?_
      refine g_iadd C 12 rfl ?_
      refine g_put C 13 rfl fp_X0_57 rfl rfl (fun s1 => ?_)
      refine g_aload_n C 14 rfl rfl ?_
      refine g_callV (ψ₁ := sw_eV) C 15 rfl [] [] ml_X0_142 rfl (Nat.le_of_ble_eq_true rfl) (by decide) rfl rfl (fun b hb => m_X0_answerTurn V.1.2.1 _ _ _ _ C.inj s1 b hb) rfl (g_cV fun r2 => ?_)
      refine g_aload_n C 16 rfl rfl ?_
      refine g_callV (ψ₁ := sw_eV) C 17 rfl [] [] ml_X0_145 rfl (Nat.le_of_ble_eq_true rfl) (by decide) rfl rfl (fun b hb => m_X0_addressTurn V.1.2.1 _ _ _ _ C.inj r2 b hb) rfl (g_cV fun r3 => ?_)
      refine g_iinc C 18 rfl 1 (by decide) rfl (Nat.le_of_ble_eq_true rfl) (Or.inr (Or.inr (Or.inl ⟨_, rfl⟩))) ?_
      refine g_goto C 19 rfl 7 (by decide) ?_
      exact g_wk (ih r3 x1 x2 (x3 + 1)) ⟨rfl, rfl, rfl, rfl, trivial⟩
set_option maxHeartbeats 1000000 in
set_option maxRecDepth 100000 in
theorem s_X0_runTurns {V : sw_V} (C : sw_Cx sw_ZX V cX0_runTurns RX0 4 (some .int) L_X0_runTurns 4) (σ : sw_St) (x1 : Int32) : sw_S sw_ZX V sw_eI [some (sw_r V 2), some (.int x1), none, none] [] 0 σ (f_X0_runTurns σ x1) := by
  unfold f_X0_runTurns
  refine g_aload_n C 0 rfl rfl ?_
  refine g_getI C 1 rfl fl_X0_69 rfl rfl ?_
  refine g_istore_n C 2 rfl (Nat.le_of_ble_eq_true rfl) (Or.inr (Or.inr (Or.inl ⟨_, rfl⟩))) ?_
  refine g_iconst C 3 rfl 0 (by decide) ?_
  refine g_istore_n C 4 rfl (Nat.le_of_ble_eq_true rfl) (Or.inr (Or.inr (Or.inl ⟨_, rfl⟩))) ?_
  exact g_wk (s_X0_runTurns_7 C sw_fuel σ x1 (σ 2 12) 0) ⟨rfl, rfl, rfl, rfl, trivial⟩
set_option maxHeartbeats 1000000 in
set_option maxRecDepth 100000 in
theorem m_X0_runTurns (l : Launch) (dC : Nat → ClassId) (dI : Nat → Nat → Nat) (dA : Nat → ClassId) (ad : Nat → Nat) (hI : sw_inj sw_ZX ad) (σ : sw_St) (x1 : Int32) (b : (Int32 × sw_St)) (hb : f_X0_runTurns σ x1 = some b) : sw_M sw_ZX l yX0_runTurns cX0_runTurns 4 (some .int) 4 dC dI dA ad [(sw_rv ad 2), (.int x1)] σ (sw_eI b) :=
  sw_mk1 (ψ := sw_eI) 2 (by decide) sw_ZXok hI dk_X0_runTurns rfl (sw_c1_all _ ⟨sw_rv_cat _ _, rfl, trivial⟩) hb (fun p e R M C => s_X0_runTurns C σ x1)
/-! SplitWatch$Bus.takeBack(LSplitWatch$Core;I)V -/
def L_X0_takeBack : sw_Is := [(0, .aload_n 1, 1, 1), (1, .iload_n 2, 1, 2), (2, .invokevirtual 165, 3, 5), (5, .astore_n 3, 1, 6), (6, .aload_n 3, 1, 7), (7, .ifnull 19, 3, 10), (10, .aload_n 3, 1, 11), (11, .iconst 0, 1, 12), (12, .putfield 98, 3, 15), (15, .aload_n 0, 1, 16), (16, .aload_n 1, 1, 17), (17, .iload_n 2, 1, 18), (18, .iconst 3, 1, 19), (19, .aload_n 3, 1, 20), (20, .getfield 154, 3, 23), (23, .invokevirtual 169, 3, 26), (26, .return_, 1, 27)]
theorem dk_X0_takeBack : sw_dc cX0_takeBack L_X0_takeBack = true := by decide +kernel
def f_X0_takeBack (σ : sw_St) (x1 : Nat) (x2 : Int32) : Option sw_St := sw_ck (sw_isC x1) ((f_X2_backOf σ x1 x2).bind fun r2 => (if r2 = 0 then (some σ) else (sw_ck (sw_isQ r2) (sw_pt σ r2 1 0 fun s4 => ((f_X0_fill s4 x1 x2 3 (s4 r2 4)).bind fun r5 => (some r5))))))
set_option maxHeartbeats 1000000 in
set_option maxRecDepth 100000 in
theorem s_X0_takeBack {V : sw_V} (C : sw_Cx sw_ZX V cX0_takeBack RX0 4 none L_X0_takeBack 3) (σ : sw_St) (x1 : Nat) (x2 : Int32) : sw_S sw_ZX V sw_eV [some (sw_r V 2), some (sw_r V x1), some (.int x2), none] [] 0 σ (f_X0_takeBack σ x1 x2) := by
  unfold f_X0_takeBack
  refine g_aload_n C 0 rfl rfl ?_
  refine g_iload_n C 1 rfl rfl ?_
  refine g_ck fun h1 => ?_
  refine g_callV (ψ₁ := sw_eR V.2.2.2.2.2 σ) C 2 rfl [(.int x2)] [] ml_X0_165 rfl (Nat.le_of_ble_eq_true rfl) (by decide) (sh_C h1) rfl (fun b hb => m_X2_backOf V.1.2.1 _ _ _ _ C.inj σ x1 x2 b hb) rfl (g_cR fun r2 => ?_)
  refine g_astore_n C 3 rfl (Nat.le_of_ble_eq_true rfl) (Or.inr (Or.inr (Or.inl ⟨_, rfl⟩))) ?_
  refine g_aload_n C 4 rfl rfl ?_
  refine g_ifnull C 5 rfl 26 (by decide) ?_ ?_
  · exact g_vret C 16 rfl rfl
  · refine g_aload_n C 6 rfl rfl ?_
    refine g_iconst C 7 rfl 0 (by decide) ?_
    refine g_ck fun h3 => ?_
    refine g_put C 8 rfl fp_X0_98 (sh_Q h3) rfl (fun s4 => ?_)
    refine g_aload_n C 9 rfl rfl ?_
    refine g_aload_n C 10 rfl rfl ?_
    refine g_iload_n C 11 rfl rfl ?_
    refine g_iconst C 12 rfl 3 (by decide) ?_
    refine g_aload_n C 13 rfl rfl ?_
    refine g_getI C 14 rfl fl_X0_154 (sh_Q h3) rfl ?_
    refine g_callV (ψ₁ := sw_eV) C 15 rfl [(sw_r V x1), (.int x2), (.int 3), (.int (s4 r2 4))] [] ml_X0_169 rfl (Nat.le_of_ble_eq_true rfl) (by decide) rfl rfl (fun b hb => m_X0_fill V.1.2.1 _ _ _ _ C.inj s4 x1 x2 3 (s4 r2 4) b hb) rfl (g_cV fun r5 => ?_)
    exact g_vret C 16 rfl rfl
set_option maxHeartbeats 1000000 in
set_option maxRecDepth 100000 in
theorem m_X0_takeBack (l : Launch) (dC : Nat → ClassId) (dI : Nat → Nat → Nat) (dA : Nat → ClassId) (ad : Nat → Nat) (hI : sw_inj sw_ZX ad) (σ : sw_St) (x1 : Nat) (x2 : Int32) (b : sw_St) (hb : f_X0_takeBack σ x1 x2 = some b) : sw_M sw_ZX l yX0_takeBack cX0_takeBack 4 none 3 dC dI dA ad [(sw_rv ad 2), (sw_rv ad x1), (.int x2)] σ (sw_eV b) :=
  sw_mk1 (ψ := sw_eV) 1 (by decide) sw_ZXok hI dk_X0_takeBack rfl (sw_c1_all _ ⟨sw_rv_cat _ _, sw_rv_cat _ _, rfl, trivial⟩) hb (fun p e R M C => s_X0_takeBack C σ x1 x2)
/-! SplitWatch$Bus.startRead(II)I -/
def L_X0_startRead : sw_Is := [(0, .aload_n 0, 1, 1), (1, .getfield 11, 3, 4), (4, .iload_n 1, 1, 5), (5, .aaload, 1, 6), (6, .astore_n 3, 1, 7), (7, .aload_n 3, 1, 8), (8, .getfield 37, 3, 11), (11, .getfield 98, 3, 14), (14, .ifCond .eq 6, 3, 17), (17, .bipush (-2), 2, 19), (19, .ireturn, 1, 20), (20, .aload_n 0, 1, 21), (21, .aload_n 3, 1, 22), (22, .iload_n 2, 1, 23), (23, .invokevirtual 101, 3, 26), (26, .aload_n 3, 1, 27), (27, .getfield 105, 3, 30), (30, .getfield 109, 3, 33), (33, .iload_n 2, 1, 34), (34, .iaload, 1, 35), (35, .ifCond .ne 17, 3, 38), (38, .aload_n 0, 1, 39), (39, .aload_n 3, 1, 40), (40, .getfield 37, 3, 43), (43, .iconst 0, 1, 44), (44, .iload_n 2, 1, 45), (45, .iconst 0, 1, 46), (46, .invokevirtual 114, 3, 49), (49, .bipush (-5), 2, 51), (51, .ireturn, 1, 52), (52, .aload_n 3, 1, 53), (53, .getfield 105, 3, 56), (56, .iload_n 2, 1, 57), (57, .invokevirtual 118, 3, 60), (60, .aload_n 3, 1, 61), (61, .aload_n 3, 1, 62), (62, .getfield 105, 3, 65), (65, .getfield 121, 3, 68), (68, .iload_n 2, 1, 69), (69, .iaload, 1, 70), (70, .putfield 124, 3, 73), (73, .aload_n 0, 1, 74), (74, .dup, 1, 75), (75, .getfield 69, 3, 78), (78, .iconst 1, 1, 79), (79, .iadd, 1, 80), (80, .putfield 69, 3, 83), (83, .aload_n 3, 1, 84), (84, .getfield 124, 3, 87), (87, .ireturn, 1, 88)]
theorem dk_X0_startRead : sw_dc cX0_startRead L_X0_startRead = true := by decide +kernel
def f_X0_startRead (σ : sw_St) (x1 : Int32) (x2 : Int32) : Option (Int32 × sw_St) := sw_ck (sw_in x1 4) (if (σ ((8 + 9 * sw_ix x1) + 6) 1) = 0 then ((f_X0_takeBack σ (8 + 9 * sw_ix x1) x2).bind fun r2 => (sw_ck (sw_in x2 8) (if (r2 (((8 + 9 * sw_ix x1) + 1) + 1) (sw_ix x2)) = 0 then ((f_X0_ask r2 ((8 + 9 * sw_ix x1) + 6) 0 x2 0).bind fun r7 => (some ((-5), r7))) else ((f_X1_use r2 ((8 + 9 * sw_ix x1) + 1) x2).bind fun r4 => (sw_pt r4 (8 + 9 * sw_ix x1) 3 (r4 (((8 + 9 * sw_ix x1) + 1) + 2) (sw_ix x2)) fun s5 => (sw_pt s5 2 12 ((s5 2 12) + 1) fun s6 => (some ((s6 (8 + 9 * sw_ix x1) 3), s6)))))))) else (some ((-2), σ)))
set_option maxHeartbeats 1000000 in
set_option maxRecDepth 100000 in
theorem s_X0_startRead {V : sw_V} (C : sw_Cx sw_ZX V cX0_startRead RX0 4 (some .int) L_X0_startRead 4) (σ : sw_St) (x1 : Int32) (x2 : Int32) : sw_S sw_ZX V sw_eI [some (sw_r V 2), some (.int x1), some (.int x2), none] [] 0 σ (f_X0_startRead σ x1 x2) := by
  unfold f_X0_startRead
  refine g_aload_n C 0 rfl rfl ?_
  refine g_getR C 1 rfl fl_X0_11 rfl rfl ?_
  refine g_iload_n C 2 rfl rfl ?_
  refine g_ck fun h1 => ?_
  refine g_aald C 3 rfl rfl rfl h1 (tg_cores h1) ?_
  refine g_astore_n C 4 rfl (Nat.le_of_ble_eq_true rfl) (Or.inr (Or.inr (Or.inl ⟨_, rfl⟩))) ?_
  refine g_aload_n C 5 rfl rfl ?_
  refine g_getR C 6 rfl fl_X0_37 (sh_C (kd_cores h1)) rfl ?_
  refine g_getI C 7 rfl fl_X0_98 (sh_Q (kd_CQ (kd_cores h1))) rfl ?_
  refine g_if_eq C 8 rfl 20 (by decide) ?_ ?_
  · refine g_aload_n C 11 rfl rfl ?_
    refine g_aload_n C 12 rfl rfl ?_
    refine g_iload_n C 13 rfl rfl ?_
    refine g_callV (ψ₁ := sw_eV) C 14 rfl [(sw_r V (8 + 9 * sw_ix x1)), (.int x2)] [] ml_X0_101 rfl (Nat.le_of_ble_eq_true rfl) (by decide) rfl rfl (fun b hb => m_X0_takeBack V.1.2.1 _ _ _ _ C.inj σ (8 + 9 * sw_ix x1) x2 b hb) rfl (g_cV fun r2 => ?_)
    refine g_aload_n C 15 rfl rfl ?_
    refine g_getR C 16 rfl fl_X0_105 (sh_C (kd_cores h1)) rfl ?_
    refine g_getR C 17 rfl fl_X0_109 (sh_K (kd_CK (kd_cores h1))) rfl ?_
    refine g_iload_n C 18 rfl rfl ?_
    refine g_ck fun h3 => ?_
    refine g_iald C 19 rfl (sh_K0 (kd_CK (kd_cores h1))) h3 ?_
    refine g_if_ne C 20 rfl 52 (by decide) ?_ ?_
    · refine g_aload_n C 30 rfl rfl ?_
      refine g_getR C 31 rfl fl_X0_105 (sh_C (kd_cores h1)) rfl ?_
      refine g_iload_n C 32 rfl rfl ?_
      refine g_callV (ψ₁ := sw_eV) C 33 rfl [(.int x2)] [] ml_X0_118 rfl (Nat.le_of_ble_eq_true rfl) (by decide) (sh_K (kd_CK (kd_cores h1))) rfl (fun b hb => m_X1_use V.1.2.1 _ _ _ _ C.inj r2 ((8 + 9 * sw_ix x1) + 1) x2 b hb) rfl (g_cV fun r4 => ?_)
      refine g_aload_n C 34 rfl rfl ?_
      refine g_aload_n C 35 rfl rfl ?_
      refine g_getR C 36 rfl fl_X0_105 (sh_C (kd_cores h1)) rfl ?_
      refine g_getR C 37 rfl fl_X0_121 (sh_K (kd_CK (kd_cores h1))) rfl ?_
      refine g_iload_n C 38 rfl rfl ?_
      refine g_iald C 39 rfl (sh_K1 (kd_CK (kd_cores h1))) h3 ?_
      refine g_put C 40 rfl fp_X0_124 (sh_C (kd_cores h1)) rfl (fun s5 => ?_)
      refine g_aload_n C 41 rfl rfl ?_
      refine g_dupR C 42 rfl ?_
      refine g_getI C 43 rfl fl_X0_69 rfl rfl ?_
      refine g_iconst C 44 rfl 1 (by decide) ?_
      refine g_iadd C 45 rfl ?_
      refine g_put C 46 rfl fp_X0_69 rfl rfl (fun s6 => ?_)
      refine g_aload_n C 47 rfl rfl ?_
      refine g_getI C 48 rfl fl_X0_124 (sh_C (kd_cores h1)) rfl ?_
      skip
      exact g_iret C 49 rfl rfl
    · refine g_aload_n C 21 rfl rfl ?_
      refine g_aload_n C 22 rfl rfl ?_
      refine g_getR C 23 rfl fl_X0_37 (sh_C (kd_cores h1)) rfl ?_
      refine g_iconst C 24 rfl 0 (by decide) ?_
      refine g_iload_n C 25 rfl rfl ?_
      refine g_iconst C 26 rfl 0 (by decide) ?_
      refine g_callV (ψ₁ := sw_eV) C 27 rfl [(sw_r V ((8 + 9 * sw_ix x1) + 6)), (.int 0), (.int x2), (.int 0)] [] ml_X0_114 rfl (Nat.le_of_ble_eq_true rfl) (by decide) rfl rfl (fun b hb => m_X0_ask V.1.2.1 _ _ _ _ C.inj r2 ((8 + 9 * sw_ix x1) + 6) 0 x2 0 b hb) rfl (g_cV fun r7 => ?_)
      refine g_bipush C 28 rfl (-5) (by decide) ?_
      skip
      exact g_iret C 29 rfl rfl
  · refine g_bipush C 9 rfl (-2) (by decide) ?_
    skip
    exact g_iret C 10 rfl rfl
set_option maxHeartbeats 1000000 in
set_option maxRecDepth 100000 in
theorem m_X0_startRead (l : Launch) (dC : Nat → ClassId) (dI : Nat → Nat → Nat) (dA : Nat → ClassId) (ad : Nat → Nat) (hI : sw_inj sw_ZX ad) (σ : sw_St) (x1 : Int32) (x2 : Int32) (b : (Int32 × sw_St)) (hb : f_X0_startRead σ x1 x2 = some b) : sw_M sw_ZX l yX0_startRead cX0_startRead 4 (some .int) 4 dC dI dA ad [(sw_rv ad 2), (.int x1), (.int x2)] σ (sw_eI b) :=
  sw_mk1 (ψ := sw_eI) 1 (by decide) sw_ZXok hI dk_X0_startRead rfl (sw_c1_all _ ⟨sw_rv_cat _ _, rfl, rfl, trivial⟩) hb (fun p e R M C => s_X0_startRead C σ x1 x2)
/-! SplitWatch$Bus.startStore(III)I -/
def L_X0_startStore : sw_Is := [(0, .aload_n 0, 1, 1), (1, .getfield 11, 3, 4), (4, .iload_n 1, 1, 5), (5, .aaload, 1, 6), (6, .astore 4, 2, 8), (8, .aload 4, 2, 10), (10, .getfield 37, 3, 13), (13, .getfield 98, 3, 16), (16, .ifCond .eq 6, 3, 19), (19, .bipush (-2), 2, 21), (21, .ireturn, 1, 22), (22, .aload_n 0, 1, 23), (23, .aload 4, 2, 25), (25, .iload_n 2, 1, 26), (26, .invokevirtual 101, 3, 29), (29, .aload 4, 2, 31), (31, .getfield 105, 3, 34), (34, .iload_n 2, 1, 35), (35, .invokevirtual 127, 3, 38), (38, .ifCond .eq 26, 3, 41), (41, .aload 4, 2, 43), (43, .getfield 105, 3, 46), (46, .iload_n 2, 1, 47), (47, .iconst 3, 1, 48), (48, .iload_n 3, 1, 49), (49, .invokevirtual 131, 3, 52), (52, .aload_n 0, 1, 53), (53, .dup, 1, 54), (54, .getfield 69, 3, 57), (57, .iconst 1, 1, 58), (58, .iadd, 1, 59), (59, .putfield 69, 3, 62), (62, .iconst 0, 1, 63), (63, .ireturn, 1, 64), (64, .aload_n 0, 1, 65), (65, .aload 4, 2, 67), (67, .getfield 37, 3, 70), (70, .aload 4, 2, 72), (72, .getfield 105, 3, 75), (75, .getfield 109, 3, 78), (78, .iload_n 2, 1, 79), (79, .iaload, 1, 80), (80, .iconst 1, 1, 81), (81, .if_icmp .ne 7, 3, 84), (84, .iconst 2, 1, 85), (85, .goto 4, 3, 88), (88, .iconst 1, 1, 89), (89, .iload_n 2, 1, 90), (90, .iload_n 3, 1, 91), (91, .invokevirtual 114, 3, 94), (94, .bipush (-5), 2, 96), (96, .ireturn, 1, 97)]
theorem dk_X0_startStore : sw_dc cX0_startStore L_X0_startStore = true := by decide +kernel
def f_X0_startStore_89  (σ : sw_St) (x2 : Int32) (x3 : Int32) (y0 : Int32) (y1 : Nat) : Option (Int32 × sw_St) := (f_X0_ask σ y1 y0 x2 x3).bind fun r1 => (some ((-5), r1))
def f_X0_startStore (σ : sw_St) (x1 : Int32) (x2 : Int32) (x3 : Int32) : Option (Int32 × sw_St) := sw_ck (sw_in x1 4) (if (σ ((8 + 9 * sw_ix x1) + 6) 1) = 0 then ((f_X0_takeBack σ (8 + 9 * sw_ix x1) x2).bind fun r2 => ((f_X1_isSole r2 ((8 + 9 * sw_ix x1) + 1) x2).bind fun r3 => (if r3 = 0 then (sw_ck (sw_in x2 8) (if (r2 (((8 + 9 * sw_ix x1) + 1) + 1) (sw_ix x2)) = 1 then (f_X0_startStore_89 r2 x2 x3 2 ((8 + 9 * sw_ix x1) + 6)) else (f_X0_startStore_89 r2 x2 x3 1 ((8 + 9 * sw_ix x1) + 6)))) else ((f_X1_put r2 ((8 + 9 * sw_ix x1) + 1) x2 3 x3).bind fun r5 => (sw_pt r5 2 12 ((r5 2 12) + 1) fun s6 => (some (0, s6))))))) else (some ((-2), σ)))
set_option maxHeartbeats 1000000 in
set_option maxRecDepth 100000 in
theorem s_X0_startStore_89 {V : sw_V} (C : sw_Cx sw_ZX V cX0_startStore RX0 5 (some .int) L_X0_startStore 4) (σ : sw_St) (x2 : Int32) (x3 : Int32) (y0 : Int32) (y1 : Nat) : sw_S sw_ZX V sw_eI [none, none, some (.int x2), some (.int x3), none] [(.int y0), (sw_r V y1), (sw_r V 2)] 89 σ (f_X0_startStore_89 σ x2 x3 y0 y1) := by
  unfold f_X0_startStore_89
  refine g_iload_n C 47 rfl rfl ?_
  refine g_iload_n C 48 rfl rfl ?_
  refine g_callV (ψ₁ := sw_eV) C 49 rfl [(sw_r V y1), (.int y0), (.int x2), (.int x3)] [] ml_X0_114 rfl (Nat.le_of_ble_eq_true rfl) (by decide) rfl rfl (fun b hb => m_X0_ask V.1.2.1 _ _ _ _ C.inj σ y1 y0 x2 x3 b hb) rfl (g_cV fun r1 => ?_)
  refine g_bipush C 50 rfl (-5) (by decide) ?_
  skip
  exact g_iret C 51 rfl rfl
set_option maxHeartbeats 1000000 in
set_option maxRecDepth 100000 in
theorem s_X0_startStore {V : sw_V} (C : sw_Cx sw_ZX V cX0_startStore RX0 5 (some .int) L_X0_startStore 4) (σ : sw_St) (x1 : Int32) (x2 : Int32) (x3 : Int32) : sw_S sw_ZX V sw_eI [some (sw_r V 2), some (.int x1), some (.int x2), some (.int x3), none] [] 0 σ (f_X0_startStore σ x1 x2 x3) := by
  unfold f_X0_startStore
  refine g_aload_n C 0 rfl rfl ?_
  refine g_getR C 1 rfl fl_X0_11 rfl rfl ?_
  refine g_iload_n C 2 rfl rfl ?_
  refine g_ck fun h1 => ?_
  refine g_aald C 3 rfl rfl rfl h1 (tg_cores h1) ?_
  refine g_astore C 4 rfl (Nat.le_of_ble_eq_true rfl) (Or.inr (Or.inr (Or.inl ⟨_, rfl⟩))) ?_
  refine g_aload C 5 rfl rfl ?_
  refine g_getR C 6 rfl fl_X0_37 (sh_C (kd_cores h1)) rfl ?_
  refine g_getI C 7 rfl fl_X0_98 (sh_Q (kd_CQ (kd_cores h1))) rfl ?_
  refine g_if_eq C 8 rfl 22 (by decide) ?_ ?_
  · refine g_aload_n C 11 rfl rfl ?_
    refine g_aload C 12 rfl rfl ?_
    refine g_iload_n C 13 rfl rfl ?_
    refine g_callV (ψ₁ := sw_eV) C 14 rfl [(sw_r V (8 + 9 * sw_ix x1)), (.int x2)] [] ml_X0_101 rfl (Nat.le_of_ble_eq_true rfl) (by decide) rfl rfl (fun b hb => m_X0_takeBack V.1.2.1 _ _ _ _ C.inj σ (8 + 9 * sw_ix x1) x2 b hb) rfl (g_cV fun r2 => ?_)
    refine g_aload C 15 rfl rfl ?_
    refine g_getR C 16 rfl fl_X0_105 (sh_C (kd_cores h1)) rfl ?_
    refine g_iload_n C 17 rfl rfl ?_
    refine g_callV (ψ₁ := sw_eP r2) C 18 rfl [(.int x2)] [] ml_X0_127 rfl (Nat.le_of_ble_eq_true rfl) (by decide) (sh_K (kd_CK (kd_cores h1))) rfl (fun b hb => m_X1_isSole V.1.2.1 _ _ _ _ C.inj r2 ((8 + 9 * sw_ix x1) + 1) x2 b hb) rfl (g_cP fun r3 => ?_)
    refine g_if_eq C 19 rfl 64 (by decide) ?_ ?_
    · refine g_aload_n C 34 rfl rfl ?_
      refine g_aload C 35 rfl rfl ?_
      refine g_getR C 36 rfl fl_X0_37 (sh_C (kd_cores h1)) rfl ?_
      refine g_aload C 37 rfl rfl ?_
      refine g_getR C 38 rfl fl_X0_105 (sh_C (kd_cores h1)) rfl ?_
      refine g_getR C 39 rfl fl_X0_109 (sh_K (kd_CK (kd_cores h1))) rfl ?_
      refine g_iload_n C 40 rfl rfl ?_
      refine g_ck fun h4 => ?_
      refine g_iald C 41 rfl (sh_K0 (kd_CK (kd_cores h1))) h4 ?_
      refine g_iconst C 42 rfl 1 (by decide) ?_
      refine g_icmp_ne C 43 rfl 88 (by decide) ?_ ?_
      · refine g_iconst C 46 rfl 1 (by decide) ?_
        exact g_wk (s_X0_startStore_89 C r2 x2 x3 1 ((8 + 9 * sw_ix x1) + 6)) ⟨rfl, rfl, trivial⟩
      · refine g_iconst C 44 rfl 2 (by decide) ?_
        refine g_goto C 45 rfl 89 (by decide) ?_
        exact g_wk (s_X0_startStore_89 C r2 x2 x3 2 ((8 + 9 * sw_ix x1) + 6)) ⟨rfl, rfl, trivial⟩
    · refine g_aload C 20 rfl rfl ?_
      refine g_getR C 21 rfl fl_X0_105 (sh_C (kd_cores h1)) rfl ?_
      refine g_iload_n C 22 rfl rfl ?_
      refine g_iconst C 23 rfl 3 (by decide) ?_
      refine g_iload_n C 24 rfl rfl ?_
      refine g_callV (ψ₁ := sw_eV) C 25 rfl [(.int x2), (.int 3), (.int x3)] [] ml_X0_131 rfl (Nat.le_of_ble_eq_true rfl) (by decide) (sh_K (kd_CK (kd_cores h1))) rfl (fun b hb => m_X1_put V.1.2.1 _ _ _ _ C.inj r2 ((8 + 9 * sw_ix x1) + 1) x2 3 x3 b hb) rfl (g_cV fun r5 => ?_)
      refine g_aload_n C 26 rfl rfl ?_
      refine g_dupR C 27 rfl ?_
      refine g_getI C 28 rfl fl_X0_69 rfl rfl ?_
      refine g_iconst C 29 rfl 1 (by decide) ?_
      refine g_iadd C 30 rfl ?_
      refine g_put C 31 rfl fp_X0_69 rfl rfl (fun s6 => ?_)
      refine g_iconst C 32 rfl 0 (by decide) ?_
      skip
      exact g_iret C 33 rfl rfl
  · refine g_bipush C 9 rfl (-2) (by decide) ?_
    skip
    exact g_iret C 10 rfl rfl
set_option maxHeartbeats 1000000 in
set_option maxRecDepth 100000 in
theorem m_X0_startStore (l : Launch) (dC : Nat → ClassId) (dI : Nat → Nat → Nat) (dA : Nat → ClassId) (ad : Nat → Nat) (hI : sw_inj sw_ZX ad) (σ : sw_St) (x1 : Int32) (x2 : Int32) (x3 : Int32) (b : (Int32 × sw_St)) (hb : f_X0_startStore σ x1 x2 x3 = some b) : sw_M sw_ZX l yX0_startStore cX0_startStore 5 (some .int) 4 dC dI dA ad [(sw_rv ad 2), (.int x1), (.int x2), (.int x3)] σ (sw_eI b) :=
  sw_mk1 (ψ := sw_eI) 1 (by decide) sw_ZXok hI dk_X0_startStore rfl (sw_c1_all _ ⟨sw_rv_cat _ _, rfl, rfl, rfl, trivial⟩) hb (fun p e R M C => s_X0_startStore C σ x1 x2 x3)
/-! SplitWatch$Bus.dropLine(II)I -/
def L_X0_dropLine : sw_Is := [(0, .aload_n 0, 1, 1), (1, .getfield 11, 3, 4), (4, .iload_n 1, 1, 5), (5, .aaload, 1, 6), (6, .astore_n 3, 1, 7), (7, .aload_n 3, 1, 8), (8, .getfield 105, 3, 11), (11, .getfield 109, 3, 14), (14, .iload_n 2, 1, 15), (15, .iaload, 1, 16), (16, .istore 4, 2, 18), (18, .iload 4, 2, 20), (20, .ifCond .ne 6, 3, 23), (23, .bipush (-2), 2, 25), (25, .ireturn, 1, 26), (26, .iload 4, 2, 28), (28, .iconst 3, 1, 29), (29, .if_icmp .ne 13, 3, 32), (32, .aload_n 3, 1, 33), (33, .invokevirtual 135, 3, 36), (36, .ifnonnull 6, 3, 39), (39, .bipush (-3), 2, 41), (41, .ireturn, 1, 42), (42, .aload_n 0, 1, 43), (43, .aload_n 3, 1, 44), (44, .iload_n 2, 1, 45), (45, .invokevirtual 139, 3, 48), (48, .iload 4, 2, 50), (50, .ireturn, 1, 51)]
theorem dk_X0_dropLine : sw_dc cX0_dropLine L_X0_dropLine = true := by decide +kernel
def f_X0_dropLine_42  (σ : sw_St) (x2 : Int32) (x3 : Nat) (x4 : Int32) : Option (Int32 × sw_St) := (f_X0_giveUp σ x3 x2).bind fun r1 => (some (x4, r1))
def f_X0_dropLine (σ : sw_St) (x1 : Int32) (x2 : Int32) : Option (Int32 × sw_St) := sw_ck (sw_in x1 4) (sw_ck (sw_in x2 8) (if (σ (((8 + 9 * sw_ix x1) + 1) + 1) (sw_ix x2)) = 0 then (some ((-2), σ)) else (if (σ (((8 + 9 * sw_ix x1) + 1) + 1) (sw_ix x2)) = 3 then ((f_X2_freeBack σ (8 + 9 * sw_ix x1)).bind fun r3 => (if r3 = 0 then (some ((-3), σ)) else (f_X0_dropLine_42 σ x2 (8 + 9 * sw_ix x1) (σ (((8 + 9 * sw_ix x1) + 1) + 1) (sw_ix x2))))) else (f_X0_dropLine_42 σ x2 (8 + 9 * sw_ix x1) (σ (((8 + 9 * sw_ix x1) + 1) + 1) (sw_ix x2))))))
set_option maxHeartbeats 1000000 in
set_option maxRecDepth 100000 in
theorem s_X0_dropLine_42 {V : sw_V} (C : sw_Cx sw_ZX V cX0_dropLine RX0 5 (some .int) L_X0_dropLine 2) (σ : sw_St) (x2 : Int32) (x3 : Nat) (x4 : Int32) : sw_S sw_ZX V sw_eI [some (sw_r V 2), none, some (.int x2), some (sw_r V x3), some (.int x4)] [] 42 σ (f_X0_dropLine_42 σ x2 x3 x4) := by
  unfold f_X0_dropLine_42
  refine g_aload_n C 23 rfl rfl ?_
  refine g_aload_n C 24 rfl rfl ?_
  refine g_iload_n C 25 rfl rfl ?_
  refine g_callV (ψ₁ := sw_eV) C 26 rfl [(sw_r V x3), (.int x2)] [] ml_X0_139 rfl (Nat.le_of_ble_eq_true rfl) (by decide) rfl rfl (fun b hb => m_X0_giveUp V.1.2.1 _ _ _ _ C.inj σ x3 x2 b hb) rfl (g_cV fun r1 => ?_)
  refine g_iload C 27 rfl rfl ?_
  skip
  exact g_iret C 28 rfl rfl
set_option maxHeartbeats 1000000 in
set_option maxRecDepth 100000 in
theorem s_X0_dropLine {V : sw_V} (C : sw_Cx sw_ZX V cX0_dropLine RX0 5 (some .int) L_X0_dropLine 2) (σ : sw_St) (x1 : Int32) (x2 : Int32) : sw_S sw_ZX V sw_eI [some (sw_r V 2), some (.int x1), some (.int x2), none, none] [] 0 σ (f_X0_dropLine σ x1 x2) := by
  unfold f_X0_dropLine
  refine g_aload_n C 0 rfl rfl ?_
  refine g_getR C 1 rfl fl_X0_11 rfl rfl ?_
  refine g_iload_n C 2 rfl rfl ?_
  refine g_ck fun h1 => ?_
  refine g_aald C 3 rfl rfl rfl h1 (tg_cores h1) ?_
  refine g_astore_n C 4 rfl (Nat.le_of_ble_eq_true rfl) (Or.inr (Or.inr (Or.inl ⟨_, rfl⟩))) ?_
  refine g_aload_n C 5 rfl rfl ?_
  refine g_getR C 6 rfl fl_X0_105 (sh_C (kd_cores h1)) rfl ?_
  refine g_getR C 7 rfl fl_X0_109 (sh_K (kd_CK (kd_cores h1))) rfl ?_
  refine g_iload_n C 8 rfl rfl ?_
  refine g_ck fun h2 => ?_
  refine g_iald C 9 rfl (sh_K0 (kd_CK (kd_cores h1))) h2 ?_
  refine g_istore C 10 rfl (Nat.le_of_ble_eq_true rfl) (Or.inr (Or.inr (Or.inr ⟨_, rfl⟩))) ?_
  refine g_iload C 11 rfl rfl ?_
  refine g_if_ne C 12 rfl 26 (by decide) ?_ ?_
  · refine g_iload C 15 rfl rfl ?_
    refine g_iconst C 16 rfl 3 (by decide) ?_
    refine g_icmp_ne C 17 rfl 42 (by decide) ?_ ?_
    · exact g_wk (s_X0_dropLine_42 C σ x2 (8 + 9 * sw_ix x1) (σ (((8 + 9 * sw_ix x1) + 1) + 1) (sw_ix x2))) ⟨rfl, rfl, rfl, rfl, trivial⟩
    · refine g_aload_n C 18 rfl rfl ?_
      refine g_callV (ψ₁ := sw_eR V.2.2.2.2.2 σ) C 19 rfl [] [] ml_X0_135 rfl (Nat.le_of_ble_eq_true rfl) (by decide) (sh_C (kd_cores h1)) rfl (fun b hb => m_X2_freeBack V.1.2.1 _ _ _ _ C.inj σ (8 + 9 * sw_ix x1) b hb) rfl (g_cR fun r3 => ?_)
      refine g_ifnonnull C 20 rfl 42 (by decide) ?_ ?_
      · exact g_wk (s_X0_dropLine_42 C σ x2 (8 + 9 * sw_ix x1) (σ (((8 + 9 * sw_ix x1) + 1) + 1) (sw_ix x2))) ⟨rfl, rfl, rfl, rfl, trivial⟩
      · refine g_bipush C 21 rfl (-3) (by decide) ?_
        skip
        exact g_iret C 22 rfl rfl
  · refine g_bipush C 13 rfl (-2) (by decide) ?_
    skip
    exact g_iret C 14 rfl rfl
set_option maxHeartbeats 1000000 in
set_option maxRecDepth 100000 in
theorem m_X0_dropLine (l : Launch) (dC : Nat → ClassId) (dI : Nat → Nat → Nat) (dA : Nat → ClassId) (ad : Nat → Nat) (hI : sw_inj sw_ZX ad) (σ : sw_St) (x1 : Int32) (x2 : Int32) (b : (Int32 × sw_St)) (hb : f_X0_dropLine σ x1 x2 = some b) : sw_M sw_ZX l yX0_dropLine cX0_dropLine 5 (some .int) 2 dC dI dA ad [(sw_rv ad 2), (.int x1), (.int x2)] σ (sw_eI b) :=
  sw_mk1 (ψ := sw_eI) 2 (by decide) sw_ZXok hI dk_X0_dropLine rfl (sw_c1_all _ ⟨sw_rv_cat _ _, rfl, rfl, trivial⟩) hb (fun p e R M C => s_X0_dropLine C σ x1 x2)
/-! SplitWatch$Bus.perform(IIII)I -/
def L_X0_perform : sw_Is := [(0, .iload_n 1, 1, 1), (1, .tableswitch 60 0 3 #[31, 37, 44, 53], 31, 32), (32, .aload_n 0, 1, 33), (33, .iload_n 2, 1, 34), (34, .invokevirtual 83, 3, 37), (37, .ireturn, 1, 38), (38, .aload_n 0, 1, 39), (39, .iload_n 2, 1, 40), (40, .iload_n 3, 1, 41), (41, .invokevirtual 87, 3, 44), (44, .ireturn, 1, 45), (45, .aload_n 0, 1, 46), (46, .iload_n 2, 1, 47), (47, .iload_n 3, 1, 48), (48, .iload 4, 2, 50), (50, .invokevirtual 91, 3, 53), (53, .ireturn, 1, 54), (54, .aload_n 0, 1, 55), (55, .iload_n 2, 1, 56), (56, .iload_n 3, 1, 57), (57, .invokevirtual 95, 3, 60), (60, .ireturn, 1, 61), (61, .iconst (-1), 1, 62), (62, .ireturn, 1, 63)]
theorem dk_X0_perform : sw_dc cX0_perform L_X0_perform = true := by decide +kernel
def f_X0_perform (σ : sw_St) (x1 : Int32) (x2 : Int32) (x3 : Int32) (x4 : Int32) : Option (Int32 × sw_St) := if x1 = 0 then ((f_X0_runTurns σ x2).bind fun r1 => (some (r1.1, r1.2))) else (if x1 = 1 then ((f_X0_startRead σ x2 x3).bind fun r3 => (some (r3.1, r3.2))) else (if x1 = 2 then ((f_X0_startStore σ x2 x3 x4).bind fun r5 => (some (r5.1, r5.2))) else (if x1 = 3 then ((f_X0_dropLine σ x2 x3).bind fun r7 => (some (r7.1, r7.2))) else (some ((-1), σ)))))
set_option maxHeartbeats 1000000 in
set_option maxRecDepth 100000 in
theorem s_X0_perform {V : sw_V} (C : sw_Cx sw_ZX V cX0_perform RX0 5 (some .int) L_X0_perform 5) (σ : sw_St) (x1 : Int32) (x2 : Int32) (x3 : Int32) (x4 : Int32) : sw_S sw_ZX V sw_eI [some (sw_r V 2), some (.int x1), some (.int x2), some (.int x3), some (.int x4)] [] 0 σ (f_X0_perform σ x1 x2 x3 x4) := by
  unfold f_X0_perform
  refine g_iload_n C 0 rfl rfl ?_
  skip
  refine g_tin C 1 rfl 0 32 (by decide) 31 (by decide) (by decide) ?_ (fun h2 => ?_)
  · refine g_aload_n C 2 rfl rfl ?_
    refine g_iload_n C 3 rfl rfl ?_
    refine g_callV (ψ₁ := sw_eI) C 4 rfl [(.int x2)] [] ml_X0_83 rfl (Nat.le_of_ble_eq_true rfl) (by decide) rfl rfl (fun b hb => m_X0_runTurns V.1.2.1 _ _ _ _ C.inj σ x2 b hb) rfl (g_cI fun r1 => ?_)
    skip
    exact g_iret C 5 rfl rfl
  refine g_tin C 1 rfl 1 38 (by decide) 37 (by decide) (by decide) ?_ (fun h4 => ?_)
  · refine g_aload_n C 6 rfl rfl ?_
    refine g_iload_n C 7 rfl rfl ?_
    refine g_iload_n C 8 rfl rfl ?_
    refine g_callV (ψ₁ := sw_eI) C 9 rfl [(.int x2), (.int x3)] [] ml_X0_87 rfl (Nat.le_of_ble_eq_true rfl) (by decide) rfl rfl (fun b hb => m_X0_startRead V.1.2.1 _ _ _ _ C.inj σ x2 x3 b hb) rfl (g_cI fun r3 => ?_)
    skip
    exact g_iret C 10 rfl rfl
  refine g_tin C 1 rfl 2 45 (by decide) 44 (by decide) (by decide) ?_ (fun h6 => ?_)
  · refine g_aload_n C 11 rfl rfl ?_
    refine g_iload_n C 12 rfl rfl ?_
    refine g_iload_n C 13 rfl rfl ?_
    refine g_iload C 14 rfl rfl ?_
    refine g_callV (ψ₁ := sw_eI) C 15 rfl [(.int x2), (.int x3), (.int x4)] [] ml_X0_91 rfl (Nat.le_of_ble_eq_true rfl) (by decide) rfl rfl (fun b hb => m_X0_startStore V.1.2.1 _ _ _ _ C.inj σ x2 x3 x4 b hb) rfl (g_cI fun r5 => ?_)
    skip
    exact g_iret C 16 rfl rfl
  refine g_tin C 1 rfl 3 54 (by decide) 53 (by decide) (by decide) ?_ (fun h8 => ?_)
  · refine g_aload_n C 17 rfl rfl ?_
    refine g_iload_n C 18 rfl rfl ?_
    refine g_iload_n C 19 rfl rfl ?_
    refine g_callV (ψ₁ := sw_eI) C 20 rfl [(.int x2), (.int x3)] [] ml_X0_95 rfl (Nat.le_of_ble_eq_true rfl) (by decide) rfl rfl (fun b hb => m_X0_dropLine V.1.2.1 _ _ _ _ C.inj σ x2 x3 b hb) rfl (g_cI fun r7 => ?_)
    skip
    exact g_iret C 21 rfl rfl
  refine g_tout C 1 rfl 61 (by have a0 := lv_neT (a := 0) h2 (by decide); have a1 := lv_neT (a := 1) h4 (by decide); have a2 := lv_neT (a := 2) h6 (by decide); have a3 := lv_neT (a := 3) h8 (by decide); omega) (by decide) ?_
  refine g_iconst C 22 rfl (-1) (by decide) ?_
  skip
  exact g_iret C 23 rfl rfl
set_option maxHeartbeats 1000000 in
set_option maxRecDepth 100000 in
theorem m_X0_perform (l : Launch) (dC : Nat → ClassId) (dI : Nat → Nat → Nat) (dA : Nat → ClassId) (ad : Nat → Nat) (hI : sw_inj sw_ZX ad) (σ : sw_St) (x1 : Int32) (x2 : Int32) (x3 : Int32) (x4 : Int32) (b : (Int32 × sw_St)) (hb : f_X0_perform σ x1 x2 x3 x4 = some b) : sw_M sw_ZX l yX0_perform cX0_perform 5 (some .int) 5 dC dI dA ad [(sw_rv ad 2), (.int x1), (.int x2), (.int x3), (.int x4)] σ (sw_eI b) :=
  sw_mk1 (ψ := sw_eI) 0 (by decide) sw_ZXok hI dk_X0_perform rfl (sw_c1_all _ ⟨sw_rv_cat _ _, rfl, rfl, rfl, rfl, trivial⟩) hb (fun p e R M C => s_X0_perform C σ x1 x2 x3 x4)
/-! SplitWatch$Bus.waitingAheadOf(LSplitWatch$Request;)I -/
def L_X0_waitingAheadOf : sw_Is := [(0, .iconst 0, 1, 1), (1, .istore_n 2, 1, 2), (2, .iconst 0, 1, 3), (3, .istore_n 3, 1, 4), (4, .iload_n 3, 1, 5), (5, .aload_n 0, 1, 6), (6, .getfield 19, 3, 9), (9, .arraylength, 1, 10), (10, .if_icmp .ge 43, 3, 13), (13, .aload_n 0, 1, 14), (14, .getfield 19, 3, 17), (17, .iload_n 3, 1, 18), (18, .aaload, 1, 19), (19, .getfield 98, 3, 22), (22, .iconst 1, 1, 23), (23, .if_icmp .ne 24, 3, 26), (26, .aload_n 0, 1, 27), (27, .aload_n 0, 1, 28), (28, .getfield 19, 3, 31), (31, .iload_n 3, 1, 32), (32, .aaload, 1, 33), (33, .invokevirtual 237, 3, 36), (36, .aload_n 0, 1, 37), (37, .aload_n 1, 1, 38), (38, .invokevirtual 237, 3, 41), (41, .if_icmp .ge 6, 3, 44), (44, .iinc 2 1, 3, 47), (47, .iinc 3 1, 3, 50), (50, .goto (-46), 3, 53), (53, .iload_n 2, 1, 54), (54, .ireturn, 1, 55)]
theorem dk_X0_waitingAheadOf : sw_dc cX0_waitingAheadOf L_X0_waitingAheadOf = true := by decide +kernel
def f_X0_waitingAheadOf_4 (σ : sw_St)  : Nat → Nat → Int32 → Int32 → Option Int32
  | 0 => fun _ _ _ => none
  | n + 1 => fun x1 x2 x3 => if 12 ≤ x3 then (some x2) else (sw_ck (sw_in x3 12) (if (σ (sw_rq (sw_ix x3)) 1) = 1 then ((f_X0_keyOf σ (sw_rq (sw_ix x3))).bind fun r2 => ((f_X0_keyOf σ x1).bind fun r3 => (if r3 ≤ r2 then ((f_X0_waitingAheadOf_4 σ n) x1 x2 (x3 + 1)) else ((f_X0_waitingAheadOf_4 σ n) x1 (x2 + 1) (x3 + 1))))) else ((f_X0_waitingAheadOf_4 σ n) x1 x2 (x3 + 1))))
def f_X0_waitingAheadOf (σ : sw_St) (x1 : Nat) : Option Int32 := f_X0_waitingAheadOf_4 σ sw_fuel x1 0 0
set_option maxHeartbeats 1000000 in
set_option maxRecDepth 100000 in
theorem s_X0_waitingAheadOf_4 {V : sw_V} (C : sw_Cx sw_ZX V cX0_waitingAheadOf RX0 4 (some .int) L_X0_waitingAheadOf 2) (σ : sw_St) : ∀ (n : Nat) (x1 : Nat) (x2 : Int32) (x3 : Int32), sw_S sw_ZX V (sw_eP σ) [some (sw_r V 2), some (sw_r V x1), some (.int x2), some (.int x3)] [] 4 σ (f_X0_waitingAheadOf_4 σ n x1 x2 x3) := by
  intro n
  induction n with
  | zero =>
    intro x1 x2 x3
    exact g_none
  | succ n ih =>
    intro x1 x2 x3
    rw [f_X0_waitingAheadOf_4]
    refine g_iload_n C 4 rfl rfl ?_
    refine g_aload_n C 5 rfl rfl ?_
    refine g_getR C 6 rfl fl_X0_19 rfl rfl ?_
    refine g_alen C 7 rfl rfl (by decide) 12 (by decide) ?_
    refine g_icmp_ge C 8 rfl 53 (by decide) ?_ ?_
    · refine g_iload_n C 29 rfl rfl ?_
      skip
      exact g_iret C 30 rfl rfl
    · refine g_aload_n C 9 rfl rfl ?_
      refine g_getR C 10 rfl fl_X0_19 rfl rfl ?_
      refine g_iload_n C 11 rfl rfl ?_
      refine g_ck fun h1 => ?_
      refine g_aald C 12 rfl rfl rfl h1 (tg_reqs h1) ?_
      refine g_getI C 13 rfl fl_X0_98 (sh_Q (kd_reqs h1)) rfl ?_
      refine g_iconst C 14 rfl 1 (by decide) ?_
      refine g_icmp_ne C 15 rfl 47 (by decide) ?_ ?_
      · refine g_iinc C 27 rfl 1 (by decide) rfl (Nat.le_of_ble_eq_true rfl) (Or.inr (Or.inr (Or.inl ⟨_, rfl⟩))) ?_
        refine g_goto C 28 rfl 4 (by decide) ?_
        exact g_wk (ih x1 x2 (x3 + 1)) ⟨rfl, rfl, rfl, rfl, trivial⟩
      · refine g_aload_n C 16 rfl rfl ?_
        refine g_aload_n C 17 rfl rfl ?_
        refine g_getR C 18 rfl fl_X0_19 rfl rfl ?_
        refine g_iload_n C 19 rfl rfl ?_
        refine g_aald C 20 rfl rfl rfl h1 (tg_reqs h1) ?_
        refine g_callV (ψ₁ := sw_eP σ) C 21 rfl [(sw_r V (sw_rq (sw_ix x3)))] [] ml_X0_237 rfl (Nat.le_of_ble_eq_true rfl) (by decide) rfl rfl (fun b hb => m_X0_keyOf V.1.2.1 _ _ _ _ C.inj σ (sw_rq (sw_ix x3)) b hb) rfl (g_cP fun r2 => ?_)
        refine g_aload_n C 22 rfl rfl ?_
        refine g_aload_n C 23 rfl rfl ?_
        refine g_callV (ψ₁ := sw_eP σ) C 24 rfl [(sw_r V x1)] [(.int r2)] ml_X0_237 rfl (Nat.le_of_ble_eq_true rfl) (by decide) rfl rfl (fun b hb => m_X0_keyOf V.1.2.1 _ _ _ _ C.inj σ x1 b hb) rfl (g_cP fun r3 => ?_)
        refine g_icmp_ge C 25 rfl 47 (by decide) ?_ ?_
        · refine g_iinc C 27 rfl 1 (by decide) rfl (Nat.le_of_ble_eq_true rfl) (Or.inr (Or.inr (Or.inl ⟨_, rfl⟩))) ?_
          refine g_goto C 28 rfl 4 (by decide) ?_
          exact g_wk (ih x1 x2 (x3 + 1)) ⟨rfl, rfl, rfl, rfl, trivial⟩
        · refine g_iinc C 26 rfl 1 (by decide) rfl (Nat.le_of_ble_eq_true rfl) (Or.inr (Or.inr (Or.inr ⟨_, rfl⟩))) ?_
          refine g_iinc C 27 rfl 1 (by decide) rfl (Nat.le_of_ble_eq_true rfl) (Or.inr (Or.inr (Or.inl ⟨_, rfl⟩))) ?_
          refine g_goto C 28 rfl 4 (by decide) ?_
          exact g_wk (ih x1 (x2 + 1) (x3 + 1)) ⟨rfl, rfl, rfl, rfl, trivial⟩
set_option maxHeartbeats 1000000 in
set_option maxRecDepth 100000 in
theorem s_X0_waitingAheadOf {V : sw_V} (C : sw_Cx sw_ZX V cX0_waitingAheadOf RX0 4 (some .int) L_X0_waitingAheadOf 2) (σ : sw_St) (x1 : Nat) : sw_S sw_ZX V (sw_eP σ) [some (sw_r V 2), some (sw_r V x1), none, none] [] 0 σ (f_X0_waitingAheadOf σ x1) := by
  unfold f_X0_waitingAheadOf
  refine g_iconst C 0 rfl 0 (by decide) ?_
  refine g_istore_n C 1 rfl (Nat.le_of_ble_eq_true rfl) (Or.inr (Or.inr (Or.inr ⟨_, rfl⟩))) ?_
  refine g_iconst C 2 rfl 0 (by decide) ?_
  refine g_istore_n C 3 rfl (Nat.le_of_ble_eq_true rfl) (Or.inr (Or.inr (Or.inl ⟨_, rfl⟩))) ?_
  exact g_wk (s_X0_waitingAheadOf_4 C σ sw_fuel x1 0 0) ⟨rfl, rfl, rfl, rfl, trivial⟩
set_option maxHeartbeats 1000000 in
set_option maxRecDepth 100000 in
theorem m_X0_waitingAheadOf (l : Launch) (dC : Nat → ClassId) (dI : Nat → Nat → Nat) (dA : Nat → ClassId) (ad : Nat → Nat) (hI : sw_inj sw_ZX ad) (σ : sw_St) (x1 : Nat) (b : Int32) (hb : f_X0_waitingAheadOf σ x1 = some b) : sw_M sw_ZX l yX0_waitingAheadOf cX0_waitingAheadOf 4 (some .int) 2 dC dI dA ad [(sw_rv ad 2), (sw_rv ad x1)] σ ((sw_eP σ) b) :=
  sw_mk1 (ψ := (sw_eP σ)) 2 (by decide) sw_ZXok hI dk_X0_waitingAheadOf rfl (sw_c1_all _ ⟨sw_rv_cat _ _, sw_rv_cat _ _, trivial⟩) hb (fun p e R M C => s_X0_waitingAheadOf C σ x1)
/-! SplitWatch$Bus.waitingAt(I)LSplitWatch$Request; -/
def L_X0_waitingAt : sw_Is := [(0, .iconst 0, 1, 1), (1, .istore_n 2, 1, 2), (2, .iload_n 2, 1, 3), (3, .aload_n 0, 1, 4), (4, .getfield 19, 3, 7), (7, .arraylength, 1, 8), (8, .if_icmp .ge 43, 3, 11), (11, .aload_n 0, 1, 12), (12, .getfield 19, 3, 15), (15, .iload_n 2, 1, 16), (16, .aaload, 1, 17), (17, .getfield 98, 3, 20), (20, .iconst 1, 1, 21), (21, .if_icmp .ne 24, 3, 24), (24, .aload_n 0, 1, 25), (25, .aload_n 0, 1, 26), (26, .getfield 19, 3, 29), (29, .iload_n 2, 1, 30), (30, .aaload, 1, 31), (31, .invokevirtual 241, 3, 34), (34, .iload_n 1, 1, 35), (35, .if_icmp .ne 10, 3, 38), (38, .aload_n 0, 1, 39), (39, .getfield 19, 3, 42), (42, .iload_n 2, 1, 43), (43, .aaload, 1, 44), (44, .areturn, 1, 45), (45, .iinc 2 1, 3, 48), (48, .goto (-46), 3, 51), (51, .aconst_null, 1, 52), (52, .areturn, 1, 53)]
theorem dk_X0_waitingAt : sw_dc cX0_waitingAt L_X0_waitingAt = true := by decide +kernel
def f_X0_waitingAt_2 (σ : sw_St)  : Nat → Int32 → Int32 → Option Nat
  | 0 => fun _ _ => none
  | n + 1 => fun x1 x2 => if 12 ≤ x2 then (some 0) else (sw_ck (sw_in x2 12) (if (σ (sw_rq (sw_ix x2)) 1) = 1 then ((f_X0_waitingAheadOf σ (sw_rq (sw_ix x2))).bind fun r2 => (if r2 = x1 then (some (sw_rq (sw_ix x2))) else ((f_X0_waitingAt_2 σ n) x1 (x2 + 1)))) else ((f_X0_waitingAt_2 σ n) x1 (x2 + 1))))
def f_X0_waitingAt (σ : sw_St) (x1 : Int32) : Option Nat := f_X0_waitingAt_2 σ sw_fuel x1 0
set_option maxHeartbeats 1000000 in
set_option maxRecDepth 100000 in
theorem s_X0_waitingAt_2 {V : sw_V} (C : sw_Cx sw_ZX V cX0_waitingAt RX0 3 (some (.object "SplitWatch$Request")) L_X0_waitingAt 3) (σ : sw_St) : ∀ (n : Nat) (x1 : Int32) (x2 : Int32), sw_S sw_ZX V (sw_eR V.2.2.2.2.2 σ) [some (sw_r V 2), some (.int x1), some (.int x2)] [] 2 σ (f_X0_waitingAt_2 σ n x1 x2) := by
  intro n
  induction n with
  | zero =>
    intro x1 x2
    exact g_none
  | succ n ih =>
    intro x1 x2
    rw [f_X0_waitingAt_2]
    refine g_iload_n C 2 rfl rfl ?_
    refine g_aload_n C 3 rfl rfl ?_
    refine g_getR C 4 rfl fl_X0_19 rfl rfl ?_
    refine g_alen C 5 rfl rfl (by decide) 12 (by decide) ?_
    refine g_icmp_ge C 6 rfl 51 (by decide) ?_ ?_
    · refine g_null C 29 rfl ?_
      exact g_aret C 30 rfl rfl
    · refine g_aload_n C 7 rfl rfl ?_
      refine g_getR C 8 rfl fl_X0_19 rfl rfl ?_
      refine g_iload_n C 9 rfl rfl ?_
      refine g_ck fun h1 => ?_
      refine g_aald C 10 rfl rfl rfl h1 (tg_reqs h1) ?_
      refine g_getI C 11 rfl fl_X0_98 (sh_Q (kd_reqs h1)) rfl ?_
      refine g_iconst C 12 rfl 1 (by decide) ?_
      refine g_icmp_ne C 13 rfl 45 (by decide) ?_ ?_
      · refine g_iinc C 27 rfl 1 (by decide) rfl (Nat.le_of_ble_eq_true rfl) (Or.inr (Or.inr (Or.inl ⟨_, rfl⟩))) ?_
        refine g_goto C 28 rfl 2 (by decide) ?_
        exact g_wk (ih x1 (x2 + 1)) ⟨rfl, rfl, rfl, trivial⟩
      · refine g_aload_n C 14 rfl rfl ?_
        refine g_aload_n C 15 rfl rfl ?_
        refine g_getR C 16 rfl fl_X0_19 rfl rfl ?_
        refine g_iload_n C 17 rfl rfl ?_
        refine g_aald C 18 rfl rfl rfl h1 (tg_reqs h1) ?_
        refine g_callV (ψ₁ := sw_eP σ) C 19 rfl [(sw_r V (sw_rq (sw_ix x2)))] [] ml_X0_241 rfl (Nat.le_of_ble_eq_true rfl) (by decide) rfl rfl (fun b hb => m_X0_waitingAheadOf V.1.2.1 _ _ _ _ C.inj σ (sw_rq (sw_ix x2)) b hb) rfl (g_cP fun r2 => ?_)
        refine g_iload_n C 20 rfl rfl ?_
        refine g_icmp_ne C 21 rfl 45 (by decide) ?_ ?_
        · refine g_iinc C 27 rfl 1 (by decide) rfl (Nat.le_of_ble_eq_true rfl) (Or.inr (Or.inr (Or.inl ⟨_, rfl⟩))) ?_
          refine g_goto C 28 rfl 2 (by decide) ?_
          exact g_wk (ih x1 (x2 + 1)) ⟨rfl, rfl, rfl, trivial⟩
        · refine g_aload_n C 22 rfl rfl ?_
          refine g_getR C 23 rfl fl_X0_19 rfl rfl ?_
          refine g_iload_n C 24 rfl rfl ?_
          refine g_aald C 25 rfl rfl rfl h1 (tg_reqs h1) ?_
          exact g_aret C 26 rfl rfl
set_option maxHeartbeats 1000000 in
set_option maxRecDepth 100000 in
theorem s_X0_waitingAt {V : sw_V} (C : sw_Cx sw_ZX V cX0_waitingAt RX0 3 (some (.object "SplitWatch$Request")) L_X0_waitingAt 3) (σ : sw_St) (x1 : Int32) : sw_S sw_ZX V (sw_eR V.2.2.2.2.2 σ) [some (sw_r V 2), some (.int x1), none] [] 0 σ (f_X0_waitingAt σ x1) := by
  unfold f_X0_waitingAt
  refine g_iconst C 0 rfl 0 (by decide) ?_
  refine g_istore_n C 1 rfl (Nat.le_of_ble_eq_true rfl) (Or.inr (Or.inr (Or.inl ⟨_, rfl⟩))) ?_
  exact g_wk (s_X0_waitingAt_2 C σ sw_fuel x1 0) ⟨rfl, rfl, rfl, trivial⟩
set_option maxHeartbeats 1000000 in
set_option maxRecDepth 100000 in
theorem m_X0_waitingAt (l : Launch) (dC : Nat → ClassId) (dI : Nat → Nat → Nat) (dA : Nat → ClassId) (ad : Nat → Nat) (hI : sw_inj sw_ZX ad) (σ : sw_St) (x1 : Int32) (b : Nat) (hb : f_X0_waitingAt σ x1 = some b) : sw_M sw_ZX l yX0_waitingAt cX0_waitingAt 3 (some (.object "SplitWatch$Request")) 3 dC dI dA ad [(sw_rv ad 2), (.int x1)] σ ((sw_eR ad σ) b) :=
  sw_mk1 (ψ := (sw_eR ad σ)) 1 (by decide) sw_ZXok hI dk_X0_waitingAt rfl (sw_c1_all _ ⟨sw_rv_cat _ _, rfl, trivial⟩) hb (fun p e R M C => s_X0_waitingAt C σ x1)
