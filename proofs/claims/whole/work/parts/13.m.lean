/-! SplitWatchModel.play()I -/
def L_X7_play : sw_Is := [(0, .aload_n 0, 1, 1), (1, .getfield 231, 3, 4), (4, .ifCond .eq 12, 3, 7), (7, .aload_n 0, 1, 8), (8, .invokevirtual 283, 3, 11), (11, .bipush (-4), 2, 13), (13, .if_icmp .eq 6, 3, 16), (16, .bipush (-2), 2, 18), (18, .ireturn, 1, 19), (19, .iconst 0, 1, 20), (20, .istore_n 1, 1, 21), (21, .aload_n 0, 1, 22), (22, .iconst 0, 1, 23), (23, .putfield 234, 3, 26), (26, .aload_n 0, 1, 27), (27, .getfield 234, 3, 30), (30, .aload_n 0, 1, 31), (31, .getfield 231, 3, 34), (34, .if_icmp .ge 36, 3, 37), (37, .aload_n 0, 1, 38), (38, .invokevirtual 268, 3, 41), (41, .ifCond .eq 29, 3, 44), (44, .aload_n 0, 1, 45), (45, .invokevirtual 286, 3, 48), (48, .istore_n 2, 1, 49), (49, .iload_n 1, 1, 50), (50, .iload_n 2, 1, 51), (51, .ifCond .ge 9, 3, 54), (54, .iload_n 2, 1, 55), (55, .bipush (-5), 2, 57), (57, .if_icmp .ne 7, 3, 60), (60, .iconst 1, 1, 61), (61, .goto 4, 3, 64), (64, .iconst 0, 1, 65), (65, .iadd, 1, 66), (66, .istore_n 1, 1, 67), (67, .goto (-41), 3, 70), (70, .iload_n 1, 1, 71), (71, .ireturn, 1, 72)]
theorem dk_X7_play : sw_dc cX7_play L_X7_play = true := by decide +kernel
def f_X7_play_60 (k26 : sw_St → Int32 → Option (Int32 × sw_St)) (σ : sw_St) (y0 : Int32) : Option (Int32 × sw_St) := k26 σ (y0 + 1)
def f_X7_play_26  : Nat → sw_St → Int32 → Option (Int32 × sw_St)
  | 0 => fun _ _ => none
  | n + 1 => fun σ x1 => if (σ 1 29) ≤ (σ 1 31) then (some (x1, σ)) else ((f_X7_reads σ).bind fun r1 => (if r1.1 = 0 then (some (x1, r1.2)) else ((f_X7_does r1.2).bind fun r2 => (if 0 ≤ r2.1 then (f_X7_play_60 (f_X7_play_26 n) r2.2 x1) else (if r2.1 = (-5) then (f_X7_play_60 (f_X7_play_26 n) r2.2 x1) else ((f_X7_play_26 n) r2.2 (x1 + 0)))))))
def f_X7_play (σ : sw_St)  : Option (Int32 × sw_St) := if (σ 1 29) = 0 then (some ((-2), σ)) else ((f_X7_fault σ).bind fun r1 => (if r1.1 = (-4) then (sw_pt r1.2 1 31 0 fun s2 => (f_X7_play_26 sw_fuel s2 0)) else (some ((-2), r1.2))))
set_option maxHeartbeats 1000000 in
set_option maxRecDepth 100000 in
theorem s_X7_play_60 {V : sw_V} (C : sw_Cx sw_ZM V cX7_play RX7 3 (some .int) L_X7_play 8) (k26 : sw_St → Int32 → Option (Int32 × sw_St)) (hk26 : ∀ (σ : sw_St) (x1 : Int32), sw_S sw_ZM V sw_eI [some (sw_r V 1), some (.int x1), none] [] 26 σ (k26 σ x1)) (σ : sw_St) (y0 : Int32) : sw_S sw_ZM V sw_eI [some (sw_r V 1), none, none] [(.int y0)] 60 σ (f_X7_play_60 k26 σ y0) := by
  unfold f_X7_play_60
  refine g_iconst C 31 rfl 1 (by decide) ?_
  refine g_goto C 32 rfl 65 (by decide) ?_
  refine g_iadd C 34 rfl ?_
  refine g_istore_n C 35 rfl (Nat.le_of_ble_eq_true rfl) (Or.inr (Or.inr (Or.inr ⟨_, rfl⟩))) ?_
  refine g_goto C 36 rfl 26 (by decide) ?_
  exact g_wk (hk26 σ (y0 + 1)) ⟨rfl, rfl, trivial⟩
set_option maxHeartbeats 1000000 in
set_option maxRecDepth 100000 in
theorem s_X7_play_26 {V : sw_V} (C : sw_Cx sw_ZM V cX7_play RX7 3 (some .int) L_X7_play 8) : ∀ (n : Nat) (σ : sw_St) (x1 : Int32), sw_S sw_ZM V sw_eI [some (sw_r V 1), some (.int x1), none] [] 26 σ (f_X7_play_26 n σ x1) := by
  intro n
  induction n with
  | zero =>
    intro σ x1
    exact g_none
  | succ n ih =>
    intro σ x1
    rw [f_X7_play_26]
    refine g_aload_n C 14 rfl rfl ?_
    refine g_getI C 15 rfl fl_X7_234 rfl rfl ?_
    refine g_aload_n C 16 rfl rfl ?_
    refine g_getI C 17 rfl fl_X7_231 rfl rfl ?_
    refine g_icmp_ge C 18 rfl 70 (by decide) ?_ ?_
    · refine g_iload_n C 37 rfl rfl ?_
      skip
      exact g_iret C 38 rfl rfl
    · refine g_aload_n C 19 rfl rfl ?_
      refine g_callV (ψ₁ := sw_eI) C 20 rfl [] [] ml_X7_268 rfl (Nat.le_of_ble_eq_true rfl) (by decide) rfl rfl (fun b hb => m_X7_reads V.1.2.1 _ _ _ _ C.inj σ b hb) rfl (g_cI fun r1 => ?_)
      refine g_if_eq C 21 rfl 70 (by decide) ?_ ?_
      · refine g_iload_n C 37 rfl rfl ?_
        skip
        exact g_iret C 38 rfl rfl
      · refine g_aload_n C 22 rfl rfl ?_
        refine g_callV (ψ₁ := sw_eI) C 23 rfl [] [] ml_X7_286 rfl (Nat.le_of_ble_eq_true rfl) (by decide) rfl rfl (fun b hb => m_X7_does V.1.2.1 _ _ _ _ C.inj r1.2 b hb) rfl (g_cI fun r2 => ?_)
        refine g_istore_n C 24 rfl (Nat.le_of_ble_eq_true rfl) (Or.inr (Or.inr (Or.inl ⟨_, rfl⟩))) ?_
        refine g_iload_n C 25 rfl rfl ?_
        refine g_iload_n C 26 rfl rfl ?_
        refine g_if_ge C 27 rfl 60 (by decide) ?_ ?_
        · exact g_wk (s_X7_play_60 C (f_X7_play_26 n) ih r2.2 x1) ⟨rfl, trivial⟩
        · refine g_iload_n C 28 rfl rfl ?_
          refine g_bipush C 29 rfl (-5) (by decide) ?_
          refine g_icmp_ne C 30 rfl 64 (by decide) ?_ ?_
          · refine g_iconst C 33 rfl 0 (by decide) ?_
            refine g_iadd C 34 rfl ?_
            refine g_istore_n C 35 rfl (Nat.le_of_ble_eq_true rfl) (Or.inr (Or.inr (Or.inr ⟨_, rfl⟩))) ?_
            refine g_goto C 36 rfl 26 (by decide) ?_
            exact g_wk (ih r2.2 (x1 + 0)) ⟨rfl, rfl, trivial⟩
          · exact g_wk (s_X7_play_60 C (f_X7_play_26 n) ih r2.2 x1) ⟨rfl, trivial⟩
set_option maxHeartbeats 1000000 in
set_option maxRecDepth 100000 in
theorem s_X7_play {V : sw_V} (C : sw_Cx sw_ZM V cX7_play RX7 3 (some .int) L_X7_play 8) (σ : sw_St)  : sw_S sw_ZM V sw_eI [some (sw_r V 1), none, none] [] 0 σ (f_X7_play σ) := by
  unfold f_X7_play
  refine g_aload_n C 0 rfl rfl ?_
  refine g_getI C 1 rfl fl_X7_231 rfl rfl ?_
  refine g_if_eq C 2 rfl 16 (by decide) ?_ ?_
  · refine g_bipush C 7 rfl (-2) (by decide) ?_
    skip
    exact g_iret C 8 rfl rfl
  · refine g_aload_n C 3 rfl rfl ?_
    refine g_callV (ψ₁ := sw_eI) C 4 rfl [] [] ml_X7_283 rfl (Nat.le_of_ble_eq_true rfl) (by decide) rfl rfl (fun b hb => m_X7_fault V.1.2.1 _ _ _ _ C.inj σ b hb) rfl (g_cI fun r1 => ?_)
    refine g_bipush C 5 rfl (-4) (by decide) ?_
    refine g_icmp_eq C 6 rfl 19 (by decide) ?_ ?_
    · refine g_iconst C 9 rfl 0 (by decide) ?_
      refine g_istore_n C 10 rfl (Nat.le_of_ble_eq_true rfl) (Or.inr (Or.inr (Or.inr ⟨_, rfl⟩))) ?_
      refine g_aload_n C 11 rfl rfl ?_
      refine g_iconst C 12 rfl 0 (by decide) ?_
      refine g_put C 13 rfl fp_X7_234 rfl rfl (fun s2 => ?_)
      exact g_wk (s_X7_play_26 C sw_fuel s2 0) ⟨rfl, rfl, trivial⟩
    · refine g_bipush C 7 rfl (-2) (by decide) ?_
      skip
      exact g_iret C 8 rfl rfl
set_option maxHeartbeats 1000000 in
set_option maxRecDepth 100000 in
theorem m_X7_play (l : Launch) (dC : Nat → ClassId) (dI : Nat → Nat → Nat) (dA : Nat → ClassId) (ad : Nat → Nat) (hI : sw_inj sw_ZM ad) (σ : sw_St)  (b : (Int32 × sw_St)) (hb : f_X7_play σ = some b) : sw_M sw_ZM l yX7_play cX7_play 3 (some .int) 8 dC dI dA ad [(sw_rv ad 1)] σ (sw_eI b) :=
  sw_mk1 (ψ := sw_eI) 2 (by decide) sw_ZMok hI dk_X7_play rfl (sw_c1_all _ ⟨sw_rv_cat _ _, trivial⟩) hb (fun p e R M C => s_X7_play C σ)
/-! SplitWatchModel.lastMany()I -/
def L_X7_lastMany : sw_Is := [(0, .aload_n 0, 1, 1), (1, .getfield 106, 3, 4), (4, .bipush 16, 2, 6), (6, .if_icmp .ge 10, 3, 9), (9, .aload_n 0, 1, 10), (10, .getfield 106, 3, 13), (13, .goto 5, 3, 16), (16, .bipush 16, 2, 18), (18, .ireturn, 1, 19)]
theorem dk_X7_lastMany : sw_dc cX7_lastMany L_X7_lastMany = true := by decide +kernel
def f_X7_lastMany (σ : sw_St)  : Option Int32 := if 16 ≤ (σ 1 23) then (some 16) else (some (σ 1 23))
set_option maxHeartbeats 1000000 in
set_option maxRecDepth 100000 in
theorem s_X7_lastMany {V : sw_V} (C : sw_Cx sw_ZM V cX7_lastMany RX7 1 (some .int) L_X7_lastMany 0) (σ : sw_St)  : sw_S sw_ZM V (sw_eP σ) [some (sw_r V 1)] [] 0 σ (f_X7_lastMany σ) := by
  unfold f_X7_lastMany
  refine g_aload_n C 0 rfl rfl ?_
  refine g_getI C 1 rfl fl_X7_106 rfl rfl ?_
  refine g_bipush C 2 rfl 16 (by decide) ?_
  refine g_icmp_ge C 3 rfl 16 (by decide) ?_ ?_
  · refine g_bipush C 7 rfl 16 (by decide) ?_
    skip
    exact g_iret C 8 rfl rfl
  · refine g_aload_n C 4 rfl rfl ?_
    refine g_getI C 5 rfl fl_X7_106 rfl rfl ?_
    refine g_goto C 6 rfl 18 (by decide) ?_
    skip
    exact g_iret C 8 rfl rfl
set_option maxHeartbeats 1000000 in
set_option maxRecDepth 100000 in
theorem m_X7_lastMany (l : Launch) (dC : Nat → ClassId) (dI : Nat → Nat → Nat) (dA : Nat → ClassId) (ad : Nat → Nat) (hI : sw_inj sw_ZM ad) (σ : sw_St)  (b : Int32) (hb : f_X7_lastMany σ = some b) : sw_M sw_ZM l yX7_lastMany cX7_lastMany 1 (some .int) 0 dC dI dA ad [(sw_rv ad 1)] σ ((sw_eP σ) b) :=
  sw_mk1 (ψ := (sw_eP σ)) 0 (by decide) sw_ZMok hI dk_X7_lastMany rfl (sw_c1_all _ ⟨sw_rv_cat _ _, trivial⟩) hb (fun p e R M C => s_X7_lastMany C σ)
/-! SplitWatchModel.order(I)I -/
def L_X7_order : sw_Is := [(0, .iload_n 1, 1, 1), (1, .iconst (-1), 1, 2), (2, .if_icmp .ge 5, 3, 5), (5, .iconst (-1), 1, 6), (6, .ireturn, 1, 7), (7, .aload_n 0, 1, 8), (8, .invokevirtual 289, 3, 11), (11, .ifCond .ne 7, 3, 14), (14, .iconst 0, 1, 15), (15, .goto 11, 3, 18), (18, .iconst 4, 1, 19), (19, .aload_n 0, 1, 20), (20, .invokevirtual 289, 3, 23), (23, .imul, 1, 24), (24, .iconst 1, 1, 25), (25, .isub, 1, 26), (26, .istore_n 2, 1, 27), (27, .iload_n 1, 1, 28), (28, .ifCond .lt 8, 3, 31), (31, .iload_n 1, 1, 32), (32, .iload_n 2, 1, 33), (33, .if_icmp .lt 14, 3, 36), (36, .iload_n 1, 1, 37), (37, .ifCond .ge 7, 3, 40), (40, .iload_n 2, 1, 41), (41, .goto 5, 3, 44), (44, .bipush (-4), 2, 46), (46, .ireturn, 1, 47), (47, .iload_n 1, 1, 48), (48, .iconst 4, 1, 49), (49, .irem, 1, 50), (50, .iconst 3, 1, 51), (51, .if_icmp .ne 8, 3, 54), (54, .bipush 32, 2, 56), (56, .goto 17, 3, 59), (59, .aload_n 0, 1, 60), (60, .getfield 55, 3, 63), (63, .iconst 3, 1, 64), (64, .iload_n 1, 1, 65), (65, .iconst 4, 1, 66), (66, .idiv, 1, 67), (67, .imul, 1, 68), (68, .iload_n 1, 1, 69), (69, .iconst 4, 1, 70), (70, .irem, 1, 71), (71, .iadd, 1, 72), (72, .iaload, 1, 73), (73, .ireturn, 1, 74)]
theorem dk_X7_order : sw_dc cX7_order L_X7_order = true := by decide +kernel
def f_X7_order_36 (σ : sw_St)  (x1 : Int32) (x2 : Int32) : Option Int32 := if 0 ≤ x1 then (some (-4)) else (some x2)
def f_X7_order_26 (σ : sw_St)  (x1 : Int32) (y0 : Int32) : Option Int32 := if x1 < 0 then (f_X7_order_36 σ x1 y0) else (if x1 < y0 then (if (sw_rem x1 4) = 3 then (some 32) else (sw_ck (sw_in ((3 * (x1 / 4)) + (sw_rem x1 4)) 48) (some (σ 17 (sw_ix ((3 * (x1 / 4)) + (sw_rem x1 4))))))) else (f_X7_order_36 σ x1 y0))
def f_X7_order (σ : sw_St) (x1 : Int32) : Option Int32 := if (-1) ≤ x1 then ((f_X7_lastMany σ).bind fun r1 => (if r1 = 0 then (f_X7_order_26 σ x1 0) else ((f_X7_lastMany σ).bind fun r2 => (f_X7_order_26 σ x1 ((4 * r2) - 1))))) else (some (-1))
set_option maxHeartbeats 1000000 in
set_option maxRecDepth 100000 in
theorem s_X7_order_36 {V : sw_V} (C : sw_Cx sw_ZM V cX7_order RX7 3 (some .int) L_X7_order 1) (σ : sw_St) (x1 : Int32) (x2 : Int32) : sw_S sw_ZM V (sw_eP σ) [none, some (.int x1), some (.int x2)] [] 36 σ (f_X7_order_36 σ x1 x2) := by
  unfold f_X7_order_36
  refine g_iload_n C 22 rfl rfl ?_
  refine g_if_ge C 23 rfl 44 (by decide) ?_ ?_
  · refine g_bipush C 26 rfl (-4) (by decide) ?_
    skip
    exact g_iret C 27 rfl rfl
  · refine g_iload_n C 24 rfl rfl ?_
    refine g_goto C 25 rfl 46 (by decide) ?_
    skip
    exact g_iret C 27 rfl rfl
set_option maxHeartbeats 1000000 in
set_option maxRecDepth 100000 in
theorem s_X7_order_26 {V : sw_V} (C : sw_Cx sw_ZM V cX7_order RX7 3 (some .int) L_X7_order 1) (σ : sw_St) (x1 : Int32) (y0 : Int32) : sw_S sw_ZM V (sw_eP σ) [some (sw_r V 1), some (.int x1), none] [(.int y0)] 26 σ (f_X7_order_26 σ x1 y0) := by
  unfold f_X7_order_26
  refine g_istore_n C 16 rfl (Nat.le_of_ble_eq_true rfl) (Or.inr (Or.inr (Or.inl ⟨_, rfl⟩))) ?_
  refine g_iload_n C 17 rfl rfl ?_
  refine g_if_lt C 18 rfl 36 (by decide) ?_ ?_
  · exact g_wk (s_X7_order_36 C σ x1 y0) ⟨rfl, rfl, trivial⟩
  · refine g_iload_n C 19 rfl rfl ?_
    refine g_iload_n C 20 rfl rfl ?_
    refine g_icmp_lt C 21 rfl 47 (by decide) ?_ ?_
    · refine g_iload_n C 28 rfl rfl ?_
      refine g_iconst C 29 rfl 4 (by decide) ?_
      refine g_irem C 30 rfl (by decide) ?_
      refine g_iconst C 31 rfl 3 (by decide) ?_
      refine g_icmp_ne C 32 rfl 59 (by decide) ?_ ?_
      · refine g_aload_n C 35 rfl rfl ?_
        refine g_getR C 36 rfl fl_X7_55 rfl rfl ?_
        refine g_iconst C 37 rfl 3 (by decide) ?_
        refine g_iload_n C 38 rfl rfl ?_
        refine g_iconst C 39 rfl 4 (by decide) ?_
        refine g_idiv C 40 rfl (by decide) ?_
        refine g_imul C 41 rfl ?_
        refine g_iload_n C 42 rfl rfl ?_
        refine g_iconst C 43 rfl 4 (by decide) ?_
        refine g_irem C 44 rfl (by decide) ?_
        refine g_iadd C 45 rfl ?_
        refine g_ck fun h1 => ?_
        refine g_iald C 46 rfl rfl h1 ?_
        skip
        exact g_iret C 47 rfl rfl
      · refine g_bipush C 33 rfl 32 (by decide) ?_
        refine g_goto C 34 rfl 73 (by decide) ?_
        skip
        exact g_iret C 47 rfl rfl
    · exact g_wk (s_X7_order_36 C σ x1 y0) ⟨rfl, rfl, trivial⟩
set_option maxHeartbeats 1000000 in
set_option maxRecDepth 100000 in
theorem s_X7_order {V : sw_V} (C : sw_Cx sw_ZM V cX7_order RX7 3 (some .int) L_X7_order 1) (σ : sw_St) (x1 : Int32) : sw_S sw_ZM V (sw_eP σ) [some (sw_r V 1), some (.int x1), none] [] 0 σ (f_X7_order σ x1) := by
  unfold f_X7_order
  refine g_iload_n C 0 rfl rfl ?_
  refine g_iconst C 1 rfl (-1) (by decide) ?_
  refine g_icmp_ge C 2 rfl 7 (by decide) ?_ ?_
  · refine g_aload_n C 5 rfl rfl ?_
    refine g_callV (ψ₁ := sw_eP σ) C 6 rfl [] [] ml_X7_289 rfl (Nat.le_of_ble_eq_true rfl) (by decide) rfl rfl (fun b hb => m_X7_lastMany V.1.2.1 _ _ _ _ C.inj σ b hb) rfl (g_cP fun r1 => ?_)
    refine g_if_ne C 7 rfl 18 (by decide) ?_ ?_
    · refine g_iconst C 10 rfl 4 (by decide) ?_
      refine g_aload_n C 11 rfl rfl ?_
      refine g_callV (ψ₁ := sw_eP σ) C 12 rfl [] [(.int 4)] ml_X7_289 rfl (Nat.le_of_ble_eq_true rfl) (by decide) rfl rfl (fun b hb => m_X7_lastMany V.1.2.1 _ _ _ _ C.inj σ b hb) rfl (g_cP fun r2 => ?_)
      refine g_imul C 13 rfl ?_
      refine g_iconst C 14 rfl 1 (by decide) ?_
      refine g_isub C 15 rfl ?_
      exact g_wk (s_X7_order_26 C σ x1 ((4 * r2) - 1)) ⟨rfl, rfl, trivial⟩
    · refine g_iconst C 8 rfl 0 (by decide) ?_
      refine g_goto C 9 rfl 26 (by decide) ?_
      exact g_wk (s_X7_order_26 C σ x1 0) ⟨rfl, rfl, trivial⟩
  · refine g_iconst C 3 rfl (-1) (by decide) ?_
    skip
    exact g_iret C 4 rfl rfl
set_option maxHeartbeats 1000000 in
set_option maxRecDepth 100000 in
theorem m_X7_order (l : Launch) (dC : Nat → ClassId) (dI : Nat → Nat → Nat) (dA : Nat → ClassId) (ad : Nat → Nat) (hI : sw_inj sw_ZM ad) (σ : sw_St) (x1 : Int32) (b : Int32) (hb : f_X7_order σ x1 = some b) : sw_M sw_ZM l yX7_order cX7_order 3 (some .int) 1 dC dI dA ad [(sw_rv ad 1), (.int x1)] σ ((sw_eP σ) b) :=
  sw_mk1 (ψ := (sw_eP σ)) 1 (by decide) sw_ZMok hI dk_X7_order rfl (sw_c1_all _ ⟨sw_rv_cat _ _, rfl, trivial⟩) hb (fun p e R M C => s_X7_order C σ x1)
/-! SplitWatchModel.fits(II)Z -/
def L_X7_fits : sw_Is := [(0, .iload_n 0, 1, 1), (1, .bipush 42, 2, 3), (3, .if_icmp .eq 8, 3, 6), (6, .iload_n 0, 1, 7), (7, .iload_n 1, 1, 8), (8, .if_icmp .ne 7, 3, 11), (11, .iconst 1, 1, 12), (12, .goto 4, 3, 15), (15, .iconst 0, 1, 16), (16, .ireturn, 1, 17)]
theorem dk_X7_fits : sw_dc cX7_fits L_X7_fits = true := by decide +kernel
def f_X7_fits (σ : sw_St) (x0 : Int32) (x1 : Int32) : Option Int32 := if x0 = 42 then (some 1) else (if x0 = x1 then (some 1) else (some 0))
set_option maxHeartbeats 1000000 in
set_option maxRecDepth 100000 in
theorem s_X7_fits {V : sw_V} (C : sw_Cx sw_ZM V cX7_fits RX7 2 (some .boolean) L_X7_fits 0) (σ : sw_St) (x0 : Int32) (x1 : Int32) : sw_S sw_ZM V (sw_eP σ) [some (.int x0), some (.int x1)] [] 0 σ (f_X7_fits σ x0 x1) := by
  unfold f_X7_fits
  refine g_iload_n C 0 rfl rfl ?_
  refine g_bipush C 1 rfl 42 (by decide) ?_
  refine g_icmp_eq C 2 rfl 11 (by decide) ?_ ?_
  · refine g_iconst C 6 rfl 1 (by decide) ?_
    refine g_goto C 7 rfl 16 (by decide) ?_
    skip
    exact g_zret C 9 rfl rfl rfl
  · refine g_iload_n C 3 rfl rfl ?_
    refine g_iload_n C 4 rfl rfl ?_
    refine g_icmp_ne C 5 rfl 15 (by decide) ?_ ?_
    · refine g_iconst C 8 rfl 0 (by decide) ?_
      skip
      exact g_zret C 9 rfl rfl rfl
    · refine g_iconst C 6 rfl 1 (by decide) ?_
      refine g_goto C 7 rfl 16 (by decide) ?_
      skip
      exact g_zret C 9 rfl rfl rfl
set_option maxHeartbeats 1000000 in
set_option maxRecDepth 100000 in
theorem m_X7_fits (l : Launch) (dC : Nat → ClassId) (dI : Nat → Nat → Nat) (dA : Nat → ClassId) (ad : Nat → Nat) (hI : sw_inj sw_ZM ad) (σ : sw_St) (x0 : Int32) (x1 : Int32) (b : Int32) (hb : f_X7_fits σ x0 x1 = some b) : sw_M sw_ZM l yX7_fits cX7_fits 2 (some .boolean) 0 dC dI dA ad [(.int x0), (.int x1)] σ ((sw_eP σ) b) :=
  sw_mk1 (ψ := (sw_eP σ)) 0 (by decide) sw_ZMok hI dk_X7_fits rfl (sw_c1_all _ ⟨rfl, rfl, trivial⟩) hb (fun p e R M C => s_X7_fits C σ x0 x1)
/-! SplitWatchModel.told(III)I -/
def L_X7_told : sw_Is := [(0, .iload_n 1, 1, 1), (1, .i2l, 1, 2), (2, .ldc2_w 227, 3, 5), (5, .ldc2_w 229, 3, 8), (8, .invokestatic 75, 3, 11), (11, .ifCond .eq 31, 3, 14), (14, .iload_n 2, 1, 15), (15, .i2l, 1, 16), (16, .ldc2_w 227, 3, 19), (19, .ldc2_w 229, 3, 22), (22, .invokestatic 75, 3, 25), (25, .ifCond .eq 17, 3, 28), (28, .iload_n 3, 1, 29), (29, .i2l, 1, 30), (30, .ldc2_w 227, 3, 33), (33, .ldc2_w 229, 3, 36), (36, .invokestatic 75, 3, 39), (39, .ifCond .ne 5, 3, 42), (42, .iconst (-1), 1, 43), (43, .ireturn, 1, 44), (44, .iconst 0, 1, 45), (45, .istore 4, 2, 47), (47, .iconst 0, 1, 48), (48, .istore 5, 2, 50), (50, .iload 5, 2, 52), (52, .aload_n 0, 1, 53), (53, .invokevirtual 289, 3, 56), (56, .if_icmp .ge 71, 3, 59), (59, .iload 4, 2, 61), (61, .iload_n 1, 1, 62), (62, .aload_n 0, 1, 63), (63, .getfield 55, 3, 66), (66, .iconst 3, 1, 67), (67, .iload 5, 2, 69), (69, .imul, 1, 70), (70, .iaload, 1, 71), (71, .invokestatic 292, 3, 74), (74, .ifCond .eq 43, 3, 77), (77, .iload_n 2, 1, 78), (78, .aload_n 0, 1, 79), (79, .getfield 55, 3, 82), (82, .iconst 3, 1, 83), (83, .iload 5, 2, 85), (85, .imul, 1, 86), (86, .iconst 1, 1, 87), (87, .iadd, 1, 88), (88, .iaload, 1, 89), (89, .invokestatic 292, 3, 92), (92, .ifCond .eq 25, 3, 95), (95, .iload_n 3, 1, 96), (96, .aload_n 0, 1, 97), (97, .getfield 55, 3, 100), (100, .iconst 3, 1, 101), (101, .iload 5, 2, 103), (103, .imul, 1, 104), (104, .iconst 2, 1, 105), (105, .iadd, 1, 106), (106, .iaload, 1, 107), (107, .invokestatic 292, 3, 110), (110, .ifCond .eq 7, 3, 113), (113, .iconst 1, 1, 114), (114, .goto 4, 3, 117), (117, .iconst 0, 1, 118), (118, .iadd, 1, 119), (119, .istore 4, 2, 121), (121, .iinc 5 1, 3, 124), (124, .goto (-74), 3, 127), (127, .iload 4, 2, 129), (129, .ireturn, 1, 130)]
theorem dk_X7_told : sw_dc cX7_told L_X7_told = true := by decide +kernel
def f_X7_told_118 (σ : sw_St) (k50 : Int32 → Int32 → Int32 → Int32 → Int32 → Option Int32) (x1 : Int32) (x2 : Int32) (x3 : Int32) (x5 : Int32) (y0 : Int32) (y1 : Int32) : Option Int32 := k50 x1 x2 x3 (y1 + y0) (x5 + 1)
def f_X7_told_117 (σ : sw_St) (k50 : Int32 → Int32 → Int32 → Int32 → Int32 → Option Int32) (x1 : Int32) (x2 : Int32) (x3 : Int32) (x5 : Int32) (y0 : Int32) : Option Int32 := f_X7_told_118 σ k50 x1 x2 x3 x5 0 y0
def f_X7_told_50 (σ : sw_St)  : Nat → Int32 → Int32 → Int32 → Int32 → Int32 → Option Int32
  | 0 => fun _ _ _ _ _ => none
  | n + 1 => fun x1 x2 x3 x4 x5 => (f_X7_lastMany σ).bind fun r1 => (if r1 ≤ x5 then (some x4) else (sw_ck (sw_in (3 * x5) 48) ((f_X7_fits σ x1 (σ 17 (sw_ix (3 * x5)))).bind fun r3 => (if r3 = 0 then (f_X7_told_117 σ (f_X7_told_50 σ n) x1 x2 x3 x5 x4) else (sw_ck (sw_in ((3 * x5) + 1) 48) ((f_X7_fits σ x2 (σ 17 (sw_ix ((3 * x5) + 1)))).bind fun r5 => (if r5 = 0 then (f_X7_told_117 σ (f_X7_told_50 σ n) x1 x2 x3 x5 x4) else (sw_ck (sw_in ((3 * x5) + 2) 48) ((f_X7_fits σ x3 (σ 17 (sw_ix ((3 * x5) + 2)))).bind fun r7 => (if r7 = 0 then (f_X7_told_117 σ (f_X7_told_50 σ n) x1 x2 x3 x5 x4) else (f_X7_told_118 σ (f_X7_told_50 σ n) x1 x2 x3 x5 1 x4)))))))))))
def f_X7_told (σ : sw_St) (x1 : Int32) (x2 : Int32) (x3 : Int32) : Option Int32 := (f_X7_in σ (Int32.toInt64 x1) (32 : Int64) (126 : Int64)).bind fun r1 => (if r1 = 0 then (some (-1)) else ((f_X7_in σ (Int32.toInt64 x2) (32 : Int64) (126 : Int64)).bind fun r2 => (if r2 = 0 then (some (-1)) else ((f_X7_in σ (Int32.toInt64 x3) (32 : Int64) (126 : Int64)).bind fun r3 => (if r3 = 0 then (some (-1)) else (f_X7_told_50 σ sw_fuel x1 x2 x3 0 0))))))
set_option maxHeartbeats 1000000 in
set_option maxRecDepth 100000 in
theorem s_X7_told_118 {V : sw_V} (C : sw_Cx sw_ZM V cX7_told RX7 6 (some .int) L_X7_told 1) (σ : sw_St) (k50 : Int32 → Int32 → Int32 → Int32 → Int32 → Option Int32) (hk50 : ∀ (x1 : Int32) (x2 : Int32) (x3 : Int32) (x4 : Int32) (x5 : Int32), sw_S sw_ZM V (sw_eP σ) [some (sw_r V 1), some (.int x1), some (.int x2), some (.int x3), some (.int x4), some (.int x5)] [] 50 σ (k50 x1 x2 x3 x4 x5)) (x1 : Int32) (x2 : Int32) (x3 : Int32) (x5 : Int32) (y0 : Int32) (y1 : Int32) : sw_S sw_ZM V (sw_eP σ) [some (sw_r V 1), some (.int x1), some (.int x2), some (.int x3), none, some (.int x5)] [(.int y0), (.int y1)] 118 σ (f_X7_told_118 σ k50 x1 x2 x3 x5 y0 y1) := by
  unfold f_X7_told_118
  refine g_iadd C 63 rfl ?_
  refine g_istore C 64 rfl (Nat.le_of_ble_eq_true rfl) (Or.inr (Or.inr (Or.inl ⟨_, rfl⟩))) ?_
  refine g_iinc C 65 rfl 1 (by decide) rfl (Nat.le_of_ble_eq_true rfl) (Or.inr (Or.inr (Or.inl ⟨_, rfl⟩))) ?_
  refine g_goto C 66 rfl 50 (by decide) ?_
  exact g_wk (hk50 x1 x2 x3 (y1 + y0) (x5 + 1)) ⟨rfl, rfl, rfl, rfl, rfl, rfl, trivial⟩
set_option maxHeartbeats 1000000 in
set_option maxRecDepth 100000 in
theorem s_X7_told_117 {V : sw_V} (C : sw_Cx sw_ZM V cX7_told RX7 6 (some .int) L_X7_told 1) (σ : sw_St) (k50 : Int32 → Int32 → Int32 → Int32 → Int32 → Option Int32) (hk50 : ∀ (x1 : Int32) (x2 : Int32) (x3 : Int32) (x4 : Int32) (x5 : Int32), sw_S sw_ZM V (sw_eP σ) [some (sw_r V 1), some (.int x1), some (.int x2), some (.int x3), some (.int x4), some (.int x5)] [] 50 σ (k50 x1 x2 x3 x4 x5)) (x1 : Int32) (x2 : Int32) (x3 : Int32) (x5 : Int32) (y0 : Int32) : sw_S sw_ZM V (sw_eP σ) [some (sw_r V 1), some (.int x1), some (.int x2), some (.int x3), none, some (.int x5)] [(.int y0)] 117 σ (f_X7_told_117 σ k50 x1 x2 x3 x5 y0) := by
  unfold f_X7_told_117
  refine g_iconst C 62 rfl 0 (by decide) ?_
  exact g_wk (s_X7_told_118 C σ k50 hk50 x1 x2 x3 x5 0 y0) ⟨rfl, rfl, rfl, rfl, rfl, trivial⟩
set_option maxHeartbeats 1000000 in
set_option maxRecDepth 100000 in
theorem s_X7_told_50 {V : sw_V} (C : sw_Cx sw_ZM V cX7_told RX7 6 (some .int) L_X7_told 1) (σ : sw_St) : ∀ (n : Nat) (x1 : Int32) (x2 : Int32) (x3 : Int32) (x4 : Int32) (x5 : Int32), sw_S sw_ZM V (sw_eP σ) [some (sw_r V 1), some (.int x1), some (.int x2), some (.int x3), some (.int x4), some (.int x5)] [] 50 σ (f_X7_told_50 σ n x1 x2 x3 x4 x5) := by
  intro n
  induction n with
  | zero =>
    intro x1 x2 x3 x4 x5
    exact g_none
  | succ n ih =>
    intro x1 x2 x3 x4 x5
    rw [f_X7_told_50]
    refine g_iload C 24 rfl rfl ?_
    refine g_aload_n C 25 rfl rfl ?_
    refine g_callV (ψ₁ := sw_eP σ) C 26 rfl [] [(.int x5)] ml_X7_289 rfl (Nat.le_of_ble_eq_true rfl) (by decide) rfl rfl (fun b hb => m_X7_lastMany V.1.2.1 _ _ _ _ C.inj σ b hb) rfl (g_cP fun r1 => ?_)
    refine g_icmp_ge C 27 rfl 127 (by decide) ?_ ?_
    · refine g_iload C 67 rfl rfl ?_
      skip
      exact g_iret C 68 rfl rfl
    · refine g_iload C 28 rfl rfl ?_
      refine g_iload_n C 29 rfl rfl ?_
      refine g_aload_n C 30 rfl rfl ?_
      refine g_getR C 31 rfl fl_X7_55 rfl rfl ?_
      refine g_iconst C 32 rfl 3 (by decide) ?_
      refine g_iload C 33 rfl rfl ?_
      refine g_imul C 34 rfl ?_
      refine g_ck fun h2 => ?_
      refine g_iald C 35 rfl rfl h2 ?_
      refine g_callS (ψ₁ := sw_eP σ) C 36 rfl [(.int x1), (.int (σ 17 (sw_ix (3 * x5))))] [(.int x4)] ml_X7_292 rfl (Nat.le_of_ble_eq_true rfl) (by decide) (fun b hb => m_X7_fits V.1.2.1 _ _ _ _ C.inj σ x1 (σ 17 (sw_ix (3 * x5))) b hb) rfl (g_cP fun r3 => ?_)
      refine g_if_eq C 37 rfl 117 (by decide) ?_ ?_
      · exact g_wk (s_X7_told_117 C σ (f_X7_told_50 σ n) ih x1 x2 x3 x5 x4) ⟨rfl, rfl, rfl, rfl, rfl, trivial⟩
      · refine g_iload_n C 38 rfl rfl ?_
        refine g_aload_n C 39 rfl rfl ?_
        refine g_getR C 40 rfl fl_X7_55 rfl rfl ?_
        refine g_iconst C 41 rfl 3 (by decide) ?_
        refine g_iload C 42 rfl rfl ?_
        refine g_imul C 43 rfl ?_
        refine g_iconst C 44 rfl 1 (by decide) ?_
        refine g_iadd C 45 rfl ?_
        refine g_ck fun h4 => ?_
        refine g_iald C 46 rfl rfl h4 ?_
        refine g_callS (ψ₁ := sw_eP σ) C 47 rfl [(.int x2), (.int (σ 17 (sw_ix ((3 * x5) + 1))))] [(.int x4)] ml_X7_292 rfl (Nat.le_of_ble_eq_true rfl) (by decide) (fun b hb => m_X7_fits V.1.2.1 _ _ _ _ C.inj σ x2 (σ 17 (sw_ix ((3 * x5) + 1))) b hb) rfl (g_cP fun r5 => ?_)
        refine g_if_eq C 48 rfl 117 (by decide) ?_ ?_
        · exact g_wk (s_X7_told_117 C σ (f_X7_told_50 σ n) ih x1 x2 x3 x5 x4) ⟨rfl, rfl, rfl, rfl, rfl, trivial⟩
        · refine g_iload_n C 49 rfl rfl ?_
          refine g_aload_n C 50 rfl rfl ?_
          refine g_getR C 51 rfl fl_X7_55 rfl rfl ?_
          refine g_iconst C 52 rfl 3 (by decide) ?_
          refine g_iload C 53 rfl rfl ?_
          refine g_imul C 54 rfl ?_
          refine g_iconst C 55 rfl 2 (by decide) ?_
          refine g_iadd C 56 rfl ?_
          refine g_ck fun h6 => ?_
          refine g_iald C 57 rfl rfl h6 ?_
          refine g_callS (ψ₁ := sw_eP σ) C 58 rfl [(.int x3), (.int (σ 17 (sw_ix ((3 * x5) + 2))))] [(.int x4)] ml_X7_292 rfl (Nat.le_of_ble_eq_true rfl) (by decide) (fun b hb => m_X7_fits V.1.2.1 _ _ _ _ C.inj σ x3 (σ 17 (sw_ix ((3 * x5) + 2))) b hb) rfl (g_cP fun r7 => ?_)
          refine g_if_eq C 59 rfl 117 (by decide) ?_ ?_
          · exact g_wk (s_X7_told_117 C σ (f_X7_told_50 σ n) ih x1 x2 x3 x5 x4) ⟨rfl, rfl, rfl, rfl, rfl, trivial⟩
          · refine g_iconst C 60 rfl 1 (by decide) ?_
            refine g_goto C 61 rfl 118 (by decide) ?_
            exact g_wk (s_X7_told_118 C σ (f_X7_told_50 σ n) ih x1 x2 x3 x5 1 x4) ⟨rfl, rfl, rfl, rfl, rfl, trivial⟩
set_option maxHeartbeats 1000000 in
set_option maxRecDepth 100000 in
theorem s_X7_told {V : sw_V} (C : sw_Cx sw_ZM V cX7_told RX7 6 (some .int) L_X7_told 1) (σ : sw_St) (x1 : Int32) (x2 : Int32) (x3 : Int32) : sw_S sw_ZM V (sw_eP σ) [some (sw_r V 1), some (.int x1), some (.int x2), some (.int x3), none, none] [] 0 σ (f_X7_told σ x1 x2 x3) := by
  unfold f_X7_told
  refine g_iload_n C 0 rfl rfl ?_
  refine g_i2l C 1 rfl ?_
  refine g_ldc2 C 2 rfl (32 : Int64) q_1024 ?_
  refine g_ldc2 C 3 rfl (126 : Int64) q_1025 ?_
  refine g_callS (ψ₁ := sw_eP σ) C 4 rfl [(.long (Int32.toInt64 x1)), (.long (32 : Int64)), (.long (126 : Int64))] [] ml_X7_75 rfl (Nat.le_of_ble_eq_true rfl) (by decide) (fun b hb => m_X7_in V.1.2.1 _ _ _ _ C.inj σ (Int32.toInt64 x1) (32 : Int64) (126 : Int64) b hb) rfl (g_cP fun r1 => ?_)
  refine g_if_eq C 5 rfl 42 (by decide) ?_ ?_
  · refine g_iconst C 18 rfl (-1) (by decide) ?_
    skip
    exact g_iret C 19 rfl rfl
  · refine g_iload_n C 6 rfl rfl ?_
    refine g_i2l C 7 rfl ?_
    refine g_ldc2 C 8 rfl (32 : Int64) q_1024 ?_
    refine g_ldc2 C 9 rfl (126 : Int64) q_1025 ?_
    refine g_callS (ψ₁ := sw_eP σ) C 10 rfl [(.long (Int32.toInt64 x2)), (.long (32 : Int64)), (.long (126 : Int64))] [] ml_X7_75 rfl (Nat.le_of_ble_eq_true rfl) (by decide) (fun b hb => m_X7_in V.1.2.1 _ _ _ _ C.inj σ (Int32.toInt64 x2) (32 : Int64) (126 : Int64) b hb) rfl (g_cP fun r2 => ?_)
    refine g_if_eq C 11 rfl 42 (by decide) ?_ ?_
    · refine g_iconst C 18 rfl (-1) (by decide) ?_
      skip
      exact g_iret C 19 rfl rfl
    · refine g_iload_n C 12 rfl rfl ?_
      refine g_i2l C 13 rfl ?_
      refine g_ldc2 C 14 rfl (32 : Int64) q_1024 ?_
      refine g_ldc2 C 15 rfl (126 : Int64) q_1025 ?_
      refine g_callS (ψ₁ := sw_eP σ) C 16 rfl [(.long (Int32.toInt64 x3)), (.long (32 : Int64)), (.long (126 : Int64))] [] ml_X7_75 rfl (Nat.le_of_ble_eq_true rfl) (by decide) (fun b hb => m_X7_in V.1.2.1 _ _ _ _ C.inj σ (Int32.toInt64 x3) (32 : Int64) (126 : Int64) b hb) rfl (g_cP fun r3 => ?_)
      refine g_if_ne C 17 rfl 44 (by decide) ?_ ?_
      · refine g_iconst C 20 rfl 0 (by decide) ?_
        refine g_istore C 21 rfl (Nat.le_of_ble_eq_true rfl) (Or.inr (Or.inr (Or.inl ⟨_, rfl⟩))) ?_
        refine g_iconst C 22 rfl 0 (by decide) ?_
        refine g_istore C 23 rfl (Nat.le_of_ble_eq_true rfl) (Or.inr (Or.inr (Or.inl ⟨_, rfl⟩))) ?_
        exact g_wk (s_X7_told_50 C σ sw_fuel x1 x2 x3 0 0) ⟨rfl, rfl, rfl, rfl, rfl, rfl, trivial⟩
      · refine g_iconst C 18 rfl (-1) (by decide) ?_
        skip
        exact g_iret C 19 rfl rfl
set_option maxHeartbeats 1000000 in
set_option maxRecDepth 100000 in
theorem m_X7_told (l : Launch) (dC : Nat → ClassId) (dI : Nat → Nat → Nat) (dA : Nat → ClassId) (ad : Nat → Nat) (hI : sw_inj sw_ZM ad) (σ : sw_St) (x1 : Int32) (x2 : Int32) (x3 : Int32) (b : Int32) (hb : f_X7_told σ x1 x2 x3 = some b) : sw_M sw_ZM l yX7_told cX7_told 6 (some .int) 1 dC dI dA ad [(sw_rv ad 1), (.int x1), (.int x2), (.int x3)] σ ((sw_eP σ) b) :=
  sw_mk1 (ψ := (sw_eP σ)) 2 (by decide) sw_ZMok hI dk_X7_told rfl (sw_c1_all _ ⟨sw_rv_cat _ _, rfl, rfl, rfl, trivial⟩) hb (fun p e R M C => s_X7_told C σ x1 x2 x3)
/-! SplitWatchModel.word(III)I -/
def L_X7_word_ : sw_Is := [(0, .aload_n 0, 1, 1), (1, .iload_n 1, 1, 2), (2, .invokevirtual 160, 3, 5), (5, .ifCond .eq 15, 3, 8), (8, .iload_n 2, 1, 9), (9, .invokestatic 163, 3, 12), (12, .ifCond .eq 8, 3, 15), (15, .iload_n 3, 1, 16), (16, .iconst (-1), 1, 17), (17, .if_icmp .ge 5, 3, 20), (20, .iconst (-1), 1, 21), (21, .ireturn, 1, 22), (22, .aload_n 0, 1, 23), (23, .iload_n 1, 1, 24), (24, .iload_n 2, 1, 25), (25, .invokevirtual 186, 3, 28), (28, .ifCond .ne 18, 3, 31), (31, .aload_n 0, 1, 32), (32, .iload_n 1, 1, 33), (33, .iload_n 2, 1, 34), (34, .invokevirtual 142, 3, 37), (37, .bipush (-4), 2, 39), (39, .if_icmp .eq 7, 3, 42), (42, .iconst 4, 1, 43), (43, .goto 9, 3, 46), (46, .aload_n 0, 1, 47), (47, .iload_n 1, 1, 48), (48, .iload_n 2, 1, 49), (49, .invokevirtual 186, 3, 52), (52, .istore 4, 2, 54), (54, .iload 4, 2, 56), (56, .ifCond .eq 9, 3, 59), (59, .iload 4, 2, 61), (61, .iconst 3, 1, 62), (62, .if_icmp .ne 8, 3, 65), (65, .bipush 7, 2, 67), (67, .goto 26, 3, 70), (70, .iload 4, 2, 72), (72, .iconst 1, 1, 73), (73, .if_icmp .ne 8, 3, 76), (76, .bipush 6, 2, 78), (78, .goto 15, 3, 81), (81, .iload 4, 2, 83), (83, .iconst 2, 1, 84), (84, .if_icmp .ne 7, 3, 87), (87, .iconst 5, 1, 88), (88, .goto 5, 3, 91), (91, .bipush 8, 2, 93), (93, .istore 5, 2, 95), (95, .iload_n 3, 1, 96), (96, .ifCond .ge 8, 3, 99), (99, .iload 5, 2, 101), (101, .goto 26, 3, 104), (104, .iload_n 3, 1, 105), (105, .iload 5, 2, 107), (107, .if_icmp .ge 18, 3, 110), (110, .aload_n 0, 1, 111), (111, .getfield 64, 3, 114), (114, .bipush 8, 2, 116), (116, .iload 4, 2, 118), (118, .imul, 1, 119), (119, .iload_n 3, 1, 120), (120, .iadd, 1, 121), (121, .iaload, 1, 122), (122, .goto 5, 3, 125), (125, .bipush (-4), 2, 127), (127, .ireturn, 1, 128)]
theorem dk_X7_word_ : sw_dc cX7_word_ L_X7_word_ = true := by decide +kernel
def f_X7_word__93 (σ : sw_St)  (x3 : Int32) (x4 : Int32) (y0 : Int32) : Option Int32 := if 0 ≤ x3 then (if y0 ≤ x3 then (some (-4)) else (sw_ck (sw_in ((8 * x4) + x3) 40) (some (σ 20 (sw_ix ((8 * x4) + x3)))))) else (some y0)
def f_X7_word__65 (σ : sw_St)  (x3 : Int32) (x4 : Int32) : Option Int32 := f_X7_word__93 σ x3 x4 7
def f_X7_word__52 (σ : sw_St)  (x3 : Int32) (y0 : Int32) : Option Int32 := if y0 = 0 then (f_X7_word__65 σ x3 y0) else (if y0 = 3 then (f_X7_word__65 σ x3 y0) else (if y0 = 1 then (f_X7_word__93 σ x3 y0 6) else (if y0 = 2 then (f_X7_word__93 σ x3 y0 5) else (f_X7_word__93 σ x3 y0 8))))
def f_X7_word__46 (σ : sw_St)  (x1 : Int32) (x2 : Int32) (x3 : Int32) : Option Int32 := (f_X7_howOf σ x1 x2).bind fun r1 => (f_X7_word__52 σ x3 r1)
def f_X7_word_ (σ : sw_St) (x1 : Int32) (x2 : Int32) (x3 : Int32) : Option Int32 := (f_X7_isCore σ x1).bind fun r1 => (if r1 = 0 then (some (-1)) else ((f_X7_isLine σ x2).bind fun r2 => (if r2 = 0 then (some (-1)) else (if (-1) ≤ x3 then ((f_X7_howOf σ x1 x2).bind fun r3 => (if r3 = 0 then ((f_X7_backAt σ x1 x2).bind fun r4 => (if r4 = (-4) then (f_X7_word__46 σ x1 x2 x3) else (f_X7_word__52 σ x3 4))) else (f_X7_word__46 σ x1 x2 x3))) else (some (-1))))))
set_option maxHeartbeats 1000000 in
set_option maxRecDepth 100000 in
theorem s_X7_word__93 {V : sw_V} (C : sw_Cx sw_ZM V cX7_word_ RX7 6 (some .int) L_X7_word_ 2) (σ : sw_St) (x3 : Int32) (x4 : Int32) (y0 : Int32) : sw_S sw_ZM V (sw_eP σ) [some (sw_r V 1), none, none, some (.int x3), some (.int x4), none] [(.int y0)] 93 σ (f_X7_word__93 σ x3 x4 y0) := by
  unfold f_X7_word__93
  refine g_istore C 48 rfl (Nat.le_of_ble_eq_true rfl) (Or.inr (Or.inr (Or.inl ⟨_, rfl⟩))) ?_
  refine g_iload_n C 49 rfl rfl ?_
  refine g_if_ge C 50 rfl 104 (by decide) ?_ ?_
  · refine g_iload_n C 53 rfl rfl ?_
    refine g_iload C 54 rfl rfl ?_
    refine g_icmp_ge C 55 rfl 125 (by decide) ?_ ?_
    · refine g_bipush C 65 rfl (-4) (by decide) ?_
      skip
      exact g_iret C 66 rfl rfl
    · refine g_aload_n C 56 rfl rfl ?_
      refine g_getR C 57 rfl fl_X7_64 rfl rfl ?_
      refine g_bipush C 58 rfl 8 (by decide) ?_
      refine g_iload C 59 rfl rfl ?_
      refine g_imul C 60 rfl ?_
      refine g_iload_n C 61 rfl rfl ?_
      refine g_iadd C 62 rfl ?_
      refine g_ck fun h1 => ?_
      refine g_iald C 63 rfl rfl h1 ?_
      refine g_goto C 64 rfl 127 (by decide) ?_
      skip
      exact g_iret C 66 rfl rfl
  · refine g_iload C 51 rfl rfl ?_
    refine g_goto C 52 rfl 127 (by decide) ?_
    skip
    exact g_iret C 66 rfl rfl
set_option maxHeartbeats 1000000 in
set_option maxRecDepth 100000 in
theorem s_X7_word__65 {V : sw_V} (C : sw_Cx sw_ZM V cX7_word_ RX7 6 (some .int) L_X7_word_ 2) (σ : sw_St) (x3 : Int32) (x4 : Int32) : sw_S sw_ZM V (sw_eP σ) [some (sw_r V 1), none, none, some (.int x3), some (.int x4), none] [] 65 σ (f_X7_word__65 σ x3 x4) := by
  unfold f_X7_word__65
  refine g_bipush C 35 rfl 7 (by decide) ?_
  refine g_goto C 36 rfl 93 (by decide) ?_
  exact g_wk (s_X7_word__93 C σ x3 x4 7) ⟨rfl, rfl, rfl, trivial⟩
set_option maxHeartbeats 1000000 in
set_option maxRecDepth 100000 in
theorem s_X7_word__52 {V : sw_V} (C : sw_Cx sw_ZM V cX7_word_ RX7 6 (some .int) L_X7_word_ 2) (σ : sw_St) (x3 : Int32) (y0 : Int32) : sw_S sw_ZM V (sw_eP σ) [some (sw_r V 1), none, none, some (.int x3), none, none] [(.int y0)] 52 σ (f_X7_word__52 σ x3 y0) := by
  unfold f_X7_word__52
  refine g_istore C 29 rfl (Nat.le_of_ble_eq_true rfl) (Or.inr (Or.inr (Or.inl ⟨_, rfl⟩))) ?_
  refine g_iload C 30 rfl rfl ?_
  refine g_if_eq C 31 rfl 65 (by decide) ?_ ?_
  · exact g_wk (s_X7_word__65 C σ x3 y0) ⟨rfl, rfl, rfl, trivial⟩
  · refine g_iload C 32 rfl rfl ?_
    refine g_iconst C 33 rfl 3 (by decide) ?_
    refine g_icmp_ne C 34 rfl 70 (by decide) ?_ ?_
    · refine g_iload C 37 rfl rfl ?_
      refine g_iconst C 38 rfl 1 (by decide) ?_
      refine g_icmp_ne C 39 rfl 81 (by decide) ?_ ?_
      · refine g_iload C 42 rfl rfl ?_
        refine g_iconst C 43 rfl 2 (by decide) ?_
        refine g_icmp_ne C 44 rfl 91 (by decide) ?_ ?_
        · refine g_bipush C 47 rfl 8 (by decide) ?_
          exact g_wk (s_X7_word__93 C σ x3 y0 8) ⟨rfl, rfl, rfl, trivial⟩
        · refine g_iconst C 45 rfl 5 (by decide) ?_
          refine g_goto C 46 rfl 93 (by decide) ?_
          exact g_wk (s_X7_word__93 C σ x3 y0 5) ⟨rfl, rfl, rfl, trivial⟩
      · refine g_bipush C 40 rfl 6 (by decide) ?_
        refine g_goto C 41 rfl 93 (by decide) ?_
        exact g_wk (s_X7_word__93 C σ x3 y0 6) ⟨rfl, rfl, rfl, trivial⟩
    · exact g_wk (s_X7_word__65 C σ x3 y0) ⟨rfl, rfl, rfl, trivial⟩
set_option maxHeartbeats 1000000 in
set_option maxRecDepth 100000 in
theorem s_X7_word__46 {V : sw_V} (C : sw_Cx sw_ZM V cX7_word_ RX7 6 (some .int) L_X7_word_ 2) (σ : sw_St) (x1 : Int32) (x2 : Int32) (x3 : Int32) : sw_S sw_ZM V (sw_eP σ) [some (sw_r V 1), some (.int x1), some (.int x2), some (.int x3), none, none] [] 46 σ (f_X7_word__46 σ x1 x2 x3) := by
  unfold f_X7_word__46
  refine g_aload_n C 25 rfl rfl ?_
  refine g_iload_n C 26 rfl rfl ?_
  refine g_iload_n C 27 rfl rfl ?_
  refine g_callV (ψ₁ := sw_eP σ) C 28 rfl [(.int x1), (.int x2)] [] ml_X7_186 rfl (Nat.le_of_ble_eq_true rfl) (by decide) rfl rfl (fun b hb => m_X7_howOf V.1.2.1 _ _ _ _ C.inj σ x1 x2 b hb) rfl (g_cP fun r1 => ?_)
  exact g_wk (s_X7_word__52 C σ x3 r1) ⟨rfl, rfl, trivial⟩
set_option maxHeartbeats 1000000 in
set_option maxRecDepth 100000 in
theorem s_X7_word_ {V : sw_V} (C : sw_Cx sw_ZM V cX7_word_ RX7 6 (some .int) L_X7_word_ 2) (σ : sw_St) (x1 : Int32) (x2 : Int32) (x3 : Int32) : sw_S sw_ZM V (sw_eP σ) [some (sw_r V 1), some (.int x1), some (.int x2), some (.int x3), none, none] [] 0 σ (f_X7_word_ σ x1 x2 x3) := by
  unfold f_X7_word_
  refine g_aload_n C 0 rfl rfl ?_
  refine g_iload_n C 1 rfl rfl ?_
  refine g_callV (ψ₁ := sw_eP σ) C 2 rfl [(.int x1)] [] ml_X7_160 rfl (Nat.le_of_ble_eq_true rfl) (by decide) rfl rfl (fun b hb => m_X7_isCore V.1.2.1 _ _ _ _ C.inj σ x1 b hb) rfl (g_cP fun r1 => ?_)
  refine g_if_eq C 3 rfl 20 (by decide) ?_ ?_
  · refine g_iconst C 10 rfl (-1) (by decide) ?_
    skip
    exact g_iret C 11 rfl rfl
  · refine g_iload_n C 4 rfl rfl ?_
    refine g_callS (ψ₁ := sw_eP σ) C 5 rfl [(.int x2)] [] ml_X7_163 rfl (Nat.le_of_ble_eq_true rfl) (by decide) (fun b hb => m_X7_isLine V.1.2.1 _ _ _ _ C.inj σ x2 b hb) rfl (g_cP fun r2 => ?_)
    refine g_if_eq C 6 rfl 20 (by decide) ?_ ?_
    · refine g_iconst C 10 rfl (-1) (by decide) ?_
      skip
      exact g_iret C 11 rfl rfl
    · refine g_iload_n C 7 rfl rfl ?_
      refine g_iconst C 8 rfl (-1) (by decide) ?_
      refine g_icmp_ge C 9 rfl 22 (by decide) ?_ ?_
      · refine g_aload_n C 12 rfl rfl ?_
        refine g_iload_n C 13 rfl rfl ?_
        refine g_iload_n C 14 rfl rfl ?_
        refine g_callV (ψ₁ := sw_eP σ) C 15 rfl [(.int x1), (.int x2)] [] ml_X7_186 rfl (Nat.le_of_ble_eq_true rfl) (by decide) rfl rfl (fun b hb => m_X7_howOf V.1.2.1 _ _ _ _ C.inj σ x1 x2 b hb) rfl (g_cP fun r3 => ?_)
        refine g_if_ne C 16 rfl 46 (by decide) ?_ ?_
        · exact g_wk (s_X7_word__46 C σ x1 x2 x3) ⟨rfl, rfl, rfl, rfl, trivial⟩
        · refine g_aload_n C 17 rfl rfl ?_
          refine g_iload_n C 18 rfl rfl ?_
          refine g_iload_n C 19 rfl rfl ?_
          refine g_callV (ψ₁ := sw_eP σ) C 20 rfl [(.int x1), (.int x2)] [] ml_X7_142 rfl (Nat.le_of_ble_eq_true rfl) (by decide) rfl rfl (fun b hb => m_X7_backAt V.1.2.1 _ _ _ _ C.inj σ x1 x2 b hb) rfl (g_cP fun r4 => ?_)
          refine g_bipush C 21 rfl (-4) (by decide) ?_
          refine g_icmp_eq C 22 rfl 46 (by decide) ?_ ?_
          · exact g_wk (s_X7_word__46 C σ x1 x2 x3) ⟨rfl, rfl, rfl, rfl, trivial⟩
          · refine g_iconst C 23 rfl 4 (by decide) ?_
            refine g_goto C 24 rfl 52 (by decide) ?_
            exact g_wk (s_X7_word__52 C σ x3 4) ⟨rfl, rfl, trivial⟩
      · refine g_iconst C 10 rfl (-1) (by decide) ?_
        skip
        exact g_iret C 11 rfl rfl
set_option maxHeartbeats 1000000 in
set_option maxRecDepth 100000 in
theorem m_X7_word_ (l : Launch) (dC : Nat → ClassId) (dI : Nat → Nat → Nat) (dA : Nat → ClassId) (ad : Nat → Nat) (hI : sw_inj sw_ZM ad) (σ : sw_St) (x1 : Int32) (x2 : Int32) (x3 : Int32) (b : Int32) (hb : f_X7_word_ σ x1 x2 x3 = some b) : sw_M sw_ZM l yX7_word_ cX7_word_ 6 (some .int) 2 dC dI dA ad [(sw_rv ad 1), (.int x1), (.int x2), (.int x3)] σ ((sw_eP σ) b) :=
  sw_mk1 (ψ := (sw_eP σ)) 2 (by decide) sw_ZMok hI dk_X7_word_ rfl (sw_c1_all _ ⟨sw_rv_cat _ _, rfl, rfl, rfl, trivial⟩) hb (fun p e R M C => s_X7_word_ C σ x1 x2 x3)
/-! SplitWatchModel.cached(III)I -/
def L_X7_cached : sw_Is := [(0, .aload_n 0, 1, 1), (1, .iload_n 1, 1, 2), (2, .invokevirtual 160, 3, 5), (5, .ifCond .eq 22, 3, 8), (8, .iload_n 2, 1, 9), (9, .invokestatic 163, 3, 12), (12, .ifCond .eq 15, 3, 15), (15, .iload_n 3, 1, 16), (16, .i2l, 1, 17), (17, .lconst 0, 1, 18), (18, .ldc2_w 71, 3, 21), (21, .invokestatic 75, 3, 24), (24, .ifCond .ne 5, 3, 27), (27, .iconst (-1), 1, 28), (28, .ireturn, 1, 29), (29, .aload_n 0, 1, 30), (30, .iload_n 1, 1, 31), (31, .iload_n 2, 1, 32), (32, .invokevirtual 123, 3, 35), (35, .istore 4, 2, 37), (37, .iload_n 3, 1, 38), (38, .ifCond .eq 10, 3, 41), (41, .iload 4, 2, 43), (43, .bipush (-4), 2, 45), (45, .if_icmp .ne 19, 3, 48), (48, .iload_n 3, 1, 49), (49, .ifCond .ne 12, 3, 52), (52, .aload_n 0, 1, 53), (53, .iload_n 1, 1, 54), (54, .iload_n 2, 1, 55), (55, .invokevirtual 186, 3, 58), (58, .goto 5, 3, 61), (61, .bipush (-4), 2, 63), (63, .ireturn, 1, 64), (64, .iload_n 3, 1, 65), (65, .iconst 1, 1, 66), (66, .if_icmp .ne 13, 3, 69), (69, .aload_n 0, 1, 70), (70, .getfield 19, 3, 73), (73, .iload 4, 2, 75), (75, .iaload, 1, 76), (76, .goto 18, 3, 79), (79, .iconst 4, 1, 80), (80, .iload_n 1, 1, 81), (81, .imul, 1, 82), (82, .aload_n 0, 1, 83), (83, .getfield 13, 3, 86), (86, .iload_n 1, 1, 87), (87, .iaload, 1, 88), (88, .iadd, 1, 89), (89, .iconst 1, 1, 90), (90, .isub, 1, 91), (91, .iload 4, 2, 93), (93, .isub, 1, 94), (94, .ireturn, 1, 95)]
theorem dk_X7_cached : sw_dc cX7_cached L_X7_cached = true := by decide +kernel
def f_X7_cached_48 (σ : sw_St)  (x1 : Int32) (x2 : Int32) (x3 : Int32) : Option Int32 := if x3 = 0 then ((f_X7_howOf σ x1 x2).bind fun r1 => (some r1)) else (some (-4))
def f_X7_cached (σ : sw_St) (x1 : Int32) (x2 : Int32) (x3 : Int32) : Option Int32 := (f_X7_isCore σ x1).bind fun r1 => (if r1 = 0 then (some (-1)) else ((f_X7_isLine σ x2).bind fun r2 => (if r2 = 0 then (some (-1)) else ((f_X7_in σ (Int32.toInt64 x3) (0 : Int64) (2 : Int64)).bind fun r3 => (if r3 = 0 then (some (-1)) else ((f_X7_at σ x1 x2).bind fun r4 => (if x3 = 0 then (f_X7_cached_48 σ x1 x2 x3) else (if r4 = (-4) then (f_X7_cached_48 σ x1 x2 x3) else (if x3 = 1 then (sw_ck (sw_in r4 16) (some (σ 5 (sw_ix r4)))) else (sw_ck (sw_in x1 4) (some ((((4 * x1) + (σ 3 (sw_ix x1))) - 1) - r4))))))))))))
set_option maxHeartbeats 1000000 in
set_option maxRecDepth 100000 in
theorem s_X7_cached_48 {V : sw_V} (C : sw_Cx sw_ZM V cX7_cached RX7 5 (some .int) L_X7_cached 2) (σ : sw_St) (x1 : Int32) (x2 : Int32) (x3 : Int32) : sw_S sw_ZM V (sw_eP σ) [some (sw_r V 1), some (.int x1), some (.int x2), some (.int x3), none] [] 48 σ (f_X7_cached_48 σ x1 x2 x3) := by
  unfold f_X7_cached_48
  refine g_iload_n C 25 rfl rfl ?_
  refine g_if_ne C 26 rfl 61 (by decide) ?_ ?_
  · refine g_bipush C 32 rfl (-4) (by decide) ?_
    skip
    exact g_iret C 33 rfl rfl
  · refine g_aload_n C 27 rfl rfl ?_
    refine g_iload_n C 28 rfl rfl ?_
    refine g_iload_n C 29 rfl rfl ?_
    refine g_callV (ψ₁ := sw_eP σ) C 30 rfl [(.int x1), (.int x2)] [] ml_X7_186 rfl (Nat.le_of_ble_eq_true rfl) (by decide) rfl rfl (fun b hb => m_X7_howOf V.1.2.1 _ _ _ _ C.inj σ x1 x2 b hb) rfl (g_cP fun r1 => ?_)
    refine g_goto C 31 rfl 63 (by decide) ?_
    skip
    exact g_iret C 33 rfl rfl
set_option maxHeartbeats 1000000 in
set_option maxRecDepth 100000 in
theorem s_X7_cached {V : sw_V} (C : sw_Cx sw_ZM V cX7_cached RX7 5 (some .int) L_X7_cached 2) (σ : sw_St) (x1 : Int32) (x2 : Int32) (x3 : Int32) : sw_S sw_ZM V (sw_eP σ) [some (sw_r V 1), some (.int x1), some (.int x2), some (.int x3), none] [] 0 σ (f_X7_cached σ x1 x2 x3) := by
  unfold f_X7_cached
  refine g_aload_n C 0 rfl rfl ?_
  refine g_iload_n C 1 rfl rfl ?_
  refine g_callV (ψ₁ := sw_eP σ) C 2 rfl [(.int x1)] [] ml_X7_160 rfl (Nat.le_of_ble_eq_true rfl) (by decide) rfl rfl (fun b hb => m_X7_isCore V.1.2.1 _ _ _ _ C.inj σ x1 b hb) rfl (g_cP fun r1 => ?_)
  refine g_if_eq C 3 rfl 27 (by decide) ?_ ?_
  · refine g_iconst C 13 rfl (-1) (by decide) ?_
    skip
    exact g_iret C 14 rfl rfl
  · refine g_iload_n C 4 rfl rfl ?_
    refine g_callS (ψ₁ := sw_eP σ) C 5 rfl [(.int x2)] [] ml_X7_163 rfl (Nat.le_of_ble_eq_true rfl) (by decide) (fun b hb => m_X7_isLine V.1.2.1 _ _ _ _ C.inj σ x2 b hb) rfl (g_cP fun r2 => ?_)
    refine g_if_eq C 6 rfl 27 (by decide) ?_ ?_
    · refine g_iconst C 13 rfl (-1) (by decide) ?_
      skip
      exact g_iret C 14 rfl rfl
    · refine g_iload_n C 7 rfl rfl ?_
      refine g_i2l C 8 rfl ?_
      refine g_lconst C 9 rfl (0 : Int64) (by decide) ?_
      refine g_ldc2 C 10 rfl (2 : Int64) q_769 ?_
      refine g_callS (ψ₁ := sw_eP σ) C 11 rfl [(.long (Int32.toInt64 x3)), (.long (0 : Int64)), (.long (2 : Int64))] [] ml_X7_75 rfl (Nat.le_of_ble_eq_true rfl) (by decide) (fun b hb => m_X7_in V.1.2.1 _ _ _ _ C.inj σ (Int32.toInt64 x3) (0 : Int64) (2 : Int64) b hb) rfl (g_cP fun r3 => ?_)
      refine g_if_ne C 12 rfl 29 (by decide) ?_ ?_
      · refine g_aload_n C 15 rfl rfl ?_
        refine g_iload_n C 16 rfl rfl ?_
        refine g_iload_n C 17 rfl rfl ?_
        refine g_callV (ψ₁ := sw_eP σ) C 18 rfl [(.int x1), (.int x2)] [] ml_X7_123 rfl (Nat.le_of_ble_eq_true rfl) (by decide) rfl rfl (fun b hb => m_X7_at V.1.2.1 _ _ _ _ C.inj σ x1 x2 b hb) rfl (g_cP fun r4 => ?_)
        refine g_istore C 19 rfl (Nat.le_of_ble_eq_true rfl) (Or.inr (Or.inr (Or.inl ⟨_, rfl⟩))) ?_
        refine g_iload_n C 20 rfl rfl ?_
        refine g_if_eq C 21 rfl 48 (by decide) ?_ ?_
        · exact g_wk (s_X7_cached_48 C σ x1 x2 x3) ⟨rfl, rfl, rfl, rfl, trivial⟩
        · refine g_iload C 22 rfl rfl ?_
          refine g_bipush C 23 rfl (-4) (by decide) ?_
          refine g_icmp_ne C 24 rfl 64 (by decide) ?_ ?_
          · refine g_iload_n C 34 rfl rfl ?_
            refine g_iconst C 35 rfl 1 (by decide) ?_
            refine g_icmp_ne C 36 rfl 79 (by decide) ?_ ?_
            · refine g_iconst C 42 rfl 4 (by decide) ?_
              refine g_iload_n C 43 rfl rfl ?_
              refine g_imul C 44 rfl ?_
              refine g_aload_n C 45 rfl rfl ?_
              refine g_getR C 46 rfl fl_X7_13 rfl rfl ?_
              refine g_iload_n C 47 rfl rfl ?_
              refine g_ck fun h5 => ?_
              refine g_iald C 48 rfl rfl h5 ?_
              refine g_iadd C 49 rfl ?_
              refine g_iconst C 50 rfl 1 (by decide) ?_
              refine g_isub C 51 rfl ?_
              refine g_iload C 52 rfl rfl ?_
              refine g_isub C 53 rfl ?_
              skip
              exact g_iret C 54 rfl rfl
            · refine g_aload_n C 37 rfl rfl ?_
              refine g_getR C 38 rfl fl_X7_19 rfl rfl ?_
              refine g_iload C 39 rfl rfl ?_
              refine g_ck fun h6 => ?_
              refine g_iald C 40 rfl rfl h6 ?_
              refine g_goto C 41 rfl 94 (by decide) ?_
              skip
              exact g_iret C 54 rfl rfl
          · exact g_wk (s_X7_cached_48 C σ x1 x2 x3) ⟨rfl, rfl, rfl, rfl, trivial⟩
      · refine g_iconst C 13 rfl (-1) (by decide) ?_
        skip
        exact g_iret C 14 rfl rfl
set_option maxHeartbeats 1000000 in
set_option maxRecDepth 100000 in
theorem m_X7_cached (l : Launch) (dC : Nat → ClassId) (dI : Nat → Nat → Nat) (dA : Nat → ClassId) (ad : Nat → Nat) (hI : sw_inj sw_ZM ad) (σ : sw_St) (x1 : Int32) (x2 : Int32) (x3 : Int32) (b : Int32) (hb : f_X7_cached σ x1 x2 x3 = some b) : sw_M sw_ZM l yX7_cached cX7_cached 5 (some .int) 2 dC dI dA ad [(sw_rv ad 1), (.int x1), (.int x2), (.int x3)] σ ((sw_eP σ) b) :=
  sw_mk1 (ψ := (sw_eP σ)) 1 (by decide) sw_ZMok hI dk_X7_cached rfl (sw_c1_all _ ⟨sw_rv_cat _ _, rfl, rfl, rfl, trivial⟩) hb (fun p e R M C => s_X7_cached C σ x1 x2 x3)
/-! SplitWatchModel.buffered(III)I -/
def L_X7_buffered : sw_Is := [(0, .aload_n 0, 1, 1), (1, .iload_n 1, 1, 2), (2, .invokevirtual 160, 3, 5), (5, .ifCond .eq 18, 3, 8), (8, .iload_n 2, 1, 9), (9, .iconst (-1), 1, 10), (10, .if_icmp .lt 13, 3, 13), (13, .iload_n 3, 1, 14), (14, .i2l, 1, 15), (15, .lconst 0, 1, 16), (16, .lconst 1, 1, 17), (17, .invokestatic 75, 3, 20), (20, .ifCond .ne 5, 3, 23), (23, .iconst (-1), 1, 24), (24, .ireturn, 1, 25), (25, .iload_n 2, 1, 26), (26, .ifCond .lt 13, 3, 29), (29, .iload_n 2, 1, 30), (30, .aload_n 0, 1, 31), (31, .getfield 25, 3, 34), (34, .iload_n 1, 1, 35), (35, .iaload, 1, 36), (36, .if_icmp .lt 19, 3, 39), (39, .iload_n 2, 1, 40), (40, .ifCond .ge 12, 3, 43), (43, .aload_n 0, 1, 44), (44, .getfield 25, 3, 47), (47, .iload_n 1, 1, 48), (48, .iaload, 1, 49), (49, .goto 5, 3, 52), (52, .bipush (-4), 2, 54), (54, .ireturn, 1, 55), (55, .iload_n 3, 1, 56), (56, .ifCond .ne 16, 3, 59), (59, .aload_n 0, 1, 60), (60, .getfield 28, 3, 63), (63, .iconst 2, 1, 64), (64, .iload_n 1, 1, 65), (65, .imul, 1, 66), (66, .iload_n 2, 1, 67), (67, .iadd, 1, 68), (68, .iaload, 1, 69), (69, .goto 13, 3, 72), (72, .aload_n 0, 1, 73), (73, .getfield 31, 3, 76), (76, .iconst 2, 1, 77), (77, .iload_n 1, 1, 78), (78, .imul, 1, 79), (79, .iload_n 2, 1, 80), (80, .iadd, 1, 81), (81, .iaload, 1, 82), (82, .ireturn, 1, 83)]
theorem dk_X7_buffered : sw_dc cX7_buffered L_X7_buffered = true := by decide +kernel
def f_X7_buffered_39 (σ : sw_St)  (x1 : Int32) (x2 : Int32) : Option Int32 := if 0 ≤ x2 then (some (-4)) else (sw_ck (sw_in x1 4) (some (σ 7 (sw_ix x1))))
def f_X7_buffered (σ : sw_St) (x1 : Int32) (x2 : Int32) (x3 : Int32) : Option Int32 := (f_X7_isCore σ x1).bind fun r1 => (if r1 = 0 then (some (-1)) else (if x2 < (-1) then (some (-1)) else ((f_X7_in σ (Int32.toInt64 x3) (0 : Int64) (1 : Int64)).bind fun r2 => (if r2 = 0 then (some (-1)) else (if x2 < 0 then (f_X7_buffered_39 σ x1 x2) else (sw_ck (sw_in x1 4) (if x2 < (σ 7 (sw_ix x1)) then (if x3 = 0 then (sw_ck (sw_in ((2 * x1) + x2) 8) (some (σ 8 (sw_ix ((2 * x1) + x2))))) else (sw_ck (sw_in ((2 * x1) + x2) 8) (some (σ 9 (sw_ix ((2 * x1) + x2)))))) else (f_X7_buffered_39 σ x1 x2))))))))
set_option maxHeartbeats 1000000 in
set_option maxRecDepth 100000 in
theorem s_X7_buffered_39 {V : sw_V} (C : sw_Cx sw_ZM V cX7_buffered RX7 4 (some .int) L_X7_buffered 2) (σ : sw_St) (x1 : Int32) (x2 : Int32) : sw_S sw_ZM V (sw_eP σ) [some (sw_r V 1), some (.int x1), some (.int x2), none] [] 39 σ (f_X7_buffered_39 σ x1 x2) := by
  unfold f_X7_buffered_39
  refine g_iload_n C 23 rfl rfl ?_
  refine g_if_ge C 24 rfl 52 (by decide) ?_ ?_
  · refine g_bipush C 30 rfl (-4) (by decide) ?_
    skip
    exact g_iret C 31 rfl rfl
  · refine g_aload_n C 25 rfl rfl ?_
    refine g_getR C 26 rfl fl_X7_25 rfl rfl ?_
    refine g_iload_n C 27 rfl rfl ?_
    refine g_ck fun h1 => ?_
    refine g_iald C 28 rfl rfl h1 ?_
    refine g_goto C 29 rfl 54 (by decide) ?_
    skip
    exact g_iret C 31 rfl rfl
set_option maxHeartbeats 1000000 in
set_option maxRecDepth 100000 in
theorem s_X7_buffered {V : sw_V} (C : sw_Cx sw_ZM V cX7_buffered RX7 4 (some .int) L_X7_buffered 2) (σ : sw_St) (x1 : Int32) (x2 : Int32) (x3 : Int32) : sw_S sw_ZM V (sw_eP σ) [some (sw_r V 1), some (.int x1), some (.int x2), some (.int x3)] [] 0 σ (f_X7_buffered σ x1 x2 x3) := by
  unfold f_X7_buffered
  refine g_aload_n C 0 rfl rfl ?_
  refine g_iload_n C 1 rfl rfl ?_
  refine g_callV (ψ₁ := sw_eP σ) C 2 rfl [(.int x1)] [] ml_X7_160 rfl (Nat.le_of_ble_eq_true rfl) (by decide) rfl rfl (fun b hb => m_X7_isCore V.1.2.1 _ _ _ _ C.inj σ x1 b hb) rfl (g_cP fun r1 => ?_)
  refine g_if_eq C 3 rfl 23 (by decide) ?_ ?_
  · refine g_iconst C 13 rfl (-1) (by decide) ?_
    skip
    exact g_iret C 14 rfl rfl
  · refine g_iload_n C 4 rfl rfl ?_
    refine g_iconst C 5 rfl (-1) (by decide) ?_
    refine g_icmp_lt C 6 rfl 23 (by decide) ?_ ?_
    · refine g_iconst C 13 rfl (-1) (by decide) ?_
      skip
      exact g_iret C 14 rfl rfl
    · refine g_iload_n C 7 rfl rfl ?_
      refine g_i2l C 8 rfl ?_
      refine g_lconst C 9 rfl (0 : Int64) (by decide) ?_
      refine g_lconst C 10 rfl (1 : Int64) (by decide) ?_
      refine g_callS (ψ₁ := sw_eP σ) C 11 rfl [(.long (Int32.toInt64 x3)), (.long (0 : Int64)), (.long (1 : Int64))] [] ml_X7_75 rfl (Nat.le_of_ble_eq_true rfl) (by decide) (fun b hb => m_X7_in V.1.2.1 _ _ _ _ C.inj σ (Int32.toInt64 x3) (0 : Int64) (1 : Int64) b hb) rfl (g_cP fun r2 => ?_)
      refine g_if_ne C 12 rfl 25 (by decide) ?_ ?_
      · refine g_iload_n C 15 rfl rfl ?_
        refine g_if_lt C 16 rfl 39 (by decide) ?_ ?_
        · exact g_wk (s_X7_buffered_39 C σ x1 x2) ⟨rfl, rfl, rfl, trivial⟩
        · refine g_iload_n C 17 rfl rfl ?_
          refine g_aload_n C 18 rfl rfl ?_
          refine g_getR C 19 rfl fl_X7_25 rfl rfl ?_
          refine g_iload_n C 20 rfl rfl ?_
          refine g_ck fun h3 => ?_
          refine g_iald C 21 rfl rfl h3 ?_
          refine g_icmp_lt C 22 rfl 55 (by decide) ?_ ?_
          · refine g_iload_n C 32 rfl rfl ?_
            refine g_if_ne C 33 rfl 72 (by decide) ?_ ?_
            · refine g_aload_n C 43 rfl rfl ?_
              refine g_getR C 44 rfl fl_X7_31 rfl rfl ?_
              refine g_iconst C 45 rfl 2 (by decide) ?_
              refine g_iload_n C 46 rfl rfl ?_
              refine g_imul C 47 rfl ?_
              refine g_iload_n C 48 rfl rfl ?_
              refine g_iadd C 49 rfl ?_
              refine g_ck fun h4 => ?_
              refine g_iald C 50 rfl rfl h4 ?_
              skip
              exact g_iret C 51 rfl rfl
            · refine g_aload_n C 34 rfl rfl ?_
              refine g_getR C 35 rfl fl_X7_28 rfl rfl ?_
              refine g_iconst C 36 rfl 2 (by decide) ?_
              refine g_iload_n C 37 rfl rfl ?_
              refine g_imul C 38 rfl ?_
              refine g_iload_n C 39 rfl rfl ?_
              refine g_iadd C 40 rfl ?_
              refine g_ck fun h5 => ?_
              refine g_iald C 41 rfl rfl h5 ?_
              refine g_goto C 42 rfl 82 (by decide) ?_
              skip
              exact g_iret C 51 rfl rfl
          · exact g_wk (s_X7_buffered_39 C σ x1 x2) ⟨rfl, rfl, rfl, trivial⟩
      · refine g_iconst C 13 rfl (-1) (by decide) ?_
        skip
        exact g_iret C 14 rfl rfl
set_option maxHeartbeats 1000000 in
set_option maxRecDepth 100000 in
theorem m_X7_buffered (l : Launch) (dC : Nat → ClassId) (dI : Nat → Nat → Nat) (dA : Nat → ClassId) (ad : Nat → Nat) (hI : sw_inj sw_ZM ad) (σ : sw_St) (x1 : Int32) (x2 : Int32) (x3 : Int32) (b : Int32) (hb : f_X7_buffered σ x1 x2 x3 = some b) : sw_M sw_ZM l yX7_buffered cX7_buffered 4 (some .int) 2 dC dI dA ad [(sw_rv ad 1), (.int x1), (.int x2), (.int x3)] σ ((sw_eP σ) b) :=
  sw_mk1 (ψ := (sw_eP σ)) 0 (by decide) sw_ZMok hI dk_X7_buffered rfl (sw_c1_all _ ⟨sw_rv_cat _ _, rfl, rfl, rfl, trivial⟩) hb (fun p e R M C => s_X7_buffered C σ x1 x2 x3)
/-! SplitWatchModel.memory(I)I -/
def L_X7_memory : sw_Is := [(0, .iload_n 1, 1, 1), (1, .invokestatic 163, 3, 4), (4, .ifCond .eq 12, 3, 7), (7, .aload_n 0, 1, 8), (8, .getfield 7, 3, 11), (11, .iload_n 1, 1, 12), (12, .iaload, 1, 13), (13, .goto 4, 3, 16), (16, .iconst (-1), 1, 17), (17, .ireturn, 1, 18)]
theorem dk_X7_memory : sw_dc cX7_memory L_X7_memory = true := by decide +kernel
def f_X7_memory (σ : sw_St) (x1 : Int32) : Option Int32 := (f_X7_isLine σ x1).bind fun r1 => (if r1 = 0 then (some (-1)) else (sw_ck (sw_in x1 8) (some (σ 2 (sw_ix x1)))))
set_option maxHeartbeats 1000000 in
set_option maxRecDepth 100000 in
theorem s_X7_memory {V : sw_V} (C : sw_Cx sw_ZM V cX7_memory RX7 2 (some .int) L_X7_memory 2) (σ : sw_St) (x1 : Int32) : sw_S sw_ZM V (sw_eP σ) [some (sw_r V 1), some (.int x1)] [] 0 σ (f_X7_memory σ x1) := by
  unfold f_X7_memory
  refine g_iload_n C 0 rfl rfl ?_
  refine g_callS (ψ₁ := sw_eP σ) C 1 rfl [(.int x1)] [] ml_X7_163 rfl (Nat.le_of_ble_eq_true rfl) (by decide) (fun b hb => m_X7_isLine V.1.2.1 _ _ _ _ C.inj σ x1 b hb) rfl (g_cP fun r1 => ?_)
  refine g_if_eq C 2 rfl 16 (by decide) ?_ ?_
  · refine g_iconst C 8 rfl (-1) (by decide) ?_
    skip
    exact g_iret C 9 rfl rfl
  · refine g_aload_n C 3 rfl rfl ?_
    refine g_getR C 4 rfl fl_X7_7 rfl rfl ?_
    refine g_iload_n C 5 rfl rfl ?_
    refine g_ck fun h2 => ?_
    refine g_iald C 6 rfl rfl h2 ?_
    refine g_goto C 7 rfl 17 (by decide) ?_
    skip
    exact g_iret C 9 rfl rfl
set_option maxHeartbeats 1000000 in
set_option maxRecDepth 100000 in
theorem m_X7_memory (l : Launch) (dC : Nat → ClassId) (dI : Nat → Nat → Nat) (dA : Nat → ClassId) (ad : Nat → Nat) (hI : sw_inj sw_ZM ad) (σ : sw_St) (x1 : Int32) (b : Int32) (hb : f_X7_memory σ x1 = some b) : sw_M sw_ZM l yX7_memory cX7_memory 2 (some .int) 2 dC dI dA ad [(sw_rv ad 1), (.int x1)] σ ((sw_eP σ) b) :=
  sw_mk1 (ψ := (sw_eP σ)) 0 (by decide) sw_ZMok hI dk_X7_memory rfl (sw_c1_all _ ⟨sw_rv_cat _ _, rfl, trivial⟩) hb (fun p e R M C => s_X7_memory C σ x1)
/-! SplitWatchModel.truth(I)I -/
def L_X7_truth : sw_Is := [(0, .iload_n 1, 1, 1), (1, .invokestatic 163, 3, 4), (4, .ifCond .ne 5, 3, 7), (7, .iconst (-1), 1, 8), (8, .ireturn, 1, 9), (9, .iconst 0, 1, 10), (10, .istore_n 2, 1, 11), (11, .iload_n 2, 1, 12), (12, .aload_n 0, 1, 13), (13, .getfield 103, 3, 16), (16, .if_icmp .ge 54, 3, 19), (19, .aload_n 0, 1, 20), (20, .getfield 52, 3, 23), (23, .bipush 7, 2, 25), (25, .iload_n 2, 1, 26), (26, .imul, 1, 27), (27, .iconst 2, 1, 28), (28, .iadd, 1, 29), (29, .iaload, 1, 30), (30, .iload_n 1, 1, 31), (31, .if_icmp .ne 33, 3, 34), (34, .aload_n 0, 1, 35), (35, .getfield 52, 3, 38), (38, .bipush 7, 2, 40), (40, .iload_n 2, 1, 41), (41, .imul, 1, 42), (42, .iaload, 1, 43), (43, .iconst 1, 1, 44), (44, .if_icmp .ne 20, 3, 47), (47, .aload_n 0, 1, 48), (48, .getfield 43, 3, 51), (51, .aload_n 0, 1, 52), (52, .getfield 52, 3, 55), (55, .bipush 7, 2, 57), (57, .iload_n 2, 1, 58), (58, .imul, 1, 59), (59, .iconst 1, 1, 60), (60, .iadd, 1, 61), (61, .iaload, 1, 62), (62, .iaload, 1, 63), (63, .ireturn, 1, 64), (64, .iinc 2 1, 3, 67), (67, .goto (-56), 3, 70), (70, .aload_n 0, 1, 71), (71, .bipush (-4), 2, 73), (73, .iload_n 1, 1, 74), (74, .iconst 2, 1, 75), (75, .invokevirtual 195, 3, 78), (78, .istore_n 2, 1, 79), (79, .aload_n 0, 1, 80), (80, .iload_n 1, 1, 81), (81, .invokevirtual 199, 3, 84), (84, .istore_n 3, 1, 85), (85, .iload_n 2, 1, 86), (86, .bipush (-4), 2, 88), (88, .if_icmp .eq 17, 3, 91), (91, .aload_n 0, 1, 92), (92, .getfield 19, 3, 95), (95, .aload_n 0, 1, 96), (96, .iload_n 2, 1, 97), (97, .iload_n 1, 1, 98), (98, .invokevirtual 123, 3, 101), (101, .iaload, 1, 102), (102, .goto 29, 3, 105), (105, .iload_n 3, 1, 106), (106, .bipush (-4), 2, 108), (108, .if_icmp .eq 17, 3, 111), (111, .aload_n 0, 1, 112), (112, .getfield 31, 3, 115), (115, .aload_n 0, 1, 116), (116, .iload_n 3, 1, 117), (117, .iload_n 1, 1, 118), (118, .invokevirtual 142, 3, 121), (121, .iaload, 1, 122), (122, .goto 9, 3, 125), (125, .aload_n 0, 1, 126), (126, .getfield 7, 3, 129), (129, .iload_n 1, 1, 130), (130, .iaload, 1, 131), (131, .ireturn, 1, 132)]
theorem dk_X7_truth : sw_dc cX7_truth L_X7_truth = true := by decide +kernel
def f_X7_truth_11 (σ : sw_St)  : Nat → Int32 → Int32 → Option Int32
  | 0 => fun _ _ => none
  | n + 1 => fun x1 x2 => if (σ 1 21) ≤ x2 then ((f_X7_otherThat σ (-4) x1 2).bind fun r1 => ((f_X7_bufferThat σ x1).bind fun r2 => (if r1 = (-4) then (if r2 = (-4) then (sw_ck (sw_in x1 8) (some (σ 2 (sw_ix x1)))) else ((f_X7_backAt σ r2 x1).bind fun r4 => (sw_ck (sw_in r4 8) (some (σ 9 (sw_ix r4)))))) else ((f_X7_at σ r1 x1).bind fun r6 => (sw_ck (sw_in r6 16) (some (σ 5 (sw_ix r6)))))))) else (sw_ck (sw_in ((7 * x2) + 2) 28) (if (σ 16 (sw_ix ((7 * x2) + 2))) = x1 then (sw_ck (sw_in (7 * x2) 28) (if (σ 16 (sw_ix (7 * x2))) = 1 then (sw_ck (sw_in ((7 * x2) + 1) 28) (sw_ck (sw_in (σ 16 (sw_ix ((7 * x2) + 1))) 4) (some (σ 13 (sw_ix (σ 16 (sw_ix ((7 * x2) + 1)))))))) else ((f_X7_truth_11 σ n) x1 (x2 + 1)))) else ((f_X7_truth_11 σ n) x1 (x2 + 1))))
def f_X7_truth (σ : sw_St) (x1 : Int32) : Option Int32 := (f_X7_isLine σ x1).bind fun r1 => (if r1 = 0 then (some (-1)) else (f_X7_truth_11 σ sw_fuel x1 0))
set_option maxHeartbeats 1000000 in
set_option maxRecDepth 100000 in
theorem s_X7_truth_11 {V : sw_V} (C : sw_Cx sw_ZM V cX7_truth RX7 4 (some .int) L_X7_truth 3) (σ : sw_St) : ∀ (n : Nat) (x1 : Int32) (x2 : Int32), sw_S sw_ZM V (sw_eP σ) [some (sw_r V 1), some (.int x1), some (.int x2), none] [] 11 σ (f_X7_truth_11 σ n x1 x2) := by
  intro n
  induction n with
  | zero =>
    intro x1 x2
    exact g_none
  | succ n ih =>
    intro x1 x2
    rw [f_X7_truth_11]
    refine g_iload_n C 7 rfl rfl ?_
    refine g_aload_n C 8 rfl rfl ?_
    refine g_getI C 9 rfl fl_X7_103 rfl rfl ?_
    refine g_icmp_ge C 10 rfl 70 (by decide) ?_ ?_
    · refine g_aload_n C 43 rfl rfl ?_
      refine g_bipush C 44 rfl (-4) (by decide) ?_
      refine g_iload_n C 45 rfl rfl ?_
      refine g_iconst C 46 rfl 2 (by decide) ?_
      refine g_callV (ψ₁ := sw_eP σ) C 47 rfl [(.int (-4)), (.int x1), (.int 2)] [] ml_X7_195 rfl (Nat.le_of_ble_eq_true rfl) (by decide) rfl rfl (fun b hb => m_X7_otherThat V.1.2.1 _ _ _ _ C.inj σ (-4) x1 2 b hb) rfl (g_cP fun r1 => ?_)
      refine g_istore_n C 48 rfl (Nat.le_of_ble_eq_true rfl) (Or.inr (Or.inr (Or.inl ⟨_, rfl⟩))) ?_
      refine g_aload_n C 49 rfl rfl ?_
      refine g_iload_n C 50 rfl rfl ?_
      refine g_callV (ψ₁ := sw_eP σ) C 51 rfl [(.int x1)] [] ml_X7_199 rfl (Nat.le_of_ble_eq_true rfl) (by decide) rfl rfl (fun b hb => m_X7_bufferThat V.1.2.1 _ _ _ _ C.inj σ x1 b hb) rfl (g_cP fun r2 => ?_)
      refine g_istore_n C 52 rfl (Nat.le_of_ble_eq_true rfl) (Or.inr (Or.inr (Or.inl ⟨_, rfl⟩))) ?_
      refine g_iload_n C 53 rfl rfl ?_
      refine g_bipush C 54 rfl (-4) (by decide) ?_
      refine g_icmp_eq C 55 rfl 105 (by decide) ?_ ?_
      · refine g_iload_n C 64 rfl rfl ?_
        refine g_bipush C 65 rfl (-4) (by decide) ?_
        refine g_icmp_eq C 66 rfl 125 (by decide) ?_ ?_
        · refine g_aload_n C 75 rfl rfl ?_
          refine g_getR C 76 rfl fl_X7_7 rfl rfl ?_
          refine g_iload_n C 77 rfl rfl ?_
          refine g_ck fun h3 => ?_
          refine g_iald C 78 rfl rfl h3 ?_
          skip
          exact g_iret C 79 rfl rfl
        · refine g_aload_n C 67 rfl rfl ?_
          refine g_getR C 68 rfl fl_X7_31 rfl rfl ?_
          refine g_aload_n C 69 rfl rfl ?_
          refine g_iload_n C 70 rfl rfl ?_
          refine g_iload_n C 71 rfl rfl ?_
          refine g_callV (ψ₁ := sw_eP σ) C 72 rfl [(.int r2), (.int x1)] [(sw_r V 9)] ml_X7_142 rfl (Nat.le_of_ble_eq_true rfl) (by decide) rfl rfl (fun b hb => m_X7_backAt V.1.2.1 _ _ _ _ C.inj σ r2 x1 b hb) rfl (g_cP fun r4 => ?_)
          refine g_ck fun h5 => ?_
          refine g_iald C 73 rfl rfl h5 ?_
          refine g_goto C 74 rfl 131 (by decide) ?_
          skip
          exact g_iret C 79 rfl rfl
      · refine g_aload_n C 56 rfl rfl ?_
        refine g_getR C 57 rfl fl_X7_19 rfl rfl ?_
        refine g_aload_n C 58 rfl rfl ?_
        refine g_iload_n C 59 rfl rfl ?_
        refine g_iload_n C 60 rfl rfl ?_
        refine g_callV (ψ₁ := sw_eP σ) C 61 rfl [(.int r1), (.int x1)] [(sw_r V 5)] ml_X7_123 rfl (Nat.le_of_ble_eq_true rfl) (by decide) rfl rfl (fun b hb => m_X7_at V.1.2.1 _ _ _ _ C.inj σ r1 x1 b hb) rfl (g_cP fun r6 => ?_)
        refine g_ck fun h7 => ?_
        refine g_iald C 62 rfl rfl h7 ?_
        refine g_goto C 63 rfl 131 (by decide) ?_
        skip
        exact g_iret C 79 rfl rfl
    · refine g_aload_n C 11 rfl rfl ?_
      refine g_getR C 12 rfl fl_X7_52 rfl rfl ?_
      refine g_bipush C 13 rfl 7 (by decide) ?_
      refine g_iload_n C 14 rfl rfl ?_
      refine g_imul C 15 rfl ?_
      refine g_iconst C 16 rfl 2 (by decide) ?_
      refine g_iadd C 17 rfl ?_
      refine g_ck fun h8 => ?_
      refine g_iald C 18 rfl rfl h8 ?_
      refine g_iload_n C 19 rfl rfl ?_
      refine g_icmp_ne C 20 rfl 64 (by decide) ?_ ?_
      · refine g_iinc C 41 rfl 1 (by decide) rfl (Nat.le_of_ble_eq_true rfl) (Or.inr (Or.inr (Or.inl ⟨_, rfl⟩))) ?_
        refine g_goto C 42 rfl 11 (by decide) ?_
        exact g_wk (ih x1 (x2 + 1)) ⟨rfl, rfl, rfl, trivial⟩
      · refine g_aload_n C 21 rfl rfl ?_
        refine g_getR C 22 rfl fl_X7_52 rfl rfl ?_
        refine g_bipush C 23 rfl 7 (by decide) ?_
        refine g_iload_n C 24 rfl rfl ?_
        refine g_imul C 25 rfl ?_
        refine g_ck fun h9 => ?_
        refine g_iald C 26 rfl rfl h9 ?_
        refine g_iconst C 27 rfl 1 (by decide) ?_
        refine g_icmp_ne C 28 rfl 64 (by decide) ?_ ?_
        · refine g_iinc C 41 rfl 1 (by decide) rfl (Nat.le_of_ble_eq_true rfl) (Or.inr (Or.inr (Or.inl ⟨_, rfl⟩))) ?_
          refine g_goto C 42 rfl 11 (by decide) ?_
          exact g_wk (ih x1 (x2 + 1)) ⟨rfl, rfl, rfl, trivial⟩
        · refine g_aload_n C 29 rfl rfl ?_
          refine g_getR C 30 rfl fl_X7_43 rfl rfl ?_
          refine g_aload_n C 31 rfl rfl ?_
          refine g_getR C 32 rfl fl_X7_52 rfl rfl ?_
          refine g_bipush C 33 rfl 7 (by decide) ?_
          refine g_iload_n C 34 rfl rfl ?_
          refine g_imul C 35 rfl ?_
          refine g_iconst C 36 rfl 1 (by decide) ?_
          refine g_iadd C 37 rfl ?_
          refine g_ck fun h10 => ?_
          refine g_iald C 38 rfl rfl h10 ?_
          refine g_ck fun h11 => ?_
          refine g_iald C 39 rfl rfl h11 ?_
          skip
          exact g_iret C 40 rfl rfl
set_option maxHeartbeats 1000000 in
set_option maxRecDepth 100000 in
theorem s_X7_truth {V : sw_V} (C : sw_Cx sw_ZM V cX7_truth RX7 4 (some .int) L_X7_truth 3) (σ : sw_St) (x1 : Int32) : sw_S sw_ZM V (sw_eP σ) [some (sw_r V 1), some (.int x1), none, none] [] 0 σ (f_X7_truth σ x1) := by
  unfold f_X7_truth
  refine g_iload_n C 0 rfl rfl ?_
  refine g_callS (ψ₁ := sw_eP σ) C 1 rfl [(.int x1)] [] ml_X7_163 rfl (Nat.le_of_ble_eq_true rfl) (by decide) (fun b hb => m_X7_isLine V.1.2.1 _ _ _ _ C.inj σ x1 b hb) rfl (g_cP fun r1 => ?_)
  refine g_if_ne C 2 rfl 9 (by decide) ?_ ?_
  · refine g_iconst C 5 rfl 0 (by decide) ?_
    refine g_istore_n C 6 rfl (Nat.le_of_ble_eq_true rfl) (Or.inr (Or.inr (Or.inl ⟨_, rfl⟩))) ?_
    exact g_wk (s_X7_truth_11 C σ sw_fuel x1 0) ⟨rfl, rfl, rfl, trivial⟩
  · refine g_iconst C 3 rfl (-1) (by decide) ?_
    skip
    exact g_iret C 4 rfl rfl
set_option maxHeartbeats 1000000 in
set_option maxRecDepth 100000 in
theorem m_X7_truth (l : Launch) (dC : Nat → ClassId) (dI : Nat → Nat → Nat) (dA : Nat → ClassId) (ad : Nat → Nat) (hI : sw_inj sw_ZM ad) (σ : sw_St) (x1 : Int32) (b : Int32) (hb : f_X7_truth σ x1 = some b) : sw_M sw_ZM l yX7_truth cX7_truth 4 (some .int) 3 dC dI dA ad [(sw_rv ad 1), (.int x1)] σ ((sw_eP σ) b) :=
  sw_mk1 (ψ := (sw_eP σ)) 2 (by decide) sw_ZMok hI dk_X7_truth rfl (sw_c1_all _ ⟨sw_rv_cat _ _, rfl, trivial⟩) hb (fun p e R M C => s_X7_truth C σ x1)
/-! SplitWatchModel.askOf(I)I -/
def L_X7_askOf : sw_Is := [(0, .iconst 0, 1, 1), (1, .istore_n 2, 1, 2), (2, .iload_n 2, 1, 3), (3, .aload_n 0, 1, 4), (4, .getfield 97, 3, 7), (7, .if_icmp .ge 37, 3, 10), (10, .aload_n 0, 1, 11), (11, .getfield 49, 3, 14), (14, .iconst 5, 1, 15), (15, .iload_n 2, 1, 16), (16, .imul, 1, 17), (17, .iaload, 1, 18), (18, .iconst 3, 1, 19), (19, .if_icmp .eq 19, 3, 22), (22, .aload_n 0, 1, 23), (23, .getfield 49, 3, 26), (26, .iconst 5, 1, 27), (27, .iload_n 2, 1, 28), (28, .imul, 1, 29), (29, .iconst 1, 1, 30), (30, .iadd, 1, 31), (31, .iaload, 1, 32), (32, .iload_n 1, 1, 33), (33, .if_icmp .ne 5, 3, 36), (36, .iload_n 2, 1, 37), (37, .ireturn, 1, 38), (38, .iinc 2 1, 3, 41), (41, .goto (-39), 3, 44), (44, .bipush (-4), 2, 46), (46, .ireturn, 1, 47)]
theorem dk_X7_askOf : sw_dc cX7_askOf L_X7_askOf = true := by decide +kernel
def f_X7_askOf_2 (σ : sw_St)  : Nat → Int32 → Int32 → Option Int32
  | 0 => fun _ _ => none
  | n + 1 => fun x1 x2 => if (σ 1 18) ≤ x2 then (some (-4)) else (sw_ck (sw_in (5 * x2) 80) (if (σ 15 (sw_ix (5 * x2))) = 3 then ((f_X7_askOf_2 σ n) x1 (x2 + 1)) else (sw_ck (sw_in ((5 * x2) + 1) 80) (if (σ 15 (sw_ix ((5 * x2) + 1))) = x1 then (some x2) else ((f_X7_askOf_2 σ n) x1 (x2 + 1))))))
def f_X7_askOf (σ : sw_St) (x1 : Int32) : Option Int32 := f_X7_askOf_2 σ sw_fuel x1 0
set_option maxHeartbeats 1000000 in
set_option maxRecDepth 100000 in
theorem s_X7_askOf_2 {V : sw_V} (C : sw_Cx sw_ZM V cX7_askOf RX7 3 (some .int) L_X7_askOf 0) (σ : sw_St) : ∀ (n : Nat) (x1 : Int32) (x2 : Int32), sw_S sw_ZM V (sw_eP σ) [some (sw_r V 1), some (.int x1), some (.int x2)] [] 2 σ (f_X7_askOf_2 σ n x1 x2) := by
  intro n
  induction n with
  | zero =>
    intro x1 x2
    exact g_none
  | succ n ih =>
    intro x1 x2
    rw [f_X7_askOf_2]
    refine g_iload_n C 2 rfl rfl ?_
    refine g_aload_n C 3 rfl rfl ?_
    refine g_getI C 4 rfl fl_X7_97 rfl rfl ?_
    refine g_icmp_ge C 5 rfl 44 (by decide) ?_ ?_
    · refine g_bipush C 28 rfl (-4) (by decide) ?_
      skip
      exact g_iret C 29 rfl rfl
    · refine g_aload_n C 6 rfl rfl ?_
      refine g_getR C 7 rfl fl_X7_49 rfl rfl ?_
      refine g_iconst C 8 rfl 5 (by decide) ?_
      refine g_iload_n C 9 rfl rfl ?_
      refine g_imul C 10 rfl ?_
      refine g_ck fun h1 => ?_
      refine g_iald C 11 rfl rfl h1 ?_
      refine g_iconst C 12 rfl 3 (by decide) ?_
      refine g_icmp_eq C 13 rfl 38 (by decide) ?_ ?_
      · refine g_iinc C 26 rfl 1 (by decide) rfl (Nat.le_of_ble_eq_true rfl) (Or.inr (Or.inr (Or.inl ⟨_, rfl⟩))) ?_
        refine g_goto C 27 rfl 2 (by decide) ?_
        exact g_wk (ih x1 (x2 + 1)) ⟨rfl, rfl, rfl, trivial⟩
      · refine g_aload_n C 14 rfl rfl ?_
        refine g_getR C 15 rfl fl_X7_49 rfl rfl ?_
        refine g_iconst C 16 rfl 5 (by decide) ?_
        refine g_iload_n C 17 rfl rfl ?_
        refine g_imul C 18 rfl ?_
        refine g_iconst C 19 rfl 1 (by decide) ?_
        refine g_iadd C 20 rfl ?_
        refine g_ck fun h2 => ?_
        refine g_iald C 21 rfl rfl h2 ?_
        refine g_iload_n C 22 rfl rfl ?_
        refine g_icmp_ne C 23 rfl 38 (by decide) ?_ ?_
        · refine g_iinc C 26 rfl 1 (by decide) rfl (Nat.le_of_ble_eq_true rfl) (Or.inr (Or.inr (Or.inl ⟨_, rfl⟩))) ?_
          refine g_goto C 27 rfl 2 (by decide) ?_
          exact g_wk (ih x1 (x2 + 1)) ⟨rfl, rfl, rfl, trivial⟩
        · refine g_iload_n C 24 rfl rfl ?_
          skip
          exact g_iret C 25 rfl rfl
set_option maxHeartbeats 1000000 in
set_option maxRecDepth 100000 in
theorem s_X7_askOf {V : sw_V} (C : sw_Cx sw_ZM V cX7_askOf RX7 3 (some .int) L_X7_askOf 0) (σ : sw_St) (x1 : Int32) : sw_S sw_ZM V (sw_eP σ) [some (sw_r V 1), some (.int x1), none] [] 0 σ (f_X7_askOf σ x1) := by
  unfold f_X7_askOf
  refine g_iconst C 0 rfl 0 (by decide) ?_
  refine g_istore_n C 1 rfl (Nat.le_of_ble_eq_true rfl) (Or.inr (Or.inr (Or.inl ⟨_, rfl⟩))) ?_
  exact g_wk (s_X7_askOf_2 C σ sw_fuel x1 0) ⟨rfl, rfl, rfl, trivial⟩
set_option maxHeartbeats 1000000 in
set_option maxRecDepth 100000 in
theorem m_X7_askOf (l : Launch) (dC : Nat → ClassId) (dI : Nat → Nat → Nat) (dA : Nat → ClassId) (ad : Nat → Nat) (hI : sw_inj sw_ZM ad) (σ : sw_St) (x1 : Int32) (b : Int32) (hb : f_X7_askOf σ x1 = some b) : sw_M sw_ZM l yX7_askOf cX7_askOf 3 (some .int) 0 dC dI dA ad [(sw_rv ad 1), (.int x1)] σ ((sw_eP σ) b) :=
  sw_mk1 (ψ := (sw_eP σ)) 1 (by decide) sw_ZMok hI dk_X7_askOf rfl (sw_c1_all _ ⟨sw_rv_cat _ _, rfl, trivial⟩) hb (fun p e R M C => s_X7_askOf C σ x1)
/-! SplitWatchModel.openOf(I)I -/
def L_X7_openOf : sw_Is := [(0, .iconst 0, 1, 1), (1, .istore_n 2, 1, 2), (2, .iload_n 2, 1, 3), (3, .aload_n 0, 1, 4), (4, .getfield 103, 3, 7), (7, .if_icmp .ge 26, 3, 10), (10, .aload_n 0, 1, 11), (11, .getfield 52, 3, 14), (14, .bipush 7, 2, 16), (16, .iload_n 2, 1, 17), (17, .imul, 1, 18), (18, .iconst 1, 1, 19), (19, .iadd, 1, 20), (20, .iaload, 1, 21), (21, .iload_n 1, 1, 22), (22, .if_icmp .ne 5, 3, 25), (25, .iload_n 2, 1, 26), (26, .ireturn, 1, 27), (27, .iinc 2 1, 3, 30), (30, .goto (-28), 3, 33), (33, .bipush (-4), 2, 35), (35, .ireturn, 1, 36)]
theorem dk_X7_openOf : sw_dc cX7_openOf L_X7_openOf = true := by decide +kernel
def f_X7_openOf_2 (σ : sw_St)  : Nat → Int32 → Int32 → Option Int32
  | 0 => fun _ _ => none
  | n + 1 => fun x1 x2 => if (σ 1 21) ≤ x2 then (some (-4)) else (sw_ck (sw_in ((7 * x2) + 1) 28) (if (σ 16 (sw_ix ((7 * x2) + 1))) = x1 then (some x2) else ((f_X7_openOf_2 σ n) x1 (x2 + 1))))
def f_X7_openOf (σ : sw_St) (x1 : Int32) : Option Int32 := f_X7_openOf_2 σ sw_fuel x1 0
set_option maxHeartbeats 1000000 in
set_option maxRecDepth 100000 in
theorem s_X7_openOf_2 {V : sw_V} (C : sw_Cx sw_ZM V cX7_openOf RX7 3 (some .int) L_X7_openOf 0) (σ : sw_St) : ∀ (n : Nat) (x1 : Int32) (x2 : Int32), sw_S sw_ZM V (sw_eP σ) [some (sw_r V 1), some (.int x1), some (.int x2)] [] 2 σ (f_X7_openOf_2 σ n x1 x2) := by
  intro n
  induction n with
  | zero =>
    intro x1 x2
    exact g_none
  | succ n ih =>
    intro x1 x2
    rw [f_X7_openOf_2]
    refine g_iload_n C 2 rfl rfl ?_
    refine g_aload_n C 3 rfl rfl ?_
    refine g_getI C 4 rfl fl_X7_103 rfl rfl ?_
    refine g_icmp_ge C 5 rfl 33 (by decide) ?_ ?_
    · refine g_bipush C 20 rfl (-4) (by decide) ?_
      skip
      exact g_iret C 21 rfl rfl
    · refine g_aload_n C 6 rfl rfl ?_
      refine g_getR C 7 rfl fl_X7_52 rfl rfl ?_
      refine g_bipush C 8 rfl 7 (by decide) ?_
      refine g_iload_n C 9 rfl rfl ?_
      refine g_imul C 10 rfl ?_
      refine g_iconst C 11 rfl 1 (by decide) ?_
      refine g_iadd C 12 rfl ?_
      refine g_ck fun h1 => ?_
      refine g_iald C 13 rfl rfl h1 ?_
      refine g_iload_n C 14 rfl rfl ?_
      refine g_icmp_ne C 15 rfl 27 (by decide) ?_ ?_
      · refine g_iinc C 18 rfl 1 (by decide) rfl (Nat.le_of_ble_eq_true rfl) (Or.inr (Or.inr (Or.inl ⟨_, rfl⟩))) ?_
        refine g_goto C 19 rfl 2 (by decide) ?_
        exact g_wk (ih x1 (x2 + 1)) ⟨rfl, rfl, rfl, trivial⟩
      · refine g_iload_n C 16 rfl rfl ?_
        skip
        exact g_iret C 17 rfl rfl
set_option maxHeartbeats 1000000 in
set_option maxRecDepth 100000 in
theorem s_X7_openOf {V : sw_V} (C : sw_Cx sw_ZM V cX7_openOf RX7 3 (some .int) L_X7_openOf 0) (σ : sw_St) (x1 : Int32) : sw_S sw_ZM V (sw_eP σ) [some (sw_r V 1), some (.int x1), none] [] 0 σ (f_X7_openOf σ x1) := by
  unfold f_X7_openOf
  refine g_iconst C 0 rfl 0 (by decide) ?_
  refine g_istore_n C 1 rfl (Nat.le_of_ble_eq_true rfl) (Or.inr (Or.inr (Or.inl ⟨_, rfl⟩))) ?_
  exact g_wk (s_X7_openOf_2 C σ sw_fuel x1 0) ⟨rfl, rfl, rfl, trivial⟩
set_option maxHeartbeats 1000000 in
set_option maxRecDepth 100000 in
theorem m_X7_openOf (l : Launch) (dC : Nat → ClassId) (dI : Nat → Nat → Nat) (dA : Nat → ClassId) (ad : Nat → Nat) (hI : sw_inj sw_ZM ad) (σ : sw_St) (x1 : Int32) (b : Int32) (hb : f_X7_openOf σ x1 = some b) : sw_M sw_ZM l yX7_openOf cX7_openOf 3 (some .int) 0 dC dI dA ad [(sw_rv ad 1), (.int x1)] σ ((sw_eP σ) b) :=
  sw_mk1 (ψ := (sw_eP σ)) 1 (by decide) sw_ZMok hI dk_X7_openOf rfl (sw_c1_all _ ⟨sw_rv_cat _ _, rfl, trivial⟩) hb (fun p e R M C => s_X7_openOf C σ x1)
/-! SplitWatchModel.core(II)I -/
def L_X7_core : sw_Is := [(0, .aload_n 0, 1, 1), (1, .iload_n 1, 1, 2), (2, .invokevirtual 160, 3, 5), (5, .ifCond .eq 15, 3, 8), (8, .iload_n 2, 1, 9), (9, .i2l, 1, 10), (10, .lconst 0, 1, 11), (11, .ldc2_w 260, 3, 14), (14, .invokestatic 75, 3, 17), (17, .ifCond .ne 5, 3, 20), (20, .iconst (-1), 1, 21), (21, .ireturn, 1, 22), (22, .iload_n 2, 1, 23), (23, .iconst 2, 1, 24), (24, .if_icmp .ge 23, 3, 27), (27, .iload_n 2, 1, 28), (28, .ifCond .ne 12, 3, 31), (31, .aload_n 0, 1, 32), (32, .getfield 34, 3, 35), (35, .iload_n 1, 1, 36), (36, .iaload, 1, 37), (37, .goto 9, 3, 40), (40, .aload_n 0, 1, 41), (41, .getfield 37, 3, 44), (44, .iload_n 1, 1, 45), (45, .iaload, 1, 46), (46, .ireturn, 1, 47), (47, .aload_n 0, 1, 48), (48, .getfield 37, 3, 51), (51, .iload_n 1, 1, 52), (52, .iaload, 1, 53), (53, .ifCond .ne 6, 3, 56), (56, .bipush (-4), 2, 58), (58, .ireturn, 1, 59), (59, .aload_n 0, 1, 60), (60, .iload_n 1, 1, 61), (61, .invokevirtual 295, 3, 64), (64, .istore_n 3, 1, 65), (65, .iload_n 2, 1, 66), (66, .tableswitch 57 2 4 #[26, 33, 45], 26, 92), (92, .aload_n 0, 1, 93), (93, .getfield 40, 3, 96), (96, .iload_n 1, 1, 97), (97, .iaload, 1, 98), (98, .ireturn, 1, 99), (99, .aload_n 0, 1, 100), (100, .getfield 94, 3, 103), (103, .aload_n 0, 1, 104), (104, .getfield 46, 3, 107), (107, .iload_n 1, 1, 108), (108, .iaload, 1, 109), (109, .isub, 1, 110), (110, .ireturn, 1, 111), (111, .iload_n 3, 1, 112), (112, .bipush (-4), 2, 114), (114, .if_icmp .ne 7, 3, 117), (117, .iconst 1, 1, 118), (118, .goto 4, 3, 121), (121, .iconst 0, 1, 122), (122, .ireturn, 1, 123), (123, .iload_n 3, 1, 124), (124, .bipush (-4), 2, 126), (126, .if_icmp .ne 22, 3, 129), (129, .aload_n 0, 1, 130), (130, .getfield 52, 3, 133), (133, .bipush 7, 2, 135), (135, .aload_n 0, 1, 136), (136, .iload_n 1, 1, 137), (137, .invokevirtual 298, 3, 140), (140, .imul, 1, 141), (141, .bipush 6, 2, 143), (143, .iadd, 1, 144), (144, .iaload, 1, 145), (145, .goto 13, 3, 148), (148, .aload_n 0, 1, 149), (149, .getfield 49, 3, 152), (152, .iconst 5, 1, 153), (153, .iload_n 3, 1, 154), (154, .imul, 1, 155), (155, .iconst 4, 1, 156), (156, .iadd, 1, 157), (157, .iaload, 1, 158), (158, .ireturn, 1, 159)]
theorem dk_X7_core : sw_dc cX7_core L_X7_core = true := by decide +kernel
def f_X7_core (σ : sw_St) (x1 : Int32) (x2 : Int32) : Option Int32 := (f_X7_isCore σ x1).bind fun r1 => (if r1 = 0 then (some (-1)) else ((f_X7_in σ (Int32.toInt64 x2) (0 : Int64) (5 : Int64)).bind fun r2 => (if r2 = 0 then (some (-1)) else (if 2 ≤ x2 then (sw_ck (sw_in x1 4) (if (σ 11 (sw_ix x1)) = 0 then (some (-4)) else ((f_X7_askOf σ x1).bind fun r4 => (if x2 = 2 then (some (σ 12 (sw_ix x1))) else (if x2 = 3 then (some ((σ 1 4) - (σ 14 (sw_ix x1)))) else (if x2 = 4 then (if r4 = (-4) then (some 1) else (some 0)) else (if r4 = (-4) then ((f_X7_openOf σ x1).bind fun r9 => (sw_ck (sw_in ((7 * r9) + 6) 28) (some (σ 16 (sw_ix ((7 * r9) + 6)))))) else (sw_ck (sw_in ((5 * r4) + 4) 80) (some (σ 15 (sw_ix ((5 * r4) + 4)))))))))))) else (if x2 = 0 then (sw_ck (sw_in x1 4) (some (σ 10 (sw_ix x1)))) else (sw_ck (sw_in x1 4) (some (σ 11 (sw_ix x1)))))))))
set_option maxHeartbeats 1000000 in
set_option maxRecDepth 100000 in
theorem s_X7_core {V : sw_V} (C : sw_Cx sw_ZM V cX7_core RX7 4 (some .int) L_X7_core 2) (σ : sw_St) (x1 : Int32) (x2 : Int32) : sw_S sw_ZM V (sw_eP σ) [some (sw_r V 1), some (.int x1), some (.int x2), none] [] 0 σ (f_X7_core σ x1 x2) := by
  unfold f_X7_core
  refine g_aload_n C 0 rfl rfl ?_
  refine g_iload_n C 1 rfl rfl ?_
  refine g_callV (ψ₁ := sw_eP σ) C 2 rfl [(.int x1)] [] ml_X7_160 rfl (Nat.le_of_ble_eq_true rfl) (by decide) rfl rfl (fun b hb => m_X7_isCore V.1.2.1 _ _ _ _ C.inj σ x1 b hb) rfl (g_cP fun r1 => ?_)
  refine g_if_eq C 3 rfl 20 (by decide) ?_ ?_
  · refine g_iconst C 10 rfl (-1) (by decide) ?_
    skip
    exact g_iret C 11 rfl rfl
  · refine g_iload_n C 4 rfl rfl ?_
    refine g_i2l C 5 rfl ?_
    refine g_lconst C 6 rfl (0 : Int64) (by decide) ?_
    refine g_ldc2 C 7 rfl (5 : Int64) q_1053 ?_
    refine g_callS (ψ₁ := sw_eP σ) C 8 rfl [(.long (Int32.toInt64 x2)), (.long (0 : Int64)), (.long (5 : Int64))] [] ml_X7_75 rfl (Nat.le_of_ble_eq_true rfl) (by decide) (fun b hb => m_X7_in V.1.2.1 _ _ _ _ C.inj σ (Int32.toInt64 x2) (0 : Int64) (5 : Int64) b hb) rfl (g_cP fun r2 => ?_)
    refine g_if_ne C 9 rfl 22 (by decide) ?_ ?_
    · refine g_iload_n C 12 rfl rfl ?_
      refine g_iconst C 13 rfl 2 (by decide) ?_
      refine g_icmp_ge C 14 rfl 47 (by decide) ?_ ?_
      · refine g_aload_n C 27 rfl rfl ?_
        refine g_getR C 28 rfl fl_X7_37 rfl rfl ?_
        refine g_iload_n C 29 rfl rfl ?_
        refine g_ck fun h3 => ?_
        refine g_iald C 30 rfl rfl h3 ?_
        refine g_if_ne C 31 rfl 59 (by decide) ?_ ?_
        · refine g_aload_n C 34 rfl rfl ?_
          refine g_iload_n C 35 rfl rfl ?_
          refine g_callV (ψ₁ := sw_eP σ) C 36 rfl [(.int x1)] [] ml_X7_295 rfl (Nat.le_of_ble_eq_true rfl) (by decide) rfl rfl (fun b hb => m_X7_askOf V.1.2.1 _ _ _ _ C.inj σ x1 b hb) rfl (g_cP fun r4 => ?_)
          refine g_istore_n C 37 rfl (Nat.le_of_ble_eq_true rfl) (Or.inr (Or.inr (Or.inl ⟨_, rfl⟩))) ?_
          refine g_iload_n C 38 rfl rfl ?_
          skip
          refine g_tin C 39 rfl 2 92 (by decide) 26 (by decide) (by decide) ?_ (fun h5 => ?_)
          · refine g_aload_n C 40 rfl rfl ?_
            refine g_getR C 41 rfl fl_X7_40 rfl rfl ?_
            refine g_iload_n C 42 rfl rfl ?_
            refine g_iald C 43 rfl rfl h3 ?_
            skip
            exact g_iret C 44 rfl rfl
          refine g_tin C 39 rfl 3 99 (by decide) 33 (by decide) (by decide) ?_ (fun h6 => ?_)
          · refine g_aload_n C 45 rfl rfl ?_
            refine g_getI C 46 rfl fl_X7_94 rfl rfl ?_
            refine g_aload_n C 47 rfl rfl ?_
            refine g_getR C 48 rfl fl_X7_46 rfl rfl ?_
            refine g_iload_n C 49 rfl rfl ?_
            refine g_iald C 50 rfl rfl h3 ?_
            refine g_isub C 51 rfl ?_
            skip
            exact g_iret C 52 rfl rfl
          refine g_tin C 39 rfl 4 111 (by decide) 45 (by decide) (by decide) ?_ (fun h7 => ?_)
          · refine g_iload_n C 53 rfl rfl ?_
            refine g_bipush C 54 rfl (-4) (by decide) ?_
            refine g_icmp_ne C 55 rfl 121 (by decide) ?_ ?_
            · refine g_iconst C 58 rfl 0 (by decide) ?_
              skip
              exact g_iret C 59 rfl rfl
            · refine g_iconst C 56 rfl 1 (by decide) ?_
              refine g_goto C 57 rfl 122 (by decide) ?_
              skip
              exact g_iret C 59 rfl rfl
          refine g_tout C 39 rfl 123 (by have a0 := lv_neT (a := 2) h5 (by decide); have a1 := lv_neT (a := 3) h6 (by decide); have a2 := lv_neT (a := 4) h7 (by decide); omega) (by decide) ?_
          refine g_iload_n C 60 rfl rfl ?_
          refine g_bipush C 61 rfl (-4) (by decide) ?_
          refine g_icmp_ne C 62 rfl 148 (by decide) ?_ ?_
          · refine g_aload_n C 74 rfl rfl ?_
            refine g_getR C 75 rfl fl_X7_49 rfl rfl ?_
            refine g_iconst C 76 rfl 5 (by decide) ?_
            refine g_iload_n C 77 rfl rfl ?_
            refine g_imul C 78 rfl ?_
            refine g_iconst C 79 rfl 4 (by decide) ?_
            refine g_iadd C 80 rfl ?_
            refine g_ck fun h8 => ?_
            refine g_iald C 81 rfl rfl h8 ?_
            skip
            exact g_iret C 82 rfl rfl
          · refine g_aload_n C 63 rfl rfl ?_
            refine g_getR C 64 rfl fl_X7_52 rfl rfl ?_
            refine g_bipush C 65 rfl 7 (by decide) ?_
            refine g_aload_n C 66 rfl rfl ?_
            refine g_iload_n C 67 rfl rfl ?_
            refine g_callV (ψ₁ := sw_eP σ) C 68 rfl [(.int x1)] [(.int 7), (sw_r V 16)] ml_X7_298 rfl (Nat.le_of_ble_eq_true rfl) (by decide) rfl rfl (fun b hb => m_X7_openOf V.1.2.1 _ _ _ _ C.inj σ x1 b hb) rfl (g_cP fun r9 => ?_)
            refine g_imul C 69 rfl ?_
            refine g_bipush C 70 rfl 6 (by decide) ?_
            refine g_iadd C 71 rfl ?_
            refine g_ck fun h10 => ?_
            refine g_iald C 72 rfl rfl h10 ?_
            refine g_goto C 73 rfl 158 (by decide) ?_
            skip
            exact g_iret C 82 rfl rfl
        · refine g_bipush C 32 rfl (-4) (by decide) ?_
          skip
          exact g_iret C 33 rfl rfl
      · refine g_iload_n C 15 rfl rfl ?_
        refine g_if_ne C 16 rfl 40 (by decide) ?_ ?_
        · refine g_aload_n C 22 rfl rfl ?_
          refine g_getR C 23 rfl fl_X7_37 rfl rfl ?_
          refine g_iload_n C 24 rfl rfl ?_
          refine g_ck fun h11 => ?_
          refine g_iald C 25 rfl rfl h11 ?_
          skip
          exact g_iret C 26 rfl rfl
        · refine g_aload_n C 17 rfl rfl ?_
          refine g_getR C 18 rfl fl_X7_34 rfl rfl ?_
          refine g_iload_n C 19 rfl rfl ?_
          refine g_ck fun h12 => ?_
          refine g_iald C 20 rfl rfl h12 ?_
          refine g_goto C 21 rfl 46 (by decide) ?_
          skip
          exact g_iret C 26 rfl rfl
    · refine g_iconst C 10 rfl (-1) (by decide) ?_
      skip
      exact g_iret C 11 rfl rfl
set_option maxHeartbeats 1000000 in
set_option maxRecDepth 100000 in
theorem m_X7_core (l : Launch) (dC : Nat → ClassId) (dI : Nat → Nat → Nat) (dA : Nat → ClassId) (ad : Nat → Nat) (hI : sw_inj sw_ZM ad) (σ : sw_St) (x1 : Int32) (x2 : Int32) (b : Int32) (hb : f_X7_core σ x1 x2 = some b) : sw_M sw_ZM l yX7_core cX7_core 4 (some .int) 2 dC dI dA ad [(sw_rv ad 1), (.int x1), (.int x2)] σ ((sw_eP σ) b) :=
  sw_mk1 (ψ := (sw_eP σ)) 1 (by decide) sw_ZMok hI dk_X7_core rfl (sw_c1_all _ ⟨sw_rv_cat _ _, rfl, rfl, trivial⟩) hb (fun p e R M C => s_X7_core C σ x1 x2)
/-! SplitWatchModel.waiting(II)I -/
def L_X7_waiting : sw_Is := [(0, .iload_n 1, 1, 1), (1, .iconst (-1), 1, 2), (2, .if_icmp .lt 15, 3, 5), (5, .iload_n 2, 1, 6), (6, .i2l, 1, 7), (7, .lconst 0, 1, 8), (8, .ldc2_w 73, 3, 11), (11, .invokestatic 75, 3, 14), (14, .ifCond .ne 5, 3, 17), (17, .iconst (-1), 1, 18), (18, .ireturn, 1, 19), (19, .iload_n 1, 1, 20), (20, .ifCond .lt 11, 3, 23), (23, .iload_n 1, 1, 24), (24, .aload_n 0, 1, 25), (25, .getfield 97, 3, 28), (28, .if_icmp .lt 17, 3, 31), (31, .iload_n 1, 1, 32), (32, .ifCond .ge 10, 3, 35), (35, .aload_n 0, 1, 36), (36, .getfield 97, 3, 39), (39, .goto 5, 3, 42), (42, .bipush (-4), 2, 44), (44, .ireturn, 1, 45), (45, .iconst 5, 1, 46), (46, .aload_n 0, 1, 47), (47, .iload_n 1, 1, 48), (48, .invokevirtual 206, 3, 51), (51, .imul, 1, 52), (52, .istore_n 3, 1, 53), (53, .iload_n 2, 1, 54), (54, .ifCond .ne 14, 3, 57), (57, .aload_n 0, 1, 58), (58, .getfield 49, 3, 61), (61, .iload_n 3, 1, 62), (62, .iconst 1, 1, 63), (63, .iadd, 1, 64), (64, .iaload, 1, 65), (65, .goto 25, 3, 68), (68, .iload_n 2, 1, 69), (69, .iconst 1, 1, 70), (70, .if_icmp .ne 12, 3, 73), (73, .aload_n 0, 1, 74), (74, .getfield 49, 3, 77), (77, .iload_n 3, 1, 78), (78, .iaload, 1, 79), (79, .goto 11, 3, 82), (82, .aload_n 0, 1, 83), (83, .getfield 49, 3, 86), (86, .iload_n 3, 1, 87), (87, .iload_n 2, 1, 88), (88, .iadd, 1, 89), (89, .iaload, 1, 90), (90, .ireturn, 1, 91)]
theorem dk_X7_waiting : sw_dc cX7_waiting L_X7_waiting = true := by decide +kernel
def f_X7_waiting_31 (σ : sw_St)  (x1 : Int32) : Option Int32 := if 0 ≤ x1 then (some (-4)) else (some (σ 1 18))
def f_X7_waiting (σ : sw_St) (x1 : Int32) (x2 : Int32) : Option Int32 := if x1 < (-1) then (some (-1)) else ((f_X7_in σ (Int32.toInt64 x2) (0 : Int64) (4 : Int64)).bind fun r1 => (if r1 = 0 then (some (-1)) else (if x1 < 0 then (f_X7_waiting_31 σ x1) else (if x1 < (σ 1 18) then ((f_X7_waitingAt σ x1).bind fun r2 => (if x2 = 0 then (sw_ck (sw_in ((5 * r2) + 1) 80) (some (σ 15 (sw_ix ((5 * r2) + 1))))) else (if x2 = 1 then (sw_ck (sw_in (5 * r2) 80) (some (σ 15 (sw_ix (5 * r2))))) else (sw_ck (sw_in ((5 * r2) + x2) 80) (some (σ 15 (sw_ix ((5 * r2) + x2)))))))) else (f_X7_waiting_31 σ x1)))))
set_option maxHeartbeats 1000000 in
set_option maxRecDepth 100000 in
theorem s_X7_waiting_31 {V : sw_V} (C : sw_Cx sw_ZM V cX7_waiting RX7 4 (some .int) L_X7_waiting 4) (σ : sw_St) (x1 : Int32) : sw_S sw_ZM V (sw_eP σ) [some (sw_r V 1), some (.int x1), none, none] [] 31 σ (f_X7_waiting_31 σ x1) := by
  unfold f_X7_waiting_31
  refine g_iload_n C 17 rfl rfl ?_
  refine g_if_ge C 18 rfl 42 (by decide) ?_ ?_
  · refine g_bipush C 22 rfl (-4) (by decide) ?_
    skip
    exact g_iret C 23 rfl rfl
  · refine g_aload_n C 19 rfl rfl ?_
    refine g_getI C 20 rfl fl_X7_97 rfl rfl ?_
    refine g_goto C 21 rfl 44 (by decide) ?_
    skip
    exact g_iret C 23 rfl rfl
set_option maxHeartbeats 1000000 in
set_option maxRecDepth 100000 in
theorem s_X7_waiting {V : sw_V} (C : sw_Cx sw_ZM V cX7_waiting RX7 4 (some .int) L_X7_waiting 4) (σ : sw_St) (x1 : Int32) (x2 : Int32) : sw_S sw_ZM V (sw_eP σ) [some (sw_r V 1), some (.int x1), some (.int x2), none] [] 0 σ (f_X7_waiting σ x1 x2) := by
  unfold f_X7_waiting
  refine g_iload_n C 0 rfl rfl ?_
  refine g_iconst C 1 rfl (-1) (by decide) ?_
  refine g_icmp_lt C 2 rfl 17 (by decide) ?_ ?_
  · refine g_iconst C 9 rfl (-1) (by decide) ?_
    skip
    exact g_iret C 10 rfl rfl
  · refine g_iload_n C 3 rfl rfl ?_
    refine g_i2l C 4 rfl ?_
    refine g_lconst C 5 rfl (0 : Int64) (by decide) ?_
    refine g_ldc2 C 6 rfl (4 : Int64) q_770 ?_
    refine g_callS (ψ₁ := sw_eP σ) C 7 rfl [(.long (Int32.toInt64 x2)), (.long (0 : Int64)), (.long (4 : Int64))] [] ml_X7_75 rfl (Nat.le_of_ble_eq_true rfl) (by decide) (fun b hb => m_X7_in V.1.2.1 _ _ _ _ C.inj σ (Int32.toInt64 x2) (0 : Int64) (4 : Int64) b hb) rfl (g_cP fun r1 => ?_)
    refine g_if_ne C 8 rfl 19 (by decide) ?_ ?_
    · refine g_iload_n C 11 rfl rfl ?_
      refine g_if_lt C 12 rfl 31 (by decide) ?_ ?_
      · exact g_wk (s_X7_waiting_31 C σ x1) ⟨rfl, rfl, trivial⟩
      · refine g_iload_n C 13 rfl rfl ?_
        refine g_aload_n C 14 rfl rfl ?_
        refine g_getI C 15 rfl fl_X7_97 rfl rfl ?_
        refine g_icmp_lt C 16 rfl 45 (by decide) ?_ ?_
        · refine g_iconst C 24 rfl 5 (by decide) ?_
          refine g_aload_n C 25 rfl rfl ?_
          refine g_iload_n C 26 rfl rfl ?_
          refine g_callV (ψ₁ := sw_eP σ) C 27 rfl [(.int x1)] [(.int 5)] ml_X7_206 rfl (Nat.le_of_ble_eq_true rfl) (by decide) rfl rfl (fun b hb => m_X7_waitingAt V.1.2.1 _ _ _ _ C.inj σ x1 b hb) rfl (g_cP fun r2 => ?_)
          refine g_imul C 28 rfl ?_
          refine g_istore_n C 29 rfl (Nat.le_of_ble_eq_true rfl) (Or.inr (Or.inr (Or.inl ⟨_, rfl⟩))) ?_
          refine g_iload_n C 30 rfl rfl ?_
          refine g_if_ne C 31 rfl 68 (by decide) ?_ ?_
          · refine g_iload_n C 39 rfl rfl ?_
            refine g_iconst C 40 rfl 1 (by decide) ?_
            refine g_icmp_ne C 41 rfl 82 (by decide) ?_ ?_
            · refine g_aload_n C 47 rfl rfl ?_
              refine g_getR C 48 rfl fl_X7_49 rfl rfl ?_
              refine g_iload_n C 49 rfl rfl ?_
              refine g_iload_n C 50 rfl rfl ?_
              refine g_iadd C 51 rfl ?_
              refine g_ck fun h3 => ?_
              refine g_iald C 52 rfl rfl h3 ?_
              skip
              exact g_iret C 53 rfl rfl
            · refine g_aload_n C 42 rfl rfl ?_
              refine g_getR C 43 rfl fl_X7_49 rfl rfl ?_
              refine g_iload_n C 44 rfl rfl ?_
              refine g_ck fun h4 => ?_
              refine g_iald C 45 rfl rfl h4 ?_
              refine g_goto C 46 rfl 90 (by decide) ?_
              skip
              exact g_iret C 53 rfl rfl
          · refine g_aload_n C 32 rfl rfl ?_
            refine g_getR C 33 rfl fl_X7_49 rfl rfl ?_
            refine g_iload_n C 34 rfl rfl ?_
            refine g_iconst C 35 rfl 1 (by decide) ?_
            refine g_iadd C 36 rfl ?_
            refine g_ck fun h5 => ?_
            refine g_iald C 37 rfl rfl h5 ?_
            refine g_goto C 38 rfl 90 (by decide) ?_
            skip
            exact g_iret C 53 rfl rfl
        · exact g_wk (s_X7_waiting_31 C σ x1) ⟨rfl, rfl, trivial⟩
    · refine g_iconst C 9 rfl (-1) (by decide) ?_
      skip
      exact g_iret C 10 rfl rfl
set_option maxHeartbeats 1000000 in
set_option maxRecDepth 100000 in
theorem m_X7_waiting (l : Launch) (dC : Nat → ClassId) (dI : Nat → Nat → Nat) (dA : Nat → ClassId) (ad : Nat → Nat) (hI : sw_inj sw_ZM ad) (σ : sw_St) (x1 : Int32) (x2 : Int32) (b : Int32) (hb : f_X7_waiting σ x1 x2 = some b) : sw_M sw_ZM l yX7_waiting cX7_waiting 4 (some .int) 4 dC dI dA ad [(sw_rv ad 1), (.int x1), (.int x2)] σ ((sw_eP σ) b) :=
  sw_mk1 (ψ := (sw_eP σ)) 1 (by decide) sw_ZMok hI dk_X7_waiting rfl (sw_c1_all _ ⟨sw_rv_cat _ _, rfl, rfl, trivial⟩) hb (fun p e R M C => s_X7_waiting C σ x1 x2)
