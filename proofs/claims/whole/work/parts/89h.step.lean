/-! PURE: every call -/
theorem k_X6_begin_44 {w0 : sw_St} {σ : sw_St} {x1 : Int32} {x2 : Int32} {x3 : Int32} {x4 : Int32} {y0 : Int32} (h : kX w0 σ) : KG (fun r => kX w0 r.2) (f_X6_begin_44 σ x1 x2 x3 x4 y0) := by
  unfold f_X6_begin_44
  refine kg_ite (fun _ => ?_) (fun _ => ?_)
  · exact kg_some h
  · refine kg_bindM (k_X0_reset h) (fun r1 h_r1 => ?_)
    exact kg_some h_r1
theorem k_X6_begin_43 {w0 : sw_St} {σ : sw_St} {x1 : Int32} {x2 : Int32} {x3 : Int32} {x4 : Int32} (h : kX w0 σ) : KG (fun r => kX w0 r.2) (f_X6_begin_43 σ x1 x2 x3 x4) := by
  unfold f_X6_begin_43
  exact k_X6_begin_44 h
theorem k_X6_begin {w0 : sw_St} {σ : sw_St} {x1 : Int32} {x2 : Int32} {x3 : Int32} {x4 : Int32} (h : kX w0 σ) : KG (fun r => kX w0 r.2) (f_X6_begin σ x1 x2 x3 x4) := by
  unfold f_X6_begin
  refine kg_bind (fun r1 => ?_)
  refine kg_ite (fun _ => ?_) (fun _ => ?_)
  · exact k_X6_begin_43 h
  · refine kg_bind (fun r2 => ?_)
    refine kg_ite (fun _ => ?_) (fun _ => ?_)
    · exact k_X6_begin_43 h
    · refine kg_bind (fun r3 => ?_)
      refine kg_ite (fun _ => ?_) (fun _ => ?_)
      · exact k_X6_begin_43 h
      · refine kg_bind (fun r4 => ?_)
        refine kg_ite (fun _ => ?_) (fun _ => ?_)
        · exact k_X6_begin_43 h
        · exact k_X6_begin_44 h
theorem call_both {b : Nat} {x y : sw_St} {T : Int32 × Sx} {oX oM : Option (Int32 × sw_St)} (hX : wp oX (Rx T)) (kx : KG (fun r => kX x r.2) oX) (hM : wp oM (Rm T)) (km : KG (fun r => kM y r.2) oM) (hI : Inv b T.2) (ht : Tx x y) : ∃ r x' y', oX = some (r, x') ∧ oM = some (r, y') ∧ RR b x' y' ∧ Tx x' y' := by
  obtain ⟨rx, ex, ⟨x1, x2⟩, x3⟩ := wp_kg hX kx
  obtain ⟨rm, em, ⟨y1, y2⟩, y3⟩ := wp_kg hM km
  obtain ⟨⟨n, t, t1, t2⟩, hw⟩ := ht
  refine ⟨T.1, rx.2, rm.2, ?_, ?_, ⟨T.2, hI, x2, y2⟩, ⟨⟨n, t, kX_T x3 t1, kM_T y3 t2⟩, kM_W y3 hw⟩⟩
  · rw [ex, ← x1]
  · rw [em, ← y1]
theorem e_begin {b : Nat} {x y : sw_St} (c k f l : Int32) (h : RR b x y) (ht : Tx x y) : ∃ r x' y', f_X6_begin x c k f l = some (r, x') ∧ f_X7_begin y c k f l = some (r, y') ∧ RR b x' y' ∧ Tx x' y' := by
  obtain ⟨s, hI, hx, hy⟩ := h
  by_cases z : okB c k f l
  · refine call_both (T := (c, s0 y c k f l)) (wp_mono (x_begin (y := y) c k f l (RX_own hx)) (fun r hr => ?_)) (k_X6_begin (kX_r x)) (wp_mono (m_begin c k f l) (fun r hr => ?_)) (k_X7_begin (kM_r y)) (Inv_s0 z.1 z.2.1) ht
    · rw [if_pos z] at hr
      exact hr
    · rw [if_pos z] at hr
      exact hr
  · obtain ⟨rx, ex, x1⟩ := x_begin (y := y) c k f l (RX_own hx)
    obtain ⟨rm, em, y1⟩ := m_begin (y := y) c k f l
    rw [if_neg z] at x1 y1
    refine ⟨-1, x, y, ?_, ?_, ⟨s, hI, hx, hy⟩, ht⟩
    · rw [ex, ← x1.1, ← x1.2]
    · rw [em, ← y1.1]
      congr 1
      exact Prod.ext rfl y1.2
theorem e_look {b b' : Nat} {x y : sw_St} {oX oM : Option Int32} (h : RR b x y) (hb : b ≤ b') (ht : Tx x y) (he : Eqv oX oM) : ∃ r x' y', (oX.map fun v => (v, x)) = some (r, x') ∧ (oM.map fun v => (v, y)) = some (r, y') ∧ RR b' x' y' ∧ Tx x' y' := by
  obtain ⟨r, e1, e2⟩ := he
  exact ⟨r, x, y, by rw [e1]; rfl, by rw [e2]; rfl, RR_mono h hb, ht⟩
def RN (n : Nat) (x y : sw_St) : Prop := RR (100000 * n) x y ∧ Tx x y
theorem up_RN {n : Nat} {b : Nat} {oX oM : Option (Int32 × sw_St)} (hb : b ≤ 100000 * (n + 1)) (h : ∃ r x' y', oX = some (r, x') ∧ oM = some (r, y') ∧ RR b x' y' ∧ Tx x' y') : ∃ r x' y', oX = some (r, x') ∧ oM = some (r, y') ∧ RN (n + 1) x' y' := by
  obtain ⟨r, x', y', h1, h2, h3, h4⟩ := h
  exact ⟨r, x', y', h1, h2, RR_mono h3 hb, h4⟩
theorem rn_step : sw_Step RN := by
  refine ⟨fun n x y h => ⟨RR_mono h.1 (by omega), h.2⟩, fun n k x y a1 a2 a3 a4 hn hk h => ?_⟩
  obtain ⟨hr, ht⟩ := h
  have hr0 := hr
  obtain ⟨s, hI, hx, hy⟩ := hr
  have hN := Inv_Nums hI
  have hW := Inv_Wf hI
  have ht2 : x 44 2 = y 1 29 := by
    obtain ⟨⟨m, t, t1, t2⟩, -⟩ := ht
    rw [t1.1, t2.1]
  have hlk : 100000 * n ≤ 100000 * n := Nat.le_refl _
  rcases (show k = 0 ∨ k = 1 ∨ k = 2 ∨ k = 3 ∨ k = 4 ∨ k = 5 ∨ k = 6 ∨ k = 7 ∨ k = 8 ∨ k = 9 ∨ 9 < k by omega) with rfl | rfl | rfl | rfl | rfl | rfl | rfl | rfl | rfl | rfl | hk9
  · exact up_RN (by omega) (e_begin a1 a2 a3 a4 hr0 ht)
  · exact up_RN (b := 100000 * n + 3) (by omega) (call_both (x_read a1 a2 hx hI (by omega)) (k_X6_read (kX_r x)) (m_read a1 a2 hy hN hW) (k_X7_read (kM_r y)) (Inv_tRead a1 a2 hI (by omega)) ht)
  · exact up_RN (b := 100000 * n + 3) (by omega) (call_both (x_store a1 a2 a3 hx hI (by omega)) (k_X6_store (kX_r x)) (m_store a1 a2 a3 hy hN hW (hh_all hI)) (k_X7_store (kM_r y)) (Inv_tStore a1 a2 a3 hI (by omega)) ht)
  · exact up_RN (b := 100000 * n + 3) (by omega) (call_both (x_drop a1 a2 hx hI) (k_X6_drop (kX_r x)) (m_drop a1 a2 hy hN hW (Inv_Hows hI)) (k_X7_drop (kM_r y)) (Inv_tDrop a1 a2 hI (by omega)) ht)
  · exact up_RN (b := 100000 * n + 400) (by omega) (call_both (x_turn a1 hx hI (by omega)) (k_X6_turn (kX_r x)) (m_turn a1 hy hI (by omega)) (k_X7_turn (kM_r y)) (Inv_tTurn a1 hI (by omega)) ht)
  · exact up_RN (by omega) (e_write a1 hr0 ht)
  · exact up_RN (by omega) (e_wipe hr0 ht)
  · exact up_RN (by omega) (e_fault hr0 ht)
  · exact up_RN (by omega) (e_play (by omega) hr0 ht)
  · exact up_RN (by omega) (e_look hr0 hlk ht (e_order hx hy hI (by omega) a1))
  · rcases (show k = 10 ∨ k = 11 ∨ k = 12 ∨ k = 13 ∨ k = 14 ∨ k = 15 ∨ k = 16 ∨ k = 17 ∨ k = 18 ∨ k = 19 ∨ k = 20 by omega) with rfl | rfl | rfl | rfl | rfl | rfl | rfl | rfl | rfl | rfl | rfl
    · exact up_RN (by omega) (e_look hr0 hlk ht (e_told hx hy hI (by omega) a1 a2 a3))
    · exact up_RN (by omega) (e_look hr0 hlk ht (e_word hx hy hI ht.2 a1 a2 a3))
    · exact up_RN (by omega) (e_look hr0 hlk ht (e_cached hx hy hI a1 a2 a3))
    · exact up_RN (by omega) (e_look hr0 hlk ht (e_buffered hx hy hI a1 a2 a3))
    · exact up_RN (by omega) (e_look hr0 hlk ht (e_memory hx hy a1))
    · exact up_RN (by omega) (e_look hr0 hlk ht (e_truth hx hy hI a1))
    · exact up_RN (by omega) (e_look hr0 hlk ht (e_core hx hy hI a1 a2))
    · exact up_RN (by omega) (e_look hr0 hlk ht (e_waiting hx hy hI (by omega) a1 a2))
    · exact up_RN (by omega) (e_look hr0 hlk ht (e_open hx hy hI a1 a2))
    · exact up_RN (by omega) (e_day a1 a2 (by omega) hr0 ht)
    · exact up_RN (by omega) (e_look hr0 hlk ht (e_count hx hy ht2 a1))
theorem own_B : Own sw_σB := fun c r hc hr => by
  rcases (show c = 0 ∨ c = 1 ∨ c = 2 ∨ c = 3 by omega) with rfl | rfl | rfl | rfl <;> rcases (show r = 0 ∨ r = 1 ∨ r = 2 by omega) with rfl | rfl | rfl <;> rfl
theorem far_B : ∀ k, 43 < k → sw_σB k = fun _ => 0 := fun k hk => by
  unfold sw_σB g_X2_35 g_X2_26 g_X2_17 g_X2_8 g_X4_43 g_X4_42 g_X4_41 g_X4_34 g_X4_33 g_X4_32 g_X4_25 g_X4_24 g_X4_23 g_X4_16 g_X4_15 g_X4_14
  rw [up_ne (by omega), up_ne (by omega), up_ne (by omega), up_ne (by omega), up_ne (by omega), up_ne (by omega), up_ne (by omega), up_ne (by omega), up_ne (by omega), up_ne (by omega), up_ne (by omega), up_ne (by omega)]
  rfl
theorem wl_M : Wl sw_σM := by
  unfold Wl
  decide +kernel
