/-! PURE: cells that calls leave alone, the class (printed) -/
theorem k_X3_clear {w0 : sw_St} {σ : sw_St} (h : kX w0 σ) : KG (kX w0) (f_X3_clear σ) := by
  unfold f_X3_clear
  refine kg_pt (kX_up h (by decide)) (fun s1 h_s1 => ?_)
  refine kg_pt (kX_up h_s1 (by decide)) (fun s2 h_s2 => ?_)
  refine kg_pt (kX_up h_s2 (by decide)) (fun s3 h_s3 => ?_)
  exact kg_some h_s3
theorem k_X1_clear_2 {w0 : sw_St} : ∀ {n : Nat} {σ : sw_St} {x0 : Nat} {x1 : Int32}, kX w0 σ → KG (kX w0) (f_X1_clear_2 n σ x0 x1) := by
  intro n
  induction n with
  | zero => intro σ x0 x1 h; rw [f_X1_clear_2]; exact kg_none
  | succ n ih =>
    intro σ x0 x1 h
    rw [f_X1_clear_2]
    refine kg_ite (fun _ => ?_) (fun _ => ?_)
    · refine kg_ck (fun _ => ?_)
      refine kg_pt (kX_up h (by simp only [sw_isK_i, sw_isC_i, sw_isQ_i, sw_in_i] at *; omega)) (fun s2 h_s2 => ?_)
      exact kg_some h_s2
    · refine kg_ck (fun _ => ?_)
      refine kg_ck (fun _ => ?_)
      refine kg_pt (kX_up h (by simp only [sw_isK_i, sw_isC_i, sw_isQ_i, sw_in_i] at *; omega)) (fun s5 h_s5 => ?_)
      refine kg_pt (kX_up h_s5 (by simp only [sw_isK_i, sw_isC_i, sw_isQ_i, sw_in_i] at *; omega)) (fun s6 h_s6 => ?_)
      refine kg_pt (kX_up h_s6 (by simp only [sw_isK_i, sw_isC_i, sw_isQ_i, sw_in_i] at *; omega)) (fun s7 h_s7 => ?_)
      exact ih h_s7
theorem k_X1_clear {w0 : sw_St} {σ : sw_St} {x0 : Nat} (h : kX w0 σ) : KG (kX w0) (f_X1_clear σ x0) := by
  unfold f_X1_clear
  exact k_X1_clear_2 h
theorem k_X2_clear_17 {w0 : sw_St} : ∀ {n : Nat} {σ : sw_St} {x0 : Nat} {x1 : Int32}, kX w0 σ → KG (kX w0) (f_X2_clear_17 n σ x0 x1) := by
  intro n
  induction n with
  | zero => intro σ x0 x1 h; rw [f_X2_clear_17]; exact kg_none
  | succ n ih =>
    intro σ x0 x1 h
    rw [f_X2_clear_17]
    refine kg_ite (fun _ => ?_) (fun _ => ?_)
    · refine kg_ck (fun _ => ?_)
      refine kg_pt (kX_up h (by simp only [sw_isK_i, sw_isC_i, sw_isQ_i, sw_in_i] at *; omega)) (fun s2 h_s2 => ?_)
      exact kg_some h_s2
    · refine kg_ck (fun _ => ?_)
      refine kg_ck (fun _ => ?_)
      refine kg_pt (kX_up h (by simp only [sw_isK_i, sw_isC_i, sw_isQ_i, sw_in_i] at *; omega)) (fun s5 h_s5 => ?_)
      exact ih h_s5
theorem k_X2_clear {w0 : sw_St} {σ : sw_St} {x0 : Nat} (h : kX w0 σ) : KG (kX w0) (f_X2_clear σ x0) := by
  unfold f_X2_clear
  refine kg_ck (fun _ => ?_)
  refine kg_bindM (k_X1_clear h) (fun r2 h_r2 => ?_)
  refine kg_pt (kX_up h_r2 (by simp only [sw_isK_i, sw_isC_i, sw_isQ_i, sw_in_i] at *; omega)) (fun s3 h_s3 => ?_)
  exact k_X2_clear_17 h_s3
theorem k_X0_reset_86 {w0 : sw_St} : ∀ {n : Nat} {σ : sw_St} {x5 : Int32}, kX w0 σ → KG (kX w0) (f_X0_reset_86 n σ x5) := by
  intro n
  induction n with
  | zero => intro σ x5 h; rw [f_X0_reset_86]; exact kg_none
  | succ n ih =>
    intro σ x5 h
    rw [f_X0_reset_86]
    refine kg_ite (fun _ => ?_) (fun _ => ?_)
    · exact kg_some h
    · refine kg_ck (fun _ => ?_)
      refine kg_pt (kX_up h (by decide)) (fun s2 h_s2 => ?_)
      exact ih h_s2
theorem k_X0_reset_61 {w0 : sw_St} : ∀ {n : Nat} {σ : sw_St} {x5 : Int32}, kX w0 σ → KG (kX w0) (f_X0_reset_61 n σ x5) := by
  intro n
  induction n with
  | zero => intro σ x5 h; rw [f_X0_reset_61]; exact kg_none
  | succ n ih =>
    intro σ x5 h
    rw [f_X0_reset_61]
    refine kg_ite (fun _ => ?_) (fun _ => ?_)
    · exact k_X0_reset_86 h
    · refine kg_ck (fun _ => ?_)
      refine kg_bindM (k_X2_clear h) (fun r2 h_r2 => ?_)
      exact ih h_r2
theorem k_X0_reset {w0 : sw_St} {σ : sw_St} {x1 : Int32} {x2 : Int32} {x3 : Int32} {x4 : Int32} (h : kX w0 σ) : KG (kX w0) (f_X0_reset σ x1 x2 x3 x4) := by
  unfold f_X0_reset
  refine kg_pt (kX_up h (by decide)) (fun s1 h_s1 => ?_)
  refine kg_pt (kX_up h_s1 (by decide)) (fun s2 h_s2 => ?_)
  refine kg_pt (kX_up h_s2 (by decide)) (fun s3 h_s3 => ?_)
  refine kg_pt (kX_up h_s3 (by decide)) (fun s4 h_s4 => ?_)
  refine kg_pt (kX_up h_s4 (by decide)) (fun s5 h_s5 => ?_)
  refine kg_pt (kX_up h_s5 (by decide)) (fun s6 h_s6 => ?_)
  refine kg_pt (kX_up h_s6 (by decide)) (fun s7 h_s7 => ?_)
  refine kg_pt (kX_up h_s7 (by decide)) (fun s8 h_s8 => ?_)
  refine kg_pt (kX_up h_s8 (by decide)) (fun s9 h_s9 => ?_)
  refine kg_pt (kX_up h_s9 (by decide)) (fun s10 h_s10 => ?_)
  refine kg_bindM (k_X3_clear h_s10) (fun r11 h_r11 => ?_)
  exact k_X0_reset_61 h_r11
theorem k_X0_ask {w0 : sw_St} {σ : sw_St} {x1 : Nat} {x2 : Int32} {x3 : Int32} {x4 : Int32} (h : kX w0 σ) : KG (kX w0) (f_X0_ask σ x1 x2 x3 x4) := by
  unfold f_X0_ask
  refine kg_ck (fun _ => ?_)
  refine kg_pt (kX_up h (by simp only [sw_isK_i, sw_isC_i, sw_isQ_i, sw_in_i] at *; omega)) (fun s2 h_s2 => ?_)
  refine kg_pt (kX_up h_s2 (by simp only [sw_isK_i, sw_isC_i, sw_isQ_i, sw_in_i] at *; omega)) (fun s3 h_s3 => ?_)
  refine kg_pt (kX_up h_s3 (by simp only [sw_isK_i, sw_isC_i, sw_isQ_i, sw_in_i] at *; omega)) (fun s4 h_s4 => ?_)
  refine kg_pt (kX_up h_s4 (by simp only [sw_isK_i, sw_isC_i, sw_isQ_i, sw_in_i] at *; omega)) (fun s5 h_s5 => ?_)
  refine kg_pt (kX_up h_s5 (by simp only [sw_isK_i, sw_isC_i, sw_isQ_i, sw_in_i] at *; omega)) (fun s6 h_s6 => ?_)
  refine kg_pt (kX_up h_s6 (by simp only [sw_isK_i, sw_isC_i, sw_isQ_i, sw_in_i] at *; omega)) (fun s7 h_s7 => ?_)
  refine kg_pt (kX_up h_s7 (by simp only [sw_isK_i, sw_isC_i, sw_isQ_i, sw_in_i] at *; omega)) (fun s8 h_s8 => ?_)
  refine kg_pt (kX_up h_s8 (by decide)) (fun s9 h_s9 => ?_)
  exact kg_some h_s9
theorem k_X0_giveUp_39 {w0 : sw_St} {σ : sw_St} {x1 : Nat} {x2 : Int32} (h : kX w0 σ) : KG (kX w0) (f_X0_giveUp_39 σ x1 x2) := by
  unfold f_X0_giveUp_39
  refine kg_ck (fun _ => ?_)
  refine kg_ck (fun _ => ?_)
  refine kg_pt (kX_up h (by simp only [sw_isK_i, sw_isC_i, sw_isQ_i, sw_in_i] at *; omega)) (fun s3 h_s3 => ?_)
  exact kg_some h_s3
theorem k_X0_giveUp {w0 : sw_St} {σ : sw_St} {x1 : Nat} {x2 : Int32} (h : kX w0 σ) : KG (kX w0) (f_X0_giveUp σ x1 x2) := by
  unfold f_X0_giveUp
  refine kg_ck (fun _ => ?_)
  refine kg_ck (fun _ => ?_)
  refine kg_ite (fun _ => ?_) (fun _ => ?_)
  · refine kg_bind (fun r3 => ?_)
    refine kg_ite (fun _ => ?_) (fun _ => ?_)
    · exact kg_some h
    · refine kg_bindM (k_X0_ask h) (fun r4 h_r4 => ?_)
      exact k_X0_giveUp_39 h_r4
  · exact k_X0_giveUp_39 h
theorem k_X1_use {w0 : sw_St} {σ : sw_St} {x0 : Nat} {x1 : Int32} (h : kX w0 σ) : KG (kX w0) (f_X1_use σ x0 x1) := by
  unfold f_X1_use
  refine kg_ck (fun _ => ?_)
  refine kg_pt (kX_up h (by simp only [sw_isK_i, sw_isC_i, sw_isQ_i, sw_in_i] at *; omega)) (fun s2 h_s2 => ?_)
  refine kg_ck (fun _ => ?_)
  refine kg_pt (kX_up h_s2 (by simp only [sw_isK_i, sw_isC_i, sw_isQ_i, sw_in_i] at *; omega)) (fun s4 h_s4 => ?_)
  exact kg_some h_s4
theorem k_X1_put {w0 : sw_St} {σ : sw_St} {x0 : Nat} {x1 : Int32} {x2 : Int32} {x3 : Int32} (h : kX w0 σ) : KG (kX w0) (f_X1_put σ x0 x1 x2 x3) := by
  unfold f_X1_put
  refine kg_ck (fun _ => ?_)
  refine kg_ck (fun _ => ?_)
  refine kg_pt (kX_up h (by simp only [sw_isK_i, sw_isC_i, sw_isQ_i, sw_in_i] at *; omega)) (fun s3 h_s3 => ?_)
  refine kg_pt (kX_up h_s3 (by simp only [sw_isK_i, sw_isC_i, sw_isQ_i, sw_in_i] at *; omega)) (fun s4 h_s4 => ?_)
  refine kg_bindM (k_X1_use h_s4) (fun r5 h_r5 => ?_)
  exact kg_some h_r5
theorem k_X0_fill_36 {w0 : sw_St} {σ : sw_St} {x1 : Nat} {x2 : Int32} {x3 : Int32} {x4 : Int32} (h : kX w0 σ) : KG (kX w0) (f_X0_fill_36 σ x1 x2 x3 x4) := by
  unfold f_X0_fill_36
  refine kg_ck (fun _ => ?_)
  refine kg_bindM (k_X1_put h) (fun r2 h_r2 => ?_)
  exact kg_some h_r2
theorem k_X0_fill {w0 : sw_St} {σ : sw_St} {x1 : Nat} {x2 : Int32} {x3 : Int32} {x4 : Int32} (h : kX w0 σ) : KG (kX w0) (f_X0_fill σ x1 x2 x3 x4) := by
  unfold f_X0_fill
  refine kg_ck (fun _ => ?_)
  refine kg_bind (fun r2 => ?_)
  refine kg_ite (fun _ => ?_) (fun _ => ?_)
  · exact k_X0_fill_36 h
  · refine kg_bind (fun r3 => ?_)
    refine kg_ite (fun _ => ?_) (fun _ => ?_)
    · exact k_X0_fill_36 h
    · refine kg_bindM (k_X0_giveUp h) (fun r4 h_r4 => ?_)
      exact k_X0_fill_36 h_r4
theorem k_X0_answerTurn_81 {w0 : sw_St} {k4 : sw_St → Nat → Int32 → Option sw_St} {σ : sw_St} {x2 : Int32} {x3 : Nat} (hk_k4 : ∀ {z0 : sw_St} {z1 : Nat} {z2 : Int32}, kX w0 z0 → KG (kX w0) (k4 z0 z1 z2)) (h : kX w0 σ) : KG (kX w0) (f_X0_answerTurn_81 k4 σ x2 x3) := by
  unfold f_X0_answerTurn_81
  exact hk_k4 h
theorem k_X0_answerTurn_59 {w0 : sw_St} {k4 : sw_St → Nat → Int32 → Option sw_St} {σ : sw_St} {x1 : Nat} {x2 : Int32} {x3 : Nat} {y0 : Int32} (hk_k4 : ∀ {z0 : sw_St} {z1 : Nat} {z2 : Int32}, kX w0 z0 → KG (kX w0) (k4 z0 z1 z2)) (h : kX w0 σ) : KG (kX w0) (f_X0_answerTurn_59 k4 σ x1 x2 x3 y0) := by
  unfold f_X0_answerTurn_59
  refine kg_ite (fun _ => ?_) (fun _ => ?_)
  · exact hk_k4 h
  · refine kg_ite (fun _ => ?_) (fun _ => ?_)
    · exact k_X0_answerTurn_81 (fun z => hk_k4 z) h
    · refine kg_ck (fun _ => ?_)
      refine kg_ck (fun _ => ?_)
      refine kg_ite (fun _ => ?_) (fun _ => ?_)
      · exact hk_k4 h
      · exact k_X0_answerTurn_81 (fun z => hk_k4 z) h
theorem k_X0_answerTurn_58 {w0 : sw_St} {k4 : sw_St → Nat → Int32 → Option sw_St} {σ : sw_St} {x1 : Nat} {x2 : Int32} {x3 : Nat} (hk_k4 : ∀ {z0 : sw_St} {z1 : Nat} {z2 : Int32}, kX w0 z0 → KG (kX w0) (k4 z0 z1 z2)) (h : kX w0 σ) : KG (kX w0) (f_X0_answerTurn_58 k4 σ x1 x2 x3) := by
  unfold f_X0_answerTurn_58
  exact k_X0_answerTurn_59 (fun z => hk_k4 z) h
theorem k_X0_answerTurn_136 {w0 : sw_St} {σ : sw_St} {x1 : Nat} (h : kX w0 σ) : KG (kX w0) (f_X0_answerTurn_136 σ x1) := by
  unfold f_X0_answerTurn_136
  refine kg_ck (fun _ => ?_)
  refine kg_pt (kX_up h (by simp only [sw_isK_i, sw_isC_i, sw_isQ_i, sw_in_i] at *; omega)) (fun s2 h_s2 => ?_)
  refine kg_pt (kX_up h_s2 (by decide)) (fun s3 h_s3 => ?_)
  refine kg_pt (kX_up h_s3 (by decide)) (fun s4 h_s4 => ?_)
  exact kg_some h_s4
theorem k_X0_answerTurn_4 {w0 : sw_St} : ∀ {n : Nat} {σ : sw_St} {x1 : Nat} {x2 : Int32}, kX w0 σ → KG (kX w0) (f_X0_answerTurn_4 n σ x1 x2) := by
  intro n
  induction n with
  | zero => intro σ x1 x2 h; rw [f_X0_answerTurn_4]; exact kg_none
  | succ n ih =>
    intro σ x1 x2 h
    rw [f_X0_answerTurn_4]
    refine kg_ite (fun _ => ?_) (fun _ => ?_)
    · refine kg_ite (fun _ => ?_) (fun _ => ?_)
      · exact kg_some h
      · refine kg_ck (fun _ => ?_)
        refine kg_ck (fun _ => ?_)
        refine kg_bindM (k_X0_fill h) (fun r3 h_r3 => ?_)
        refine kg_ite (fun _ => ?_) (fun _ => ?_)
        · refine kg_pt (kX_up h_r3 (by simp only [sw_isK_i, sw_isC_i, sw_isQ_i, sw_in_i] at *; omega)) (fun s4 h_s4 => ?_)
          exact k_X0_answerTurn_136 h_s4
        · exact k_X0_answerTurn_136 h_r3
    · refine kg_ck (fun _ => ?_)
      refine kg_ite (fun _ => ?_) (fun _ => ?_)
      · refine kg_ite (fun _ => ?_) (fun _ => ?_)
        · exact k_X0_answerTurn_58 (fun z => ih z) h
        · refine kg_bind (fun r6 => ?_)
          refine kg_ite (fun _ => ?_) (fun _ => ?_)
          · exact k_X0_answerTurn_58 (fun z => ih z) h
          · exact k_X0_answerTurn_59 (fun z => ih z) h
      · exact k_X0_answerTurn_58 (fun z => ih z) h
theorem k_X0_answerTurn {w0 : sw_St} {σ : sw_St} (h : kX w0 σ) : KG (kX w0) (f_X0_answerTurn σ) := by
  unfold f_X0_answerTurn
  exact k_X0_answerTurn_4 h
theorem k_X0_sendAway {w0 : sw_St} {σ : sw_St} {x1 : Nat} (h : kX w0 σ) : KG (kX w0) (f_X0_sendAway σ x1) := by
  unfold f_X0_sendAway
  refine kg_ck (fun _ => ?_)
  refine kg_pt (kX_up h (by simp only [sw_isK_i, sw_isC_i, sw_isQ_i, sw_in_i] at *; omega)) (fun s2 h_s2 => ?_)
  refine kg_pt (kX_up h_s2 (by simp only [sw_isK_i, sw_isC_i, sw_isQ_i, sw_in_i] at *; omega)) (fun s3 h_s3 => ?_)
  refine kg_pt (kX_up h_s3 (by decide)) (fun s4 h_s4 => ?_)
  refine kg_pt (kX_up h_s4 (by decide)) (fun s5 h_s5 => ?_)
  exact kg_some h_s5
theorem k_X3_add {w0 : sw_St} {σ : sw_St} {x1 : Int32} {x2 : Int32} {x3 : Int32} (h : kX w0 σ) : KG (kX w0) (f_X3_add σ x1 x2 x3) := by
  unfold f_X3_add
  refine kg_ck (fun _ => ?_)
  refine kg_pt (kX_up h (by decide)) (fun s2 h_s2 => ?_)
  refine kg_ck (fun _ => ?_)
  refine kg_pt (kX_up h_s2 (by decide)) (fun s4 h_s4 => ?_)
  refine kg_ck (fun _ => ?_)
  refine kg_pt (kX_up h_s4 (by decide)) (fun s6 h_s6 => ?_)
  refine kg_pt (kX_up h_s6 (by decide)) (fun s7 h_s7 => ?_)
  refine kg_pt (kX_up h_s7 (by decide)) (fun s8 h_s8 => ?_)
  refine kg_pt (kX_up h_s8 (by decide)) (fun s9 h_s9 => ?_)
  exact kg_some h_s9
theorem k_X0_orderBack {w0 : sw_St} {σ : sw_St} {x1 : Nat} (h : kX w0 σ) : KG (kX w0) (f_X0_orderBack σ x1) := by
  unfold f_X0_orderBack
  refine kg_ck (fun _ => ?_)
  refine kg_bindM (k_X3_add h) (fun r2 h_r2 => ?_)
  refine kg_ck (fun _ => ?_)
  refine kg_pt (kX_up h_r2 (by decide)) (fun s4 h_s4 => ?_)
  refine kg_pt (kX_up h_s4 (by simp only [sw_isK_i, sw_isC_i, sw_isQ_i, sw_in_i] at *; omega)) (fun s5 h_s5 => ?_)
  exact kg_some h_s5
theorem k_X0_bringToMemory_36 {w0 : sw_St} {σ : sw_St} {x1 : Nat} {x2 : Int32} (h : kX w0 σ) : KG (kX w0) (f_X0_bringToMemory_36 σ x1 x2) := by
  unfold f_X0_bringToMemory_36
  refine kg_ck (fun _ => ?_)
  refine kg_bind (fun r2 => ?_)
  refine kg_ite (fun _ => ?_) (fun _ => ?_)
  · exact kg_some h
  · refine kg_ck (fun _ => ?_)
    refine kg_ck (fun _ => ?_)
    refine kg_pt (kX_up h (by decide)) (fun s5 h_s5 => ?_)
    refine kg_pt (kX_up h_s5 (by simp only [sw_isK_i, sw_isC_i, sw_isQ_i, sw_in_i] at *; omega)) (fun s6 h_s6 => ?_)
    exact kg_some h_s6
theorem k_X0_bringToMemory {w0 : sw_St} {σ : sw_St} {x1 : Nat} {x2 : Int32} (h : kX w0 σ) : KG (kX w0) (f_X0_bringToMemory σ x1 x2) := by
  unfold f_X0_bringToMemory
  refine kg_ck (fun _ => ?_)
  refine kg_bind (fun r2 => ?_)
  refine kg_ite (fun _ => ?_) (fun _ => ?_)
  · exact k_X0_bringToMemory_36 h
  · refine kg_ck (fun _ => ?_)
    refine kg_pt (kX_up h (by decide)) (fun s4 h_s4 => ?_)
    refine kg_pt (kX_up h_s4 (by simp only [sw_isK_i, sw_isC_i, sw_isQ_i, sw_in_i] at *; omega)) (fun s5 h_s5 => ?_)
    exact k_X0_bringToMemory_36 h_s5
theorem k_X0_orderRead_60 {w0 : sw_St} : ∀ {n : Nat} {σ : sw_St} {x1 : Nat} {x2 : Int32} {x3 : Int32}, kX w0 σ → KG (kX w0) (f_X0_orderRead_60 n σ x1 x2 x3) := by
  intro n
  induction n with
  | zero => intro σ x1 x2 x3 h; rw [f_X0_orderRead_60]; exact kg_none
  | succ n ih =>
    intro σ x1 x2 x3 h
    rw [f_X0_orderRead_60]
    refine kg_ite (fun _ => ?_) (fun _ => ?_)
    · refine kg_ck (fun _ => ?_)
      refine kg_ck (fun _ => ?_)
      refine kg_pt (kX_up h (by simp only [sw_isK_i, sw_isC_i, sw_isQ_i, sw_in_i] at *; omega)) (fun s3 h_s3 => ?_)
      exact kg_some h_s3
    · refine kg_ck (fun _ => ?_)
      refine kg_ite (fun _ => ?_) (fun _ => ?_)
      · exact ih h
      · refine kg_ck (fun _ => ?_)
        refine kg_bindM (k_X0_bringToMemory h) (fun r6 h_r6 => ?_)
        refine kg_ck (fun _ => ?_)
        refine kg_ite (fun _ => ?_) (fun _ => ?_)
        · exact ih h_r6
        · refine kg_pt (kX_up h_r6 (by simp only [sw_isK_i, sw_isC_i, sw_isQ_i, sw_in_i] at *; omega)) (fun s8 h_s8 => ?_)
          exact ih h_s8
theorem k_X0_orderRead {w0 : sw_St} {σ : sw_St} {x1 : Nat} (h : kX w0 σ) : KG (kX w0) (f_X0_orderRead σ x1) := by
  unfold f_X0_orderRead
  refine kg_ck (fun _ => ?_)
  refine kg_bindM (k_X3_add h) (fun r2 h_r2 => ?_)
  refine kg_pt (kX_up h_r2 (by simp only [sw_isK_i, sw_isC_i, sw_isQ_i, sw_in_i] at *; omega)) (fun s3 h_s3 => ?_)
  refine kg_pt (kX_up h_s3 (by simp only [sw_isK_i, sw_isC_i, sw_isQ_i, sw_in_i] at *; omega)) (fun s4 h_s4 => ?_)
  refine kg_bind (fun r5 => ?_)
  refine kg_pt (kX_up h_s4 (by simp only [sw_isK_i, sw_isC_i, sw_isQ_i, sw_in_i] at *; omega)) (fun s6 h_s6 => ?_)
  refine kg_pt (kX_up h_s6 (by simp only [sw_isK_i, sw_isC_i, sw_isQ_i, sw_in_i] at *; omega)) (fun s7 h_s7 => ?_)
  exact k_X0_orderRead_60 h_s7
theorem k_X0_takeFromOthers_2 {w0 : sw_St} : ∀ {n : Nat} {σ : sw_St} {x1 : Int32} {x2 : Int32} {x3 : Int32}, kX w0 σ → KG (kX w0) (f_X0_takeFromOthers_2 n σ x1 x2 x3) := by
  intro n
  induction n with
  | zero => intro σ x1 x2 x3 h; rw [f_X0_takeFromOthers_2]; exact kg_none
  | succ n ih =>
    intro σ x1 x2 x3 h
    rw [f_X0_takeFromOthers_2]
    refine kg_ite (fun _ => ?_) (fun _ => ?_)
    · exact kg_some h
    · refine kg_ite (fun _ => ?_) (fun _ => ?_)
      · exact ih h
      · refine kg_ck (fun _ => ?_)
        refine kg_ck (fun _ => ?_)
        refine kg_pt (kX_up h (by simp only [sw_isK_i, sw_isC_i, sw_isQ_i, sw_in_i] at *; omega)) (fun s3 h_s3 => ?_)
        refine kg_bind (fun r4 => ?_)
        refine kg_ite (fun _ => ?_) (fun _ => ?_)
        · exact ih h_s3
        · refine kg_ck (fun _ => ?_)
          refine kg_pt (kX_up h_s3 (by simp only [sw_isK_i, sw_isC_i, sw_isQ_i, sw_in_i] at *; omega)) (fun s6 h_s6 => ?_)
          exact ih h_s6
theorem k_X0_takeFromOthers {w0 : sw_St} {σ : sw_St} {x1 : Int32} {x2 : Int32} (h : kX w0 σ) : KG (kX w0) (f_X0_takeFromOthers σ x1 x2) := by
  unfold f_X0_takeFromOthers
  exact k_X0_takeFromOthers_2 h
theorem k_X0_orderOwn {w0 : sw_St} {σ : sw_St} {x1 : Nat} {x2 : Int32} (h : kX w0 σ) : KG (kX w0) (f_X0_orderOwn σ x1 x2) := by
  unfold f_X0_orderOwn
  refine kg_ck (fun _ => ?_)
  refine kg_bindM (k_X3_add h) (fun r2 h_r2 => ?_)
  refine kg_pt (kX_up h_r2 (by simp only [sw_isK_i, sw_isC_i, sw_isQ_i, sw_in_i] at *; omega)) (fun s3 h_s3 => ?_)
  refine kg_pt (kX_up h_s3 (by simp only [sw_isK_i, sw_isC_i, sw_isQ_i, sw_in_i] at *; omega)) (fun s4 h_s4 => ?_)
  refine kg_pt (kX_up h_s4 (by simp only [sw_isK_i, sw_isC_i, sw_isQ_i, sw_in_i] at *; omega)) (fun s5 h_s5 => ?_)
  refine kg_bind (fun r6 => ?_)
  refine kg_pt (kX_up h_s5 (by simp only [sw_isK_i, sw_isC_i, sw_isQ_i, sw_in_i] at *; omega)) (fun s7 h_s7 => ?_)
  refine kg_pt (kX_up h_s7 (by simp only [sw_isK_i, sw_isC_i, sw_isQ_i, sw_in_i] at *; omega)) (fun s8 h_s8 => ?_)
  refine kg_bindM (k_X0_takeFromOthers h_s8) (fun r9 h_r9 => ?_)
  exact kg_some h_r9
theorem k_X0_orderRise {w0 : sw_St} {σ : sw_St} {x1 : Nat} (h : kX w0 σ) : KG (kX w0) (f_X0_orderRise σ x1) := by
  unfold f_X0_orderRise
  refine kg_ck (fun _ => ?_)
  refine kg_bindM (k_X3_add h) (fun r2 h_r2 => ?_)
  refine kg_bindM (k_X0_takeFromOthers h_r2) (fun r3 h_r3 => ?_)
  refine kg_ck (fun _ => ?_)
  refine kg_bindM (k_X1_put h_r3) (fun r5 h_r5 => ?_)
  refine kg_pt (kX_up h_r5 (by simp only [sw_isK_i, sw_isC_i, sw_isQ_i, sw_in_i] at *; omega)) (fun s6 h_s6 => ?_)
  refine kg_pt (kX_up h_s6 (by decide)) (fun s7 h_s7 => ?_)
  exact kg_some h_s7
theorem k_X0_addressTurn_56 {w0 : sw_St} {σ : sw_St} {x1 : Nat} {y0 : Int32} (h : kX w0 σ) : KG (kX w0) (f_X0_addressTurn_56 σ x1 y0) := by
  unfold f_X0_addressTurn_56
  refine kg_ck (fun _ => ?_)
  refine kg_ite (fun _ => ?_) (fun _ => ?_)
  · refine kg_bindM (k_X0_orderRead h) (fun r2 h_r2 => ?_)
    exact kg_some h_r2
  · refine kg_ite (fun _ => ?_) (fun _ => ?_)
    · refine kg_bindM (k_X0_orderOwn h) (fun r4 h_r4 => ?_)
      exact kg_some h_r4
    · refine kg_ite (fun _ => ?_) (fun _ => ?_)
      · refine kg_ite (fun _ => ?_) (fun _ => ?_)
        · refine kg_pt (kX_up h (by decide)) (fun s6 h_s6 => ?_)
          refine kg_bindM (k_X0_orderOwn h_s6) (fun r7 h_r7 => ?_)
          exact kg_some h_r7
        · refine kg_bindM (k_X0_orderRise h) (fun r8 h_r8 => ?_)
          exact kg_some h_r8
      · refine kg_ite (fun _ => ?_) (fun _ => ?_)
        · refine kg_bindM (k_X0_orderBack h) (fun r10 h_r10 => ?_)
          exact kg_some h_r10
        · refine kg_ite (fun _ => ?_) (fun _ => ?_)
          · refine kg_pt (kX_up h (by decide)) (fun s12 h_s12 => ?_)
            refine kg_bindM (k_X0_orderOwn h_s12) (fun r13 h_r13 => ?_)
            exact kg_some h_r13
          · refine kg_bindM (k_X0_orderRise h) (fun r14 h_r14 => ?_)
            exact kg_some h_r14
theorem k_X0_addressTurn {w0 : sw_St} {σ : sw_St} (h : kX w0 σ) : KG (kX w0) (f_X0_addressTurn σ) := by
  unfold f_X0_addressTurn
  refine kg_bind (fun r1 => ?_)
  refine kg_ite (fun _ => ?_) (fun _ => ?_)
  · exact kg_some h
  · refine kg_ck (fun _ => ?_)
    refine kg_bind (fun r3 => ?_)
    refine kg_ite (fun _ => ?_) (fun _ => ?_)
    · refine kg_ck (fun _ => ?_)
      refine kg_ck (fun _ => ?_)
      refine kg_ite (fun _ => ?_) (fun _ => ?_)
      · exact k_X0_addressTurn_56 h
      · exact k_X0_addressTurn_56 h
    · refine kg_bindM (k_X0_sendAway h) (fun r6 h_r6 => ?_)
      exact kg_some h_r6
theorem k_X0_runTurns_7 {w0 : sw_St} : ∀ {n : Nat} {σ : sw_St} {x1 : Int32} {x2 : Int32} {x3 : Int32}, kX w0 σ → KG (fun r => kX w0 r.2) (f_X0_runTurns_7 n σ x1 x2 x3) := by
  intro n
  induction n with
  | zero => intro σ x1 x2 x3 h; rw [f_X0_runTurns_7]; exact kg_none
  | succ n ih =>
    intro σ x1 x2 x3 h
    rw [f_X0_runTurns_7]
    refine kg_ite (fun _ => ?_) (fun _ => ?_)
    · exact kg_some h
    · refine kg_pt (kX_up h (by decide)) (fun s1 h_s1 => ?_)
      refine kg_bindM (k_X0_answerTurn h_s1) (fun r2 h_r2 => ?_)
      refine kg_bindM (k_X0_addressTurn h_r2) (fun r3 h_r3 => ?_)
      exact ih h_r3
theorem k_X0_runTurns {w0 : sw_St} {σ : sw_St} {x1 : Int32} (h : kX w0 σ) : KG (fun r => kX w0 r.2) (f_X0_runTurns σ x1) := by
  unfold f_X0_runTurns
  exact k_X0_runTurns_7 h
theorem k_X0_takeBack {w0 : sw_St} {σ : sw_St} {x1 : Nat} {x2 : Int32} (h : kX w0 σ) : KG (kX w0) (f_X0_takeBack σ x1 x2) := by
  unfold f_X0_takeBack
  refine kg_ck (fun _ => ?_)
  refine kg_bind (fun r2 => ?_)
  refine kg_ite (fun _ => ?_) (fun _ => ?_)
  · exact kg_some h
  · refine kg_ck (fun _ => ?_)
    refine kg_pt (kX_up h (by simp only [sw_isK_i, sw_isC_i, sw_isQ_i, sw_in_i] at *; omega)) (fun s4 h_s4 => ?_)
    refine kg_bindM (k_X0_fill h_s4) (fun r5 h_r5 => ?_)
    exact kg_some h_r5
theorem k_X0_startRead {w0 : sw_St} {σ : sw_St} {x1 : Int32} {x2 : Int32} (h : kX w0 σ) : KG (fun r => kX w0 r.2) (f_X0_startRead σ x1 x2) := by
  unfold f_X0_startRead
  refine kg_ck (fun _ => ?_)
  refine kg_ite (fun _ => ?_) (fun _ => ?_)
  · refine kg_bindM (k_X0_takeBack h) (fun r2 h_r2 => ?_)
    refine kg_ck (fun _ => ?_)
    refine kg_ite (fun _ => ?_) (fun _ => ?_)
    · refine kg_bindM (k_X0_ask h_r2) (fun r7 h_r7 => ?_)
      exact kg_some h_r7
    · refine kg_bindM (k_X1_use h_r2) (fun r4 h_r4 => ?_)
      refine kg_pt (kX_up h_r4 (by simp only [sw_isK_i, sw_isC_i, sw_isQ_i, sw_in_i] at *; omega)) (fun s5 h_s5 => ?_)
      refine kg_pt (kX_up h_s5 (by decide)) (fun s6 h_s6 => ?_)
      exact kg_some h_s6
  · exact kg_some h
theorem k_X0_startStore_89 {w0 : sw_St} {σ : sw_St} {x2 : Int32} {x3 : Int32} {y0 : Int32} {y1 : Nat} (h : kX w0 σ) : KG (fun r => kX w0 r.2) (f_X0_startStore_89 σ x2 x3 y0 y1) := by
  unfold f_X0_startStore_89
  refine kg_bindM (k_X0_ask h) (fun r1 h_r1 => ?_)
  exact kg_some h_r1
theorem k_X0_startStore {w0 : sw_St} {σ : sw_St} {x1 : Int32} {x2 : Int32} {x3 : Int32} (h : kX w0 σ) : KG (fun r => kX w0 r.2) (f_X0_startStore σ x1 x2 x3) := by
  unfold f_X0_startStore
  refine kg_ck (fun _ => ?_)
  refine kg_ite (fun _ => ?_) (fun _ => ?_)
  · refine kg_bindM (k_X0_takeBack h) (fun r2 h_r2 => ?_)
    refine kg_bind (fun r3 => ?_)
    refine kg_ite (fun _ => ?_) (fun _ => ?_)
    · refine kg_ck (fun _ => ?_)
      refine kg_ite (fun _ => ?_) (fun _ => ?_)
      · exact k_X0_startStore_89 h_r2
      · exact k_X0_startStore_89 h_r2
    · refine kg_bindM (k_X1_put h_r2) (fun r5 h_r5 => ?_)
      refine kg_pt (kX_up h_r5 (by decide)) (fun s6 h_s6 => ?_)
      exact kg_some h_s6
  · exact kg_some h
theorem k_X0_dropLine_42 {w0 : sw_St} {σ : sw_St} {x2 : Int32} {x3 : Nat} {x4 : Int32} (h : kX w0 σ) : KG (fun r => kX w0 r.2) (f_X0_dropLine_42 σ x2 x3 x4) := by
  unfold f_X0_dropLine_42
  refine kg_bindM (k_X0_giveUp h) (fun r1 h_r1 => ?_)
  exact kg_some h_r1
theorem k_X0_dropLine {w0 : sw_St} {σ : sw_St} {x1 : Int32} {x2 : Int32} (h : kX w0 σ) : KG (fun r => kX w0 r.2) (f_X0_dropLine σ x1 x2) := by
  unfold f_X0_dropLine
  refine kg_ck (fun _ => ?_)
  refine kg_ck (fun _ => ?_)
  refine kg_ite (fun _ => ?_) (fun _ => ?_)
  · exact kg_some h
  · refine kg_ite (fun _ => ?_) (fun _ => ?_)
    · refine kg_bind (fun r3 => ?_)
      refine kg_ite (fun _ => ?_) (fun _ => ?_)
      · exact kg_some h
      · exact k_X0_dropLine_42 h
    · exact k_X0_dropLine_42 h
theorem k_X0_perform {w0 : sw_St} {σ : sw_St} {x1 : Int32} {x2 : Int32} {x3 : Int32} {x4 : Int32} (h : kX w0 σ) : KG (fun r => kX w0 r.2) (f_X0_perform σ x1 x2 x3 x4) := by
  unfold f_X0_perform
  refine kg_ite (fun _ => ?_) (fun _ => ?_)
  · refine kg_bindM (k_X0_runTurns h) (fun r1 h_r1 => ?_)
    exact kg_some h_r1
  · refine kg_ite (fun _ => ?_) (fun _ => ?_)
    · refine kg_bindM (k_X0_startRead h) (fun r3 h_r3 => ?_)
      exact kg_some h_r3
    · refine kg_ite (fun _ => ?_) (fun _ => ?_)
      · refine kg_bindM (k_X0_startStore h) (fun r5 h_r5 => ?_)
        exact kg_some h_r5
      · refine kg_ite (fun _ => ?_) (fun _ => ?_)
        · refine kg_bindM (k_X0_dropLine h) (fun r7 h_r7 => ?_)
          exact kg_some h_r7
        · exact kg_some h
theorem k_X6_read {w0 : sw_St} {σ : sw_St} {x1 : Int32} {x2 : Int32} (h : kX w0 σ) : KG (fun r => kX w0 r.2) (f_X6_read σ x1 x2) := by
  unfold f_X6_read
  refine kg_bind (fun r1 => ?_)
  refine kg_ite (fun _ => ?_) (fun _ => ?_)
  · exact kg_some h
  · refine kg_bind (fun r2 => ?_)
    refine kg_ite (fun _ => ?_) (fun _ => ?_)
    · exact kg_some h
    · refine kg_bindM (k_X0_startRead h) (fun r3 h_r3 => ?_)
      exact kg_some h_r3
theorem k_X6_store {w0 : sw_St} {σ : sw_St} {x1 : Int32} {x2 : Int32} {x3 : Int32} (h : kX w0 σ) : KG (fun r => kX w0 r.2) (f_X6_store σ x1 x2 x3) := by
  unfold f_X6_store
  refine kg_bind (fun r1 => ?_)
  refine kg_ite (fun _ => ?_) (fun _ => ?_)
  · exact kg_some h
  · refine kg_bind (fun r2 => ?_)
    refine kg_ite (fun _ => ?_) (fun _ => ?_)
    · exact kg_some h
    · refine kg_bind (fun r3 => ?_)
      refine kg_ite (fun _ => ?_) (fun _ => ?_)
      · exact kg_some h
      · refine kg_bindM (k_X0_startStore h) (fun r4 h_r4 => ?_)
        exact kg_some h_r4
theorem k_X6_drop {w0 : sw_St} {σ : sw_St} {x1 : Int32} {x2 : Int32} (h : kX w0 σ) : KG (fun r => kX w0 r.2) (f_X6_drop σ x1 x2) := by
  unfold f_X6_drop
  refine kg_bind (fun r1 => ?_)
  refine kg_ite (fun _ => ?_) (fun _ => ?_)
  · exact kg_some h
  · refine kg_bind (fun r2 => ?_)
    refine kg_ite (fun _ => ?_) (fun _ => ?_)
    · exact kg_some h
    · refine kg_bindM (k_X0_dropLine h) (fun r3 h_r3 => ?_)
      exact kg_some h_r3
theorem k_X6_turn {w0 : sw_St} {σ : sw_St} {x1 : Int32} (h : kX w0 σ) : KG (fun r => kX w0 r.2) (f_X6_turn σ x1) := by
  unfold f_X6_turn
  refine kg_bind (fun r1 => ?_)
  refine kg_ite (fun _ => ?_) (fun _ => ?_)
  · exact kg_some h
  · refine kg_bindM (k_X0_runTurns h) (fun r2 h_r2 => ?_)
    exact kg_some h_r2
