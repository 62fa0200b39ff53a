/-! PURE: cells that calls leave alone (printed) -/
def KG {β : Type} (F : β → Prop) (o : Option β) : Prop := ∀ r, o = some r → F r
theorem kg_none {β : Type} {F : β → Prop} : KG F none := fun _ h => by cases h
theorem kg_some {β : Type} {F : β → Prop} {b : β} (h : F b) : KG F (some b) := fun r q => by cases q; exact h
theorem kg_ck {β : Type} {F : β → Prop} {p : Bool} {o : Option β} (h : p = true → KG F o) : KG F (sw_ck p o) := by
  unfold sw_ck
  by_cases q : p = true
  · rw [if_pos q]; exact h q
  · rw [if_neg q]; exact kg_none
theorem kg_ite {β : Type} {F : β → Prop} {c : Prop} {i : Decidable c} {a b : Option β} (h1 : c → KG F a) (h2 : ¬ c → KG F b) : KG F (@ite _ c i a b) := by
  by_cases q : c
  · rw [if_pos q]; exact h1 q
  · rw [if_neg q]; exact h2 q
theorem kg_pt {β : Type} {F : β → Prop} {G : sw_St → Prop} {σ : sw_St} {k j : Nat} {v : Int32} {K : sw_St → Option β} (h : G (sw_up σ k j v)) (hk : ∀ s, G s → KG F (K s)) : KG F (sw_pt σ k j v K) := hk _ h
theorem kg_bind {α β : Type} {F : β → Prop} {o : Option α} {K : α → Option β} (h : ∀ a, KG F (K a)) : KG F (o.bind K) := by
  cases o with
  | none => exact kg_none
  | some a => exact h a
theorem kg_bindM {α β : Type} {G : α → Prop} {F : β → Prop} {o : Option α} {K : α → Option β} (ho : KG G o) (h : ∀ a, G a → KG F (K a)) : KG F (o.bind K) := by
  cases o with
  | none => exact kg_none
  | some a => exact h a (ho a rfl)
theorem wp_kg {β : Type} {o : Option β} {Q F : β → Prop} (h : wp o Q) (k : KG F o) : wp o (fun r => Q r ∧ F r) := by
  obtain ⟨b, e, hb⟩ := h
  exact ⟨b, e, hb, k b e⟩
/-- the model's text and what reads it -/
def kM (y0 z : sw_St) : Prop := z 18 = y0 18 ∧ z 19 = y0 19 ∧ z 20 = y0 20 ∧ z 1 29 = y0 1 29 ∧ z 1 31 = y0 1 31 ∧ z 1 33 = y0 1 33
theorem kM_up {y0 z : sw_St} {k j : Nat} {v : Int32} (h : kM y0 z) (hk : k ≠ 1 ∧ k ≠ 18 ∧ k ≠ 19 ∧ k ≠ 20) : kM y0 (sw_up z k j v) := by
  unfold kM
  rw [up_ne (Ne.symm hk.1), up_ne (Ne.symm hk.2.1), up_ne (Ne.symm hk.2.2.1), up_ne (Ne.symm hk.2.2.2)]
  exact h
theorem kM_1 {y0 z : sw_St} {j : Nat} {v : Int32} (h : kM y0 z) (hk : j ≠ 29 ∧ j ≠ 31 ∧ j ≠ 33) : kM y0 (sw_up z 1 j v) := by
  unfold kM
  rw [up_ne (by decide), up_ne (by decide), up_ne (by decide), up_nj (Ne.symm hk.1), up_nj (Ne.symm hk.2.1), up_nj (Ne.symm hk.2.2)]
  exact h
/-- the class's text and what reads it -/
def kX (y0 z : sw_St) : Prop := ∀ a, 43 < a → z a = y0 a
theorem kX_up {y0 z : sw_St} {k j : Nat} {v : Int32} (h : kX y0 z) (hk : k ≤ 43) : kX y0 (sw_up z k j v) := fun a ha => by
  rw [up_ne (by omega)]
  exact h a ha
theorem k_X7_begin_106 {w0 : sw_St} : ∀ {n : Nat} {σ : sw_St} {x1 : Int32} {x5 : Int32}, kM w0 σ → KG (fun r => kM w0 r.2) (f_X7_begin_106 n σ x1 x5) := by
  intro n
  induction n with
  | zero => intro σ x1 x5 h; rw [f_X7_begin_106]; exact kg_none
  | succ n ih =>
    intro σ x1 x5 h
    rw [f_X7_begin_106]
    refine kg_ite (fun _ => ?_) (fun _ => ?_)
    · refine kg_pt (kM_1 h (by decide)) (fun s1 h_s1 => ?_)
      refine kg_pt (kM_1 h_s1 (by decide)) (fun s2 h_s2 => ?_)
      refine kg_pt (kM_1 h_s2 (by decide)) (fun s3 h_s3 => ?_)
      refine kg_pt (kM_1 h_s3 (by decide)) (fun s4 h_s4 => ?_)
      refine kg_pt (kM_1 h_s4 (by decide)) (fun s5 h_s5 => ?_)
      refine kg_pt (kM_1 h_s5 (by decide)) (fun s6 h_s6 => ?_)
      refine kg_pt (kM_1 h_s6 (by decide)) (fun s7 h_s7 => ?_)
      refine kg_pt (kM_1 h_s7 (by decide)) (fun s8 h_s8 => ?_)
      exact kg_some h_s8
    · refine kg_ck (fun _ => ?_)
      refine kg_pt (kM_up h (by decide)) (fun s10 h_s10 => ?_)
      refine kg_pt (kM_up h_s10 (by decide)) (fun s11 h_s11 => ?_)
      refine kg_pt (kM_up h_s11 (by decide)) (fun s12 h_s12 => ?_)
      refine kg_pt (kM_up h_s12 (by decide)) (fun s13 h_s13 => ?_)
      exact ih h_s13
theorem k_X7_begin_82 {w0 : sw_St} : ∀ {n : Nat} {σ : sw_St} {x1 : Int32} {x5 : Int32}, kM w0 σ → KG (fun r => kM w0 r.2) (f_X7_begin_82 n σ x1 x5) := by
  intro n
  induction n with
  | zero => intro σ x1 x5 h; rw [f_X7_begin_82]; exact kg_none
  | succ n ih =>
    intro σ x1 x5 h
    rw [f_X7_begin_82]
    refine kg_ite (fun _ => ?_) (fun _ => ?_)
    · exact k_X7_begin_106 h
    · refine kg_ck (fun _ => ?_)
      refine kg_pt (kM_up h (by decide)) (fun s2 h_s2 => ?_)
      exact ih h_s2
theorem k_X7_begin {w0 : sw_St} {σ : sw_St} {x1 : Int32} {x2 : Int32} {x3 : Int32} {x4 : Int32} (h : kM w0 σ) : KG (fun r => kM w0 r.2) (f_X7_begin σ x1 x2 x3 x4) := by
  unfold f_X7_begin
  refine kg_bind (fun r1 => ?_)
  refine kg_ite (fun _ => ?_) (fun _ => ?_)
  · exact kg_some h
  · refine kg_bind (fun r2 => ?_)
    refine kg_ite (fun _ => ?_) (fun _ => ?_)
    · exact kg_some h
    · refine kg_bind (fun r3 => ?_)
      refine kg_ite (fun _ => ?_) (fun _ => ?_)
      · exact kg_some h
      · refine kg_bind (fun r4 => ?_)
        refine kg_ite (fun _ => ?_) (fun _ => ?_)
        · exact kg_some h
        · refine kg_pt (kM_1 h (by decide)) (fun s5 h_s5 => ?_)
          refine kg_pt (kM_1 h_s5 (by decide)) (fun s6 h_s6 => ?_)
          refine kg_pt (kM_1 h_s6 (by decide)) (fun s7 h_s7 => ?_)
          refine kg_pt (kM_1 h_s7 (by decide)) (fun s8 h_s8 => ?_)
          refine kg_pt (kM_1 h_s8 (by decide)) (fun s9 h_s9 => ?_)
          exact k_X7_begin_82 h_s9
theorem k_X7_takeOut_26 {w0 : sw_St} : ∀ {n : Nat} {σ : sw_St} {x1 : Int32} {x4 : Int32}, kM w0 σ → KG (kM w0) (f_X7_takeOut_26 n σ x1 x4) := by
  intro n
  induction n with
  | zero => intro σ x1 x4 h; rw [f_X7_takeOut_26]; exact kg_none
  | succ n ih =>
    intro σ x1 x4 h
    rw [f_X7_takeOut_26]
    refine kg_ck (fun _ => ?_)
    refine kg_ite (fun _ => ?_) (fun _ => ?_)
    · exact kg_some h
    · refine kg_ck (fun _ => ?_)
      refine kg_ck (fun _ => ?_)
      refine kg_pt (kM_up h (by decide)) (fun s4 h_s4 => ?_)
      refine kg_pt (kM_up h_s4 (by decide)) (fun s5 h_s5 => ?_)
      refine kg_pt (kM_up h_s5 (by decide)) (fun s6 h_s6 => ?_)
      exact ih h_s6
theorem k_X7_takeOut {w0 : sw_St} {σ : sw_St} {x1 : Int32} {x2 : Int32} (h : kM w0 σ) : KG (kM w0) (f_X7_takeOut σ x1 x2) := by
  unfold f_X7_takeOut
  refine kg_bind (fun r1 => ?_)
  refine kg_ite (fun _ => ?_) (fun _ => ?_)
  · exact kg_some h
  · refine kg_ck (fun _ => ?_)
    refine kg_pt (kM_up h (by decide)) (fun s3 h_s3 => ?_)
    exact k_X7_takeOut_26 h_s3
theorem k_X7_putIn {w0 : sw_St} {σ : sw_St} {x1 : Int32} {x2 : Int32} {x3 : Int32} {x4 : Int32} (h : kM w0 σ) : KG (kM w0) (f_X7_putIn σ x1 x2 x3 x4) := by
  unfold f_X7_putIn
  refine kg_ck (fun _ => ?_)
  refine kg_ck (fun _ => ?_)
  refine kg_pt (kM_up h (by decide)) (fun s3 h_s3 => ?_)
  refine kg_pt (kM_up h_s3 (by decide)) (fun s4 h_s4 => ?_)
  refine kg_pt (kM_up h_s4 (by decide)) (fun s5 h_s5 => ?_)
  refine kg_pt (kM_up h_s5 (by decide)) (fun s6 h_s6 => ?_)
  exact kg_some h_s6
theorem k_X7_use {w0 : sw_St} {σ : sw_St} {x1 : Int32} {x2 : Int32} {x3 : Int32} {x4 : Int32} (h : kM w0 σ) : KG (kM w0) (f_X7_use σ x1 x2 x3 x4) := by
  unfold f_X7_use
  refine kg_bindM (k_X7_takeOut h) (fun r1 h_r1 => ?_)
  refine kg_bindM (k_X7_putIn h_r1) (fun r2 h_r2 => ?_)
  exact kg_some h_r2
theorem k_X7_asks {w0 : sw_St} {σ : sw_St} {x1 : Int32} {x2 : Int32} {x3 : Int32} (h : kM w0 σ) : KG (kM w0) (f_X7_asks σ x1 x2 x3) := by
  unfold f_X7_asks
  refine kg_ck (fun _ => ?_)
  refine kg_pt (kM_up h (by decide)) (fun s2 h_s2 => ?_)
  refine kg_ck (fun _ => ?_)
  refine kg_pt (kM_up h_s2 (by decide)) (fun s4 h_s4 => ?_)
  refine kg_ck (fun _ => ?_)
  refine kg_pt (kM_up h_s4 (by decide)) (fun s6 h_s6 => ?_)
  refine kg_ck (fun _ => ?_)
  refine kg_pt (kM_up h_s6 (by decide)) (fun s8 h_s8 => ?_)
  refine kg_ck (fun _ => ?_)
  refine kg_pt (kM_up h_s8 (by decide)) (fun s10 h_s10 => ?_)
  refine kg_pt (kM_1 h_s10 (by decide)) (fun s11 h_s11 => ?_)
  refine kg_pt (kM_1 h_s11 (by decide)) (fun s12 h_s12 => ?_)
  exact kg_some h_s12
theorem k_X7_giveUp_71 {w0 : sw_St} {σ : sw_St} {x1 : Int32} {x2 : Int32} (h : kM w0 σ) : KG (kM w0) (f_X7_giveUp_71 σ x1 x2) := by
  unfold f_X7_giveUp_71
  refine kg_bindM (k_X7_takeOut h) (fun r1 h_r1 => ?_)
  exact kg_some h_r1
theorem k_X7_giveUp {w0 : sw_St} {σ : sw_St} {x1 : Int32} {x2 : Int32} (h : kM w0 σ) : KG (kM w0) (f_X7_giveUp σ x1 x2) := by
  unfold f_X7_giveUp
  refine kg_bind (fun r1 => ?_)
  refine kg_ck (fun _ => ?_)
  refine kg_ite (fun _ => ?_) (fun _ => ?_)
  · refine kg_ck (fun _ => ?_)
    refine kg_ck (fun _ => ?_)
    refine kg_pt (kM_up h (by decide)) (fun s5 h_s5 => ?_)
    refine kg_ck (fun _ => ?_)
    refine kg_pt (kM_up h_s5 (by decide)) (fun s7 h_s7 => ?_)
    refine kg_pt (kM_up h_s7 (by decide)) (fun s8 h_s8 => ?_)
    refine kg_bindM (k_X7_asks h_s8) (fun r9 h_r9 => ?_)
    exact k_X7_giveUp_71 h_r9
  · exact k_X7_giveUp_71 h
theorem k_X7_fill_26 {w0 : sw_St} {σ : sw_St} {x1 : Int32} {x2 : Int32} {x3 : Int32} {x4 : Int32} (h : kM w0 σ) : KG (kM w0) (f_X7_fill_26 σ x1 x2 x3 x4) := by
  unfold f_X7_fill_26
  refine kg_bindM (k_X7_putIn h) (fun r1 h_r1 => ?_)
  exact kg_some h_r1
theorem k_X7_fill {w0 : sw_St} {σ : sw_St} {x1 : Int32} {x2 : Int32} {x3 : Int32} {x4 : Int32} (h : kM w0 σ) : KG (kM w0) (f_X7_fill σ x1 x2 x3 x4) := by
  unfold f_X7_fill
  refine kg_ck (fun _ => ?_)
  refine kg_ite (fun _ => ?_) (fun _ => ?_)
  · refine kg_ck (fun _ => ?_)
    refine kg_bindM (k_X7_giveUp h) (fun r3 h_r3 => ?_)
    exact k_X7_fill_26 h_r3
  · exact k_X7_fill_26 h
theorem k_X7_outOfBuffer {w0 : sw_St} {σ : sw_St} {x1 : Int32} {x2 : Int32} (h : kM w0 σ) : KG (fun r => kM w0 r.2) (f_X7_outOfBuffer σ x1 x2) := by
  unfold f_X7_outOfBuffer
  refine kg_bind (fun r1 => ?_)
  refine kg_ck (fun _ => ?_)
  refine kg_ck (fun _ => ?_)
  refine kg_pt (kM_up h (by decide)) (fun s4 h_s4 => ?_)
  refine kg_ite (fun _ => ?_) (fun _ => ?_)
  · refine kg_ite (fun _ => ?_) (fun _ => ?_)
    · refine kg_ck (fun _ => ?_)
      refine kg_pt (kM_up h_s4 (by decide)) (fun s6 h_s6 => ?_)
      refine kg_pt (kM_up h_s6 (by decide)) (fun s7 h_s7 => ?_)
      exact kg_some h_s7
    · exact kg_some h_s4
  · exact kg_some h_s4
theorem k_X7_noMore_14 {w0 : sw_St} : ∀ {n : Nat} {σ : sw_St} {x2 : Int32}, kM w0 σ → KG (kM w0) (f_X7_noMore_14 n σ x2) := by
  intro n
  induction n with
  | zero => intro σ x2 h; rw [f_X7_noMore_14]; exact kg_none
  | succ n ih =>
    intro σ x2 h
    rw [f_X7_noMore_14]
    refine kg_ite (fun _ => ?_) (fun _ => ?_)
    · exact kg_some h
    · refine kg_ck (fun _ => ?_)
      refine kg_ck (fun _ => ?_)
      refine kg_pt (kM_up h (by decide)) (fun s3 h_s3 => ?_)
      exact ih h_s3
theorem k_X7_noMore {w0 : sw_St} {σ : sw_St} {x1 : Int32} (h : kM w0 σ) : KG (kM w0) (f_X7_noMore σ x1) := by
  unfold f_X7_noMore
  refine kg_pt (kM_1 h (by decide)) (fun s1 h_s1 => ?_)
  exact k_X7_noMore_14 h_s1
theorem k_X7_noBack_7 {w0 : sw_St} : ∀ {n : Nat} {σ : sw_St} {x1 : Int32} {x2 : Int32} {x3 : Int32}, kM w0 σ → KG (kM w0) (f_X7_noBack_7 n σ x1 x2 x3) := by
  intro n
  induction n with
  | zero => intro σ x1 x2 x3 h; rw [f_X7_noBack_7]; exact kg_none
  | succ n ih =>
    intro σ x1 x2 x3 h
    rw [f_X7_noBack_7]
    refine kg_ite (fun _ => ?_) (fun _ => ?_)
    · exact kg_some h
    · refine kg_ck (fun _ => ?_)
      refine kg_ite (fun _ => ?_) (fun _ => ?_)
      · refine kg_ck (fun _ => ?_)
        refine kg_ite (fun _ => ?_) (fun _ => ?_)
        · refine kg_ck (fun _ => ?_)
          refine kg_ite (fun _ => ?_) (fun _ => ?_)
          · refine kg_bindM (k_X7_noMore h) (fun r4 h_r4 => ?_)
            exact ih h_r4
          · exact ih h
        · exact ih h
      · exact ih h
theorem k_X7_noBack {w0 : sw_St} {σ : sw_St} {x1 : Int32} {x2 : Int32} (h : kM w0 σ) : KG (kM w0) (f_X7_noBack σ x1 x2) := by
  unfold f_X7_noBack
  exact k_X7_noBack_7 h
theorem k_X7_begins {w0 : sw_St} {σ : sw_St} {x1 : Int32} {x2 : Int32} {x3 : Int32} {x4 : Int32} (h : kM w0 σ) : KG (kM w0) (f_X7_begins σ x1 x2 x3 x4) := by
  unfold f_X7_begins
  refine kg_ck (fun _ => ?_)
  refine kg_pt (kM_up h (by decide)) (fun s2 h_s2 => ?_)
  refine kg_pt (kM_up h_s2 (by decide)) (fun s3 h_s3 => ?_)
  refine kg_pt (kM_up h_s3 (by decide)) (fun s4 h_s4 => ?_)
  refine kg_pt (kM_up h_s4 (by decide)) (fun s5 h_s5 => ?_)
  exact kg_some h_s5
theorem k_X7_isHere_43 {w0 : sw_St} {σ : sw_St} {x1 : Int32} {x2 : Int32} (h : kM w0 σ) : KG (fun r => kM w0 r.2) (f_X7_isHere_43 σ x1 x2) := by
  unfold f_X7_isHere_43
  refine kg_bind (fun r1 => ?_)
  refine kg_ite (fun _ => ?_) (fun _ => ?_)
  · exact kg_some h
  · exact kg_some h
theorem k_X7_isHere {w0 : sw_St} {σ : sw_St} {x1 : Int32} {x2 : Int32} (h : kM w0 σ) : KG (fun r => kM w0 r.2) (f_X7_isHere σ x1 x2) := by
  unfold f_X7_isHere
  refine kg_bind (fun r1 => ?_)
  refine kg_ite (fun _ => ?_) (fun _ => ?_)
  · refine kg_bind (fun r2 => ?_)
    refine kg_ite (fun _ => ?_) (fun _ => ?_)
    · exact k_X7_isHere_43 h
    · refine kg_bindM (k_X7_outOfBuffer h) (fun r3 h_r3 => ?_)
      refine kg_bindM (k_X7_noBack h_r3) (fun r4 h_r4 => ?_)
      refine kg_bindM (k_X7_fill h_r4) (fun r5 h_r5 => ?_)
      exact k_X7_isHere_43 h_r5
  · exact k_X7_isHere_43 h
theorem k_X7_read {w0 : sw_St} {σ : sw_St} {x1 : Int32} {x2 : Int32} (h : kM w0 σ) : KG (fun r => kM w0 r.2) (f_X7_read σ x1 x2) := by
  unfold f_X7_read
  refine kg_bind (fun r1 => ?_)
  refine kg_ite (fun _ => ?_) (fun _ => ?_)
  · exact kg_some h
  · refine kg_bind (fun r2 => ?_)
    refine kg_ite (fun _ => ?_) (fun _ => ?_)
    · exact kg_some h
    · refine kg_ck (fun _ => ?_)
      refine kg_ite (fun _ => ?_) (fun _ => ?_)
      · refine kg_bindM (k_X7_isHere h) (fun r4 h_r4 => ?_)
        refine kg_ite (fun _ => ?_) (fun _ => ?_)
        · refine kg_bindM (k_X7_begins h_r4) (fun r10 h_r10 => ?_)
          refine kg_bindM (k_X7_asks h_r10) (fun r11 h_r11 => ?_)
          exact kg_some h_r11
        · refine kg_bind (fun r5 => ?_)
          refine kg_ck (fun _ => ?_)
          refine kg_pt (kM_up h_r4 (by decide)) (fun s7 h_s7 => ?_)
          refine kg_bindM (k_X7_use h_s7) (fun r8 h_r8 => ?_)
          refine kg_pt (kM_1 h_r8 (by decide)) (fun s9 h_s9 => ?_)
          exact kg_some h_s9
      · exact kg_some h
theorem k_X7_store_103 {w0 : sw_St} {σ : sw_St} {x1 : Int32} {x2 : Int32} {y0 : Int32} (h : kM w0 σ) : KG (fun r => kM w0 r.2) (f_X7_store_103 σ x1 x2 y0) := by
  unfold f_X7_store_103
  refine kg_bindM (k_X7_asks h) (fun r1 h_r1 => ?_)
  exact kg_some h_r1
theorem k_X7_store_84 {w0 : sw_St} {σ : sw_St} {x1 : Int32} {x2 : Int32} {x3 : Int32} {x4 : Int32} (h : kM w0 σ) : KG (fun r => kM w0 r.2) (f_X7_store_84 σ x1 x2 x3 x4) := by
  unfold f_X7_store_84
  refine kg_bindM (k_X7_begins h) (fun r1 h_r1 => ?_)
  refine kg_ite (fun _ => ?_) (fun _ => ?_)
  · exact k_X7_store_103 h_r1
  · exact k_X7_store_103 h_r1
theorem k_X7_store {w0 : sw_St} {σ : sw_St} {x1 : Int32} {x2 : Int32} {x3 : Int32} (h : kM w0 σ) : KG (fun r => kM w0 r.2) (f_X7_store σ x1 x2 x3) := by
  unfold f_X7_store
  refine kg_bind (fun r1 => ?_)
  refine kg_ite (fun _ => ?_) (fun _ => ?_)
  · exact kg_some h
  · refine kg_bind (fun r2 => ?_)
    refine kg_ite (fun _ => ?_) (fun _ => ?_)
    · exact kg_some h
    · refine kg_bind (fun r3 => ?_)
      refine kg_ite (fun _ => ?_) (fun _ => ?_)
      · exact kg_some h
      · refine kg_ck (fun _ => ?_)
        refine kg_ite (fun _ => ?_) (fun _ => ?_)
        · refine kg_bindM (k_X7_isHere h) (fun r5 h_r5 => ?_)
          refine kg_ite (fun _ => ?_) (fun _ => ?_)
          · exact k_X7_store_84 h_r5
          · refine kg_bind (fun r6 => ?_)
            refine kg_ite (fun _ => ?_) (fun _ => ?_)
            · exact k_X7_store_84 h_r5
            · refine kg_bindM (k_X7_use h_r5) (fun r7 h_r7 => ?_)
              refine kg_pt (kM_1 h_r7 (by decide)) (fun s8 h_s8 => ?_)
              exact kg_some h_s8
        · exact kg_some h
theorem k_X7_drop_49 {w0 : sw_St} {σ : sw_St} {x1 : Int32} {x2 : Int32} {x3 : Int32} (h : kM w0 σ) : KG (fun r => kM w0 r.2) (f_X7_drop_49 σ x1 x2 x3) := by
  unfold f_X7_drop_49
  refine kg_bindM (k_X7_giveUp h) (fun r1 h_r1 => ?_)
  exact kg_some h_r1
theorem k_X7_drop {w0 : sw_St} {σ : sw_St} {x1 : Int32} {x2 : Int32} (h : kM w0 σ) : KG (fun r => kM w0 r.2) (f_X7_drop σ x1 x2) := by
  unfold f_X7_drop
  refine kg_bind (fun r1 => ?_)
  refine kg_ite (fun _ => ?_) (fun _ => ?_)
  · exact kg_some h
  · refine kg_bind (fun r2 => ?_)
    refine kg_ite (fun _ => ?_) (fun _ => ?_)
    · exact kg_some h
    · refine kg_bind (fun r3 => ?_)
      refine kg_ite (fun _ => ?_) (fun _ => ?_)
      · exact kg_some h
      · refine kg_ite (fun _ => ?_) (fun _ => ?_)
        · refine kg_ck (fun _ => ?_)
          refine kg_ite (fun _ => ?_) (fun _ => ?_)
          · exact kg_some h
          · exact k_X7_drop_49 h
        · exact k_X7_drop_49 h
theorem k_X7_ends {w0 : sw_St} {σ : sw_St} {x1 : Int32} (h : kM w0 σ) : KG (kM w0) (f_X7_ends σ x1) := by
  unfold f_X7_ends
  refine kg_ck (fun _ => ?_)
  refine kg_pt (kM_up h (by decide)) (fun s2 h_s2 => ?_)
  refine kg_pt (kM_1 h_s2 (by decide)) (fun s3 h_s3 => ?_)
  exact kg_some h_s3
theorem k_X7_answer_195 {w0 : sw_St} {σ : sw_St} {x2 : Int32} {y0 : Int32} {y1 : Int32} (h : kM w0 σ) : KG (fun r => kM w0 r.2) (f_X7_answer_195 σ x2 y0 y1) := by
  unfold f_X7_answer_195
  refine kg_ck (fun _ => ?_)
  refine kg_pt (kM_up h (by decide)) (fun s2 h_s2 => ?_)
  refine kg_bindM (k_X7_ends h_s2) (fun r3 h_r3 => ?_)
  refine kg_pt (kM_1 h_r3 (by decide)) (fun s4 h_s4 => ?_)
  exact kg_some h_s4
theorem k_X7_answer_124 {w0 : sw_St} : ∀ {n : Nat} {σ : sw_St} {x2 : Int32} {x3 : Int32} {x4 : Int32} {x5 : Int32} {x6 : Int32}, kM w0 σ → KG (fun r => kM w0 r.2) (f_X7_answer_124 n σ x2 x3 x4 x5 x6) := by
  intro n
  induction n with
  | zero => intro σ x2 x3 x4 x5 x6 h; rw [f_X7_answer_124]; exact kg_none
  | succ n ih =>
    intro σ x2 x3 x4 x5 x6 h
    rw [f_X7_answer_124]
    refine kg_ite (fun _ => ?_) (fun _ => ?_)
    · refine kg_bindM (k_X7_fill h) (fun r1 h_r1 => ?_)
      refine kg_ck (fun _ => ?_)
      refine kg_ite (fun _ => ?_) (fun _ => ?_)
      · exact k_X7_answer_195 h_r1
      · exact k_X7_answer_195 h_r1
    · refine kg_ck (fun _ => ?_)
      refine kg_ck (fun _ => ?_)
      refine kg_pt (kM_up h (by decide)) (fun s5 h_s5 => ?_)
      exact ih h_s5
theorem k_X7_answer_106 {w0 : sw_St} {σ : sw_St} {x1 : Int32} {x2 : Int32} {x3 : Int32} {x4 : Int32} {y0 : Int32} (h : kM w0 σ) : KG (fun r => kM w0 r.2) (f_X7_answer_106 σ x1 x2 x3 x4 y0) := by
  unfold f_X7_answer_106
  refine kg_pt (kM_1 h (by decide)) (fun s1 h_s1 => ?_)
  exact k_X7_answer_124 h_s1
theorem k_X7_answer_2 {w0 : sw_St} : ∀ {n : Nat} {σ : sw_St} {x1 : Int32}, kM w0 σ → KG (fun r => kM w0 r.2) (f_X7_answer_2 n σ x1) := by
  intro n
  induction n with
  | zero => intro σ x1 h; rw [f_X7_answer_2]; exact kg_none
  | succ n ih =>
    intro σ x1 h
    rw [f_X7_answer_2]
    refine kg_ite (fun _ => ?_) (fun _ => ?_)
    · exact kg_some h
    · refine kg_ck (fun _ => ?_)
      refine kg_ck (fun _ => ?_)
      refine kg_ite (fun _ => ?_) (fun _ => ?_)
      · exact ih h
      · refine kg_bind (fun r3 => ?_)
        refine kg_ite (fun _ => ?_) (fun _ => ?_)
        · exact ih h
        · refine kg_ck (fun _ => ?_)
          refine kg_ck (fun _ => ?_)
          refine kg_ck (fun _ => ?_)
          refine kg_ite (fun _ => ?_) (fun _ => ?_)
          · refine kg_ck (fun _ => ?_)
            exact k_X7_answer_106 h
          · refine kg_ck (fun _ => ?_)
            exact k_X7_answer_106 h
theorem k_X7_answer {w0 : sw_St} {σ : sw_St} (h : kM w0 σ) : KG (fun r => kM w0 r.2) (f_X7_answer σ) := by
  unfold f_X7_answer
  exact k_X7_answer_2 h
theorem k_X7_orders_61 {w0 : sw_St} {σ : sw_St} {x1 : Int32} {x2 : Int32} {x3 : Int32} {y0 : Int32} (h : kM w0 σ) : KG (kM w0) (f_X7_orders_61 σ x1 x2 x3 y0) := by
  unfold f_X7_orders_61
  refine kg_ck (fun _ => ?_)
  refine kg_pt (kM_up h (by decide)) (fun s2 h_s2 => ?_)
  refine kg_ck (fun _ => ?_)
  refine kg_pt (kM_up h_s2 (by decide)) (fun s4 h_s4 => ?_)
  refine kg_ck (fun _ => ?_)
  refine kg_pt (kM_up h_s4 (by decide)) (fun s6 h_s6 => ?_)
  refine kg_pt (kM_1 h_s6 (by decide)) (fun s7 h_s7 => ?_)
  exact kg_some h_s7
theorem k_X7_orders_41 {w0 : sw_St} {σ : sw_St} {x1 : Int32} {x2 : Int32} {x3 : Int32} (h : kM w0 σ) : KG (kM w0) (f_X7_orders_41 σ x1 x2 x3) := by
  unfold f_X7_orders_41
  refine kg_ite (fun _ => ?_) (fun _ => ?_)
  · exact k_X7_orders_61 h
  · exact k_X7_orders_61 h
theorem k_X7_orders_12 {w0 : sw_St} : ∀ {n : Nat} {σ : sw_St} {x1 : Int32} {x2 : Int32} {x3 : Int32} {x4 : Int32}, kM w0 σ → KG (kM w0) (f_X7_orders_12 n σ x1 x2 x3 x4) := by
  intro n
  induction n with
  | zero => intro σ x1 x2 x3 x4 h; rw [f_X7_orders_12]; exact kg_none
  | succ n ih =>
    intro σ x1 x2 x3 x4 h
    rw [f_X7_orders_12]
    refine kg_ite (fun _ => ?_) (fun _ => ?_)
    · exact k_X7_orders_41 h
    · refine kg_ck (fun _ => ?_)
      refine kg_ck (fun _ => ?_)
      refine kg_pt (kM_up h (by decide)) (fun s3 h_s3 => ?_)
      exact ih h_s3
theorem k_X7_orders {w0 : sw_St} {σ : sw_St} {x1 : Int32} {x2 : Int32} {x3 : Int32} (h : kM w0 σ) : KG (kM w0) (f_X7_orders σ x1 x2 x3) := by
  unfold f_X7_orders
  refine kg_ite (fun _ => ?_) (fun _ => ?_)
  · exact k_X7_orders_41 h
  · exact k_X7_orders_12 h
theorem k_X7_noOther_2 {w0 : sw_St} : ∀ {n : Nat} {σ : sw_St} {x1 : Int32} {x2 : Int32} {x3 : Int32}, kM w0 σ → KG (kM w0) (f_X7_noOther_2 n σ x1 x2 x3) := by
  intro n
  induction n with
  | zero => intro σ x1 x2 x3 h; rw [f_X7_noOther_2]; exact kg_none
  | succ n ih =>
    intro σ x1 x2 x3 h
    rw [f_X7_noOther_2]
    refine kg_ite (fun _ => ?_) (fun _ => ?_)
    · exact kg_some h
    · refine kg_ite (fun _ => ?_) (fun _ => ?_)
      · exact ih h
      · refine kg_bindM (k_X7_takeOut h) (fun r1 h_r1 => ?_)
        exact ih h_r1
theorem k_X7_noOther {w0 : sw_St} {σ : sw_St} {x1 : Int32} {x2 : Int32} (h : kM w0 σ) : KG (kM w0) (f_X7_noOther σ x1 x2) := by
  unfold f_X7_noOther
  exact k_X7_noOther_2 h
theorem k_X7_opens_257 {w0 : sw_St} {σ : sw_St} {x4 : Int32} {x7 : Int32} {x9 : Int32} {y0 : Int32} {y1 : Int32} (h : kM w0 σ) : KG (kM w0) (f_X7_opens_257 σ x4 x7 x9 y0 y1) := by
  unfold f_X7_opens_257
  refine kg_ck (fun _ => ?_)
  refine kg_pt (kM_up h (by decide)) (fun s2 h_s2 => ?_)
  refine kg_ck (fun _ => ?_)
  refine kg_pt (kM_up h_s2 (by decide)) (fun s4 h_s4 => ?_)
  refine kg_ck (fun _ => ?_)
  refine kg_pt (kM_up h_s4 (by decide)) (fun s6 h_s6 => ?_)
  refine kg_pt (kM_1 h_s6 (by decide)) (fun s7 h_s7 => ?_)
  exact kg_some h_s7
theorem k_X7_opens_175 {w0 : sw_St} {σ : sw_St} {x1 : Int32} {x2 : Int32} {x3 : Int32} {x4 : Int32} {x7 : Int32} {x8 : Int32} (h : kM w0 σ) : KG (kM w0) (f_X7_opens_175 σ x1 x2 x3 x4 x7 x8) := by
  unfold f_X7_opens_175
  refine kg_ck (fun _ => ?_)
  refine kg_pt (kM_up h (by decide)) (fun s2 h_s2 => ?_)
  refine kg_ck (fun _ => ?_)
  refine kg_pt (kM_up h_s2 (by decide)) (fun s4 h_s4 => ?_)
  refine kg_ck (fun _ => ?_)
  refine kg_pt (kM_up h_s4 (by decide)) (fun s6 h_s6 => ?_)
  refine kg_ck (fun _ => ?_)
  refine kg_pt (kM_up h_s6 (by decide)) (fun s8 h_s8 => ?_)
  refine kg_ite (fun _ => ?_) (fun _ => ?_)
  · exact k_X7_opens_257 h_s8
  · refine kg_bind (fun r9 => ?_)
    refine kg_ite (fun _ => ?_) (fun _ => ?_)
    · exact k_X7_opens_257 h_s8
    · exact k_X7_opens_257 h_s8
theorem k_X7_opens_134 {w0 : sw_St} {σ : sw_St} {x1 : Int32} {x2 : Int32} {x3 : Int32} {x4 : Int32} {x5 : Int32} {x7 : Int32} {x8 : Int32} (h : kM w0 σ) : KG (kM w0) (f_X7_opens_134 σ x1 x2 x3 x4 x5 x7 x8) := by
  unfold f_X7_opens_134
  refine kg_ite (fun _ => ?_) (fun _ => ?_)
  · refine kg_ck (fun _ => ?_)
    refine kg_pt (kM_up h (by decide)) (fun s3 h_s3 => ?_)
    refine kg_ite (fun _ => ?_) (fun _ => ?_)
    · exact k_X7_opens_175 h_s3
    · refine kg_bind (fun r4 => ?_)
      refine kg_ck (fun _ => ?_)
      refine kg_pt (kM_up h_s3 (by decide)) (fun s6 h_s6 => ?_)
      exact k_X7_opens_175 h_s6
  · refine kg_bindM (k_X7_noOther h) (fun r1 h_r1 => ?_)
    exact k_X7_opens_175 h_r1
theorem k_X7_opens_109 {w0 : sw_St} {σ : sw_St} {x1 : Int32} {x2 : Int32} {x3 : Int32} {x4 : Int32} {x5 : Int32} {x6 : Int32} {x7 : Int32} {y0 : Int32} {y1 : Int32} (h : kM w0 σ) : KG (kM w0) (f_X7_opens_109 σ x1 x2 x3 x4 x5 x6 x7 y0 y1) := by
  unfold f_X7_opens_109
  refine kg_ite (fun _ => ?_) (fun _ => ?_)
  · exact k_X7_opens_134 h
  · refine kg_bindM (k_X7_outOfBuffer h) (fun r1 h_r1 => ?_)
    refine kg_bindM (k_X7_noBack h_r1) (fun r2 h_r2 => ?_)
    exact k_X7_opens_134 h_r2
theorem k_X7_opens_98 {w0 : sw_St} {σ : sw_St} {x1 : Int32} {x2 : Int32} {x3 : Int32} {x4 : Int32} {x5 : Int32} {x6 : Int32} {x7 : Int32} {y0 : Int32} (h : kM w0 σ) : KG (kM w0) (f_X7_opens_98 σ x1 x2 x3 x4 x5 x6 x7 y0) := by
  unfold f_X7_opens_98
  exact k_X7_opens_109 h
theorem k_X7_opens_78 {w0 : sw_St} {σ : sw_St} {x1 : Int32} {x2 : Int32} {x3 : Int32} {x4 : Int32} {x5 : Int32} {x6 : Int32} {y0 : Int32} (h : kM w0 σ) : KG (kM w0) (f_X7_opens_78 σ x1 x2 x3 x4 x5 x6 y0) := by
  unfold f_X7_opens_78
  refine kg_ite (fun _ => ?_) (fun _ => ?_)
  · refine kg_ite (fun _ => ?_) (fun _ => ?_)
    · exact k_X7_opens_109 h
    · exact k_X7_opens_98 h
  · exact k_X7_opens_98 h
theorem k_X7_opens_26 {w0 : sw_St} {σ : sw_St} {x1 : Int32} {x2 : Int32} {x3 : Int32} {x4 : Int32} {x5 : Int32} {y0 : Int32} (h : kM w0 σ) : KG (kM w0) (f_X7_opens_26 σ x1 x2 x3 x4 x5 y0) := by
  unfold f_X7_opens_26
  refine kg_ite (fun _ => ?_) (fun _ => ?_)
  · refine kg_ite (fun _ => ?_) (fun _ => ?_)
    · refine kg_ck (fun _ => ?_)
      exact k_X7_opens_78 h
    · refine kg_bind (fun r2 => ?_)
      refine kg_ck (fun _ => ?_)
      exact k_X7_opens_78 h
  · refine kg_bind (fun r4 => ?_)
    refine kg_ck (fun _ => ?_)
    exact k_X7_opens_78 h
theorem k_X7_opens {w0 : sw_St} {σ : sw_St} {x1 : Int32} {x2 : Int32} {x3 : Int32} {x4 : Int32} (h : kM w0 σ) : KG (kM w0) (f_X7_opens σ x1 x2 x3 x4) := by
  unfold f_X7_opens
  refine kg_bind (fun r1 => ?_)
  refine kg_ite (fun _ => ?_) (fun _ => ?_)
  · refine kg_bind (fun r2 => ?_)
    exact k_X7_opens_26 h
  · exact k_X7_opens_26 h
theorem k_X7_address_249 {w0 : sw_St} {σ : sw_St} {x3 : Int32} {x4 : Int32} {x5 : Int32} {y0 : Int32} (h : kM w0 σ) : KG (fun r => kM w0 r.2) (f_X7_address_249 σ x3 x4 x5 y0) := by
  unfold f_X7_address_249
  refine kg_bindM (k_X7_opens h) (fun r1 h_r1 => ?_)
  exact kg_some h_r1
theorem k_X7_address_234 {w0 : sw_St} {σ : sw_St} {x2 : Int32} {x3 : Int32} {x4 : Int32} {x5 : Int32} {y0 : Int32} {y1 : Int32} (h : kM w0 σ) : KG (fun r => kM w0 r.2) (f_X7_address_234 σ x2 x3 x4 x5 y0 y1) := by
  unfold f_X7_address_234
  refine kg_bindM (k_X7_orders h) (fun r1 h_r1 => ?_)
  refine kg_ite (fun _ => ?_) (fun _ => ?_)
  · exact k_X7_address_249 h_r1
  · exact k_X7_address_249 h_r1
theorem k_X7_address_207 {w0 : sw_St} {σ : sw_St} {x2 : Int32} {x3 : Int32} {x4 : Int32} {x5 : Int32} {y0 : Int32} {y1 : Int32} (h : kM w0 σ) : KG (fun r => kM w0 r.2) (f_X7_address_207 σ x2 x3 x4 x5 y0 y1) := by
  unfold f_X7_address_207
  refine kg_pt (kM_1 h (by decide)) (fun s1 h_s1 => ?_)
  refine kg_ite (fun _ => ?_) (fun _ => ?_)
  · exact k_X7_address_234 h_s1
  · refine kg_ite (fun _ => ?_) (fun _ => ?_)
    · exact k_X7_address_234 h_s1
    · exact k_X7_address_234 h_s1
theorem k_X7_address_192 {w0 : sw_St} {σ : sw_St} {x2 : Int32} {x3 : Int32} {x4 : Int32} {x5 : Int32} (h : kM w0 σ) : KG (fun r => kM w0 r.2) (f_X7_address_192 σ x2 x3 x4 x5) := by
  unfold f_X7_address_192
  refine kg_ite (fun _ => ?_) (fun _ => ?_)
  · exact k_X7_address_207 h
  · exact k_X7_address_207 h
theorem k_X7_address {w0 : sw_St} {σ : sw_St} (h : kM w0 σ) : KG (fun r => kM w0 r.2) (f_X7_address σ) := by
  unfold f_X7_address
  refine kg_bind (fun r1 => ?_)
  refine kg_ite (fun _ => ?_) (fun _ => ?_)
  · exact kg_some h
  · refine kg_ck (fun _ => ?_)
    refine kg_ck (fun _ => ?_)
    refine kg_ck (fun _ => ?_)
    refine kg_ck (fun _ => ?_)
    refine kg_bindM (k_X7_noMore h) (fun r6 h_r6 => ?_)
    refine kg_bind (fun r7 => ?_)
    refine kg_ite (fun _ => ?_) (fun _ => ?_)
    · refine kg_ite (fun _ => ?_) (fun _ => ?_)
      · refine kg_bindM (k_X7_outOfBuffer h_r6) (fun r14 h_r14 => ?_)
        refine kg_ck (fun _ => ?_)
        refine kg_pt (kM_up h_r14 (by decide)) (fun s16 h_s16 => ?_)
        refine kg_bindM (k_X7_orders h_s16) (fun r17 h_r17 => ?_)
        exact kg_some h_r17
      · refine kg_ite (fun _ => ?_) (fun _ => ?_)
        · refine kg_bind (fun r8 => ?_)
          refine kg_ite (fun _ => ?_) (fun _ => ?_)
          · refine kg_bindM (k_X7_noOther h_r6) (fun r9 h_r9 => ?_)
            refine kg_ck (fun _ => ?_)
            refine kg_bindM (k_X7_use h_r9) (fun r11 h_r11 => ?_)
            refine kg_bindM (k_X7_ends h_r11) (fun r12 h_r12 => ?_)
            refine kg_bindM (k_X7_orders h_r12) (fun r13 h_r13 => ?_)
            exact kg_some h_r13
          · exact k_X7_address_192 h_r6
        · exact k_X7_address_192 h_r6
    · refine kg_bindM (k_X7_asks h_r6) (fun r18 h_r18 => ?_)
      refine kg_ck (fun _ => ?_)
      refine kg_pt (kM_up h_r18 (by decide)) (fun s20 h_s20 => ?_)
      refine kg_pt (kM_1 h_s20 (by decide)) (fun s21 h_s21 => ?_)
      exact kg_some h_s21
theorem k_X7_oneTurn_22 {w0 : sw_St} {σ : sw_St} {y0 : Int32} (h : kM w0 σ) : KG (fun r => kM w0 r.2) (f_X7_oneTurn_22 σ y0) := by
  unfold f_X7_oneTurn_22
  refine kg_bindM (k_X7_address h) (fun r1 h_r1 => ?_)
  exact kg_some h_r1
theorem k_X7_oneTurn {w0 : sw_St} {σ : sw_St} (h : kM w0 σ) : KG (fun r => kM w0 r.2) (f_X7_oneTurn σ) := by
  unfold f_X7_oneTurn
  refine kg_pt (kM_1 h (by decide)) (fun s1 h_s1 => ?_)
  refine kg_bindM (k_X7_answer h_s1) (fun r2 h_r2 => ?_)
  refine kg_ite (fun _ => ?_) (fun _ => ?_)
  · exact k_X7_oneTurn_22 h_r2
  · exact k_X7_oneTurn_22 h_r2
theorem k_X7_turn_18 {w0 : sw_St} : ∀ {n : Nat} {σ : sw_St} {x1 : Int32} {x2 : Int32} {x3 : Int32}, kM w0 σ → KG (fun r => kM w0 r.2) (f_X7_turn_18 n σ x1 x2 x3) := by
  intro n
  induction n with
  | zero => intro σ x1 x2 x3 h; rw [f_X7_turn_18]; exact kg_none
  | succ n ih =>
    intro σ x1 x2 x3 h
    rw [f_X7_turn_18]
    refine kg_ite (fun _ => ?_) (fun _ => ?_)
    · exact kg_some h
    · refine kg_bindM (k_X7_oneTurn h) (fun r1 h_r1 => ?_)
      exact ih h_r1
theorem k_X7_turn {w0 : sw_St} {σ : sw_St} {x1 : Int32} (h : kM w0 σ) : KG (fun r => kM w0 r.2) (f_X7_turn σ x1) := by
  unfold f_X7_turn
  refine kg_bind (fun r1 => ?_)
  refine kg_ite (fun _ => ?_) (fun _ => ?_)
  · exact kg_some h
  · exact k_X7_turn_18 h
