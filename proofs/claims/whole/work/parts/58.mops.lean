/-! PURE: read, store, drop in the model -/
abbrev okC (s : Sx) (a : Int32) : Prop := 0 ≤ a.toInt ∧ a.toInt < (gSc s 0).toInt
abbrev okL (b : Int32) : Prop := 0 ≤ b.toInt ∧ b.toInt < 8
theorem m_isCore {s : Sx} {y : sw_St} {C : Nat} (h : RM s y) (hC : gSc s 0 = nI C) (hC1 : 2 ≤ C) (hC4 : C ≤ 4) (a : Int32) : f_X7_isCore y a = some (if okC s a then 1 else 0) := by
  have h0 : y 1 0 = gSc s 0 := h.1.1
  unfold f_X7_isCore okC
  rw [m_in, bd_s, ck_t (b01 _ _), h0, hC, nl_1, pn_sub (by omega), Int32.toInt_toInt64, nI_toInt (by omega), nI_toInt (by omega)]
  by_cases q : 0 ≤ a.toInt ∧ a.toInt < (C : Int)
  · rw [if_pos q, if_pos ⟨q.1, by omega⟩]
  · rw [if_neg q, if_neg (fun z => q ⟨z.1, by omega⟩)]
theorem m_isLine (y : sw_St) (a : Int32) : f_X7_isLine y a = some (if okL a then 1 else 0) := by
  unfold f_X7_isLine okL
  rw [m_in, bd_s, ck_t (b01 _ _)]
  by_cases q : 0 ≤ a.toInt ∧ a.toInt < 8
  · rw [if_pos q, if_pos ⟨q.1, by have := q.2; show a.toInt ≤ 7; omega⟩]
  · rw [if_neg q, if_neg (fun z => q ⟨z.1, by have : a.toInt ≤ 7 := z.2; omega⟩)]
theorem okC_ex {s : Sx} {a : Int32} {C : Nat} (hC : gSc s 0 = nI C) (hC4 : C ≤ 4) (h : okC s a) : ∃ c, c < C ∧ a = nI c := by
  have h2 := h.2
  rw [hC, nI_toInt (by omega)] at h2
  exact ok_ex ⟨h.1, h2⟩ (by omega)
theorem okL_ex {a : Int32} (h : okL a) : ∃ l, l < 8 ∧ a = nI l := ok_ex (n := 8) ⟨h.1, h.2⟩ (by omega)
def aAsk (s : Sx) (k : Int32) (c : Nat) (v : Int32) : Sx := wAsk (wSc s 5 (gSc s 5 + 1)) (gAsk s ++ [mk [k, nI c, v, gSc s 5, 0, nI (3 * c)]])
def aRead1 (s : Sx) (c : Nat) (v : Int32) : Int32 × Sx := match ixf (gRow s c) 0 v with
  | some k => (getE (gRow s c) k 1, wSc (aUse (wOp s c (lOp (gOp s c) (getE (gRow s c) k 1))) c v (getE (gRow s c) k 1) (getE (gRow s c) k 2)) 9 (gSc s 9 + 1))
  | none => (-5, aAsk (wOp s c (mk [1, v, 0, gSc s 4, gOp s c 4])) 0 c v)
def aStore1 (s : Sx) (c : Nat) (v w : Int32) : Int32 × Sx := if howR (gRow s c) v < 2 then (-5, aAsk (wOp s c (mk [2, v, w, gSc s 4, gOp s c 4])) (if howR (gRow s c) v = 0 then 1 else 2) c v) else (0, wSc (aUse s c v w 3) 9 (gSc s 9 + 1))
def aGive (s : Sx) (c : Nat) (v : Int32) : Sx := match ixf (gRow s c) 0 v with
  | some k => aGiveK s c k
  | none => s
def aDrop1 (s : Sx) (c : Nat) (v : Int32) : Int32 × Sx := if howR (gRow s c) v = 0 then (-2, s) else if howR (gRow s c) v = 3 ∧ (gBuf s c).length = 2 then (-3, s) else (howR (gRow s c) v, aGive s c v)
def tRead (s : Sx) (a b : Int32) : Int32 × Sx := if okC s a ∧ okL b then (if gOp s (sw_ix a) 0 = 0 then aRead1 (aTake s (sw_ix a) b) (sw_ix a) b else (-2, s)) else (-1, s)
def tStore (s : Sx) (a b w : Int32) : Int32 × Sx := if okC s a ∧ okL b ∧ 0 ≤ w.toInt ∧ w.toInt ≤ 9999 then (if gOp s (sw_ix a) 0 = 0 then aStore1 (aTake s (sw_ix a) b) (sw_ix a) b w else (-2, s)) else (-1, s)
def tDrop (s : Sx) (a b : Int32) : Int32 × Sx := if okC s a ∧ okL b then aDrop1 s (sw_ix a) b else (-1, s)
/-- the answer and the new state -/
def Rm (t : Int32 × Sx) (r : Int32 × sw_St) : Prop := r.1 = t.1 ∧ RM t.2 r.2
def Nums (s : Sx) : Prop := ∃ C, gSc s 0 = nI C ∧ 2 ≤ C ∧ C ≤ 4
def Hows (s : Sx) : Prop := ∀ c, c < 4 → ∀ e ∈ gRow s c, e 2 = 1 ∨ e 2 = 2 ∨ e 2 = 3
theorem len_aGiveK (s : Sx) (c k : Nat) : (gAsk (aGiveK s c k)).length ≤ (gAsk s).length + 1 := by
  show (gAsk (if getE (gRow s c) k 2 = 3 then aBack s c (getE (gRow s c) k 0) (getE (gRow s c) k 1) else s)).length ≤ _
  split
  · show (gAsk s ++ [_]).length ≤ _
    rw [List.length_append]
    exact Nat.le_refl _
  · omega
theorem len_aFill (s : Sx) (c : Nat) (v w t : Int32) : (gAsk (aFill s c v w t)).length ≤ (gAsk s).length + 1 := by
  show (gAsk (if nI (gRow s c).length = gSc s 1 then aGiveK s c 0 else s)).length ≤ _
  split
  · exact len_aGiveK s c 0
  · omega
theorem len_aTake (s : Sx) (c : Nat) (v : Int32) : (gAsk (aTake s c v)).length ≤ (gAsk s).length + 1 := by
  unfold aTake
  split
  · omega
  · next k _ =>
    have h1 := len_aFill (aOut s c k v) c v (getE (gBuf s c) k 1) 3
    have h2 : (gAsk (aOut s c k v)).length ≤ (gAsk s).length := List.length_filter_le _ _
    omega
theorem how_0 {l : List E} {v : Int32} (h : ∀ e ∈ l, e 2 = 1 ∨ e 2 = 2 ∨ e 2 = 3) : howR l v = 0 ↔ ixf l 0 v = none := by
  unfold howR
  cases hx : ixf l 0 v with
  | none => simp
  | some k =>
    obtain ⟨e, h1, h2, h3⟩ := ixf_some hx
    have := h e (List.mem_of_getElem? h1)
    simp only [getE_s h1]
    constructor
    · intro z
      rcases this with q | q | q <;> rw [z] at q <;> exact absurd q (by decide)
    · intro z; cases z
theorem m_read1 {s : Sx} {y : sw_St} {c : Nat} {v : Int32} {b : Int32} (hc : c < 4) (h : RM s y) (hn : (gAsk s).length < 16) (hb : b = 0 ↔ ixf (gRow s c) 0 v = none) : wp (if b = 0 then ((f_X7_begins y (nI c) 1 v 0).bind fun r10 => ((f_X7_asks r10 0 (nI c) v).bind fun r11 => (some ((-5 : Int32), r11)))) else ((f_X7_at y (nI c) v).bind fun r5 => (sw_ck (sw_in r5 16) (sw_pt y 10 c (y 5 (sw_ix r5)) fun s7 => ((f_X7_use s7 (nI c) v (s7 5 (sw_ix r5)) (s7 6 (sw_ix r5))).bind fun r8 => (sw_pt r8 1 27 ((r8 1 27) + 1) fun s9 => (some ((s9 10 c), s9)))))))) (Rm (aRead1 s c v)) := by
  unfold aRead1
  cases hx : ixf (gRow s c) 0 v with
  | none =>
    rw [if_pos (hb.mpr hx)]
    refine wp_bindM (m_begins hc h) (fun y1 h1 => ?_)
    exact wp_bindM (m_asks (e := mk [0, nI c, v, gSc s 5, 0, nI (3 * c)]) h1 hn rfl rfl rfl rfl rfl) (fun y2 h2 => wp_some ⟨rfl, h2⟩)
  | some k =>
    obtain ⟨r1, r2, r3⟩ := h.2.2.1 c hc
    obtain ⟨e, h1, h2, h3⟩ := ixf_some hx
    obtain ⟨q1, q2, q3⟩ := r3 k e h1
    rw [if_neg (fun z => by rw [hb.mp z] at hx; cases hx), m_at1 hc (h.2.2.1 c hc) hx, bd_s, ck_t (pn_in (by omega) (by omega)), pn_ix (by omega), q2]
    simp only [sw_pt]
    rw [up_ne (by decide), up_ne (by decide), q2, q3, getE_s h1]
    have hl := m_last (v := e 1) hc h
    refine wp_bindM (m_use hc hl ⟨k, hx⟩) (fun y1 g1 => ?_)
    have g9 : y1 1 27 = gSc s 9 := by
      have := g1.1.2.2.2.2.2.2.2.2.2.1
      rw [this]
      show va_up (gSc s) (20 + c) _ 9 = _
      rw [up_n _ _ (by omega)]
    have g10 := ((g1.2.2.2.2.1) c hc).2.2.2.2
    have gs := RM_sc (v := gSc s 9 + 1) 9 (by decide) g1
    refine wp_some ⟨?_, ?_⟩
    · show sw_up y1 1 27 (y1 1 27 + 1) 10 c = e 1
      rw [up_ne (by decide), g10]
      show (va_up (gOp s) c (lOp (gOp s c) (e 1)) c) 4 = e 1
      rw [up_s]
      rfl
    · show RM _ (sw_up y1 1 27 (y1 1 27 + 1))
      rw [g9]
      exact gs
theorem m_read {s : Sx} {y : sw_St} (a b : Int32) (h : RM s y) (hN : Nums s) (hw : Wf s) : wp (f_X7_read y a b) (Rm (tRead s a b)) := by
  obtain ⟨C, hC, hC2, hC4⟩ := hN
  have hlen : (gAsk s).length ≤ 12 := by obtain ⟨K, -, -, -, -, q, -⟩ := hw; exact q
  unfold f_X7_read tRead
  rw [m_isCore h hC hC2 hC4, bd_s, m_isLine, bd_s]
  by_cases hc : okC s a
  · rw [if_pos hc, if_neg (by decide)]
    by_cases hb : okL b
    · rw [if_pos hb, if_neg (by decide), if_pos (show okC s a ∧ okL b from ⟨hc, hb⟩)]
      obtain ⟨c, hcC, rfl⟩ := okC_ex hC hC4 hc
      rw [ck_t (pn_in (by omega) (by omega)), pn_ix (by omega), (h.2.2.2.2.1 c (by omega)).1]
      by_cases ho : gOp s c 0 = 0
      · rw [if_pos ho, if_pos ho]
        refine wp_bindM (m_isHere (by omega) h hw) (fun r hr => ?_)
        exact m_read1 (by omega) hr.2 (by have := len_aTake s c b; omega) hr.1
      · rw [if_neg ho, if_neg ho]
        exact wp_some ⟨rfl, h⟩
    · rw [if_neg hb, if_pos rfl, if_neg (fun z => hb z.2)]
      exact wp_some ⟨rfl, h⟩
  · rw [if_neg hc, if_pos rfl, if_neg (fun z => hc z.1)]
    exact wp_some ⟨rfl, h⟩
theorem m_store1 {s : Sx} {y : sw_St} {c : Nat} {v w : Int32} {b : Int32} (hc : c < 4) (h : RM s y) (hh : ∀ e ∈ gRow s c, e 2 = 1 ∨ e 2 = 2 ∨ e 2 = 3) (hn : (gAsk s).length < 16) (hb : b = 0 ↔ ixf (gRow s c) 0 v = none) : wp (if b = 0 then (f_X7_store_84 y (nI c) v w b) else ((f_X7_howOf y (nI c) v).bind fun r6 => (if r6 < 2 then (f_X7_store_84 y (nI c) v w b) else ((f_X7_use y (nI c) v w 3).bind fun r7 => (sw_pt r7 1 27 ((r7 1 27) + 1) fun s8 => (some ((0 : Int32), s8))))))) (Rm (aStore1 s c v w)) := by
  have h0 := how_0 (v := v) hh
  have ask : ∀ k : Int32, wp ((f_X7_begins y (nI c) 2 v w).bind fun r1 => f_X7_store_103 r1 (nI c) v k) (Rm (-5, aAsk (wOp s c (mk [2, v, w, gSc s 4, gOp s c 4])) k c v)) := by
    intro k
    refine wp_bindM (m_begins hc h) (fun y1 h1 => ?_)
    unfold f_X7_store_103
    exact wp_bindM (m_asks (e := mk [k, nI c, v, gSc s 5, 0, nI (3 * c)]) h1 hn rfl rfl rfl rfl rfl) (fun y2 h2 => wp_some ⟨rfl, h2⟩)
  unfold aStore1 f_X7_store_84
  by_cases hz : b = 0
  · have e0 := h0.mpr (hb.mp hz)
    simp only [hz, if_true, e0]
    rw [if_pos (by decide)]
    exact ask 1
  · have e0 : howR (gRow s c) v ≠ 0 := fun z => hz (hb.mpr (h0.mp z))
    rw [if_neg hz, m_howOf v hc (h.2.2.1 c hc), bd_s]
    by_cases h2 : howR (gRow s c) v < 2
    · rw [if_pos h2, if_pos h2, if_neg e0]
      simp only [hz, if_false]
      exact ask 2
    · rw [if_neg h2, if_neg h2]
      have hx : ∃ k, ixf (gRow s c) 0 v = some k := by
        cases q : ixf (gRow s c) 0 v with
        | none => exact absurd (h0.mpr q) e0
        | some k => exact ⟨k, rfl⟩
      refine wp_bindM (m_use hc h hx) (fun y1 g1 => ?_)
      have g9 : y1 1 27 = gSc s 9 := by
        have := g1.1.2.2.2.2.2.2.2.2.2.1
        rw [this]
        show va_up (gSc s) (20 + c) _ 9 = _
        rw [up_n _ _ (by omega)]
      have gs := RM_sc (v := gSc s 9 + 1) 9 (by decide) g1
      simp only [sw_pt]
      refine wp_some ⟨rfl, ?_⟩
      show RM _ (sw_up y1 1 27 (y1 1 27 + 1))
      rw [g9]
      exact gs
theorem m_store {s : Sx} {y : sw_St} (a b w : Int32) (h : RM s y) (hN : Nums s) (hw : Wf s) (hh : ∀ c v, c < 4 → ∀ e ∈ gRow (aTake s c v) c, e 2 = 1 ∨ e 2 = 2 ∨ e 2 = 3) : wp (f_X7_store y a b w) (Rm (tStore s a b w)) := by
  obtain ⟨C, hC, hC2, hC4⟩ := hN
  have hlen : (gAsk s).length ≤ 12 := by obtain ⟨K, -, -, -, -, q, -⟩ := hw; exact q
  unfold f_X7_store tStore
  rw [m_isCore h hC hC2 hC4, bd_s, m_isLine, bd_s, m_in, bd_s]
  have e99 : (0 : Int64).toInt = 0 ∧ (9999 : Int64).toInt = 9999 := by decide
  rw [e99.1, e99.2]
  by_cases hc : okC s a
  · rw [if_pos hc, if_neg (by decide)]
    by_cases hb : okL b
    · rw [if_pos hb, if_neg (by decide)]
      by_cases hw' : 0 ≤ w.toInt ∧ w.toInt ≤ 9999
      · rw [if_pos hw', if_neg (by decide), if_pos (show okC s a ∧ okL b ∧ 0 ≤ w.toInt ∧ w.toInt ≤ 9999 from ⟨hc, hb, hw'⟩)]
        obtain ⟨c, hcC, rfl⟩ := okC_ex hC hC4 hc
        rw [ck_t (pn_in (by omega) (by omega)), pn_ix (by omega), (h.2.2.2.2.1 c (by omega)).1]
        by_cases ho : gOp s c 0 = 0
        · rw [if_pos ho, if_pos ho]
          refine wp_bindM (m_isHere (by omega) h hw) (fun r hr => ?_)
          exact m_store1 (by omega) hr.2 (hh c b (by omega)) (by have := len_aTake s c b; omega) hr.1
        · rw [if_neg ho, if_neg ho]
          exact wp_some ⟨rfl, h⟩
      · rw [if_neg hw', if_pos rfl, if_neg (fun z => hw' z.2.2)]
        exact wp_some ⟨rfl, h⟩
    · rw [if_neg hb, if_pos rfl, if_neg (fun z => hb z.2.1)]
      exact wp_some ⟨rfl, h⟩
  · rw [if_neg hc, if_pos rfl, if_neg (fun z => hc z.1)]
    exact wp_some ⟨rfl, h⟩
theorem m_drop {s : Sx} {y : sw_St} (a b : Int32) (h : RM s y) (hN : Nums s) (hw : Wf s) (hh : Hows s) : wp (f_X7_drop y a b) (Rm (tDrop s a b)) := by
  obtain ⟨C, hC, hC2, hC4⟩ := hN
  have hlen : (gAsk s).length ≤ 12 := by obtain ⟨K, -, -, -, -, q, -⟩ := hw; exact q
  unfold f_X7_drop tDrop
  rw [m_isCore h hC hC2 hC4, bd_s, m_isLine, bd_s]
  by_cases hc : okC s a
  · rw [if_pos hc, if_neg (by decide)]
    by_cases hb : okL b
    · rw [if_pos hb, if_neg (by decide), if_pos (show okC s a ∧ okL b from ⟨hc, hb⟩)]
      obtain ⟨c, hcC, rfl⟩ := okC_ex hC hC4 hc
      have h0 := how_0 (v := b) (hh c (by omega))
      obtain ⟨b1, b2, b3⟩ := h.2.2.2.1 c (by omega)
      rw [m_howOf b (by omega) (h.2.2.1 c (by omega)), bd_s, ck_t (pn_in (by omega) (by omega)), pn_ix (by omega), b1]
      unfold aDrop1
      have e2 : nI (gBuf s c).length = 2 ↔ (gBuf s c).length = 2 := nI_eq (b := 2) (by omega) (by omega)
      by_cases q0 : howR (gRow s c) b = 0
      · rw [if_pos q0, if_pos q0]
        exact wp_some ⟨rfl, h⟩
      · rw [if_neg q0, if_neg q0]
        have fin : (howR (gRow s c) b = 3 → (gBuf s c).length < 2) → wp (f_X7_drop_49 y (nI c) b (howR (gRow s c) b)) (Rm (howR (gRow s c) b, aGive s c b)) := by
          intro hlt
          unfold f_X7_drop_49 aGive
          cases q : ixf (gRow s c) 0 b with
          | none => exact absurd (h0.mpr q) q0
          | some k =>
            have ek : howR (gRow s c) b = getE (gRow s c) k 2 := by unfold howR; rw [q]
            refine wp_bindM (m_giveUp (by omega) h q (fun z => hlt (by rw [ek]; exact z)) (by omega)) (fun y1 h1 => wp_some ⟨rfl, h1⟩)
        by_cases q3 : howR (gRow s c) b = 3
        · rw [if_pos q3]
          by_cases ql : (gBuf s c).length = 2
          · rw [if_pos (e2.mpr ql), if_pos ⟨q3, ql⟩]
            exact wp_some ⟨rfl, h⟩
          · rw [if_neg (fun z => ql (e2.mp z)), if_neg (fun z => ql z.2)]
            exact fin (fun _ => by omega)
        · rw [if_neg q3, if_neg (fun z => q3 z.1)]
          exact fin (fun z => absurd z q3)
    · rw [if_neg hb, if_pos rfl, if_neg (fun z => hb z.2)]
      exact wp_some ⟨rfl, h⟩
  · rw [if_neg hc, if_pos rfl, if_neg (fun z => hc z.1)]
    exact wp_some ⟨rfl, h⟩
