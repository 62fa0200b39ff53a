/-! PURE: what always holds of the middle state -/
abbrev cN (s : Sx) : Nat := sw_ix (gSc s 0)
abbrev kN (s : Sx) : Nat := sw_ix (gSc s 1)
abbrev pN (s : Sx) : Nat := sw_ix (gSc s 5)
abbrev tN (s : Sx) : Nat := sw_ix (gSc s 6)
abbrev uN (s : Sx) (c : Nat) : Nat := sw_ix (gSc s (20 + c))
def iNum (b : Nat) (s : Sx) : Prop := (gSc s 0 = nI (cN s) ∧ 2 ≤ cN s ∧ cN s ≤ 4) ∧ (gSc s 1 = nI (kN s) ∧ 1 ≤ kN s ∧ kN s ≤ 4) ∧ (gSc s 5 = nI (pN s) ∧ pN s ≤ b) ∧ (gSc s 6 = nI (tN s) ∧ tN s ≤ b ∧ (gOrd s).length = min (tN s) 16) ∧ (∀ c, c < 4 → gSc s (20 + c) = nI (uN s c) ∧ uN s c ≤ b)
def rowOk (K u : Nat) (L : List E) : Prop := (∀ e ∈ L, (∃ l, l < 8 ∧ e 0 = nI l) ∧ (e 2 = 1 ∨ e 2 = 2 ∨ e 2 = 3) ∧ (∃ v, v ≤ u ∧ e 3 = nI v)) ∧ L.Pairwise (fun a b => a 0 ≠ b 0) ∧ L.Pairwise (fun a b => (a 3).toInt < (b 3).toInt) ∧ L.length ≤ K
def iRow (s : Sx) : Prop := ∀ c, c < 4 → rowOk (kN s) (uN s c) (gRow s c) ∧ (cN s ≤ c → gRow s c = [])
def bufOk (c : Nat) (A L : List E) : Prop := (∀ e ∈ L, (∃ l, l < 8 ∧ e 0 = nI l) ∧ ∃ i, i < 2 ∧ e 2 = nI i ∧ ∃ a ∈ A, a 0 = 3 ∧ a 1 = nI c ∧ a 2 = e 0 ∧ a 3 = e 3 ∧ a 5 = nI (3 * c + 1 + i)) ∧ L.Pairwise (fun a b => a 0 ≠ b 0) ∧ L.Pairwise (fun a b => a 2 ≠ b 2) ∧ L.Pairwise (fun a b => (a 3).toInt < (b 3).toInt) ∧ L.length ≤ 2
def iBuf (s : Sx) : Prop := ∀ c, c < 4 → bufOk c (gAsk s) (gBuf s c) ∧ (cN s ≤ c → gBuf s c = [])
/-- one that waits is as its core's op, or as its core's buffer, says -/
def askOk (op : Nat → E) (bf : Nat → List E) (C P : Nat) (a : E) : Prop := ∃ c l p, c < C ∧ a 1 = nI c ∧ l < 8 ∧ a 2 = nI l ∧ a 3 = nI p ∧ p < P ∧ ((a 0 = 3 ∧ ∃ e ∈ bf c, ∃ i, i < 2 ∧ e 2 = nI i ∧ e 0 = a 2 ∧ e 3 = a 3 ∧ a 5 = nI (3 * c + 1 + i)) ∨ ((a 0 = 0 ∨ a 0 = 1 ∨ a 0 = 2) ∧ a 5 = nI (3 * c) ∧ op c 0 = (if a 0 = 0 then 1 else 2) ∧ op c 1 = a 2))
def iAsk (s : Sx) : Prop := (∀ a ∈ gAsk s, askOk (gOp s) (gBuf s) (cN s) (pN s) a) ∧ (gAsk s).Pairwise (fun a b => (a 3).toInt < (b 3).toInt) ∧ (gAsk s).Pairwise (fun a b => a 5 ≠ b 5)
def opnOk (op : Nat → E) (A : List E) (C T : Nat) (a : E) : Prop := ∃ c l t, c < C ∧ a 1 = nI c ∧ l < 8 ∧ a 2 = nI l ∧ a 7 = nI t ∧ t ≤ T ∧ (a 0 = 0 ∨ a 0 = 1) ∧ (a 4 = 1 ∨ a 4 = 2 ∨ a 4 = 3) ∧ op c 0 = (if a 0 = 0 then 1 else 2) ∧ op c 1 = a 2 ∧ (∀ q ∈ A, q 5 ≠ nI (3 * c))
def iOpn (s : Sx) : Prop := (∀ a ∈ gOpn s, opnOk (gOp s) (gAsk s) (cN s) (tN s) a) ∧ (gOpn s).Pairwise (fun a b => a 1 ≠ b 1) ∧ (gOpn s).Pairwise (fun a b => a 2 ≠ b 2) ∧ (gOpn s).Pairwise (fun a b => (a 7).toInt < (b 7).toInt)
def iOp (s : Sx) : Prop := ∀ c, c < 4 → (gOp s c 0 = 0 ∨ ((gOp s c 0 = 1 ∨ gOp s c 0 = 2) ∧ c < cN s ∧ ((∃ a ∈ gAsk s, a 5 = nI (3 * c)) ∨ (∃ a ∈ gOpn s, a 1 = nI c))))
def hw (s : Sx) (c : Nat) (l : Int32) : Int32 := howR (gRow s c) l
def iC1 (s : Sx) : Prop := ∀ c d l, c < 4 → d < 4 → c ≠ d → hw s c l ≠ 0 → hw s c l ≠ 1 → hw s d l = 0
def iC2 (s : Sx) : Prop := ∀ c d, c < 4 → d < 4 → ∀ e ∈ gBuf s c, hw s d (e 0) = 0
def iC3 (s : Sx) : Prop := ∀ c d, c < 4 → d < 4 → c ≠ d → ∀ e ∈ gBuf s c, ∀ e' ∈ gBuf s d, e 0 ≠ e' 0
def iC4 (s : Sx) : Prop := ∀ a ∈ gOpn s, (∀ d, d < 4 → (hw s d (a 2) = 0 ∨ (hw s d (a 2) = 1 ∧ a 4 = 1)) ∧ ∀ e ∈ gBuf s d, e 0 ≠ a 2) ∧ hw s (sw_ix (a 1)) (a 2) = 0
def iC5 (s : Sx) : Prop := ∀ a ∈ gAsk s, a 0 ≠ 3 → (∀ e ∈ gBuf s (sw_ix (a 1)), e 0 ≠ a 2) ∧ (hw s (sw_ix (a 1)) (a 2) = 0 ∨ (a 0 = 2 ∧ hw s (sw_ix (a 1)) (a 2) = 1))
def Inv (b : Nat) (s : Sx) : Prop := iNum b s ∧ iRow s ∧ iBuf s ∧ iAsk s ∧ iOpn s ∧ iOp s ∧ (iC1 s ∧ iC2 s ∧ iC3 s ∧ iC4 s ∧ iC5 s)
theorem ask_slot {s : Sx} (h : iAsk s) (hC : cN s ≤ 4) : ∀ a ∈ gAsk s, ∃ j, j < 12 ∧ a 5 = nI j := by
  intro a ha
  obtain ⟨c, l, p, h1, h2, h3, h4, h5, h6, h7⟩ := h.1 a ha
  rcases h7 with ⟨_, e, _, i, hi, _, _, _, h8⟩ | ⟨_, h8, _⟩
  · exact ⟨3 * c + 1 + i, by omega, h8⟩
  · exact ⟨3 * c, by omega, h8⟩
theorem ask_len {s : Sx} (h : iAsk s) (hC : cN s ≤ 4) : (gAsk s).length ≤ 12 := by
  have := cn_slots (f := 5) (N := 12) (by omega) (fun _ => true) (gAsk s) h.2.2 (ask_slot h hC)
  rw [List.countP_true] at this
  rw [← this]
  exact cn_le 12 0
theorem ix_of {L : List E} {v : Int32} : ixf L 0 v ≠ none ↔ ∃ e ∈ L, e 0 = v := by
  constructor
  · intro h
    cases q : ixf L 0 v with
    | none => exact absurd q h
    | some k =>
      obtain ⟨e, h1, h2, h3⟩ := ixf_some q
      exact ⟨e, List.mem_of_getElem? h1, h2⟩
  · intro ⟨e, h1, h2⟩ q
    exact ixf_none q e h1 h2
theorem Inv_Nums {b : Nat} {s : Sx} (h : Inv b s) : Nums s := ⟨cN s, h.1.1⟩
theorem Inv_Hows {b : Nat} {s : Sx} (h : Inv b s) : Hows s := fun c hc e he => ((h.2.1 c hc).1.1 e he).2.1
theorem Inv_Wf {b : Nat} {s : Sx} (h : Inv b s) : Wf s := by
  refine ⟨kN s, h.1.2.1.1, h.1.2.1.2.1, h.1.2.1.2.2, fun c hc => (h.2.1 c hc).1.2.2.2, ask_len h.2.2.2.1 h.1.1.2.2, fun c v hc q => ?_⟩
  obtain ⟨e, he, hv⟩ := ix_of.mp q
  have := h.2.2.2.2.2.2.2.1 c c hc hc e he
  rw [hv] at this
  exact (how_0 (Inv_Hows h c hc)).mp this
theorem Inv_ord {b : Nat} {s : Sx} (h : Inv b s) (hb : b < 2 ^ 30) : iOrd s := ⟨tN s, h.1.2.2.2.1.1, by have := h.1.2.2.2.1.2.1; omega, h.1.2.2.2.1.2.2⟩
theorem Inv_pl {b : Nat} {s : Sx} (h : Inv b s) (hb : b < 2 ^ 30) : plOk (gAsk s) := by
  intro a ha
  obtain ⟨c, l, p, h1, h2, h3, h4, h5, h6, h7⟩ := h.2.2.2.1.1 a ha
  have := h.1.2.2.1.2
  rw [h5, nI_toInt (by omega)]
  omega
theorem opn_len {b : Nat} {s : Sx} (h : Inv b s) : (gOpn s).length ≤ 4 := by
  have := cn_slots (f := 1) (N := 4) (by omega) (fun _ => true) (gOpn s) h.2.2.2.2.1.2.1 (fun a ha => by
    obtain ⟨c, l, t, h1, h2, _⟩ := h.2.2.2.2.1.1 a ha
    have := h.1.1.2.2
    exact ⟨c, by omega, h2⟩)
  rw [List.countP_true] at this
  rw [← this]
  exact cn_le 4 0
-- ===== answers, in the model =====
abbrev rdy (s : Sx) (e : E) : Prop := ¬ gSc s 4 < e 3 ∧ cFill s (sw_ix (e 1))
def aAns (s : Sx) (i : Nat) : Sx := wSc (wSc (wOp (aFill (wOpn s ((gOpn s).eraseIdx i)) (sw_ix (getE (gOpn s) i 1)) (getE (gOpn s) i 2) (if getE (gOpn s) i 0 = 1 then gOp s (sw_ix (getE (gOpn s) i 1)) 2 else getE (gOpn s) i 5) (getE (gOpn s) i 4)) (sw_ix (getE (gOpn s) i 1)) (zOp (lOp (gOp s (sw_ix (getE (gOpn s) i 1))) (if gOp s (sw_ix (getE (gOpn s) i 1)) 0 = 1 then (if getE (gOpn s) i 0 = 1 then gOp s (sw_ix (getE (gOpn s) i 1)) 2 else getE (gOpn s) i 5) else gOp s (sw_ix (getE (gOpn s) i 1)) 4)))) 9 (gSc s 9 + 1)) 10 (gSc s 10 + 1)
def aAnsw (s : Sx) : Int32 × Sx := match fst1 (fun i => decide (rdy s (getE (gOpn s) i))) (gOpn s).length with
  | some i => (1, aAns s i)
  | none => (0, s)
theorem m_an_go {w : Nat} {x2 x3 x4 x5 : Int32} (hw : w < 4) : ∀ (n p : Nat) (y : sw_St), y 1 21 = nI w → p ≤ 7 * w → 7 * w - p < n → ∃ m, f_X7_answer_124 n y x2 x3 x4 x5 (nI p) = f_X7_answer_124 (m + 1) (shf y 16 7 p (7 * w)) x2 x3 x4 x5 (nI (7 * w)) := by
  intro n
  induction n with
  | zero => intro p y _ _ q; omega
  | succ n ih =>
    intro p y hy hp hn
    by_cases hpe : p = 7 * w
    · rw [hpe, shf_nil (by omega)]
      exact ⟨n, rfl⟩
    · rw [f_X7_answer_124]
      dsimp only
      rw [hy, nl_7, pn_mul, if_neg (nI_ge (by omega) (by omega)), nI_1, nI_add, ck_t (pn_in (by omega) (by omega)), ck_t (pn_in (by omega) (by omega)), pn_ix (by omega), pn_ix (by omega)]
      simp only [sw_pt]
      obtain ⟨m, e⟩ := ih (p + 1) (sw_up y 16 p (y 16 (p + 7))) (by rw [up_ne (by decide)]; exact hy) (by omega) (by omega)
      rw [shf_step (by omega) (by decide)] at e
      exact ⟨m, e⟩
theorem sc_n {s : Sx} {k j : Nat} {v : Int32} (h : j ≠ k) : gSc (wSc s k v) j = gSc s j := up_n _ _ h
theorem sc_s {s : Sx} {k : Nat} {v : Int32} : gSc (wSc s k v) k = v := up_s _ _ _
theorem aFill_sc {s : Sx} {c k : Nat} {v w t : Int32} (hk : k ≠ 5) (hk2 : k < 20) : gSc (aFill s c v w t) k = gSc s k := by
  show va_up (gSc (if nI (gRow s c).length = gSc s 1 then aGiveK s c 0 else s)) (20 + c) _ k = _
  rw [up_n _ _ (by omega)]
  split
  · show gSc (if getE (gRow s c) 0 2 = 3 then aBack s c (getE (gRow s c) 0 0) (getE (gRow s c) 0 1) else s) k = _
    split
    · show va_up (gSc s) 5 _ k = _
      rw [up_n _ _ hk]
    · rfl
  · rfl
theorem aFill_op {s : Sx} {c : Nat} {v w t : Int32} : gOp (aFill s c v w t) = gOp s := by
  show gOp (if nI (gRow s c).length = gSc s 1 then aGiveK s c 0 else s) = _
  split
  · show gOp (if getE (gRow s c) 0 2 = 3 then aBack s c (getE (gRow s c) 0 0) (getE (gRow s c) 0 1) else s) = _
    split <;> rfl
  · rfl
theorem m_ans1 {b : Nat} {s : Sx} {y : sw_St} {i c : Nat} {l : Int32} (h : RM s y) (hI : Inv b s) (hi : i < (gOpn s).length) (hc : getE (gOpn s) i 1 = nI c) (hc4 : c < 4) (hr : cFill s c) (hl : l = (if getE (gOpn s) i 0 = 1 then gOp s c 2 else getE (gOpn s) i 5)) : wp (f_X7_answer_106 y (nI i) (getE (gOpn s) i 1) (getE (gOpn s) i 2) (getE (gOpn s) i 4) l) (Rm (1, aAns s i)) := by
  obtain ⟨a1, a2, a3⟩ := h.2.2.2.2.2.2.1
  unfold f_X7_answer_106 aAns
  rw [hc, pn_ix (by omega), ← hl]
  simp only [sw_pt]
  rw [a1, nl_1, pn_sub (by omega), nl_7, pn_mul]
  obtain ⟨m, e⟩ := m_an_go (x2 := nI c) (x3 := getE (gOpn s) i 2) (x4 := getE (gOpn s) i 4) (x5 := l) (w := (gOpn s).length - 1) (by omega) sw_fuel (7 * i) (sw_up y 1 21 (nI ((gOpn s).length - 1))) up_eq (by omega) (by unfold sw_fuel; omega)
  rw [e]
  have h1 : RM (wOpn s ((gOpn s).eraseIdx i)) (shf (sw_up y 1 21 (nI ((gOpn s).length - 1))) 16 7 (7 * i) (7 * ((gOpn s).length - 1))) := by
    refine RM_opn h ⟨?_, ?_, ?_⟩ (fun a ha ha' => ?_) (fun b hb => ?_)
    · rw [shf_ne (by decide), up_eq, List.length_eraseIdx_of_lt hi]
    · rw [List.length_eraseIdx_of_lt hi]; omega
    · have e1 := enc_erase (i := i) (y := sw_up y 1 21 (nI ((gOpn s).length - 1))) (enc_k a3 (up_ne (by decide))) hi
      rw [Nat.zero_add, Nat.zero_add] at e1
      exact e1
    · rw [shf_ne ha', up_ne ha]
    · rw [shf_ne (by decide), up_nj hb]
  have h21 : shf (sw_up y 1 21 (nI ((gOpn s).length - 1))) 16 7 (7 * i) (7 * ((gOpn s).length - 1)) 1 21 = nI ((gOpn s).length - 1) := by rw [shf_ne (by decide), up_eq]
  rw [f_X7_answer_124]
  dsimp only
  rw [h21, nl_7, pn_mul, if_pos (nI_le (Nat.le_refl _) (by omega))]
  obtain ⟨K, hK, hK1, hK4, hlk, hn, hx⟩ := Inv_Wf hI
  refine wp_bindM (m_fill (K := K) hc4 h1 hK hK1 hK4 (hlk c hc4) hr (by show (gAsk s).length < 16; omega)) (fun y2 h2 => ?_)
  have o2 := (h2.2.2.2.2.1) c hc4
  rw [aFill_op] at o2
  have o11 : y2 11 c = gOp s c 0 := o2.1
  have o10 : y2 10 c = gOp s c 4 := o2.2.2.2.2
  rw [ck_t (pn_in (by omega) (by omega)), pn_ix (by omega), o11, o10]
  have tail : ∀ w, w = (if gOp s c 0 = 1 then l else gOp s c 4) → wp (f_X7_answer_195 y2 (nI c) w (nI c)) (Rm (1, wSc (wSc (wOp (aFill (wOpn s ((gOpn s).eraseIdx i)) c (getE (gOpn s) i 2) l (getE (gOpn s) i 4)) c (zOp (lOp (gOp s c) (if gOp s c 0 = 1 then l else gOp s c 4)))) 9 (gSc s 9 + 1)) 10 (gSc s 10 + 1))) := by
    intro w hw
    rw [← hw]
    unfold f_X7_answer_195
    rw [ck_t (pn_in (by omega) (by omega)), pn_ix (by omega)]
    simp only [sw_pt]
    refine wp_bindM (m_ends hc4 (m_last (v := w) hc4 h2)) (fun y3 h3 => ?_)
    have e10 : y3 1 28 = gSc s 10 := by
      rw [h3.1.2.2.2.2.2.2.2.2.2.2]
      exact (sc_n (by decide)).trans (aFill_sc (v := getE (gOpn s) i 2) (w := l) (t := getE (gOpn s) i 4) (by decide) (by decide))
    refine wp_some ⟨rfl, ?_⟩
    have h4 := RM_sc (v := gSc s 10 + 1) 10 (by decide) h3
    show RM _ (sw_up y3 1 28 (y3 1 28 + 1))
    rw [e10]
    have e9 : gSc (wOp (aFill (wOpn s ((gOpn s).eraseIdx i)) c (getE (gOpn s) i 2) l (getE (gOpn s) i 4)) c (lOp (gOp (aFill (wOpn s ((gOpn s).eraseIdx i)) c (getE (gOpn s) i 2) l (getE (gOpn s) i 4)) c) w)) 9 = gSc s 9 := aFill_sc (v := getE (gOpn s) i 2) (w := l) (t := getE (gOpn s) i 4) (by decide) (by decide)
    have eo : va_up (va_up (gOp (aFill (wOpn s ((gOpn s).eraseIdx i)) c (getE (gOpn s) i 2) l (getE (gOpn s) i 4))) c (lOp (gOp (aFill (wOpn s ((gOpn s).eraseIdx i)) c (getE (gOpn s) i 2) l (getE (gOpn s) i 4)) c) w)) c (zOp (gOp (wOp (aFill (wOpn s ((gOpn s).eraseIdx i)) c (getE (gOpn s) i 2) l (getE (gOpn s) i 4)) c (lOp (gOp (aFill (wOpn s ((gOpn s).eraseIdx i)) c (getE (gOpn s) i 2) l (getE (gOpn s) i 4)) c) w)) c)) = va_up (gOp (aFill (wOpn s ((gOpn s).eraseIdx i)) c (getE (gOpn s) i 2) l (getE (gOpn s) i 4))) c (zOp (lOp (gOp s c) w)) := by
      funext d
      by_cases q : d = c
      · subst q
        rw [up_s, up_s]
        show zOp (va_up _ d _ d) = _
        rw [up_s, aFill_op]
        rfl
      · rw [up_n _ _ q, up_n _ _ q, up_n _ _ q]
    rw [e9] at h4
    have : wOp (wOp (aFill (wOpn s ((gOpn s).eraseIdx i)) c (getE (gOpn s) i 2) l (getE (gOpn s) i 4)) c (lOp (gOp (aFill (wOpn s ((gOpn s).eraseIdx i)) c (getE (gOpn s) i 2) l (getE (gOpn s) i 4)) c) w)) c (zOp (gOp (wOp (aFill (wOpn s ((gOpn s).eraseIdx i)) c (getE (gOpn s) i 2) l (getE (gOpn s) i 4)) c (lOp (gOp (aFill (wOpn s ((gOpn s).eraseIdx i)) c (getE (gOpn s) i 2) l (getE (gOpn s) i 4)) c) w)) c)) = wOp (aFill (wOpn s ((gOpn s).eraseIdx i)) c (getE (gOpn s) i 2) l (getE (gOpn s) i 4)) c (zOp (lOp (gOp s c) w)) := by
      unfold wOp at eo ⊢
      rw [← eo]
    rw [this] at h4
    exact h4
  refine wp_ite (fun q => ?_) (fun q => ?_)
  · exact tail l (by rw [if_pos q])
  · exact tail _ (by rw [if_neg q])
theorem m_answer {b : Nat} {s : Sx} {y : sw_St} (h : RM s y) (hI : Inv b s) : wp (f_X7_answer y) (Rm (aAnsw s)) := by
  obtain ⟨a1, a2, a3⟩ := h.2.2.2.2.2.2.1
  have h4 : y 1 4 = gSc s 4 := h.1.2.2.2.2.1
  obtain ⟨K, hK, hK1, hK4, hlk, hn, hx⟩ := Inv_Wf hI
  have core : ∀ k, k < (gOpn s).length → ∃ c, c < 4 ∧ getE (gOpn s) k 1 = nI c := fun k hk => by
    obtain ⟨c, l, t, h1, h2, _⟩ := hI.2.2.2.2.1.1 _ (List.mem_of_getElem? (getE_t hk))
    have := hI.1.1.2.2
    exact ⟨c, by omega, h2⟩
  have fld : ∀ k f, k < (gOpn s).length → f < 7 → y 16 (7 * k + f) = getE (gOpn s) k f := fun k f hk hf => by
    have := a3 k _ (getE_t hk) f hf
    rw [Nat.zero_add] at this
    exact this
  have := lp_fst (F := fun n k => f_X7_answer_2 n y k) (N := (gOpn s).length) (P := fun i => decide (rdy s (getE (gOpn s) i))) (G := fun i => f_X7_answer_106 y (nI i) (getE (gOpn s) i 1) (getE (gOpn s) i 2) (getE (gOpn s) i 4) (if getE (gOpn s) i 0 = 1 then gOp s (sw_ix (getE (gOpn s) i 1)) 2 else getE (gOpn s) i 5)) (D := some (0, y)) (fun n => by
      rw [f_X7_answer_2]
      dsimp only
      rw [a1, if_pos (nI_le (Nat.le_refl _) (by omega))]) (fun n k hk hP => by
      obtain ⟨c, hc4, hc⟩ := core k hk
      have hP' := of_decide_eq_true hP
      unfold rdy at hP'
      rw [hc, pn_ix (by omega)] at hP'
      obtain ⟨r, hr, hr0⟩ := m_canFill hc4 h hK hK1 hK4
      rw [f_X7_answer_2]
      dsimp only
      have e0 := fld k 0 hk (by omega)
      rw [Nat.add_zero] at e0
      rw [a1, if_neg (nI_ge hk (by omega))]
      simp (disch := omega) only [ck_tt, pn_in, pn_ix, pn_mul, nI_add, nl_0, nl_1, nl_2, nl_3, nl_4, nl_5, nl_6, nl_7, nl_8, sw_pt, bd_s, nI_eq, nI_leI, nI_ltI, fld, e0, h4]
      rw [if_neg hP'.1, hc]
      simp (disch := omega) only [ck_tt, pn_in, pn_ix, pn_mul, nI_add, nl_0, nl_1, nl_2, nl_3, nl_4, nl_5, nl_6, nl_7, nl_8, sw_pt, bd_s, nI_eq, nI_leI, nI_ltI]
      have op2 := (h.2.2.2.2.1 c hc4).2.2.1
      rw [hr, bd_s, if_neg (show ¬ r = nI 0 from fun z => hr0.mp z hP'.2), op2]
      split <;> rfl) (fun n k hk hP => by
      obtain ⟨c, hc4, hc⟩ := core k hk
      have hP' := of_decide_eq_false hP
      unfold rdy at hP'
      rw [hc, pn_ix (by omega)] at hP'
      obtain ⟨r, hr, hr0⟩ := m_canFill hc4 h hK hK1 hK4
      rw [f_X7_answer_2]
      dsimp only
      have e0 := fld k 0 hk (by omega)
      rw [Nat.add_zero] at e0
      rw [a1, if_neg (nI_ge hk (by omega))]
      simp (disch := omega) only [ck_tt, pn_in, pn_ix, pn_mul, nI_add, nl_0, nl_1, nl_2, nl_3, nl_4, nl_5, nl_6, nl_7, nl_8, sw_pt, bd_s, nI_eq, nI_leI, nI_ltI, fld, e0, h4]
      by_cases q : gSc s 4 < getE (gOpn s) k 3
      · rw [if_pos q]
      · rw [if_neg q, hc, hr, bd_s, if_pos (show r = nI 0 from hr0.mpr (fun z => hP' ⟨q, z⟩))]) (by omega)
  unfold f_X7_answer
  refine Eq.subst (motive := fun o => wp o (Rm (aAnsw s))) (Eq.symm this) ?_
  unfold aAnsw
  cases q : fst1 (fun i => decide (rdy s (getE (gOpn s) i))) (gOpn s).length with
  | none => exact wp_some ⟨rfl, h⟩
  | some i =>
    obtain ⟨hi, hP, -⟩ := fst1_s q
    obtain ⟨c, hc4, hc⟩ := core i hi
    have hP' := of_decide_eq_true hP
    unfold rdy at hP'
    rw [hc, pn_ix (by omega)] at hP'
    exact m_ans1 h hI hi hc hc4 hP'.2 (by rw [hc, pn_ix (by omega)])
