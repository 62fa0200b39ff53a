/-! PURE: the model's small calls -/
theorem wRow_self (s : Sx) (c : Nat) : wRow s c (gRow s c) = s := by
  unfold wRow
  have e : va_up s.2.2.1 c (gRow s c) = s.2.2.1 := by
    funext j
    unfold va_up
    split
    · next h => rw [h]
    · rfl
  rw [e]
theorem wBuf_self (s : Sx) (c : Nat) : wBuf s c (gBuf s c) = s := by
  unfold wBuf
  have e : va_up s.2.2.2.1 c (gBuf s c) = s.2.2.2.1 := by
    funext j
    unfold va_up
    split
    · next h => rw [h]
    · rfl
  rw [e]
def del (l : List E) (v : Int32) : List E := match ixf l 0 v with
  | some k => l.eraseIdx k
  | none => l
def e3 (a b c : Int32) : E := fun f => if f = 0 then a else if f = 1 then b else c
def e5 (a b c d e : Int32) : E := fun f => if f = 0 then a else if f = 1 then b else if f = 2 then c else if f = 3 then d else e
/-- how a line is there: 0, if it isn't -/
def getE (l : List E) (k : Nat) : E := l.getD k (fun _ => 0)
theorem getE_s {l : List E} {k : Nat} {e : E} (h : l[k]? = some e) : getE l k = e := by
  unfold getE
  rw [List.getD_eq_getElem?_getD, h]
  rfl
def howR (l : List E) (v : Int32) : Int32 := match ixf l 0 v with
  | some k => getE l k 2
  | none => 0
theorem m_at0 {y : sw_St} {c : Nat} {l : List E} {v : Int32} (hc : c < 4) (h : rowM y c l) (hx : ixf l 0 v = none) : f_X7_at y (nI c) v = some (-4) := by
  rw [m_at v hc h, hx]
  rfl
theorem m_at1 {y : sw_St} {c : Nat} {l : List E} {v : Int32} {k : Nat} (hc : c < 4) (h : rowM y c l) (hx : ixf l 0 v = some k) : f_X7_at y (nI c) v = some (nI (4 * c + k)) := by
  rw [m_at v hc h, hx]
  rfl
theorem m_howOf {y : sw_St} {c : Nat} {l : List E} (v : Int32) (hc : c < 4) (h : rowM y c l) : f_X7_howOf y (nI c) v = some (howR l v) := by
  unfold f_X7_howOf howR
  cases hx : ixf l 0 v with
  | none => rw [m_at0 hc h hx, bd_s, if_pos rfl]
  | some k =>
    obtain ⟨e, h1, h2, h3⟩ := ixf_some hx
    have h4 := h.2.1
    have h5 := (h.2.2 k e h1).2.2
    rw [m_at1 hc h hx, bd_s, if_neg (pn_neg (by omega)), ck_t (pn_in (by omega) (by omega)), pn_ix (by omega), h5]
    show _ = some (getE l k 2)
    rw [getE_s h1]
def sh3 (s : sw_St) (p q : Nat) : sw_St := fun a b => if 4 ≤ a ∧ a ≤ 6 ∧ p ≤ b ∧ b < q then s a (b + 1) else s a b
theorem sh3_nil {s : sw_St} {p q : Nat} (h : q ≤ p) : sh3 s p q = s := by
  funext a b
  unfold sh3
  rw [if_neg (by omega)]
theorem sh3_step {s : sw_St} {p q : Nat} (h : p < q) : sh3 (sw_up (sw_up (sw_up s 4 p (s 4 (p + 1))) 5 p (s 5 (p + 1))) 6 p (s 6 (p + 1))) (p + 1) q = sh3 s p q := by
  funext a b
  unfold sh3
  simp only [up_at]
  grind
theorem m_tk_go {c m : Nat} (hc : c < 4) (hm : m < 4) : ∀ (n p : Nat) (s : sw_St), s 3 c = nI m → p ≤ 4 * c + m → 4 * c + m - p < n → f_X7_takeOut_26 n s (nI c) (nI p) = some (sh3 s p (4 * c + m)) := by
  intro n
  induction n with
  | zero => intro p s _ _ q; omega
  | succ n ih =>
    intro p s hs hp hn
    rw [f_X7_takeOut_26]
    dsimp only
    rw [ck_t (pn_in (by omega) (by omega)), pn_ix (by omega), hs, nl_4, pn_mul, nI_add]
    by_cases hpe : p = 4 * c + m
    · rw [if_pos (by rw [hpe]; exact nI_le (Nat.le_refl _) (by omega)), sh3_nil (by omega)]
    · rw [if_neg (nI_ge (by omega) (by omega)), nl_1, nI_add, ck_t (pn_in (by omega) (by omega)), ck_t (pn_in (by omega) (by omega)), pn_ix (by omega), pn_ix (by omega)]
      simp only [sw_pt]
      have e5 : sw_up s 4 p (s 4 (p + 1)) 5 (p + 1) = s 5 (p + 1) := by rw [up_ne (by decide)]
      have e6 : sw_up (sw_up s 4 p (s 4 (p + 1))) 5 p (s 5 (p + 1)) 6 (p + 1) = s 6 (p + 1) := by rw [up_ne (by decide), up_ne (by decide)]
      rw [e5, e6, ih (p + 1) _ (by rw [up_ne (by decide), up_ne (by decide), up_ne (by decide)]; exact hs) (by omega) (by omega), sh3_step (by omega)]
theorem m_takeOut {s : Sx} {y : sw_St} {c : Nat} (v : Int32) (hc : c < 4) (h : RM s y) : wp (f_X7_takeOut y (nI c) v) (RM (wRow s c (del (gRow s c) v))) := by
  have hr := h.2.2.1 c hc
  obtain ⟨r1, r2, r3⟩ := hr
  unfold f_X7_takeOut
  unfold del
  cases hx : ixf (gRow s c) 0 v with
  | none =>
    refine wp_bindE (m_at0 hc ⟨r1, r2, r3⟩ hx) ?_
    refine wp_t rfl (wp_some ?_)
    rw [wRow_self]
    exact h
  | some k =>
    obtain ⟨e, h1, h2, h3⟩ := ixf_some hx
    refine wp_bindE (m_at1 hc ⟨r1, r2, r3⟩ hx) ?_
    refine wp_f (pn_neg (by omega)) (wp_ck (pn_in (by omega) (by omega)) ?_)
    rw [pn_ix (by omega), r1]
    simp only [sw_pt]
    rw [nl_1, pn_sub (by omega)]
    refine wp_of (m_tk_go (m := (gRow s c).length - 1) hc (by omega) sw_fuel (4 * c + k) _ up_eq (by omega) (by unfold sw_fuel; omega)) ?_
    have hsh : ∀ a, (a < 4 ∨ 6 < a) → sh3 (sw_up y 3 c (nI ((gRow s c).length - 1))) (4 * c + k) (4 * c + ((gRow s c).length - 1)) a = sw_up y 3 c (nI ((gRow s c).length - 1)) a := by
      intro a ha
      funext b
      unfold sh3
      rw [if_neg (by omega)]
    refine RM_row h ⟨?_, ?_, ?_⟩ (fun a ha => ?_) (fun b hb => ?_) (fun a b h4 h6 hb => ?_)
    · rw [hsh 3 (by omega), up_eq, List.length_eraseIdx_of_lt h3]
    · rw [List.length_eraseIdx_of_lt h3]
      omega
    · intro i e' hi
      have hil : i < (gRow s c).length - 1 := by
        have := (List.getElem?_eq_some_iff.mp hi).1
        rw [List.length_eraseIdx_of_lt h3] at this
        exact this
      rw [List.getElem?_eraseIdx] at hi
      unfold sh3
      by_cases hik : i < k
      · rw [if_pos hik] at hi
        rw [if_neg (by omega), if_neg (by omega), if_neg (by omega), up_ne (by decide), up_ne (by decide), up_ne (by decide)]
        exact r3 i e' hi
      · rw [if_neg hik] at hi
        rw [if_pos (by omega), if_pos (by omega), if_pos (by omega), up_ne (by decide), up_ne (by decide), up_ne (by decide)]
        exact r3 (i + 1) e' hi
    · rw [hsh a (by omega), up_ne (by omega)]
    · rw [hsh 3 (by omega), up_nj hb]
    · unfold sh3
      rw [if_neg (by omega), up_ne (by omega)]
theorem m_putIn {s : Sx} {y : sw_St} {c : Nat} {v w t : Int32} {en : E} (hc : c < 4) (h : RM s y) (hl : (gRow s c).length < 4) (q0 : en 0 = v) (q1 : en 1 = w) (q2 : en 2 = t) : wp (f_X7_putIn y (nI c) v w t) (RM (wRow s c (gRow s c ++ [en]))) := by
  obtain ⟨r1, r2, r3⟩ := h.2.2.1 c hc
  unfold f_X7_putIn
  refine wp_ck (pn_in (by omega) (by omega)) ?_
  rw [pn_ix (by omega), r1, nl_4, pn_mul, nI_add]
  refine wp_ck (pn_in (by omega) (by omega)) ?_
  rw [pn_ix (by omega)]
  simp only [sw_pt]
  refine wp_some ?_
  have e1 : sw_up (sw_up (sw_up y 4 (4 * c + (gRow s c).length) v) 5 (4 * c + (gRow s c).length) w) 6 (4 * c + (gRow s c).length) t 3 c = nI (gRow s c).length := by
    rw [up_ne (by decide), up_ne (by decide), up_ne (by decide)]
    exact r1
  rw [e1, nl_1, nI_add]
  refine RM_row h ⟨?_, ?_, ?_⟩ (fun a ha => ?_) (fun b hb => ?_) (fun a b h4 h6 hb => ?_)
  · rw [up_eq, List.length_append]
    rfl
  · rw [List.length_append]
    show (gRow s c).length + 1 ≤ 4
    omega
  · intro i e hi
    simp only [up_at]
    by_cases hil : i < (gRow s c).length
    · rw [List.getElem?_append_left hil] at hi
      have := r3 i e hi
      simp
      rw [if_neg (by omega), if_neg (by omega), if_neg (by omega)]
      exact this
    · rw [List.getElem?_append_right (by omega)] at hi
      have hz : i - (gRow s c).length < 1 := (List.getElem?_eq_some_iff.mp hi).1
      have hi0 : i = (gRow s c).length := by omega
      subst hi0
      rw [Nat.sub_self] at hi
      cases hi
      simp [q0, q1, q2]
  · rw [up_ne (by omega), up_ne (by omega), up_ne (by omega), up_ne (by omega)]
  · rw [up_nj hb, up_ne (by decide), up_ne (by decide), up_ne (by decide)]
  · rw [up_ne (by omega)]
    simp only [up_at]
    rw [if_neg (by omega), if_neg (by omega), if_neg (by omega)]
