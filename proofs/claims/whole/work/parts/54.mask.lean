/-! PURE: what waits and what is open, in the model -/
theorem m_asks {s : Sx} {y : sw_St} {k c l : Int32} {e : E} (h : RM s y) (hn : (gAsk s).length < 16) (h0 : e 0 = k) (h1 : e 1 = c) (h2 : e 2 = l) (h3 : e 3 = gSc s 5) (h4 : e 4 = 0) : wp (f_X7_asks y k c l) (RM (wAsk (wSc s 5 (gSc s 5 + 1)) (gAsk s ++ [e]))) := by
  obtain ⟨a1, a2, a3⟩ := h.2.2.2.2.2.1
  have b5 : y 1 20 = gSc s 5 := h.1.2.2.2.2.2.1
  unfold f_X7_asks
  rw [a1, nl_5, pn_mul, nl_1, nl_2, nl_3, nl_4, nI_add, nI_add, nI_add, nI_add]
  refine wp_ck (pn_in (by omega) (by omega)) (wp_pt (wp_ck (pn_in (by omega) (by omega)) (wp_pt (wp_ck (pn_in (by omega) (by omega)) (wp_pt (wp_ck (pn_in (by omega) (by omega)) (wp_pt (wp_ck (pn_in (by omega) (by omega)) (wp_pt (wp_pt (wp_pt (wp_some ?_))))))))))))
  rw [pn_ix (by omega), pn_ix (by omega), pn_ix (by omega), pn_ix (by omega), pn_ix (by omega)]
  have hs := RM_sc (v := gSc s 5 + 1) 5 (by decide) h
  refine RM_ask (s := wSc s 5 (gSc s 5 + 1)) hs ⟨?_, ?_, ?_⟩ (fun a ha ha' => ?_) (fun b hb => ?_)
  · rw [up_eq]
    simp only [up_at]
    rw [if_neg (by omega)]
    simp
    rw [a1, nI_add]
  · rw [List.length_append]
    show (gAsk s).length + 1 ≤ 16
    omega
  · refine enc_push (enc_keep a3 (fun b _ hb => ?_)) (fun f hf => ?_)
    · simp only [up_at]
      grind
    · simp only [up_at]
      rcases (show f = 0 ∨ f = 1 ∨ f = 2 ∨ f = 3 ∨ f = 4 by omega) with rfl | rfl | rfl | rfl | rfl <;> grind
  · simp only [scJ]
    funext b
    simp only [up_at]
    grind
  · have n1 : nI 1 = 1 := rfl
    have sj : scJ 5 = 20 := rfl
    rw [sj]
    simp only [up_at]
    grind
theorem m_nm_go {w : Nat} (hw : w < 16) : ∀ (n p : Nat) (y : sw_St), y 1 18 = nI w → p ≤ 5 * w → 5 * w - p < n → f_X7_noMore_14 n y (nI p) = some (shf y 15 5 p (5 * w)) := by
  intro n
  induction n with
  | zero => intro p y _ _ q; omega
  | succ n ih =>
    intro p y hy hp hn
    rw [f_X7_noMore_14]
    dsimp only
    rw [hy, nl_5, pn_mul]
    by_cases hpe : p = 5 * w
    · rw [if_pos (by rw [hpe]; exact nI_le (Nat.le_refl _) (by omega)), shf_nil (by omega)]
    · rw [if_neg (nI_ge (by omega) (by omega)), nl_1, nI_add, nI_add, ck_t (pn_in (by omega) (by omega)), ck_t (pn_in (by omega) (by omega)), pn_ix (by omega), pn_ix (by omega)]
      simp only [sw_pt]
      rw [ih (p + 1) _ (by rw [up_ne (by decide)]; exact hy) (by omega) (by omega), shf_step (by omega) (by decide)]
theorem m_noMore {s : Sx} {y : sw_St} {i : Nat} (h : RM s y) (hi : i < (gAsk s).length) : wp (f_X7_noMore y (nI i)) (RM (wAsk s ((gAsk s).eraseIdx i))) := by
  obtain ⟨a1, a2, a3⟩ := h.2.2.2.2.2.1
  unfold f_X7_noMore
  refine wp_pt ?_
  rw [a1, nl_1, pn_sub (by omega), nl_5, pn_mul]
  refine wp_of (m_nm_go (w := (gAsk s).length - 1) (by omega) sw_fuel (5 * i) _ up_eq (by omega) (by unfold sw_fuel; omega)) ?_
  refine RM_ask h ⟨?_, ?_, ?_⟩ (fun a ha ha' => ?_) (fun b hb => ?_)
  · rw [shf_ne (by decide), up_eq, List.length_eraseIdx_of_lt hi]
  · rw [List.length_eraseIdx_of_lt hi]
    omega
  · have e1 := enc_erase (i := i) (y := sw_up y 1 18 (nI ((gAsk s).length - 1))) (enc_k a3 (up_ne (by decide))) hi
    rw [Nat.zero_add, Nat.zero_add] at e1
    exact e1
  · rw [shf_ne ha', up_ne ha]
  · rw [shf_ne (by decide), up_nj hb]
theorem erase_filter {α : Type} (P : α → Bool) : ∀ (l : List α) (k : Nat) (e : α), l[k]? = some e → P e = false → (l.eraseIdx k).filter P = l.filter P
  | [], k, e, h, _ => by simp at h
  | a :: l, 0, e, h, hp => by
    simp at h
    subst h
    simp [hp]
  | a :: l, k + 1, e, h, hp => by
    have h' : l[k]? = some e := by simpa using h
    have := erase_filter P l k e h' hp
    simp only [List.eraseIdx_cons_succ, List.filter_cons, this]
/-- the asking of a way back that isn't this one -/
def nbP (c l : Int32) : E → Bool := fun e => !(e 0 == 3 && (e 1 == c && e 2 == l))
theorem wAsk_self (s : Sx) : wAsk s (gAsk s) = s := rfl
theorem m_nb_go {c l : Int32} : ∀ (n k : Nat) (s : Sx) (y : sw_St), RM s y → k ≤ (gAsk s).length → k < n → (∀ i e, k ≤ i → (gAsk s)[i]? = some e → nbP c l e = true) → wp (f_X7_noBack_7 n y c l (nI k - 1)) (RM (wAsk s ((gAsk s).filter (nbP c l)))) := by
  intro n
  induction n with
  | zero => intro k s y _ _ q; omega
  | succ n ih =>
    intro k s y h hk hn hb
    obtain ⟨a1, a2, a3⟩ := h.2.2.2.2.2.1
    rw [f_X7_noBack_7]
    dsimp only
    cases k with
    | zero =>
      refine wp_t (by decide) (wp_some ?_)
      have hf : (gAsk s).filter (nbP c l) = gAsk s := List.filter_eq_self.mpr (fun e he => by
        obtain ⟨i, hi⟩ := List.getElem?_of_mem he
        exact hb i e (Nat.zero_le _) hi)
      rw [hf]
      exact h
    | succ k =>
      have e1 : nI (k + 1) - 1 = nI k := nI_pred k
      have e2 : nI k + -1 = nI k - 1 := by
        rw [Int32.sub_eq_add_neg]
      rw [e1, e2]
      have he : (gAsk s)[k]? = some (gAsk s)[k] := List.getElem?_eq_getElem (by omega)
      have f0 := a3 k _ he 0 (by decide)
      have f1 := a3 k _ he 1 (by decide)
      have f2 := a3 k _ he 2 (by decide)
      rw [Nat.zero_add] at f0 f1 f2
      have goOn : nbP c l (gAsk s)[k] = true → wp (f_X7_noBack_7 n y c l (nI k - 1)) (RM (wAsk s ((gAsk s).filter (nbP c l)))) := by
        intro hp
        refine ih k s y h (by omega) (by omega) (fun i e hi hie => ?_)
        by_cases hik : i = k
        · subst hik
          rw [he] at hie
          cases hie
          exact hp
        · exact hb i e (by omega) hie
      refine wp_f (nI_pos (by omega)) ?_
      rw [nl_5, pn_mul, nl_1, nl_2, nI_add, nI_add]
      refine wp_ck (pn_in (by omega) (by omega)) ?_
      rw [pn_ix (by omega), show 5 * k = 5 * k + 0 from rfl, f0]
      refine wp_ite (fun q0 => ?_) (fun q0 => ?_)
      · refine wp_ck (pn_in (by omega) (by omega)) ?_
        rw [pn_ix (by omega), f1]
        refine wp_ite (fun q1 => ?_) (fun q1 => ?_)
        · refine wp_ck (pn_in (by omega) (by omega)) ?_
          rw [pn_ix (by omega), f2]
          refine wp_ite (fun q2 => ?_) (fun q2 => ?_)
          · refine wp_bindM (m_noMore h (by omega)) (fun y' h' => ?_)
            have hp : nbP c l (gAsk s)[k] = false := by
              unfold nbP
              simp [q0, q1, q2]
            have hfe := erase_filter (nbP c l) (gAsk s) k _ he hp
            have := ih k (wAsk s ((gAsk s).eraseIdx k)) y' h' (by show k ≤ ((gAsk s).eraseIdx k).length; rw [List.length_eraseIdx_of_lt (by omega)]; omega) (by omega) (fun i e hi hie => by
              have hie : ((gAsk s).eraseIdx k)[i]? = some e := hie
              rw [List.getElem?_eraseIdx, if_neg (by omega)] at hie
              exact hb (i + 1) e (by omega) hie)
            rw [show gAsk (wAsk s ((gAsk s).eraseIdx k)) = (gAsk s).eraseIdx k from rfl, hfe] at this
            exact this
          · exact goOn (by unfold nbP; simp [q2])
        · exact goOn (by unfold nbP; simp [q1])
      · exact goOn (by unfold nbP; simp [q0])
theorem m_noBack {s : Sx} {y : sw_St} {c l : Int32} (h : RM s y) : wp (f_X7_noBack y c l) (RM (wAsk s ((gAsk s).filter (nbP c l)))) := by
  obtain ⟨a1, a2, a3⟩ := h.2.2.2.2.2.1
  unfold f_X7_noBack
  rw [a1]
  exact m_nb_go sw_fuel _ s y h (Nat.le_refl _) (by unfold sw_fuel; omega) (fun i e hi hie => by
    have := (List.getElem?_eq_some_iff.mp hie).1
    omega)
/-- whether a line is open -/
def isO (o : List E) (v : Int32) : Bool := o.any (fun e => e 2 == v)
theorem m_io_go {y : sw_St} {o : List E} {v : Int32} (h : opnM y o) : ∀ (n k : Nat) (b : Bool), k ≤ o.length → o.length - k < n → f_X7_isOpen_4 y n v (if b = true then 1 else 0) (nI k) = some (if (b || (o.drop k).any (fun e => e 2 == v)) = true then 1 else 0) := by
  obtain ⟨a1, a2, a3⟩ := h
  intro n
  induction n with
  | zero => intro k b _ q; omega
  | succ n ih =>
    intro k b hk hn
    rw [f_X7_isOpen_4]
    dsimp only
    rw [a1]
    by_cases hke : k = o.length
    · rw [if_pos (by rw [hke]; exact nI_le (Nat.le_refl _) (by omega)), ck_t (b01 _ _), hke, List.drop_length]
      simp
    · have hlt : k < o.length := by omega
      have he : o[k]? = some o[k] := List.getElem?_eq_getElem hlt
      have f2 := a3 k _ he 2 (by decide)
      rw [Nat.zero_add] at f2
      have hd : o.drop k = o[k] :: o.drop (k + 1) := List.drop_eq_getElem_cons hlt
      rw [if_neg (nI_ge hlt (by omega)), hd]
      unfold f_X7_isOpen_31
      have it := ih (k + 1) true (by omega) (by omega)
      have if_ := ih (k + 1) false (by omega) (by omega)
      rw [if_pos rfl] at it
      rw [if_neg (by decide)] at if_
      rw [nI_1]
      cases b with
      | true =>
        rw [show (if true = true then (1:Int32) else 0) = 1 from rfl, if_neg (by decide), it]
        simp
      | false =>
        rw [show (if false = true then (1:Int32) else 0) = 0 from rfl, if_pos rfl, nl_7, pn_mul, nl_2, nI_add, ck_t (pn_in (by omega) (by omega)), pn_ix (by omega), f2]
        by_cases hv : o[k] 2 = v
        · rw [if_pos hv, it]
          simp only [Bool.true_or, Bool.false_or, List.any_cons, hv, beq_self_eq_true]
        · rw [if_neg hv, if_]
          simp only [Bool.false_or, List.any_cons, beq_eq_false_iff_ne.mpr hv]
theorem m_isOpen {y : sw_St} {o : List E} (v : Int32) (h : opnM y o) : f_X7_isOpen y v = some (if isO o v = true then 1 else 0) := by
  have := m_io_go (v := v) h sw_fuel 0 false (Nat.zero_le _) (by unfold sw_fuel; have := h.2.1; omega)
  rw [if_neg (by decide), Bool.false_or, List.drop_zero] at this
  exact this
