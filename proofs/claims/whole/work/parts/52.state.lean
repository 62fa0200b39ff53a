/-! PURE: the middle state, and how the model's memory stands for it -/
/-- scalars (0 cores 1 size 2 fast 3 slow 4 now 5 places 6 ordered 7 away 8 beaten 9 ended 10 answers), memory, rows (line value how), buffers (line value; slot place), ops (op line value since last), asks (kind core line place sent; cell), open ones (kind core line due as value sent; stamp), the order -/
abbrev Sx : Type := (Nat → Int32) × (Nat → Int32) × (Nat → List E) × (Nat → List E) × (Nat → E) × List E × List E × List E
abbrev gSc (s : Sx) : Nat → Int32 := s.1
abbrev gMem (s : Sx) : Nat → Int32 := s.2.1
abbrev gRow (s : Sx) : Nat → List E := s.2.2.1
abbrev gBuf (s : Sx) : Nat → List E := s.2.2.2.1
abbrev gOp (s : Sx) : Nat → E := s.2.2.2.2.1
abbrev gAsk (s : Sx) : List E := s.2.2.2.2.2.1
abbrev gOpn (s : Sx) : List E := s.2.2.2.2.2.2.1
abbrev gOrd (s : Sx) : List E := s.2.2.2.2.2.2.2
def wSc (s : Sx) (k : Nat) (v : Int32) : Sx := (va_up s.1 k v, s.2)
def wMem (s : Sx) (l : Nat) (v : Int32) : Sx := (s.1, va_up s.2.1 l v, s.2.2)
def wRow (s : Sx) (c : Nat) (l : List E) : Sx := (s.1, s.2.1, va_up s.2.2.1 c l, s.2.2.2)
def wBuf (s : Sx) (c : Nat) (l : List E) : Sx := (s.1, s.2.1, s.2.2.1, va_up s.2.2.2.1 c l, s.2.2.2.2)
def wOp (s : Sx) (c : Nat) (e : E) : Sx := (s.1, s.2.1, s.2.2.1, s.2.2.2.1, va_up s.2.2.2.2.1 c e, s.2.2.2.2.2)
def wAsk (s : Sx) (l : List E) : Sx := (s.1, s.2.1, s.2.2.1, s.2.2.2.1, s.2.2.2.2.1, l, s.2.2.2.2.2.2)
def wOpn (s : Sx) (l : List E) : Sx := (s.1, s.2.1, s.2.2.1, s.2.2.2.1, s.2.2.2.2.1, s.2.2.2.2.2.1, l, s.2.2.2.2.2.2.2)
def wOrd (s : Sx) (l : List E) : Sx := (s.1, s.2.1, s.2.2.1, s.2.2.2.1, s.2.2.2.2.1, s.2.2.2.2.2.1, s.2.2.2.2.2.2.1, l)
theorem up_s {α : Type} (f : Nat → α) (k : Nat) (v : α) : va_up f k v k = v := by unfold va_up; rw [if_pos rfl]
theorem up_n {α : Type} (f : Nat → α) {k j : Nat} (v : α) (h : j ≠ k) : va_up f k v j = f j := by unfold va_up; rw [if_neg h]
-- the model
def bufM (y : sw_St) (c : Nat) (l : List E) : Prop := y 7 c = nI l.length ∧ l.length ≤ 2 ∧ ∀ (i : Nat) (e : E), l[i]? = some e → y 8 (2 * c + i) = e 0 ∧ y 9 (2 * c + i) = e 1
def askM (y : sw_St) (l : List E) : Prop := y 1 18 = nI l.length ∧ l.length ≤ 16 ∧ enc y 15 5 0 l
def opnM (y : sw_St) (l : List E) : Prop := y 1 21 = nI l.length ∧ l.length ≤ 4 ∧ enc y 16 7 0 l
def scM (y : sw_St) (f : Nat → Int32) : Prop := y 1 0 = f 0 ∧ y 1 1 = f 1 ∧ y 1 2 = f 2 ∧ y 1 3 = f 3 ∧ y 1 4 = f 4 ∧ y 1 20 = f 5 ∧ y 1 23 = f 6 ∧ y 1 25 = f 7 ∧ y 1 26 = f 8 ∧ y 1 27 = f 9 ∧ y 1 28 = f 10
def opM (y : sw_St) (c : Nat) (e : E) : Prop := y 11 c = e 0 ∧ y 12 c = e 1 ∧ y 13 c = e 2 ∧ y 14 c = e 3 ∧ y 10 c = e 4
def ordM (y : sw_St) (l : List E) : Prop := l.length ≤ 16 ∧ enc y 17 3 0 l
def RM (s : Sx) (y : sw_St) : Prop := scM y (gSc s) ∧ (∀ l, l < 8 → y 2 l = gMem s l) ∧ (∀ c, c < 4 → rowM y c (gRow s c)) ∧ (∀ c, c < 4 → bufM y c (gBuf s c)) ∧ (∀ c, c < 4 → opM y c (gOp s c)) ∧ askM y (gAsk s) ∧ opnM y (gOpn s) ∧ ordM y (gOrd s)
/-- cells that RM looks at stay -/
def same (y y' : sw_St) (a : Nat) : Prop := y' a = y a
theorem scM_k {y y' : sw_St} {f : Nat → Int32} (h : scM y f) (e : ∀ j, j ≠ 18 → j ≠ 21 → j ≠ 29 → j ≠ 31 → j ≠ 33 → y' 1 j = y 1 j) : scM y' f := by
  unfold scM at h ⊢
  simp only [e 0 (by decide) (by decide) (by decide) (by decide) (by decide), e 1 (by decide) (by decide) (by decide) (by decide) (by decide), e 2 (by decide) (by decide) (by decide) (by decide) (by decide), e 3 (by decide) (by decide) (by decide) (by decide) (by decide), e 4 (by decide) (by decide) (by decide) (by decide) (by decide), e 20 (by decide) (by decide) (by decide) (by decide) (by decide), e 23 (by decide) (by decide) (by decide) (by decide) (by decide), e 25 (by decide) (by decide) (by decide) (by decide) (by decide), e 26 (by decide) (by decide) (by decide) (by decide) (by decide), e 27 (by decide) (by decide) (by decide) (by decide) (by decide), e 28 (by decide) (by decide) (by decide) (by decide) (by decide)]
  exact h
theorem rowM_k {y y' : sw_St} {c : Nat} {l : List E} (h : rowM y c l) (e3 : y' 3 c = y 3 c) (e4 : ∀ i, i < 4 → y' 4 (4 * c + i) = y 4 (4 * c + i) ∧ y' 5 (4 * c + i) = y 5 (4 * c + i) ∧ y' 6 (4 * c + i) = y 6 (4 * c + i)) : rowM y' c l := by
  obtain ⟨h1, h2, h3⟩ := h
  refine ⟨by rw [e3]; exact h1, h2, fun i e hi => ?_⟩
  have hl := (List.getElem?_eq_some_iff.mp hi).1
  obtain ⟨a, b, d⟩ := e4 i (by omega)
  rw [a, b, d]
  exact h3 i e hi
theorem bufM_k {y y' : sw_St} {c : Nat} {l : List E} (h : bufM y c l) (e7 : y' 7 c = y 7 c) (e8 : ∀ i, i < 2 → y' 8 (2 * c + i) = y 8 (2 * c + i) ∧ y' 9 (2 * c + i) = y 9 (2 * c + i)) : bufM y' c l := by
  obtain ⟨h1, h2, h3⟩ := h
  refine ⟨by rw [e7]; exact h1, h2, fun i e hi => ?_⟩
  have hl := (List.getElem?_eq_some_iff.mp hi).1
  obtain ⟨a, b⟩ := e8 i (by omega)
  rw [a, b]
  exact h3 i e hi
theorem opM_k {y y' : sw_St} {c : Nat} {l : E} (h : opM y c l) (e : ∀ a, 10 ≤ a → a ≤ 14 → y' a c = y a c) : opM y' c l := by
  unfold opM at h ⊢
  rw [e 11 (by decide) (by decide), e 12 (by decide) (by decide), e 13 (by decide) (by decide), e 14 (by decide) (by decide), e 10 (by decide) (by decide)]
  exact h
theorem enc_k {y y' : sw_St} {A st base : Nat} {l : List E} (h : enc y A st base l) (e : y' A = y A) : enc y' A st base l := fun i x hi f hf => by rw [e]; exact h i x hi f hf
theorem askM_k {y y' : sw_St} {l : List E} (h : askM y l) (e1 : y' 1 18 = y 1 18) (e2 : y' 15 = y 15) : askM y' l := ⟨by rw [e1]; exact h.1, h.2.1, enc_k h.2.2 e2⟩
theorem opnM_k {y y' : sw_St} {l : List E} (h : opnM y l) (e1 : y' 1 21 = y 1 21) (e2 : y' 16 = y 16) : opnM y' l := ⟨by rw [e1]; exact h.1, h.2.1, enc_k h.2.2 e2⟩
theorem ordM_k {y y' : sw_St} {l : List E} (h : ordM y l) (e2 : y' 17 = y 17) : ordM y' l := ⟨h.1, enc_k h.2 e2⟩
/-- a change in the row of one cache -/
theorem RM_row {s : Sx} {y y' : sw_St} {c : Nat} {l : List E} (h : RM s y) (hr : rowM y' c l) (h0 : ∀ a, (a < 3 ∨ 6 < a) → y' a = y a) (h3 : ∀ b, b ≠ c → y' 3 b = y 3 b) (h4 : ∀ a b, 4 ≤ a → a ≤ 6 → (b < 4 * c ∨ 4 * c + 4 ≤ b) → y' a b = y a b) : RM (wRow s c l) y' := by
  obtain ⟨a1, a2, a3, a4, a5, a6, a7, a8⟩ := h
  refine ⟨scM_k a1 (fun j _ _ _ _ _ => by rw [h0 1 (by omega)]), fun l hl => by rw [h0 2 (by omega)]; exact a2 l hl, fun c' hc' => ?_, fun c' hc' => bufM_k (a4 c' hc') (by rw [h0 7 (by omega)]) (fun i _ => by rw [h0 8 (by omega), h0 9 (by omega)]; exact ⟨rfl, rfl⟩), fun c' hc' => opM_k (a5 c' hc') (fun a _ _ => by rw [h0 a (by omega)]), askM_k a6 (by rw [h0 1 (by omega)]) (h0 15 (by omega)), opnM_k a7 (by rw [h0 1 (by omega)]) (h0 16 (by omega)), ordM_k a8 (h0 17 (by omega))⟩
  by_cases e : c' = c
  · subst e
    show rowM y' c' (va_up (gRow s) c' l c')
    rw [up_s]
    exact hr
  · show rowM y' c' (va_up (gRow s) c l c')
    rw [up_n _ _ e]
    exact rowM_k (a3 c' hc') (h3 c' e) (fun i hi => ⟨h4 4 _ (by omega) (by omega) (by omega), h4 5 _ (by omega) (by omega) (by omega), h4 6 _ (by omega) (by omega) (by omega)⟩)
/-- a change in one buffer -/
theorem RM_buf {s : Sx} {y y' : sw_St} {c : Nat} {l : List E} (h : RM s y) (hr : bufM y' c l) (h0 : ∀ a, (a < 7 ∨ 9 < a) → y' a = y a) (h3 : ∀ b, b ≠ c → y' 7 b = y 7 b) (h4 : ∀ a b, 8 ≤ a → a ≤ 9 → (b < 2 * c ∨ 2 * c + 2 ≤ b) → y' a b = y a b) : RM (wBuf s c l) y' := by
  obtain ⟨a1, a2, a3, a4, a5, a6, a7, a8⟩ := h
  refine ⟨scM_k a1 (fun j _ _ _ _ _ => by rw [h0 1 (by omega)]), fun l hl => by rw [h0 2 (by omega)]; exact a2 l hl, fun c' hc' => rowM_k (a3 c' hc') (by rw [h0 3 (by omega)]) (fun i _ => by rw [h0 4 (by omega), h0 5 (by omega), h0 6 (by omega)]; exact ⟨rfl, rfl, rfl⟩), fun c' hc' => ?_, fun c' hc' => opM_k (a5 c' hc') (fun a _ _ => by rw [h0 a (by omega)]), askM_k a6 (by rw [h0 1 (by omega)]) (h0 15 (by omega)), opnM_k a7 (by rw [h0 1 (by omega)]) (h0 16 (by omega)), ordM_k a8 (h0 17 (by omega))⟩
  by_cases e : c' = c
  · subst e
    show bufM y' c' (va_up (gBuf s) c' l c')
    rw [up_s]
    exact hr
  · show bufM y' c' (va_up (gBuf s) c l c')
    rw [up_n _ _ e]
    exact bufM_k (a4 c' hc') (h3 c' e) (fun i hi => ⟨h4 8 _ (by omega) (by omega) (by omega), h4 9 _ (by omega) (by omega) (by omega)⟩)
/-- a change in what waits -/
theorem RM_ask {s : Sx} {y y' : sw_St} {l : List E} (h : RM s y) (hr : askM y' l) (h0 : ∀ a, a ≠ 1 → a ≠ 15 → y' a = y a) (h1 : ∀ b, b ≠ 18 → y' 1 b = y 1 b) : RM (wAsk s l) y' := by
  obtain ⟨a1, a2, a3, a4, a5, a6, a7, a8⟩ := h
  exact ⟨scM_k a1 (fun j q _ _ _ _ => h1 j q), fun l hl => by rw [h0 2 (by omega) (by omega)]; exact a2 l hl, fun c' hc' => rowM_k (a3 c' hc') (by rw [h0 3 (by omega) (by omega)]) (fun i _ => by rw [h0 4 (by omega) (by omega), h0 5 (by omega) (by omega), h0 6 (by omega) (by omega)]; exact ⟨rfl, rfl, rfl⟩), fun c' hc' => bufM_k (a4 c' hc') (by rw [h0 7 (by omega) (by omega)]) (fun i _ => by rw [h0 8 (by omega) (by omega), h0 9 (by omega) (by omega)]; exact ⟨rfl, rfl⟩), fun c' hc' => opM_k (a5 c' hc') (fun a _ _ => by rw [h0 a (by omega) (by omega)]), hr, opnM_k a7 (h1 21 (by decide)) (h0 16 (by omega) (by omega)), ordM_k a8 (h0 17 (by omega) (by omega))⟩
/-- a change in what is open -/
theorem RM_opn {s : Sx} {y y' : sw_St} {l : List E} (h : RM s y) (hr : opnM y' l) (h0 : ∀ a, a ≠ 1 → a ≠ 16 → y' a = y a) (h1 : ∀ b, b ≠ 21 → y' 1 b = y 1 b) : RM (wOpn s l) y' := by
  obtain ⟨a1, a2, a3, a4, a5, a6, a7, a8⟩ := h
  exact ⟨scM_k a1 (fun j _ q _ _ _ => h1 j q), fun l hl => by rw [h0 2 (by omega) (by omega)]; exact a2 l hl, fun c' hc' => rowM_k (a3 c' hc') (by rw [h0 3 (by omega) (by omega)]) (fun i _ => by rw [h0 4 (by omega) (by omega), h0 5 (by omega) (by omega), h0 6 (by omega) (by omega)]; exact ⟨rfl, rfl, rfl⟩), fun c' hc' => bufM_k (a4 c' hc') (by rw [h0 7 (by omega) (by omega)]) (fun i _ => by rw [h0 8 (by omega) (by omega), h0 9 (by omega) (by omega)]; exact ⟨rfl, rfl⟩), fun c' hc' => opM_k (a5 c' hc') (fun a _ _ => by rw [h0 a (by omega) (by omega)]), askM_k a6 (h1 18 (by decide)) (h0 15 (by omega) (by omega)), hr, ordM_k a8 (h0 17 (by omega) (by omega))⟩
/-- a change of one op -/
theorem RM_op {s : Sx} {y y' : sw_St} {c : Nat} {e : E} (h : RM s y) (hr : opM y' c e) (h0 : ∀ a, (a < 10 ∨ 14 < a) → y' a = y a) (h1 : ∀ a b, b ≠ c → y' a b = y a b) : RM (wOp s c e) y' := by
  obtain ⟨a1, a2, a3, a4, a5, a6, a7, a8⟩ := h
  refine ⟨scM_k a1 (fun j _ _ _ _ _ => by rw [h0 1 (by omega)]), fun l hl => by rw [h0 2 (by omega)]; exact a2 l hl, fun c' hc' => rowM_k (a3 c' hc') (by rw [h0 3 (by omega)]) (fun i _ => by rw [h0 4 (by omega), h0 5 (by omega), h0 6 (by omega)]; exact ⟨rfl, rfl, rfl⟩), fun c' hc' => bufM_k (a4 c' hc') (by rw [h0 7 (by omega)]) (fun i _ => by rw [h0 8 (by omega), h0 9 (by omega)]; exact ⟨rfl, rfl⟩), fun c' hc' => ?_, askM_k a6 (by rw [h0 1 (by omega)]) (h0 15 (by omega)), opnM_k a7 (by rw [h0 1 (by omega)]) (h0 16 (by omega)), ordM_k a8 (h0 17 (by omega))⟩
  by_cases q : c' = c
  · subst q
    show opM y' c' (va_up (gOp s) c' e c')
    rw [up_s]
    exact hr
  · show opM y' c' (va_up (gOp s) c e c')
    rw [up_n _ _ q]
    exact opM_k (a5 c' hc') (fun a _ _ => h1 a c' q)
/-- a change of one number of memory -/
theorem RM_mem {s : Sx} {y : sw_St} {l : Nat} {v : Int32} (h : RM s y) : RM (wMem s l v) (sw_up y 2 l v) := by
  obtain ⟨a1, a2, a3, a4, a5, a6, a7, a8⟩ := h
  have h0 : ∀ a, a ≠ 2 → sw_up y 2 l v a = y a := fun a q => up_ne q
  refine ⟨scM_k a1 (fun j _ _ _ _ _ => by rw [h0 1 (by omega)]), fun l' hl => ?_, fun c' hc' => rowM_k (a3 c' hc') (by rw [h0 3 (by omega)]) (fun i _ => by rw [h0 4 (by omega), h0 5 (by omega), h0 6 (by omega)]; exact ⟨rfl, rfl, rfl⟩), fun c' hc' => bufM_k (a4 c' hc') (by rw [h0 7 (by omega)]) (fun i _ => by rw [h0 8 (by omega), h0 9 (by omega)]; exact ⟨rfl, rfl⟩), fun c' hc' => opM_k (a5 c' hc') (fun a _ _ => by rw [h0 a (by omega)]), askM_k a6 (by rw [h0 1 (by omega)]) (h0 15 (by omega)), opnM_k a7 (by rw [h0 1 (by omega)]) (h0 16 (by omega)), ordM_k a8 (h0 17 (by omega))⟩
  show sw_up y 2 l v 2 l' = va_up (gMem s) l v l'
  by_cases q : l' = l
  · subst q
    rw [up_s, up_eq]
  · rw [up_n _ _ q, up_nj q]
    exact a2 l' hl
/-- which scalar is which -/
def scJ (k : Nat) : Nat := [0, 1, 2, 3, 4, 20, 23, 25, 26, 27, 28].getD k 99
theorem RM_sc {s : Sx} {y : sw_St} (k : Nat) (hk : k < 11) {v : Int32} (h : RM s y) : RM (wSc s k v) (sw_up y 1 (scJ k) v) := by
  obtain ⟨a1, a2, a3, a4, a5, a6, a7, a8⟩ := h
  have h0 : ∀ a, a ≠ 1 → sw_up y 1 (scJ k) v a = y a := fun a q => up_ne q
  have h18 : scJ k ≠ 18 ∧ scJ k ≠ 21 := by
    rcases (show k = 0 ∨ k = 1 ∨ k = 2 ∨ k = 3 ∨ k = 4 ∨ k = 5 ∨ k = 6 ∨ k = 7 ∨ k = 8 ∨ k = 9 ∨ k = 10 by omega) with rfl | rfl | rfl | rfl | rfl | rfl | rfl | rfl | rfl | rfl | rfl <;> decide
  refine ⟨?_, fun l hl => by rw [h0 2 (by omega)]; exact a2 l hl, fun c' hc' => rowM_k (a3 c' hc') (by rw [h0 3 (by omega)]) (fun i _ => by rw [h0 4 (by omega), h0 5 (by omega), h0 6 (by omega)]; exact ⟨rfl, rfl, rfl⟩), fun c' hc' => bufM_k (a4 c' hc') (by rw [h0 7 (by omega)]) (fun i _ => by rw [h0 8 (by omega), h0 9 (by omega)]; exact ⟨rfl, rfl⟩), fun c' hc' => opM_k (a5 c' hc') (fun a _ _ => by rw [h0 a (by omega)]), askM_k a6 (up_nj (Ne.symm h18.1)) (h0 15 (by omega)), opnM_k a7 (up_nj (Ne.symm h18.2)) (h0 16 (by omega)), ordM_k a8 (h0 17 (by omega))⟩
  show scM (sw_up y 1 (scJ k) v) (va_up (gSc s) k v)
  unfold scM at a1 ⊢
  rcases (show k = 0 ∨ k = 1 ∨ k = 2 ∨ k = 3 ∨ k = 4 ∨ k = 5 ∨ k = 6 ∨ k = 7 ∨ k = 8 ∨ k = 9 ∨ k = 10 by omega) with rfl | rfl | rfl | rfl | rfl | rfl | rfl | rfl | rfl | rfl | rfl <;> simp [scJ, sw_up, va_up, a1]
