/-! PURE: how the class's memory stands for the middle state -/
def scX (x : sw_St) (f : Nat → Int32) : Prop := x 2 4 = f 0 ∧ x 2 5 = f 1 ∧ x 2 6 = f 2 ∧ x 2 7 = f 3 ∧ x 2 8 = f 4 ∧ x 2 9 = f 5 ∧ x 6 1 = f 6 ∧ x 2 10 = f 7 ∧ x 2 11 = f 8 ∧ x 2 12 = f 9 ∧ x 2 13 = f 10
def cacheX (x : sw_St) (c : Nat) (L : List E) (u : Int32) : Prop := (∀ l, l < 8 → x (10 + 9 * c) l = howR L (nI l)) ∧ (∀ e ∈ L, ∀ l, l < 8 → e 0 = nI l → x (11 + 9 * c) l = e 1 ∧ x (12 + 9 * c) l = e 3) ∧ x (9 + 9 * c) 3 = u
def opX (x : sw_St) (c : Nat) (A O : List E) (op : E) : Prop := x (14 + 9 * c) 0 = nI c ∧ (∀ a ∈ A, a 5 = nI (3 * c) → x (14 + 9 * c) 1 = 1 ∧ x (14 + 9 * c) 2 = a 0 ∧ x (14 + 9 * c) 3 = a 2 ∧ x (14 + 9 * c) 6 = a 3 ∧ x (14 + 9 * c) 7 = a 4) ∧ (∀ a ∈ O, a 1 = nI c → x (14 + 9 * c) 1 = 2 ∧ x (14 + 9 * c) 2 = a 0 ∧ x (14 + 9 * c) 3 = a 2 ∧ x (14 + 9 * c) 9 = a 3 ∧ x (14 + 9 * c) 10 = a 4 ∧ x (14 + 9 * c) 7 = a 6 ∧ x (14 + 9 * c) 8 = a 7 ∧ (a 0 = 0 → x (14 + 9 * c) 4 = a 5)) ∧ ((∀ a ∈ A, a 5 ≠ nI (3 * c)) → (∀ a ∈ O, a 1 ≠ nI c) → x (14 + 9 * c) 1 = 0) ∧ (op 0 ≠ 0 → x (14 + 9 * c) 5 = op 3 ∧ (op 0 = 2 → x (14 + 9 * c) 4 = op 2))
def bkX (x : sw_St) (c i : Nat) (A B : List E) : Prop := x (15 + 9 * c + i) 0 = nI c ∧ (∀ e ∈ B, e 2 = nI i → x (15 + 9 * c + i) 1 = 1 ∧ x (15 + 9 * c + i) 2 = 3 ∧ x (15 + 9 * c + i) 3 = e 0 ∧ x (15 + 9 * c + i) 4 = e 1 ∧ x (15 + 9 * c + i) 6 = e 3) ∧ (∀ a ∈ A, a 5 = nI (3 * c + 1 + i) → x (15 + 9 * c + i) 7 = a 4) ∧ ((∀ e ∈ B, e 2 ≠ nI i) → x (15 + 9 * c + i) 1 = 0)
def logX (x : sw_St) (T : Nat) (L : List E) : Prop := x 6 2 = nI (min T 16) ∧ x 6 3 = nI (T % 16) ∧ ∀ (i : Nat) (e : E), L[i]? = some e → ∀ f, f < 3 → x 7 ((T - L.length + i) % 16 * 3 + f) = e f
def RX (s : Sx) (x : sw_St) : Prop := scX x (gSc s) ∧ (∀ l, l < 8 → x 5 l = gMem s l) ∧ (∀ c, c < 4 → cacheX x c (gRow s c) (gSc s (20 + c))) ∧ (∀ c, c < 4 → opX x c (gAsk s) (gOpn s) (gOp s c)) ∧ (∀ c i, c < 4 → i < 2 → bkX x c i (gAsk s) (gBuf s c)) ∧ (∀ c, c < 4 → x (8 + 9 * c) 3 = gOp s c 4) ∧ logX x (tN s) (gOrd s)
-- ===== frames =====
theorem scX_k {x x' : sw_St} {f : Nat → Int32} (h : scX x f) (h2 : x' 2 = x 2) (h6 : x' 6 = x 6) : scX x' f := by
  unfold scX at h ⊢
  rw [h2, h6]
  exact h
theorem cacheX_k {x x' : sw_St} {c : Nat} {L : List E} {u : Int32} (h : cacheX x c L u) (h9 : ∀ a, 9 + 9 * c ≤ a → a ≤ 12 + 9 * c → x' a = x a) : cacheX x' c L u := by
  unfold cacheX at h ⊢
  rw [h9 (9 + 9 * c) (by omega) (by omega), h9 (10 + 9 * c) (by omega) (by omega), h9 (11 + 9 * c) (by omega) (by omega), h9 (12 + 9 * c) (by omega) (by omega)]
  exact h
theorem opX_k {x x' : sw_St} {c : Nat} {A A' O O' : List E} {op op' : E} (h : opX x c A O op) (hx : x' (14 + 9 * c) = x (14 + 9 * c)) (hA : ∀ a, a 5 = nI (3 * c) → (a ∈ A' ↔ a ∈ A)) (hO : ∀ a, a 1 = nI c → (a ∈ O' ↔ a ∈ O)) (hop : op' 0 = op 0 ∧ op' 2 = op 2 ∧ op' 3 = op 3) : opX x' c A' O' op' := by
  obtain ⟨h1, h2, h3, h4, h5⟩ := h
  unfold opX
  rw [hx, hop.1, hop.2.1, hop.2.2]
  exact ⟨h1, fun a ha z => h2 a ((hA a z).mp ha) z, fun a ha z => h3 a ((hO a z).mp ha) z, fun z1 z2 => h4 (fun a ha z => z1 a ((hA a z).mpr ha) z) (fun a ha z => z2 a ((hO a z).mpr ha) z), h5⟩
theorem bkX_k {x x' : sw_St} {c i : Nat} {A A' B B' : List E} (h : bkX x c i A B) (hx : x' (15 + 9 * c + i) = x (15 + 9 * c + i)) (hA : ∀ a, a 5 = nI (3 * c + 1 + i) → (a ∈ A' ↔ a ∈ A)) (hB : ∀ e, e 2 = nI i → (e ∈ B' ↔ e ∈ B)) : bkX x' c i A' B' := by
  obtain ⟨h1, h2, h3, h4⟩ := h
  unfold bkX
  rw [hx]
  exact ⟨h1, fun a ha z => h2 a ((hB a z).mp ha) z, fun a ha z => h3 a ((hA a z).mp ha) z, fun z1 => h4 (fun a ha z => z1 a ((hB a z).mpr ha) z)⟩
theorem logX_k {x x' : sw_St} {T : Nat} {L : List E} (h : logX x T L) (h6 : x' 6 = x 6) (hx : x' 7 = x 7) : logX x' T L := by
  unfold logX at h ⊢
  rw [h6, hx]
  exact h
/-- a change in one cache -/
theorem RX_cache {s : Sx} {x x' : sw_St} {c : Nat} {L : List E} {u : Int32} (h : RX s x) (hc : c < 4) (hr : cacheX x' c L u) (h0 : ∀ a, (a < 9 + 9 * c ∨ 12 + 9 * c < a) → x' a = x a) : RX (wRow (wSc s (20 + c) u) c L) x' := by
  obtain ⟨a1, a2, a3, a4, a5, a6, a7⟩ := h
  refine ⟨?_, fun l hl => by rw [h0 5 (by omega)]; exact a2 l hl, fun d hd => ?_, fun d hd => ?_, fun d i hd hi => ?_, fun d hd => ?_, ?_⟩
  · have := scX_k a1 (h0 2 (by omega)) (h0 6 (by omega))
    show scX x' (va_up (gSc s) (20 + c) u)
    unfold scX at this ⊢
    rw [up_n _ _ (by omega), up_n _ _ (by omega), up_n _ _ (by omega), up_n _ _ (by omega), up_n _ _ (by omega), up_n _ _ (by omega), up_n _ _ (by omega), up_n _ _ (by omega), up_n _ _ (by omega), up_n _ _ (by omega), up_n _ _ (by omega)]
    exact this
  · show cacheX x' d (va_up (gRow s) c L d) (va_up (gSc s) (20 + c) u (20 + d))
    by_cases e : d = c
    · subst e
      rw [up_s, up_s]
      exact hr
    · rw [up_n _ _ e, up_n _ _ (by omega)]
      exact cacheX_k (a3 d hd) (fun a h1 h2 => h0 a (by omega))
  · exact opX_k (a4 d hd) (h0 _ (by omega)) (fun _ _ => Iff.rfl) (fun _ _ => Iff.rfl) ⟨rfl, rfl, rfl⟩
  · exact bkX_k (a5 d i hd hi) (h0 _ (by omega)) (fun _ _ => Iff.rfl) (fun _ _ => Iff.rfl)
  · rw [h0 _ (by omega)]; exact a6 d hd
  · show logX x' (sw_ix (va_up (gSc s) (20 + c) u 6)) (gOrd s)
    rw [up_n _ _ (by omega)]
    exact logX_k a7 (h0 6 (by omega)) (h0 7 (by omega))
theorem sc_self (s : Sx) (k : Nat) : wSc s k (gSc s k) = s := by
  have e : va_up (gSc s) k (gSc s k) = gSc s := by
    funext j
    unfold va_up
    split
    · next h => rw [h]
    · rfl
  show (va_up (gSc s) k (gSc s k), s.2) = s
  rw [e]
/-- a change in one cache, its uses stay -/
theorem RX_cache0 {s : Sx} {x x' : sw_St} {c : Nat} {L : List E} (h : RX s x) (hc : c < 4) (hr : cacheX x' c L (gSc s (20 + c))) (h0 : ∀ a, (a < 9 + 9 * c ∨ 12 + 9 * c < a) → x' a = x a) : RX (wRow s c L) x' := by
  have := RX_cache h hc hr h0
  rw [sc_self] at this
  exact this
/-- a change of one number -/
def scX1 (k : Nat) : Nat × Nat := if k = 6 then (6, 1) else ([(2, 4), (2, 5), (2, 6), (2, 7), (2, 8), (2, 9), (6, 1), (2, 10), (2, 11), (2, 12), (2, 13)].getD k (99, 0))
theorem RX_sc {s : Sx} {x : sw_St} (k : Nat) (hk : k < 11) (h6 : k ≠ 6) {v : Int32} (h : RX s x) : RX (wSc s k v) (sw_up x (scX1 k).1 (scX1 k).2 v) := by
  obtain ⟨a1, a2, a3, a4, a5, a6, a7⟩ := h
  have h2 : (scX1 k).1 = 2 := by
    rcases (show k = 0 ∨ k = 1 ∨ k = 2 ∨ k = 3 ∨ k = 4 ∨ k = 5 ∨ k = 7 ∨ k = 8 ∨ k = 9 ∨ k = 10 by omega) with rfl | rfl | rfl | rfl | rfl | rfl | rfl | rfl | rfl | rfl <;> rfl
  have h0 : ∀ a, a ≠ 2 → sw_up x (scX1 k).1 (scX1 k).2 v a = x a := fun a q => up_ne (by rw [h2]; exact q)
  refine ⟨?_, fun l hl => by rw [h0 5 (by omega)]; exact a2 l hl, fun d hd => ?_, fun d hd => ?_, fun d i hd hi => ?_, fun d hd => ?_, ?_⟩
  · show scX (sw_up x (scX1 k).1 (scX1 k).2 v) (va_up (gSc s) k v)
    unfold scX at a1 ⊢
    rcases (show k = 0 ∨ k = 1 ∨ k = 2 ∨ k = 3 ∨ k = 4 ∨ k = 5 ∨ k = 7 ∨ k = 8 ∨ k = 9 ∨ k = 10 by omega) with rfl | rfl | rfl | rfl | rfl | rfl | rfl | rfl | rfl | rfl <;> simp [scX1, sw_up, va_up, a1]
  · show cacheX _ d (gRow s d) (va_up (gSc s) k v (20 + d))
    rw [up_n _ _ (by omega)]
    exact cacheX_k (a3 d hd) (fun a h1 h2 => h0 a (by omega))
  · exact opX_k (a4 d hd) (h0 _ (by omega)) (fun _ _ => Iff.rfl) (fun _ _ => Iff.rfl) ⟨rfl, rfl, rfl⟩
  · exact bkX_k (a5 d i hd hi) (h0 _ (by omega)) (fun _ _ => Iff.rfl) (fun _ _ => Iff.rfl)
  · rw [h0 _ (by omega)]; exact a6 d hd
  · show logX _ (sw_ix (va_up (gSc s) k v 6)) (gOrd s)
    rw [up_n _ _ (Ne.symm h6)]
    exact logX_k a7 (h0 6 (by omega)) (h0 7 (by omega))
theorem RX_mem {s : Sx} {x : sw_St} {l : Nat} {v : Int32} (h : RX s x) : RX (wMem s l v) (sw_up x 5 l v) := by
  obtain ⟨a1, a2, a3, a4, a5, a6, a7⟩ := h
  have h0 : ∀ a, a ≠ 5 → sw_up x 5 l v a = x a := fun a q => up_ne q
  refine ⟨scX_k a1 (h0 2 (by omega)) (h0 6 (by omega)), fun l' hl => ?_, fun d hd => cacheX_k (a3 d hd) (fun a h1 h2 => h0 a (by omega)), fun d hd => opX_k (a4 d hd) (h0 _ (by omega)) (fun _ _ => Iff.rfl) (fun _ _ => Iff.rfl) ⟨rfl, rfl, rfl⟩, fun d i hd hi => bkX_k (a5 d i hd hi) (h0 _ (by omega)) (fun _ _ => Iff.rfl) (fun _ _ => Iff.rfl), fun d hd => by rw [h0 _ (by omega)]; exact a6 d hd, logX_k a7 (h0 6 (by omega)) (h0 7 (by omega))⟩
  show sw_up x 5 l v 5 l' = va_up (gMem s) l v l'
  by_cases q : l' = l
  · subst q
    rw [up_s, up_eq]
  · rw [up_n _ _ q, up_nj q]
    exact a2 l' hl
/-- a change of what a core read last -/
theorem RX_last {s : Sx} {x : sw_St} {c : Nat} {v : Int32} (h : RX s x) (hc : c < 4) : RX (wOp s c (lOp (gOp s c) v)) (sw_up x (8 + 9 * c) 3 v) := by
  obtain ⟨a1, a2, a3, a4, a5, a6, a7⟩ := h
  have h0 : ∀ a, a ≠ 8 + 9 * c → sw_up x (8 + 9 * c) 3 v a = x a := fun a q => up_ne q
  refine ⟨scX_k a1 (h0 2 (by omega)) (h0 6 (by omega)), fun l' hl => by rw [h0 5 (by omega)]; exact a2 l' hl, fun d hd => cacheX_k (a3 d hd) (fun a h1 h2 => h0 a (by omega)), fun d hd => opX_k (a4 d hd) (h0 _ (by omega)) (fun _ _ => Iff.rfl) (fun _ _ => Iff.rfl) ?_, fun d i hd hi => bkX_k (a5 d i hd hi) (h0 _ (by omega)) (fun _ _ => Iff.rfl) (fun _ _ => Iff.rfl), fun d hd => ?_, logX_k a7 (h0 6 (by omega)) (h0 7 (by omega))⟩
  · show va_up (gOp s) c (lOp (gOp s c) v) d 0 = gOp s d 0 ∧ va_up (gOp s) c (lOp (gOp s c) v) d 2 = gOp s d 2 ∧ va_up (gOp s) c (lOp (gOp s c) v) d 3 = gOp s d 3
    by_cases e : d = c
    · subst e; rw [up_s]; exact ⟨rfl, rfl, rfl⟩
    · rw [up_n _ _ e]; exact ⟨rfl, rfl, rfl⟩
  · show sw_up x (8 + 9 * c) 3 v (8 + 9 * d) 3 = va_up (gOp s) c (lOp (gOp s c) v) d 4
    by_cases e : d = c
    · subst e; rw [up_s, up_eq]; rfl
    · rw [up_n _ _ e, up_ne (by omega)]; exact a6 d hd
/-- a change of requests -/
theorem RX_req {s s' : Sx} {x x' : sw_St} (h : RX s x) (h0 : ∀ a, (∀ c r, c < 4 → r < 3 → a ≠ 14 + 9 * c + r) → x' a = x a) (hs : gSc s' = gSc s) (hm : gMem s' = gMem s) (hrow : gRow s' = gRow s) (hord : gOrd s' = gOrd s) (hlast : ∀ c, c < 4 → gOp s' c 4 = gOp s c 4) (h1 : ∀ c, c < 4 → opX x' c (gAsk s') (gOpn s') (gOp s' c)) (h2 : ∀ c i, c < 4 → i < 2 → bkX x' c i (gAsk s') (gBuf s' c)) : RX s' x' := by
  obtain ⟨a1, a2, a3, a4, a5, a6, a7⟩ := h
  refine ⟨?_, fun l' hl => ?_, fun d hd => ?_, h1, h2, fun d hd => ?_, ?_⟩
  · rw [hs]; exact scX_k a1 (h0 2 (fun _ _ _ _ => by omega)) (h0 6 (fun _ _ _ _ => by omega))
  · rw [hm, h0 5 (fun _ _ _ _ => by omega)]; exact a2 l' hl
  · rw [hrow, hs]; exact cacheX_k (a3 d hd) (fun a h1 h2 => h0 a (fun _ _ _ _ => by omega))
  · rw [h0 _ (fun _ _ _ _ => by omega), hlast d hd]; exact a6 d hd
  · show logX x' (sw_ix (gSc s' 6)) (gOrd s')
    rw [hs, hord]
    exact logX_k a7 (h0 6 (fun _ _ _ _ => by omega)) (h0 7 (fun _ _ _ _ => by omega))
-- ===== a loop with what it carries =====
theorem lp_fold {A β : Type} {F : Nat → A → Int32 → Option β} {N : Nat} {J : Nat → A → Prop} {Q : β → Prop} (he : ∀ n a, J N a → wp (F (n + 1) a (nI N)) Q) (hs : ∀ n k a, k < N → J k a → ∃ a', F (n + 1) a (nI k) = F n a' (nI (k + 1)) ∧ J (k + 1) a') : ∀ n k a, k ≤ N → N - k < n → J k a → wp (F n a (nI k)) Q := by
  intro n
  induction n with
  | zero => intro k a _ q; omega
  | succ n ih =>
    intro k a hk hn hJ
    by_cases hkN : k = N
    · subst hkN
      exact he n a hJ
    · obtain ⟨a', h1, h2⟩ := hs n k a (by omega) hJ
      rw [h1]
      exact ih (k + 1) a' (by omega) (by omega) h2
