/-! PURE: answers, the order, other cores, in the model -/
theorem lp_findO {β : Type} {F : Nat → Int32 → Option β} {N : Nat} {P : Nat → Bool} {G : Nat → Option β} {D : Option β} (he : ∀ n, F (n + 1) (nI N) = D) (ht : ∀ n k, k < N → P k = true → F (n + 1) (nI k) = G k) (hf : ∀ n k, k < N → P k = false → F (n + 1) (nI k) = F n (nI (k + 1))) : ∀ n k, k ≤ N → N - k < n → (∃ j, k ≤ j ∧ j < N ∧ P j = true ∧ (∀ i, k ≤ i → i < j → P i = false) ∧ F n (nI k) = G j) ∨ ((∀ i, k ≤ i → i < N → P i = false) ∧ F n (nI k) = D) := by
  intro n
  induction n with
  | zero => intro k _ q; omega
  | succ n ih =>
    intro k hk hn
    by_cases hkN : k = N
    · right
      subst hkN
      exact ⟨fun i _ _ => by omega, he n⟩
    · cases hp : P k with
      | true =>
        left
        exact ⟨k, Nat.le_refl _, by omega, hp, fun i _ _ => by omega, ht n k (by omega) hp⟩
      | false =>
        rw [hf n k (by omega) hp]
        rcases ih (k + 1) (by omega) (by omega) with ⟨j, h1, h2, h3, h4, h5⟩ | ⟨h1, h2⟩
        · left
          refine ⟨j, by omega, h2, h3, fun i hi hj => ?_, h5⟩
          by_cases hik : i = k
          · subst hik; exact hp
          · exact h4 i (by omega) hj
        · right
          refine ⟨fun i hi hj => ?_, h2⟩
          by_cases hik : i = k
          · subst hik; exact hp
          · exact h1 i (by omega) hj
/-- the first of N numbers -/
def fst1 (P : Nat → Bool) (N : Nat) : Option Nat := (List.range N).find? P
theorem fst1_s {P : Nat → Bool} {N j : Nat} (h : fst1 P N = some j) : j < N ∧ P j = true ∧ ∀ i, i < j → P i = false := by
  unfold fst1 at h
  have := List.find?_range_eq_some.mp h
  refine ⟨by simpa using this.2.1, this.1, fun i hi => by simpa using this.2.2 i hi⟩
theorem fst1_n {P : Nat → Bool} {N : Nat} (h : fst1 P N = none) : ∀ i, i < N → P i = false := by
  unfold fst1 at h
  intro i hi
  have := List.find?_range_eq_none.mp h i hi
  simpa using this
theorem fst1_is {P : Nat → Bool} {N j : Nat} (h1 : j < N) (h2 : P j = true) (h3 : ∀ i, i < j → P i = false) : fst1 P N = some j := by
  unfold fst1
  exact List.find?_range_eq_some.mpr ⟨h2, by simpa using h1, fun i hi => by simp [h3 i hi]⟩
theorem fst1_no {P : Nat → Bool} {N : Nat} (h : ∀ i, i < N → P i = false) : fst1 P N = none := by
  unfold fst1
  exact List.find?_range_eq_none.mpr (fun i hi => by simp [h i hi])
theorem lp_fst {β : Type} {F : Nat → Int32 → Option β} {N : Nat} {P : Nat → Bool} {G : Nat → Option β} {D : Option β} (he : ∀ n, F (n + 1) (nI N) = D) (ht : ∀ n k, k < N → P k = true → F (n + 1) (nI k) = G k) (hf : ∀ n k, k < N → P k = false → F (n + 1) (nI k) = F n (nI (k + 1))) (hN : N < 300) : F sw_fuel (nI 0) = (match fst1 P N with | some j => G j | none => D) := by
  rcases lp_findO he ht hf sw_fuel 0 (Nat.zero_le _) (by unfold sw_fuel; omega) with ⟨j, -, h2, h3, h4, h5⟩ | ⟨h1, h2⟩
  · rw [fst1_is h2 h3 (fun i hi => h4 i (Nat.zero_le _) hi)]
    exact h5
  · rw [fst1_no (fun i hi => h1 i (Nat.zero_le _) hi)]
    exact h2
-- ===== other cores =====
/-- the first core, but this one, that has the line so -/
def oth (s : Sx) (x l m : Int32) : Option Nat := fst1 (fun d => decide (nI d ≠ x) && !decide (howR (gRow s d) l < m)) (sw_ix (gSc s 0))
def bfr (s : Sx) (l : Int32) : Option Nat := fst1 (fun d => (ixf (gBuf s d) 0 l).isSome) (sw_ix (gSc s 0))
def nIo (o : Option Nat) : Int32 := match o with
  | some j => nI j
  | none => -4
theorem m_other {s : Sx} {y : sw_St} (x l m : Int32) (h : RM s y) (hN : Nums s) : f_X7_otherThat y x l m = some (nIo (oth s x l m)) := by
  obtain ⟨C, hC, hC2, hC4⟩ := hN
  have h0 : y 1 0 = nI C := by rw [← hC]; exact h.1.1
  unfold f_X7_otherThat oth
  rw [hC, pn_ix (by omega)]
  have := lp_fst (F := fun n k => f_X7_otherThat_3 y n x l m k) (N := C) (P := fun d => decide (nI d ≠ x) && !decide (howR (gRow s d) l < m)) (G := fun d => some (nI d)) (D := some (-4)) (fun n => by
      rw [f_X7_otherThat_3]
      dsimp only
      rw [h0, if_pos (nI_le (Nat.le_refl _) (by omega))]) (fun n k hk hP => by
      rw [f_X7_otherThat_3]
      dsimp only
      simp only [Bool.and_eq_true, Bool.not_eq_true', decide_eq_true_eq, decide_eq_false_iff_not] at hP
      rw [h0, if_neg (nI_ge hk (by omega)), if_neg hP.1, m_howOf l (by omega) (h.2.2.1 k (by omega)), bd_s, if_neg hP.2]) (fun n k hk hP => by
      rw [f_X7_otherThat_3]
      dsimp only
      rw [h0, if_neg (nI_ge hk (by omega)), m_howOf l (by omega) (h.2.2.1 k (by omega)), bd_s, nI_1]
      by_cases q : nI k = x
      · rw [if_pos q]
      · rw [if_neg q]
        have : howR (gRow s k) l < m := by simpa [q] using hP
        rw [if_pos this]) (by omega)
  refine Eq.trans this ?_
  cases fst1 (fun d => decide (nI d ≠ x) && !decide (howR (gRow s d) l < m)) C <;> rfl
theorem m_bfr {s : Sx} {y : sw_St} (l : Int32) (h : RM s y) (hN : Nums s) : f_X7_bufferThat y l = some (nIo (bfr s l)) := by
  obtain ⟨C, hC, hC2, hC4⟩ := hN
  have h0 : y 1 0 = nI C := by rw [← hC]; exact h.1.1
  unfold f_X7_bufferThat bfr
  rw [hC, pn_ix (by omega)]
  have := lp_fst (F := fun n k => f_X7_bufferThat_2 y n l k) (N := C) (P := fun d => (ixf (gBuf s d) 0 l).isSome) (G := fun d => some (nI d)) (D := some (-4)) (fun n => by
      rw [f_X7_bufferThat_2]
      dsimp only
      rw [h0, if_pos (nI_le (Nat.le_refl _) (by omega))]) (fun n k hk hP => by
      rw [f_X7_bufferThat_2]
      dsimp only
      obtain ⟨i, hi⟩ := Option.isSome_iff_exists.mp hP
      have hb := (h.2.2.2.1 k (by omega)).2.1
      obtain ⟨e, -, -, hl⟩ := ixf_some hi
      rw [h0, if_neg (nI_ge hk (by omega)), m_ba1 (by omega) (h.2.2.2.1 k (by omega)) hi, bd_s, if_neg (pn_neg (by omega))]) (fun n k hk hP => by
      rw [f_X7_bufferThat_2]
      dsimp only
      have hi : ixf (gBuf s k) 0 l = none := by simpa using hP
      rw [h0, if_neg (nI_ge hk (by omega)), m_ba0 (by omega) (h.2.2.2.1 k (by omega)) hi, bd_s, if_pos rfl, nI_1]) (by omega)
  refine Eq.trans this ?_
  cases fst1 (fun d => (ixf (gBuf s d) 0 l).isSome) C <;> rfl
def wRows (s : Sx) (f : Nat → List E) : Sx := (s.1, s.2.1, f, s.2.2.2)
/-- no other core has the line -/
def aNoOther (s : Sx) (c : Nat) (l : Int32) : Sx := wRows s (fun d => if d < sw_ix (gSc s 0) ∧ d ≠ c then del (gRow s d) l else gRow s d)
theorem m_noOther {s : Sx} {y : sw_St} {c : Nat} (l : Int32) (hc : c < 4) (h : RM s y) (hN : Nums s) : wp (f_X7_noOther y (nI c) l) (RM (aNoOther s c l)) := by
  obtain ⟨C, hC, hC2, hC4⟩ := hN
  unfold f_X7_noOther aNoOther
  rw [hC, pn_ix (by omega)]
  obtain ⟨m, y', e, hI⟩ := lp_st (F := fun n x k => f_X7_noOther_2 n x (nI c) l k) (N := C) (I := fun k x => RM (wRows s (fun d => if d < k ∧ d ≠ c then del (gRow s d) l else gRow s d)) x) (fun n k x hk hI => by
      have h0 : x 1 0 = nI C := by rw [← hC]; exact hI.1.1
      rw [f_X7_noOther_2]
      dsimp only
      rw [h0, if_neg (nI_ge hk (by omega)), nI_1]
      by_cases q : k = c
      · refine ⟨x, by rw [if_pos (by rw [q])], ?_⟩
        have : (fun d => if d < k + 1 ∧ d ≠ c then del (gRow s d) l else gRow s d) = (fun d => if d < k ∧ d ≠ c then del (gRow s d) l else gRow s d) := by
          funext d
          by_cases z : d < k ∧ d ≠ c
          · rw [if_pos z, if_pos ⟨by omega, z.2⟩]
          · rw [if_neg z, if_neg (by omega)]
        rw [this]
        exact hI
      · obtain ⟨x', e1, h1⟩ := m_takeOut (c := k) l (by omega) hI
        refine ⟨x', by rw [if_neg (fun z => q ((nI_eq (by omega) (by omega)).mp z)), e1]; rfl, ?_⟩
        have : (fun d => if d < k + 1 ∧ d ≠ c then del (gRow s d) l else gRow s d) = va_up (fun d => if d < k ∧ d ≠ c then del (gRow s d) l else gRow s d) k (del (gRow s k) l) := by
          funext d
          unfold va_up
          by_cases z : d = k
          · subst z
            rw [if_pos rfl, if_pos ⟨by omega, q⟩]
          · rw [if_neg z]
            dsimp only
            by_cases z2 : d < k ∧ d ≠ c
            · rw [if_pos z2, if_pos ⟨by omega, z2.2⟩]
            · rw [if_neg z2, if_neg (by omega)]
        rw [this]
        have e2 : gRow (wRows s (fun d => if d < k ∧ d ≠ c then del (gRow s d) l else gRow s d)) k = gRow s k := by
          show (if k < k ∧ k ≠ c then del (gRow s k) l else gRow s k) = gRow s k
          rw [if_neg (by omega)]
        rw [e2] at h1
        exact h1) sw_fuel 0 y (Nat.zero_le _) (by unfold sw_fuel; omega) (by
      have : (fun d => if d < 0 ∧ d ≠ c then del (gRow s d) l else gRow s d) = gRow s := by
        funext d
        rw [if_neg (by omega)]
      rw [this]
      exact h)
  have h0 : y' 1 0 = nI C := by rw [← hC]; exact hI.1.1
  refine ⟨y', ?_, hI⟩
  refine Eq.trans e ?_
  rw [f_X7_noOther_2]
  dsimp only
  rw [h0, if_pos (nI_le (Nat.le_refl _) (by omega))]
-- ===== the order as a text =====
def aOrd (s : Sx) (c k l : Int32) : Sx := wSc (wOrd s ((if gSc s 6 < 16 then gOrd s else (gOrd s).tail) ++ [mk [48 + c, k, 48 + l]])) 6 (gSc s 6 + 1)
/-- how long the text is -/
def iOrd (s : Sx) : Prop := ∃ T, gSc s 6 = nI T ∧ T < 2 ^ 30 ∧ (gOrd s).length = min T 16
theorem RM_ord {s : Sx} {y y' : sw_St} {l : List E} (h : RM s y) (hr : ordM y' l) (h0 : ∀ a, a ≠ 17 → y' a = y a) : RM (wOrd s l) y' := by
  obtain ⟨a1, a2, a3, a4, a5, a6, a7, a8⟩ := h
  exact ⟨scM_k a1 (fun j _ _ _ _ _ => by rw [h0 1 (by omega)]), fun l hl => by rw [h0 2 (by omega)]; exact a2 l hl, fun c' hc' => rowM_k (a3 c' hc') (by rw [h0 3 (by omega)]) (fun i _ => by rw [h0 4 (by omega), h0 5 (by omega), h0 6 (by omega)]; exact ⟨rfl, rfl, rfl⟩), fun c' hc' => bufM_k (a4 c' hc') (by rw [h0 7 (by omega)]) (fun i _ => by rw [h0 8 (by omega), h0 9 (by omega)]; exact ⟨rfl, rfl⟩), fun c' hc' => opM_k (a5 c' hc') (fun a _ _ => by rw [h0 a (by omega)]), askM_k a6 (by rw [h0 1 (by omega)]) (h0 15 (by omega)), opnM_k a7 (by rw [h0 1 (by omega)]) (h0 16 (by omega)), hr⟩
theorem m_or_go {c k l : Int32} : ∀ (n p : Nat) (y : sw_St), p ≤ 45 → 45 - p < n → f_X7_orders_12 n y c k l (nI p) = f_X7_orders_41 (shf y 17 3 p 45) c k l := by
  intro n
  induction n with
  | zero => intro p y _ q; omega
  | succ n ih =>
    intro p y hp hn
    rw [f_X7_orders_12]
    dsimp only
    have e45 : (45 : Int32) = nI 45 := rfl
    rw [e45]
    by_cases hpe : p = 45
    · rw [if_pos (by rw [hpe]; exact nI_le (Nat.le_refl _) (by omega)), shf_nil (by omega)]
    · rw [if_neg (nI_ge (by omega) (by omega)), nI_1, nl_3, nI_add, ck_t (pn_in (by omega) (by omega)), ck_t (pn_in (by omega) (by omega)), pn_ix (by omega), pn_ix (by omega)]
      simp only [sw_pt]
      rw [ih (p + 1) _ (by omega) (by omega), shf_step (by omega) (by decide)]
theorem m_or_put {s : Sx} {y : sw_St} {c k l : Int32} {p : Nat} {L : List E} (h : RM (wOrd s L) y) (hp : p = 3 * L.length) (hL : L.length < 16) : wp (f_X7_orders_61 y c k l (nI p)) (RM (wSc (wOrd s (L ++ [mk [48 + c, k, 48 + l]])) 6 (gSc s 6 + 1))) := by
  have h23 : y 1 23 = gSc s 6 := h.1.2.2.2.2.2.2.1
  unfold f_X7_orders_61
  rw [nI_1, nl_2, nI_add]
  simp (disch := omega) only [sw_pt, ck_tt, pn_in, pn_ix]
  refine wp_some ?_
  rw [up_ne (by decide), up_ne (by decide), up_ne (by decide), h23]
  refine RM_sc (v := gSc s 6 + 1) 6 (by decide) (RM_ord (s := wOrd s L) h ⟨?_, ?_⟩ (fun a ha => ?_))
  · rw [List.length_append]; show L.length + 1 ≤ 16; omega
  · refine enc_push (enc_keep h.2.2.2.2.2.2.2.2 (fun b _ hb => ?_)) (fun f hf => ?_)
    · have hb : b < 0 + 3 * L.length := hb
      simp only [up_at]
      grind
    · simp only [up_at]
      rcases (show f = 0 ∨ f = 1 ∨ f = 2 by omega) with rfl | rfl | rfl <;> simp [mk, hp]
  · funext b; simp only [up_at]; grind
theorem m_orders {s : Sx} {y : sw_St} {c k l : Int32} (h : RM s y) (hT : iOrd s) : wp (f_X7_orders y c k l) (RM (aOrd s c k l)) := by
  obtain ⟨T, hT1, hT2, hT3⟩ := hT
  have h23 : y 1 23 = gSc s 6 := h.1.2.2.2.2.2.2.1
  have e16 : (16 : Int32) = nI 16 := rfl
  unfold f_X7_orders aOrd
  rw [h23, hT1, e16]
  by_cases q : T < 16
  · rw [if_pos (nI_lt q (by omega)), if_pos (nI_lt q (by omega))]
    unfold f_X7_orders_41
    rw [h23, hT1, e16, if_pos (nI_lt q (by omega)), nl_3, pn_mul]
    have := m_or_put (s := s) (L := gOrd s) (c := c) (k := k) (l := l) (p := 3 * T) h (by omega) (by omega)
    rw [hT1] at this
    exact this
  · rw [if_neg (nI_nlt (by omega) (by omega)), if_neg (nI_nlt (by omega) (by omega))]
    have e0 := m_or_go (c := c) (k := k) (l := l) sw_fuel 0 y (Nat.zero_le _) (by unfold sw_fuel; omega)
    rw [show (0 : Int32) = nI 0 from rfl, e0]
    have hlen : (gOrd s).length = 16 := by omega
    have hte : (gOrd s).tail = (gOrd s).eraseIdx 0 := by rw [List.eraseIdx_zero]
    have h1 : RM (wOrd s (gOrd s).tail) (shf y 17 3 0 45) := by
      refine RM_ord h ⟨?_, ?_⟩ (fun a ha => shf_ne ha)
      · rw [List.length_tail]; omega
      · have := enc_erase (i := 0) h.2.2.2.2.2.2.2.2 (by omega)
        rw [hlen] at this
        rw [hte]
        exact this
    unfold f_X7_orders_41
    have h23' : shf y 17 3 0 45 1 23 = gSc s 6 := by rw [shf_ne (by decide)]; exact h23
    rw [h23', hT1, e16, if_neg (nI_nlt (by omega) (by omega))]
    have := m_or_put (s := s) (L := (gOrd s).tail) (c := c) (k := k) (l := l) (p := 45) h1 (by rw [List.length_tail]; omega) (by rw [List.length_tail]; omega)
    rw [hT1] at this
    exact this
