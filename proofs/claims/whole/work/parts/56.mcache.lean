/-! PURE: the model's caches and buffers -/
def mk (l : List Int32) : E := fun k => l.getD k 0
theorem RM_gh {s : Sx} {y : sw_St} {k : Nat} {v : Int32} (h : RM s y) (hk : 11 ≤ k) : RM (wSc s k v) y := by
  obtain ⟨a1, a⟩ := h
  refine ⟨?_, a⟩
  show scM y (va_up (gSc s) k v)
  unfold scM at a1 ⊢
  rw [up_n _ _ (by omega), up_n _ _ (by omega), up_n _ _ (by omega), up_n _ _ (by omega), up_n _ _ (by omega), up_n _ _ (by omega), up_n _ _ (by omega), up_n _ _ (by omega), up_n _ _ (by omega), up_n _ _ (by omega), up_n _ _ (by omega)]
  exact a1
def slotF (b : List E) : Nat := if b.any (fun e => e 2 == 0) = true then 1 else 0
/-- a changed line goes into the buffer, and asks -/
def aBack (s : Sx) (c : Nat) (v w : Int32) : Sx := wAsk (wBuf (wSc s 5 (gSc s 5 + 1)) c (gBuf s c ++ [mk [v, w, nI (slotF (gBuf s c)), gSc s 5]])) (gAsk s ++ [mk [3, nI c, v, gSc s 5, 0, nI (3 * c + 1 + slotF (gBuf s c))]])
def aGiveK (s : Sx) (c k : Nat) : Sx := wRow (if getE (gRow s c) k 2 = 3 then aBack s c (getE (gRow s c) k 0) (getE (gRow s c) k 1) else s) c ((gRow s c).eraseIdx k)
def aPush (s : Sx) (c : Nat) (v w t : Int32) : Sx := wRow (wSc s (20 + c) (gSc s (20 + c) + 1)) c (gRow s c ++ [mk [v, w, t, gSc s (20 + c) + 1]])
def aFill (s : Sx) (c : Nat) (v w t : Int32) : Sx := aPush (if nI (gRow s c).length = gSc s 1 then aGiveK s c 0 else s) c v w t
def aUse (s : Sx) (c : Nat) (v w t : Int32) : Sx := aPush (wRow s c (del (gRow s c) v)) c v w t
def aOut (s : Sx) (c k : Nat) (v : Int32) : Sx := wAsk (wBuf s c ((gBuf s c).eraseIdx k)) ((gAsk s).filter (nbP (nI c) v))
def aTake (s : Sx) (c : Nat) (v : Int32) : Sx := match ixf (gBuf s c) 0 v with
  | none => s
  | some k => aFill (aOut s c k v) c v (getE (gBuf s c) k 1) 3
theorem getE_t {l : List E} {k : Nat} (h : k < l.length) : l[k]? = some (getE l k) := by
  rw [List.getElem?_eq_getElem h, getE_s (List.getElem?_eq_getElem h)]
/-- a cache can take a line -/
abbrev cFill (s : Sx) (c : Nat) : Prop := nI (gRow s c).length < gSc s 1 ∨ getE (gRow s c) 0 2 ≠ 3 ∨ (gBuf s c).length < 2
theorem m_canFill {s : Sx} {y : sw_St} {c K : Nat} (hc : c < 4) (h : RM s y) (hK : gSc s 1 = nI K) (hK1 : 1 ≤ K) (hK4 : K ≤ 4) : ∃ r, f_X7_canFill y (nI c) = some r ∧ (r = 0 ↔ ¬ cFill s c) := by
  obtain ⟨r1, r2, r3⟩ := h.2.2.1 c hc
  obtain ⟨b1, b2, b3⟩ := h.2.2.2.1 c hc
  have hk : y 1 1 = gSc s 1 := h.1.2.1
  unfold f_X7_canFill cFill
  rw [hK] at hk ⊢
  have hcK : nI (gRow s c).length < nI K ↔ (gRow s c).length < K := nI_ltI (by omega) (by omega)
  rw [ck_t (pn_in (by omega) (by omega)), pn_ix (by omega), r1, hk]
  by_cases h1 : (gRow s c).length < K
  · rw [if_pos (hcK.mpr h1)]
    exact ⟨1, rfl, by simp [hcK.mpr h1]⟩
  · have e0 := (r3 0 _ (getE_t (by omega))).2.2
    rw [Nat.add_zero] at e0
    rw [if_neg (fun z => h1 (hcK.mp z)), nl_4, pn_mul, ck_t (pn_in (by omega) (by omega)), pn_ix (by omega), e0, b1]
    have hb2 : (2 : Int32) ≤ nI (gBuf s c).length ↔ 2 ≤ (gBuf s c).length := nI_leI (a := 2) (by omega) (by omega)
    have hc' : ¬ nI (gRow s c).length < nI K := fun z => h1 (hcK.mp z)
    by_cases h3 : getE (gRow s c) 0 2 = 3
    · rw [if_pos h3]
      by_cases h2 : 2 ≤ (gBuf s c).length
      · rw [if_pos (hb2.mpr h2)]
        exact ⟨0, rfl, by simp [hc', h3, h2]⟩
      · rw [if_neg (fun z => h2 (hb2.mp z))]
        exact ⟨1, rfl, by simp [hc', h3]; omega⟩
    · rw [if_neg h3]
      exact ⟨1, rfl, by simp [h3]⟩
theorem m_ba_go {y : sw_St} {c : Nat} {l : List E} {v : Int32} (hc : c < 4) (h : bufM y c l) : f_X7_backAt y (nI c) v = some (match ixf l 0 v with | some k => nI (2 * c + k) | none => -4) := by
  obtain ⟨h1, h2, h3⟩ := h
  have := lp_find (F := fun n k => f_X7_backAt_2 y n (nI c) v k) (N := l.length) (P := fun k => getE l k 0 = v) (g := fun k => nI (2 * c + k)) (d := -4) (fun n => by
      rw [f_X7_backAt_2]
      simp (disch := omega) only [ck_tt, pn_in, pn_ix, pn_mul, nI_add, nl_0, nl_1, nl_2, nl_3, nl_4, nl_5, nl_6, nl_7, nl_8, sw_pt, bd_s, nI_eq, nI_leI, nI_ltI, h1, Nat.le_refl, if_true]) (fun n k hk hp => by
      rw [f_X7_backAt_2]
      dsimp only
      have e := (h3 k _ (getE_t hk)).1
      simp (disch := omega) only [ck_tt, pn_in, pn_ix, pn_mul, nI_add, nl_0, nl_1, nl_2, nl_3, nl_4, nl_5, nl_6, nl_7, nl_8, sw_pt, bd_s, nI_eq, nI_leI, nI_ltI, h1]
      rw [if_neg (by omega), e, if_pos hp]) (fun n k hk hp => by
      rw [f_X7_backAt_2]
      dsimp only
      have e := (h3 k _ (getE_t hk)).1
      simp (disch := omega) only [ck_tt, pn_in, pn_ix, pn_mul, nI_add, nl_0, nl_1, nl_2, nl_3, nl_4, nl_5, nl_6, nl_7, nl_8, sw_pt, bd_s, nI_eq, nI_leI, nI_ltI, h1]
      rw [if_neg (by omega), e, if_neg hp]) sw_fuel 0 (Nat.zero_le _) (by unfold sw_fuel; omega)
  unfold f_X7_backAt
  rcases this with ⟨j, -, hj, hp, hb, e⟩ | ⟨hb, e⟩
  · rw [ixf_go (getE_t hj) (fun i e' hi hie => by rw [← getE_s hie]; exact hb i (Nat.zero_le _) hi) hp]
    exact e
  · rw [ixf_no (fun i e' hie => by rw [← getE_s hie]; exact hb i (Nat.zero_le _) (List.getElem?_eq_some_iff.mp hie).1)]
    exact e
theorem m_ba0 {y : sw_St} {c : Nat} {l : List E} {v : Int32} (hc : c < 4) (h : bufM y c l) (hx : ixf l 0 v = none) : f_X7_backAt y (nI c) v = some (-4) := by
  rw [m_ba_go hc h, hx]
theorem m_ba1 {y : sw_St} {c : Nat} {l : List E} {v : Int32} {k : Nat} (hc : c < 4) (h : bufM y c l) (hx : ixf l 0 v = some k) : f_X7_backAt y (nI c) v = some (nI (2 * c + k)) := by
  rw [m_ba_go hc h, hx]
theorem m_out {s : Sx} {y : sw_St} {c k : Nat} {v : Int32} (hc : c < 4) (h : RM s y) (hx : ixf (gBuf s c) 0 v = some k) : wp (f_X7_outOfBuffer y (nI c) v) (fun r => r.1 = getE (gBuf s c) k 1 ∧ RM (wBuf s c ((gBuf s c).eraseIdx k)) r.2) := by
  obtain ⟨b1, b2, b3⟩ := h.2.2.2.1 c hc
  obtain ⟨e, h1, h2, h3⟩ := ixf_some hx
  have ev := (b3 k e h1).2
  have l1 := List.length_eraseIdx_of_lt h3
  unfold f_X7_outOfBuffer
  rw [m_ba1 hc (h.2.2.2.1 c hc) hx]
  simp (disch := omega) only [ck_tt, pn_in, pn_ix, pn_mul, nI_add, nl_0, nl_1, nl_2, nl_3, nl_4, nl_5, nl_6, nl_7, nl_8, sw_pt, bd_s, nI_eq, nI_leI, nI_ltI, b1]
  rw [pn_sub (by omega), up_eq, getE_s h1, ev]
  have key : ∀ y' : sw_St, (∀ a, a < 7 ∨ 9 < a → y' a = y a) → y' 7 c = nI ((gBuf s c).length - 1) → (∀ b, b ≠ c → y' 7 b = y 7 b) → (∀ a b, 8 ≤ a → a ≤ 9 → b ≠ 2 * c → y' a b = y a b) → ((k = 0 ∧ (gBuf s c).length = 2) → y' 8 (2 * c) = y 8 (2 * c + 1) ∧ y' 9 (2 * c) = y 9 (2 * c + 1)) → (¬ (k = 0 ∧ (gBuf s c).length = 2) → y' 8 (2 * c) = y 8 (2 * c) ∧ y' 9 (2 * c) = y 9 (2 * c)) → RM (wBuf s c ((gBuf s c).eraseIdx k)) y' := by
    intro y' g1 g2 g3 g4 g5 g6
    refine RM_buf h ⟨by rw [g2, l1], by omega, fun i e' hi => ?_⟩ g1 g3 (fun a b ha hb hcb => g4 a b ha hb (by omega))
    have hil : i < (gBuf s c).length - 1 := by
      have := (List.getElem?_eq_some_iff.mp hi).1
      omega
    have hi0 : i = 0 := by omega
    subst hi0
    rw [List.getElem?_eraseIdx] at hi
    by_cases hk : k = 0
    · rw [if_neg (by omega)] at hi
      have := b3 1 e' hi
      have g := g5 ⟨hk, by omega⟩
      rw [Nat.add_zero, g.1, g.2]
      exact this
    · rw [if_pos (by omega)] at hi
      have := b3 0 e' hi
      have g := g6 (fun z => hk z.1)
      rw [Nat.add_zero, g.1, g.2]
      exact this
  refine wp_ite (fun q => ?_) (fun q => ?_)
  · refine wp_ite (fun q2 => ?_) (fun q2 => ?_) <;> rw [nI_eq (by omega) (by omega)] at q2
    · refine wp_some ⟨rfl, key _ (fun a ha => ?_) ?_ (fun b hb => ?_) (fun a b ha hb hn => ?_) (fun _ => ?_) (fun z => absurd ⟨by omega, by omega⟩ z)⟩
      · funext b; simp only [up_at]; grind
      · simp only [up_at]; grind
      · simp only [up_at]; grind
      · simp only [up_at]; grind
      · simp only [up_at]; grind
    · refine wp_some ⟨rfl, key _ (fun a ha => ?_) ?_ (fun b hb => ?_) (fun a b ha hb hn => ?_) (fun z => by omega) (fun _ => ?_)⟩
      · funext b; simp only [up_at]; grind
      · simp only [up_at]; grind
      · simp only [up_at]; grind
      · simp only [up_at]; grind
      · simp only [up_at]; grind
  · refine wp_some ⟨rfl, key _ (fun a ha => ?_) ?_ (fun b hb => ?_) (fun a b ha hb hn => ?_) (fun z => by omega) (fun _ => ?_)⟩
    · funext b; simp only [up_at]; grind
    · simp only [up_at]; grind
    · simp only [up_at]; grind
    · simp only [up_at]; grind
    · simp only [up_at]; grind
theorem m_push {s : Sx} {y : sw_St} {c : Nat} {v w t : Int32} (hc : c < 4) (h : RM s y) (hl : (gRow s c).length < 4) : wp (f_X7_putIn y (nI c) v w t) (RM (aPush s c v w t)) :=
  wp_mono (m_putIn (en := mk [v, w, t, gSc s (20 + c) + 1]) hc h hl rfl rfl rfl) (fun y' h' => RM_gh (k := 20 + c) (v := gSc s (20 + c) + 1) h' (by omega))
theorem del_len (l : List E) (v : Int32) : (del l v).length ≤ l.length := by
  unfold del
  split
  · exact List.length_eraseIdx_le _ _
  · exact Nat.le_refl _
theorem del_at {l : List E} {v : Int32} {k : Nat} (h : ixf l 0 v = some k) : del l v = l.eraseIdx k := by
  unfold del
  rw [h]
theorem m_use {s : Sx} {y : sw_St} {c : Nat} {v w t : Int32} (hc : c < 4) (h : RM s y) (hin : ∃ k, ixf (gRow s c) 0 v = some k) : wp (f_X7_use y (nI c) v w t) (RM (aUse s c v w t)) := by
  unfold f_X7_use
  refine wp_bindM (m_takeOut v hc h) (fun y1 h1 => ?_)
  obtain ⟨k, hk⟩ := hin
  obtain ⟨e, h2, h3, h4⟩ := ixf_some hk
  have r2 := (h.2.2.1 c hc).2.1
  have hl : (gRow (wRow s c (del (gRow s c) v)) c).length < 4 := by
    show (va_up (gRow s) c (del (gRow s c) v) c).length < 4
    rw [up_s, del_at hk, List.length_eraseIdx_of_lt h4]
    omega
  exact wp_bindM (m_push hc h1 hl) (fun y2 h2 => wp_some h2)
theorem m_giveUp {s : Sx} {y : sw_St} {c k : Nat} {v : Int32} (hc : c < 4) (h : RM s y) (hx : ixf (gRow s c) 0 v = some k) (hb : getE (gRow s c) k 2 = 3 → (gBuf s c).length < 2) (hn : (gAsk s).length < 16) : wp (f_X7_giveUp y (nI c) v) (RM (aGiveK s c k)) := by
  obtain ⟨r1, r2, r3⟩ := h.2.2.1 c hc
  obtain ⟨b1, b2, b3⟩ := h.2.2.2.1 c hc
  obtain ⟨e, h1, h2, h3⟩ := ixf_some hx
  obtain ⟨q1, q2, q3⟩ := r3 k e h1
  have ge := getE_s h1
  unfold f_X7_giveUp aGiveK
  rw [m_at1 hc (h.2.2.1 c hc) hx, bd_s, ck_t (pn_in (by omega) (by omega)), pn_ix (by omega), q3, ge]
  have fin : ∀ (s' : Sx) (y' : sw_St), RM s' y' → gRow s' c = gRow s c → wp (f_X7_giveUp_71 y' (nI c) v) (RM (wRow s' c ((gRow s c).eraseIdx k))) := by
    intro s' y' h' e'
    unfold f_X7_giveUp_71
    refine wp_bindM (m_takeOut v hc h') (fun y2 h2 => wp_some ?_)
    rw [e', del_at hx] at h2
    exact h2
  refine wp_ite (fun q => ?_) (fun q => ?_)
  · rw [if_pos q]
    have hlt := hb (by rw [ge]; exact q)
    simp (disch := omega) only [ck_tt, pn_in, pn_ix, pn_mul, nI_add, nl_0, nl_1, nl_2, nl_3, nl_4, nl_5, nl_6, nl_7, nl_8, sw_pt, bd_s, nI_eq, nI_leI, nI_ltI, b1, h2]
    have e7 : sw_up y 8 (2 * c + (gBuf s c).length) v 7 c = nI (gBuf s c).length := by rw [up_ne (by decide)]; exact b1
    have e7' : sw_up (sw_up y 8 (2 * c + (gBuf s c).length) v) 9 (2 * c + (gBuf s c).length) (sw_up y 8 (2 * c + (gBuf s c).length) v 5 (4 * c + k)) 7 c = nI (gBuf s c).length := by rw [up_ne (by decide)]; exact e7
    simp (disch := omega) only [ck_tt, pn_in, pn_ix, pn_mul, nI_add, nl_0, nl_1, nl_2, nl_3, nl_4, nl_5, nl_6, nl_7, nl_8, sw_pt, bd_s, nI_eq, nI_leI, nI_ltI, e7, e7']
    have e5 : sw_up y 8 (2 * c + (gBuf s c).length) v 5 (4 * c + k) = e 1 := by rw [up_ne (by decide)]; exact q2
    rw [e5]
    have hB : RM (wBuf s c (gBuf s c ++ [mk [v, e 1, nI (slotF (gBuf s c)), gSc s 5]])) (sw_up (sw_up (sw_up y 8 (2 * c + (gBuf s c).length) v) 9 (2 * c + (gBuf s c).length) (e 1)) 7 c (nI ((gBuf s c).length + 1))) := by
      refine RM_buf h ⟨?_, ?_, fun i e' hi => ?_⟩ (fun a ha => ?_) (fun b hb => ?_) (fun a b ha hb hcb => ?_)
      · rw [up_eq, List.length_append]; rfl
      · rw [List.length_append]; show (gBuf s c).length + 1 ≤ 2; omega
      · simp only [up_at]
        by_cases hil : i < (gBuf s c).length
        · rw [List.getElem?_append_left hil] at hi
          have := b3 i e' hi
          grind
        · rw [List.getElem?_append_right (by omega)] at hi
          have hz : i - (gBuf s c).length < 1 := (List.getElem?_eq_some_iff.mp hi).1
          have hi0 : i = (gBuf s c).length := by omega
          subst hi0
          rw [Nat.sub_self] at hi
          cases hi
          simp [mk]
      · funext b; simp only [up_at]; grind
      · simp only [up_at]; grind
      · simp only [up_at]; grind
    have hA := m_asks (s := wBuf s c (gBuf s c ++ [mk [v, e 1, nI (slotF (gBuf s c)), gSc s 5]])) (k := nI 3) (c := nI c) (l := v) (e := mk [3, nI c, v, gSc s 5, 0, nI (3 * c + 1 + slotF (gBuf s c))]) hB hn rfl rfl rfl rfl rfl
    refine wp_bindM hA (fun y2 h2' => ?_)
    have := fin _ y2 h2' rfl
    exact this
  · rw [if_neg q]
    exact fin s y h rfl
theorem m_fill {s : Sx} {y : sw_St} {c K : Nat} {v w t : Int32} (hc : c < 4) (h : RM s y) (hK : gSc s 1 = nI K) (hK1 : 1 ≤ K) (hK4 : K ≤ 4) (hl : (gRow s c).length ≤ K) (hcf : cFill s c) (hn : (gAsk s).length < 16) : wp (f_X7_fill y (nI c) v w t) (RM (aFill s c v w t)) := by
  obtain ⟨r1, r2, r3⟩ := h.2.2.1 c hc
  have hk : y 1 1 = gSc s 1 := h.1.2.1
  unfold f_X7_fill aFill
  rw [ck_t (pn_in (by omega) (by omega)), pn_ix (by omega), r1, hk]
  refine wp_ite (fun q => ?_) (fun q => ?_)
  · rw [if_pos q]
    rw [hK, nI_eq (by omega) (by omega)] at q
    have e0 := (r3 0 _ (getE_t (by omega))).1
    rw [Nat.add_zero] at e0
    rw [nl_4, pn_mul, ck_t (pn_in (by omega) (by omega)), pn_ix (by omega), e0]
    have hx : ixf (gRow s c) 0 (getE (gRow s c) 0 0) = some 0 := ixf_go (getE_t (by omega)) (fun i e' hi => by omega) rfl
    refine wp_bindM (m_giveUp hc h hx (fun q3 => ?_) hn) (fun y1 h1 => ?_)
    · rcases hcf with z | z | z
      · rw [hK, nI_ltI (by omega) (by omega)] at z; omega
      · exact absurd q3 z
      · exact z
    · unfold f_X7_fill_26
      refine wp_bindM (m_push hc h1 ?_) (fun y2 h2 => wp_some h2)
      show (va_up _ c ((gRow s c).eraseIdx 0) c).length < 4
      rw [up_s, List.length_eraseIdx_of_lt (by omega)]
      omega
  · rw [if_neg q]
    rw [hK, nI_eq (by omega) (by omega)] at q
    unfold f_X7_fill_26
    exact wp_bindM (m_push hc h (by omega)) (fun y2 h2 => wp_some h2)
