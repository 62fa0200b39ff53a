/-! PURE: the class's caches: use, put, give up, fill -/
theorem cache_use {x x' : sw_St} {c l : Nat} {L : List E} {u w t : Int32} (h : cacheX x c L u) (hp : L.Pairwise (fun a b => a 0 ≠ b 0)) (hll : ∀ e ∈ L, ∃ l, l < 8 ∧ e 0 = nI l) (hl : l < 8) (h1 : ∀ l', l' ≠ l → x' (10 + 9 * c) l' = x (10 + 9 * c) l' ∧ x' (11 + 9 * c) l' = x (11 + 9 * c) l' ∧ x' (12 + 9 * c) l' = x (12 + 9 * c) l') (h2 : x' (10 + 9 * c) l = t) (h3 : x' (11 + 9 * c) l = w) (h4 : x' (12 + 9 * c) l = u + 1) (h5 : x' (9 + 9 * c) 3 = u + 1) : cacheX x' c (del L (nI l) ++ [mk [nI l, w, t, u + 1]]) (u + 1) := by
  obtain ⟨a1, a2, a3⟩ := h
  rw [del_rmv hp]
  refine ⟨fun l' hl' => ?_, fun e he l' hl' e0 => ?_, h5⟩
  · rw [how_push (x := mk [nI l, w, t, u + 1]) (rmv 0 (nI l) L) (fun e he => (mem_rmv.mp he).2), how_rmv]
    by_cases q : l' = l
    · rw [q, h2, if_pos (show nI l = mk [nI l, w, t, u + 1] 0 from rfl)]; rfl
    · have hn : ¬ nI l' = nI l := fun z => q ((nI_eq (by omega) (by omega)).mp z)
      rw [if_neg (show ¬ nI l' = mk [nI l, w, t, u + 1] 0 from hn), if_neg hn, (h1 l' q).1]
      exact a1 l' hl'
  · rcases mem_push.mp he with he | rfl
    · obtain ⟨m1, m2⟩ := mem_rmv.mp he
      have hn : l' ≠ l := fun z => m2 (by rw [e0, z])
      rw [(h1 l' hn).2.1, (h1 l' hn).2.2]
      exact a2 e m1 l' hl' e0
    · have : l' = l := ((nI_eq (by omega) (by omega)).mp (show nI l = nI l' from e0)).symm
      rw [this, h3, h4]
      exact ⟨rfl, rfl⟩
theorem row_ll {b : Nat} {s : Sx} {c : Nat} (h : Inv b s) (hc : c < 4) : ∀ e ∈ gRow s c, ∃ l, l < 8 ∧ e 0 = nI l := fun e he => ((h.2.1 c hc).1.1 e he).1
theorem up_up {α : Type} (f : Nat → α) (k : Nat) (a b : α) : va_up (va_up f k a) k b = va_up f k b := by
  funext j
  unfold va_up
  by_cases h : j = k
  · rw [if_pos h, if_pos h]
  · rw [if_neg h, if_neg h, if_neg h]
theorem aUse_eq {s : Sx} {c : Nat} {v w t : Int32} : aUse s c v w t = wRow (wSc s (20 + c) (gSc s (20 + c) + 1)) c (del (gRow s c) v ++ [mk [v, w, t, gSc s (20 + c) + 1]]) := by
  show (va_up (gSc s) (20 + c) (gSc s (20 + c) + 1), gMem s, va_up (va_up (gRow s) c (del (gRow s c) v)) c (va_up (gRow s) c (del (gRow s c) v) c ++ [mk [v, w, t, gSc s (20 + c) + 1]]), s.2.2.2) = (va_up (gSc s) (20 + c) (gSc s (20 + c) + 1), gMem s, va_up (gRow s) c (del (gRow s c) v ++ [mk [v, w, t, gSc s (20 + c) + 1]]), s.2.2.2)
  rw [up_s, up_up]
theorem x_put {s : Sx} {x : sw_St} {c q l : Nat} {t w : Int32} (h : RX s x) (hc : c < 4) (hq : q = 9 + 9 * c) (hl : l < 8) (hp : (gRow s c).Pairwise (fun a b => a 0 ≠ b 0)) (hll : ∀ e ∈ gRow s c, ∃ l, l < 8 ∧ e 0 = nI l) : wp (f_X1_put x q (nI l) t w) (RX (aUse s c (nI l) w t)) := by
  have hx := h.2.2.1 c hc
  have h3 := hx.2.2
  unfold f_X1_put f_X1_use
  have hk := isK_c hc hq
  simp (disch := omega) only [hk, ck_tt, pn_in, pn_ix, sw_pt, bd_s]
  subst hq
  refine wp_some ?_
  have e9 : sw_up (sw_up x (9 + 9 * c + 1) l t) (9 + 9 * c + 2) l w (9 + 9 * c) 3 = gSc s (20 + c) := by
    rw [up_ne (by omega), up_ne (by omega)]; exact h3
  rw [e9, up_eq, aUse_eq]
  refine RX_cache h hc (cache_use hx hp hll hl (fun l' hl' => ?_) ?_ ?_ ?_ ?_) (fun a ha => ?_)
  · simp only [up_at]; grind
  · simp only [up_at]; grind
  · simp only [up_at]; grind
  · simp only [up_at]; grind
  · simp only [up_at]; grind
  · funext b; simp only [up_at]; grind
theorem x_use {s : Sx} {x : sw_St} {c q l : Nat} {t w : Int32} (h : RX s x) (hc : c < 4) (hq : q = 9 + 9 * c) (hl : l < 8) (hp : (gRow s c).Pairwise (fun a b => a 0 ≠ b 0)) (hll : ∀ e ∈ gRow s c, ∃ l, l < 8 ∧ e 0 = nI l) (ht : x (10 + 9 * c) l = t) (hw : x (11 + 9 * c) l = w) : wp (f_X1_use x q (nI l)) (fun x' => RX (aUse s c (nI l) w t) x' ∧ x' (11 + 9 * c) l = w) := by
  have hx := h.2.2.1 c hc
  have h3 := hx.2.2
  unfold f_X1_use
  have hk := isK_c hc hq
  simp (disch := omega) only [hk, ck_tt, pn_in, pn_ix, sw_pt]
  subst hq
  refine wp_some ⟨?_, ?_⟩
  · rw [h3, up_eq, aUse_eq]
    refine RX_cache h hc (cache_use hx hp hll hl (fun l' hl' => ?_) ?_ ?_ ?_ ?_) (fun a ha => ?_)
    · simp only [up_at]; grind
    · simp only [up_at]; grind
    · simp only [up_at]; grind
    · simp only [up_at]; grind
    · simp only [up_at]; grind
    · funext b; simp only [up_at]; grind
  · rw [up_ne (by omega), up_ne (by omega)]; exact hw
/-- the memory after an asking -/
def askU (x : sw_St) (q : Nat) (k l v : Int32) : sw_St := sw_up (sw_up (sw_up (sw_up (sw_up (sw_up (sw_up x q 1 1) q 2 k) q 3 l) q 4 v) q 5 (x 2 8)) q 6 (x 2 9)) q 7 0
theorem x_ask_eq {x : sw_St} {q : Nat} {k l v : Int32} (hq : sw_isQ q = true) : f_X0_ask x q k l v = some (sw_up (askU x q k l v) 2 9 (x 2 9 + 1)) := by
  have h14 : 14 ≤ q := (sw_isQ_i.mp hq).1
  unfold f_X0_ask askU
  rw [ck_t hq]
  simp only [sw_pt]
  have n2 : (2 : Nat) ≠ q := by omega
  simp only [up_ne n2]
theorem askU_ne {x : sw_St} {q a : Nat} {k l v : Int32} (h : a ≠ q) : askU x q k l v a = x a := by
  unfold askU
  rw [up_ne h, up_ne h, up_ne h, up_ne h, up_ne h, up_ne h, up_ne h]
theorem askU_at {x : sw_St} {q : Nat} {k l v : Int32} : askU x q k l v q 0 = x q 0 ∧ askU x q k l v q 1 = 1 ∧ askU x q k l v q 2 = k ∧ askU x q k l v q 3 = l ∧ askU x q k l v q 4 = v ∧ askU x q k l v q 5 = x 2 8 ∧ askU x q k l v q 6 = x 2 9 ∧ askU x q k l v q 7 = 0 := by
  unfold askU
  refine ⟨?_, ?_, ?_, ?_, ?_, ?_, ?_, ?_⟩ <;> (simp only [up_at]; simp)
theorem RX_back {b : Nat} {s : Sx} {x : sw_St} {c i : Nat} {v w : Int32} (h : RX s x) (hI : Inv b s) (hc : c < 4) (hi : i = slotF (gBuf s c)) (hlen : (gBuf s c).length < 2) : RX (aBack s c v w) (sw_up (askU x (15 + 9 * c + i) 3 v w) 2 9 (x 2 9 + 1)) := by
  obtain ⟨hs2, hsn⟩ := slot_ok hlen (buf_sl hI hc)
  rw [← hi] at hs2 hsn
  have hC4 := hI.1.1.2.2
  obtain ⟨t0, t1, t2, t3, t4, t5, t6, t7⟩ := askU_at (x := x) (q := 15 + 9 * c + i) (k := 3) (l := v) (v := w)
  have h9 : x 2 9 = gSc s 5 := h.1.2.2.2.2.2.1
  have hsl : ∀ a ∈ gAsk s, a 5 ≠ nI (3 * c + 1 + i) := fun a ha z => by
    obtain ⟨c', l', p, q1, q2, q3, q4, q5, q6, q7⟩ := hI.2.2.2.1.1 a ha
    rcases q7 with ⟨z0, e, he, j, hj, z2, z3, z4, z5⟩ | ⟨z0, z1, z2, z3⟩
    · rw [z5, nI_eq (by omega) (by omega)] at z
      have e1 : c' = c := by omega
      subst e1
      exact hsn e he (by rw [z2]; congr 1; omega)
    · rw [z1, nI_eq (by omega) (by omega)] at z
      omega
  have hR : RX (wAsk (wBuf s c (gBuf s c ++ [mk [v, w, nI (slotF (gBuf s c)), gSc s 5]])) (gAsk s ++ [mk [3, nI c, v, gSc s 5, 0, nI (3 * c + 1 + slotF (gBuf s c))]])) (askU x (15 + 9 * c + i) 3 v w) := by
    rw [← hi]
    refine RX_req h (fun a ha => askU_ne ?_) rfl rfl rfl rfl (fun _ _ => rfl) (fun d hd => ?_) (fun d j hd hj => ?_)
    · have := ha c (1 + i) hc (by omega)
      omega
    · refine opX_k (h.2.2.2.1 d hd) (askU_ne (by omega)) (fun a z => ?_) (fun _ _ => Iff.rfl) ⟨rfl, rfl, rfl⟩
      constructor
      · intro ha
        rcases mem_push.mp ha with ha | rfl
        · exact ha
        · have z : nI (3 * c + 1 + i) = nI (3 * d) := z
          rw [nI_eq (by omega) (by omega)] at z
          omega
      · intro ha
        exact mem_push.mpr (Or.inl ha)
    · show bkX _ d j (gAsk s ++ [mk [3, nI c, v, gSc s 5, 0, nI (3 * c + 1 + i)]]) (va_up (gBuf s) c (gBuf s c ++ [mk [v, w, nI i, gSc s 5]]) d)
      by_cases e : d = c ∧ j = i
      · obtain ⟨rfl, rfl⟩ := e
        rw [up_s]
        refine ⟨by rw [t0]; exact (h.2.2.2.2.1 d j hd hj).1, fun e he z => ?_, fun a ha z => ?_, fun z => ?_⟩
        · rcases mem_push.mp he with he | rfl
          · exact absurd z (hsn e he)
          · rw [t1, t2, t3, t4, t6, h9]
            exact ⟨rfl, rfl, rfl, rfl, rfl⟩
        · rcases mem_push.mp ha with ha | rfl
          · exact absurd z (hsl a ha)
          · rw [t7]; rfl
        · exact absurd rfl (z (mk [v, w, nI j, gSc s 5]) (mem_push.mpr (Or.inr rfl)))
      · refine bkX_k (h.2.2.2.2.1 d j hd hj) (askU_ne (by omega)) (fun a z => ?_) (fun x z => ?_)
        · constructor
          · intro ha
            rcases mem_push.mp ha with ha | rfl
            · exact ha
            · have z : nI (3 * c + 1 + i) = nI (3 * d + 1 + j) := z
              rw [nI_eq (by omega) (by omega)] at z
              exact absurd ⟨by omega, by omega⟩ e
          · intro ha
            exact mem_push.mpr (Or.inl ha)
        · by_cases ed : d = c
          · subst ed
            rw [up_s]
            constructor
            · intro hx
              rcases mem_push.mp hx with hx | rfl
              · exact hx
              · have z : nI i = nI j := z
                rw [nI_eq (by omega) (by omega)] at z
                exact absurd ⟨rfl, z.symm⟩ e
            · intro hx
              exact mem_push.mpr (Or.inl hx)
          · rw [up_n _ _ ed]
  have := RX_sc (v := gSc s 5 + 1) 5 (by decide) (by decide) hR
  rw [h9]
  exact this
theorem x_give {b : Nat} {s : Sx} {x : sw_St} {c q k l : Nat} (h : RX s x) (hI : Inv b s) (hc : c < 4) (hq : q = 8 + 9 * c) (hl : l < 8) (hx : ixf (gRow s c) 0 (nI l) = some k) (hf : getE (gRow s c) k 2 = 3 → (gBuf s c).length < 2) : wp (f_X0_giveUp x q (nI l)) (RX (aGiveK s c k)) := by
  obtain ⟨e, g1, g2, g3⟩ := ixf_some hx
  have hm := List.mem_of_getElem? g1
  have hcx := h.2.2.1 c hc
  have hp := pw0 hI hc
  have hst : x (10 + 9 * c) l = e 2 := by rw [hcx.1 l hl, ← g2, how_mem _ hp hm]
  have hv := (hcx.2.1 e hm l hl g2).1
  have her := er_rmv (f := 0) _ k hp g3
  rw [getE_s g1, g2] at her
  have fin : ∀ (s' : Sx) (x' : sw_St), RX s' x' → gRow s' c = gRow s c → gSc s' (20 + c) = gSc s (20 + c) → wp (f_X0_giveUp_39 x' q (nI l)) (RX (wRow s' c ((gRow s c).eraseIdx k))) := by
    intro s' x' h' e1 e2
    unfold f_X0_giveUp_39
    rw [ck_t (isC_c hc hq), ck_t (pn_in (by omega) (by omega)), pn_ix (by omega)]
    simp only [sw_pt]
    subst hq
    refine wp_some (RX_cache0 h' hc ?_ (fun a ha => up_ne (by omega)))
    obtain ⟨a1, a2, a3⟩ := h'.2.2.1 c hc
    rw [e1] at a1 a2
    rw [her]
    refine ⟨fun l' hl' => ?_, fun e' he' l' hl' e0' => ?_, ?_⟩
    · rw [how_rmv]
      by_cases z : l' = l
      · rw [z, if_pos rfl, show 8 + 9 * c + 1 + 1 = 10 + 9 * c by omega, up_eq]
      · rw [if_neg (fun y => z ((nI_eq (by omega) (by omega)).mp y)), show 8 + 9 * c + 1 + 1 = 10 + 9 * c by omega, up_nj z]
        exact a1 l' hl'
    · rw [up_ne (by omega), up_ne (by omega)]
      exact a2 e' (mem_rmv.mp he').1 l' hl' e0'
    · rw [up_ne (by omega)]
      exact a3
  unfold f_X0_giveUp aGiveK
  rw [ck_t (isC_c hc hq), ck_t (pn_in (by omega) (by omega)), pn_ix (by omega), show q + 1 + 1 = 10 + 9 * c by omega, show q + 1 + 2 = 11 + 9 * c by omega, hst, hv, getE_s g1, x_freeI h hI hc hq, bd_s]
  by_cases q3 : e 2 = 3
  · have hlen := hf (by rw [getE_s g1]; exact q3)
    rw [if_pos q3, if_pos q3, if_pos hlen, if_neg (by omega), x_ask_eq (isQ_c hc (r := 1 + slotF (gBuf s c)) (by have := (slot_ok hlen (buf_sl hI hc)).1; omega) (by omega)), bd_s]
    rw [g2]
    exact fin _ _ (RX_back h hI hc rfl hlen) rfl (up_n _ _ (by omega))
  · rw [if_neg q3, if_neg q3]
    exact fin s x h rfl rfl
theorem push_use {s : Sx} {c l : Nat} {w t : Int32} (hr : ∀ e ∈ gRow s c, e 0 ≠ nI l) : aUse s c (nI l) w t = aPush s c (nI l) w t := by
  unfold aUse
  have : del (gRow s c) (nI l) = gRow s c := by
    unfold del
    rw [ixf_no (fun i e' hi => hr e' (List.mem_of_getElem? hi))]
  rw [this, wRow_self]
theorem x_fill {b : Nat} {s : Sx} {x : sw_St} {c q l : Nat} {w t : Int32} (h : RX s x) (hI : Inv b s) (hb : b < 2 ^ 30) (hc : c < cN s) (hq : q = 8 + 9 * c) (hl : l < 8) (hr : ∀ e ∈ gRow s c, e 0 ≠ nI l) (hcf : cFill s c) : wp (f_X0_fill x q (nI l) t w) (RX (aFill s c (nI l) w t)) := by
  have hC4 := hI.1.1.2.2
  have hc4 : c < 4 := by omega
  have hrow := (hI.2.1 c hc4).1
  have hcx := h.2.2.1 c hc4
  have hK := hI.1.2.1
  have h5 : x 2 5 = gSc s 1 := h.1.2.1
  have hlen := hrow.2.2.2
  have fin : ∀ (s' : Sx) (x' : sw_St), RX s' x' → (gRow s' c).Sublist (gRow s c) → wp (f_X0_fill_36 x' q (nI l) t w) (RX (aPush s' c (nI l) w t)) := by
    intro s' x' h' hs
    unfold f_X0_fill_36
    rw [ck_t (isC_c hc4 hq)]
    refine wp_bindM (x_put h' hc4 (by omega) hl (hrow.2.1.sublist hs) (fun e he => row_ll hI hc4 e (hs.mem he))) (fun x2 h2 => wp_some ?_)
    rw [push_use (fun e he => hr e (hs.mem he))] at h2
    exact h2
  unfold f_X0_fill aFill
  rw [ck_t (isC_c hc4 hq), x_held hc4 (by omega) hcx hrow, bd_s, h5, hK.1, x_oldest hc4 (by omega) hcx hrow, bd_s]
  by_cases z : (gRow s c).length = kN s
  · have e1 : nI (gRow s c).length = nI (kN s) := by rw [z]
    rw [if_pos e1, if_neg (nI_nlt (by omega) (by omega))]
    cases hrw : gRow s c with
    | nil => rw [hrw] at z; have : 0 = kN s := z; omega
    | cons e L =>
      have hem : e ∈ gRow s c := by rw [hrw]; exact List.mem_cons_self
      obtain ⟨l', hl', e0⟩ := row_ll hI hc4 e hem
      have eo : oldL (e :: L) = nI l' := e0
      rw [eo, if_neg (pn_m1 (by omega))]
      have hx : ixf (gRow s c) 0 (nI l') = some 0 := ixf_go (e := e) (by rw [hrw]; rfl) (fun i e' hi => by omega) e0
      refine wp_bindM (x_give h hI hc4 hq hl' hx (fun y => ?_)) (fun x2 h2 => ?_)
      · rcases hcf with y1 | y1 | y1
        · rw [hK.1, nI_ltI (by omega) (by omega)] at y1; omega
        · exact absurd y y1
        · exact y1
      · exact fin _ x2 h2 (by rw [give_row]; exact List.eraseIdx_sublist _ _)
  · have e1 : ¬ nI (gRow s c).length = nI (kN s) := fun y => z ((nI_eq (by omega) (by omega)).mp y)
    rw [if_neg e1, if_pos (nI_lt (by omega) (by omega))]
    exact fin s x h (List.Sublist.refl _)
