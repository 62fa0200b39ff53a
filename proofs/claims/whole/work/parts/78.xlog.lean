/-! PURE: the class's log, sending away, ways back -/
theorem pn_rem {a d : Nat} (ha : a < 2 ^ 31) (h0 : 0 < d) (hd : d < 2 ^ 31) : sw_rem (nI a) (nI d) = nI (a % d) := by
  unfold sw_rem
  have h1 : a / d * d ≤ a := Nat.div_mul_le_self a d
  have h2 := Nat.div_add_mod a d
  rw [Nat.mul_comm] at h2
  rw [pk_div ha h0 hd, pn_mul, pn_sub h1]
  congr 1
  omega
theorem ch_core {c : Nat} (hc : c < 8) : vp_nar .char (sw_c16 (48 + nI c)) = 48 + nI c := by
  rcases (show c = 0 ∨ c = 1 ∨ c = 2 ∨ c = 3 ∨ c = 4 ∨ c = 5 ∨ c = 6 ∨ c = 7 by omega) with rfl | rfl | rfl | rfl | rfl | rfl | rfl | rfl <;> decide
/-- the log takes one more -/
theorem x_add {b : Nat} {s : Sx} {x : sw_St} {c l : Nat} {k : Int32} (h : RX s x) (hI : Inv b s) (hb : b < 2 ^ 30) (hc : c < 4) (hl : l < 8) (hk : vp_nar .char k = k) : wp (f_X3_add x (nI c) k (nI l)) (RX (aOrd s (nI c) k (nI l))) := by
  obtain ⟨t1, t2, t3⟩ := hI.1.2.2.2.1
  have h61 : x 6 1 = nI (tN s) := by rw [← t1]; exact h.1.2.2.2.2.2.2.1
  have e16 : (16 : Int32) = nI 16 := rfl
  have e3 : (3 : Int32) = nI 3 := rfl
  obtain ⟨a1, a2, a3, a4, a5, a6, h62, h63, a7⟩ := h
  unfold f_X3_add
  rw [h63, e3, pn_mul, nI_1, ad2, ch_core (by omega), ch_core hl, hk]
  simp (disch := omega) only [sw_pt, ck_tt, pn_in, pn_ix]
  refine wp_some ?_
  obtain ⟨A, hA⟩ : ∃ A, A = sw_up (sw_up (sw_up x 7 (tN s % 16 * 3) (48 + nI c)) 7 (tN s % 16 * 3 + 1) k) 7 (tN s % 16 * 3 + 2) (48 + nI l) := ⟨_, rfl⟩
  have hAa : ∀ a, a ≠ 7 → A a = x a := fun a q => by rw [hA, up_ne q, up_ne q, up_ne q]
  have w1 : A 6 1 = nI (tN s) := by rw [hAa 6 (by decide)]; exact h61
  have w2 : ∀ v, sw_up A 6 1 v 6 2 = nI (min (tN s) 16) := fun v => by rw [up_nj (by decide), hAa 6 (by decide)]; exact h62
  have w3 : ∀ v w, sw_up (sw_up A 6 1 v) 6 2 w 6 3 = nI (tN s % 16) := fun v w => by rw [up_nj (by decide), up_nj (by decide), hAa 6 (by decide)]; exact h63
  have hsz : (if nI 16 < nI (min (tN s) 16 + 1) then nI 16 else nI (min (tN s) 16 + 1)) = nI (min (tN s + 1) 16) := by
    by_cases q : 16 < min (tN s) 16 + 1
    · rw [if_pos (nI_lt q (by omega))]; congr 1; omega
    · rw [if_neg (nI_nlt (by omega) (by omega))]; congr 1; omega
  rw [← hA, w3, w2, w1, nI_1, nI_1, nI_1, e16, hsz, pn_rem (by omega) (by omega) (by omega), show (tN s % 16 + 1) % 16 = (tN s + 1) % 16 by omega]
  obtain ⟨B, hB⟩ : ∃ B, B = sw_up (sw_up (sw_up A 6 1 (nI (tN s + 1))) 6 2 (nI (min (tN s + 1) 16))) 6 3 (nI ((tN s + 1) % 16)) := ⟨_, rfl⟩
  have b61 : B 6 1 = nI (tN s + 1) := by rw [hB, up_nj (by decide), up_nj (by decide), up_eq]
  have b62 : B 6 2 = nI (min (tN s + 1) 16) := by rw [hB, up_nj (by decide), up_eq]
  have b63 : B 6 3 = nI ((tN s + 1) % 16) := by rw [hB, up_eq]
  have b7 : B 7 = A 7 := by rw [hB, up_ne (by decide), up_ne (by decide), up_ne (by decide)]
  rw [← hB]
  have hs6 : gSc (aOrd s (nI c) k (nI l)) 6 = nI (tN s + 1) := by
    show va_up (gSc s) 6 (gSc s 6 + 1) 6 = _
    rw [up_s, t1, nI_1]
  have eT : tN (aOrd s (nI c) k (nI l)) = tN s + 1 := by unfold tN; rw [hs6, pn_ix (by omega)]
  have h0 : ∀ a, a ≠ 7 → a ≠ 6 → B a = x a := fun a z1 z2 => by
    rw [hB, up_ne z2, up_ne z2, up_ne z2, hAa a z1]
  refine ⟨?_, fun l' hl' => by rw [h0 5 (by omega) (by omega)]; exact a2 l' hl', fun d hd => ?_, fun d hd => opX_k (a4 d hd) (h0 _ (by omega) (by omega)) (fun _ _ => Iff.rfl) (fun _ _ => Iff.rfl) ⟨rfl, rfl, rfl⟩, fun d i hd hi => bkX_k (a5 d i hd hi) (h0 _ (by omega) (by omega)) (fun _ _ => Iff.rfl) (fun _ _ => Iff.rfl), fun d hd => by rw [h0 _ (by omega) (by omega)]; exact a6 d hd, ?_⟩
  · show scX _ (va_up (gSc s) 6 (gSc s 6 + 1))
    unfold scX at a1 ⊢
    rw [h0 2 (by omega) (by omega), b61, up_s, t1, nI_1, up_n _ _ (by decide), up_n _ _ (by decide), up_n _ _ (by decide), up_n _ _ (by decide), up_n _ _ (by decide), up_n _ _ (by decide), up_n _ _ (by decide), up_n _ _ (by decide), up_n _ _ (by decide), up_n _ _ (by decide)]
    obtain ⟨b1, b2, b3, b4, b5, b6, b7, b8⟩ := a1
    exact ⟨b1, b2, b3, b4, b5, b6, rfl, b8⟩
  · show cacheX _ d (gRow s d) (va_up (gSc s) 6 (gSc s 6 + 1) (20 + d))
    rw [up_n _ _ (by omega)]
    exact cacheX_k (a3 d hd) (fun a h1 h2 => h0 a (by omega) (by omega))
  · rw [eT]
    show logX _ (tN s + 1) ((if gSc s 6 < 16 then gOrd s else (gOrd s).tail) ++ [mk [48 + nI c, k, 48 + nI l]])
    rw [t1, e16]
    refine ⟨b62, b63, ?_⟩
    intro i e hi f hf
    rw [b7, hA]
    have newf : ∀ m, m = tN s % 16 * 3 + f → sw_up (sw_up (sw_up x 7 (tN s % 16 * 3) (48 + nI c)) 7 (tN s % 16 * 3 + 1) k) 7 (tN s % 16 * 3 + 2) (48 + nI l) 7 m = mk [48 + nI c, k, 48 + nI l] f := by
      intro m hm
      simp only [up_at]
      rcases (show f = 0 ∨ f = 1 ∨ f = 2 by omega) with rfl | rfl | rfl
      · rw [if_neg (by omega), if_neg (by omega), if_pos ⟨trivial, by omega⟩]; rfl
      · rw [if_neg (by omega), if_pos ⟨trivial, by omega⟩]; rfl
      · rw [if_pos ⟨trivial, by omega⟩]; rfl
    have oldf : ∀ j, j < 16 → j ≠ tN s % 16 → sw_up (sw_up (sw_up x 7 (tN s % 16 * 3) (48 + nI c)) 7 (tN s % 16 * 3 + 1) k) 7 (tN s % 16 * 3 + 2) (48 + nI l) 7 (j * 3 + f) = x 7 (j * 3 + f) := by
      intro j hj hne
      simp only [up_at]
      rw [if_neg (by omega), if_neg (by omega), if_neg (by omega)]
    by_cases q : tN s < 16
    · rw [if_pos (nI_lt q (by omega))] at hi ⊢
      have hlen : (gOrd s ++ [mk [48 + nI c, k, 48 + nI l]]).length = tN s + 1 := by
        rw [List.length_append, t3]
        show min (tN s) 16 + 1 = _
        omega
      rw [hlen]
      have hlo : (gOrd s).length = tN s := by omega
      by_cases hil : i < (gOrd s).length
      · rw [List.getElem?_append_left hil] at hi
        have := a7 i e hi f hf
        rw [hlo, show (tN s - tN s + i) % 16 = i by omega] at this
        rw [show (tN s + 1 - (tN s + 1) + i) % 16 = i by omega, oldf i (by omega) (by omega)]
        exact this
      · rw [List.getElem?_append_right (by omega)] at hi
        have hz : i - (gOrd s).length < 1 := (List.getElem?_eq_some_iff.mp hi).1
        have hi0 : i = (gOrd s).length := by omega
        rw [hi0, Nat.sub_self] at hi
        cases hi
        exact newf _ (by omega)
    · rw [if_neg (nI_nlt (by omega) (by omega))] at hi ⊢
      have hlo : (gOrd s).length = 16 := by omega
      have htl : (gOrd s).tail.length = 15 := by rw [List.length_tail]; omega
      have hlen : ((gOrd s).tail ++ [mk [48 + nI c, k, 48 + nI l]]).length = 16 := by
        rw [List.length_append, htl]
        rfl
      rw [hlen]
      by_cases hil : i < (gOrd s).tail.length
      · rw [List.getElem?_append_left hil, List.getElem?_tail] at hi
        have := a7 (i + 1) e hi f hf
        rw [hlo] at this
        rw [oldf _ (by omega) (by omega), show (tN s + 1 - 16 + i) % 16 = (tN s - 16 + (i + 1)) % 16 by omega]
        exact this
      · rw [List.getElem?_append_right (by omega)] at hi
        have hz : i - (gOrd s).tail.length < 1 := (List.getElem?_eq_some_iff.mp hi).1
        have hi0 : i = (gOrd s).tail.length := by omega
        rw [hi0, Nat.sub_self] at hi
        cases hi
        exact newf _ (by omega)
/-- one is sent away -/
theorem x_away {b : Nat} {s : Sx} {x : sw_St} {i c : Nat} (h : RX s x) (hI : Inv b s) (hi : i < (gAsk s).length) (hc : c < 4) (h5 : getE (gAsk s) i 5 = nI (3 * c)) : wp (f_X0_sendAway x (14 + 9 * c)) (RX (aAway s i)) := by
  have hm := List.mem_of_getElem? (getE_t hi)
  obtain ⟨y0, y1, y2, y3, y4, y5⟩ := req_ask h hI hm (show 3 * c < 12 by omega) h5
  rw [rq_at (c := c) (r := 0) (by omega) (by omega), Nat.add_zero] at y0 y1 y2 y3 y4 y5
  have h9 : x 2 9 = gSc s 5 := h.1.2.2.2.2.2.1
  have h10 : x 2 10 = gSc s 7 := h.1.2.2.2.2.2.2.2.1
  have her := er5 hI hi
  rw [h5] at her
  unfold f_X0_sendAway aAway
  rw [ck_t (isQ_c hc (r := 0) (by omega) (by omega)), her, h5]
  simp only [sw_pt]
  refine wp_some ?_
  have n2 : (2 : Nat) ≠ 14 + 9 * c := by omega
  rw [up_ne n2, h9, y5]
  have hopn : ∀ a ∈ gOpn s, a 1 ≠ nI c := fun a ha z => by
    have hC4 := hI.1.1.2.2
    obtain ⟨c', l', t', g1, g2, g3, g4, g5, g6, g7, g8, g9, g10, g11⟩ := hI.2.2.2.2.1.1 a ha
    rw [z, nI_eq (by omega) (by omega)] at g2
    subst g2
    exact g11 _ hm h5
  have hR : RX (wAsk s (rmv 5 (nI (3 * c)) (gAsk s) ++ [mk [getE (gAsk s) i 0, getE (gAsk s) i 1, getE (gAsk s) i 2, gSc s 5, getE (gAsk s) i 4 + 1, nI (3 * c)]])) (sw_up (sw_up x (14 + 9 * c) 7 (getE (gAsk s) i 4 + 1)) (14 + 9 * c) 6 (gSc s 5)) := by
    refine RX_req h (fun a ha => ?_) rfl rfl rfl rfl (fun _ _ => rfl) (fun d hd => ?_) (fun d j hd hj => ?_)
    · have := ha c 0 hc (by omega)
      rw [up_ne (by omega), up_ne (by omega)]
    · show opX _ d (rmv 5 (nI (3 * c)) (gAsk s) ++ [mk [getE (gAsk s) i 0, getE (gAsk s) i 1, getE (gAsk s) i 2, gSc s 5, getE (gAsk s) i 4 + 1, nI (3 * c)]]) (gOpn s) (gOp s d)
      by_cases e : d = c
      · subst e
        obtain ⟨k1, k2, k3, k4, k5⟩ := h.2.2.2.1 d hd
        refine ⟨by simp only [up_at]; simp; exact k1, fun a ha z => ?_, fun a ha z => absurd z (hopn a ha), fun z => ?_, ?_⟩
        · rcases mem_push.mp ha with ha | rfl
          · exact absurd z (mem_rmv.mp ha).2
          · simp only [up_at, mk]
            simp [y1, y2, y3]
        · exact absurd rfl (z _ (mem_push.mpr (Or.inr rfl)))
        · simp only [up_at]
          simpa using k5
      · refine opX_k (h.2.2.2.1 d hd) (by rw [up_ne (by omega), up_ne (by omega)]) (fun a z => ?_) (fun _ _ => Iff.rfl) ⟨rfl, rfl, rfl⟩
        have hne : ¬ nI (3 * d) = nI (3 * c) := fun y => by rw [nI_eq (by omega) (by omega)] at y; omega
        constructor
        · intro ha
          rcases mem_push.mp ha with ha | rfl
          · exact (mem_rmv.mp ha).1
          · exact absurd (show nI (3 * c) = nI (3 * d) from z).symm hne
        · intro ha
          exact mem_push.mpr (Or.inl (mem_rmv.mpr ⟨ha, by rw [z]; exact hne⟩))
    · refine bkX_k (h.2.2.2.2.1 d j hd hj) (by rw [up_ne (by omega), up_ne (by omega)]) (fun a z => ?_) (fun _ _ => Iff.rfl)
      have hne : ¬ nI (3 * d + 1 + j) = nI (3 * c) := fun y => by rw [nI_eq (by omega) (by omega)] at y; omega
      constructor
      · intro ha
        rcases mem_push.mp ha with ha | rfl
        · exact (mem_rmv.mp ha).1
        · exact absurd (show nI (3 * c) = nI (3 * d + 1 + j) from z).symm hne
      · intro ha
        exact mem_push.mpr (Or.inl (mem_rmv.mpr ⟨ha, by rw [z]; exact hne⟩))
  have h2 := RX_sc (v := gSc s 5 + 1) 5 (by decide) (by decide) hR
  have e9 : sw_up (sw_up x (14 + 9 * c) 7 (getE (gAsk s) i 4 + 1)) (14 + 9 * c) 6 (gSc s 5) 2 9 = gSc s 5 := by rw [up_ne n2, up_ne n2]; exact h9
  rw [e9]
  have e10 : sw_up (sw_up (sw_up x (14 + 9 * c) 7 (getE (gAsk s) i 4 + 1)) (14 + 9 * c) 6 (gSc s 5)) 2 9 (gSc s 5 + 1) 2 10 = gSc s 7 := by rw [up_nj (by decide), up_ne n2, up_ne n2]; exact h10
  rw [e10]
  exact RX_sc (v := gSc s 7 + 1) 7 (by decide) (by decide) h2
/-- a line goes back to memory -/
theorem x_orderBack {b : Nat} {s : Sx} {x : sw_St} {i c l : Nat} (h : RX s x) (hI : Inv b s) (hb : b < 2 ^ 30) (hi : i < (gAsk s).length) (hc : c < 4) (hl : l < 8) (h0 : getE (gAsk s) i 0 = 3) (h1 : getE (gAsk s) i 1 = nI c) (h2 : getE (gAsk s) i 2 = nI l) : ∃ j, j < 12 ∧ getE (gAsk s) i 5 = nI j ∧ wp (f_X0_orderBack x (sw_rq j)) (RX (aBk (wAsk s ((gAsk s).eraseIdx i)) c (nI l))) := by
  have hC4 := hI.1.1.2.2
  have hm := List.mem_of_getElem? (getE_t hi)
  obtain ⟨c', l', p, q1, q2, q3, q4, q5, q6, q7⟩ := hI.2.2.2.1.1 _ hm
  have hcc : c' = c := by rw [h1, nI_eq (by omega) (by omega)] at q2; exact q2.symm
  subst hcc
  rcases q7 with ⟨_, e, he, j, hj, z2, z3, z4, z5⟩ | ⟨z0, _⟩
  · refine ⟨3 * c' + 1 + j, by omega, z5, ?_⟩
    rw [h2] at z3
    obtain ⟨y0, y1, y2, y3, y4, y5⟩ := req_ask h hI hm (show 3 * c' + 1 + j < 12 by omega) z5
    have erq : sw_rq (3 * c' + 1 + j) = 15 + 9 * c' + j := by rw [rq_at (c := c') (r := 1 + j) (by omega) (by omega)]; omega
    rw [erq] at y0 y1 y2 y3 y4 y5 ⊢
    unfold f_X0_orderBack
    rw [ck_t (isQ_c hc (r := 1 + j) (by omega) (by omega)), y0, h1, y3, h2]
    refine wp_bindM (x_add h hI hb hc hl (by decide)) (fun x1 g1 => ?_)
    have hI1 := (Inv_tell (c := nI c') (k := 66) (l := nI l) hI hb).1
    obtain ⟨k1, k2, k3, k4⟩ := g1.2.2.2.2.1 c' j hc hj
    obtain ⟨w1, w2, w3, w4, w5⟩ := k2 e he z2
    rw [w3, z3, ck_t (pn_in (by omega) (by omega)), pn_ix (by omega), w4]
    simp only [sw_pt]
    refine wp_some ?_
    have hx : ∃ k, ixf (gBuf s c') 0 (nI l) = some k := by
      cases q : ixf (gBuf s c') 0 (nI l) with
      | none => exact absurd z3 (ixf_none q e he)
      | some k => exact ⟨k, rfl⟩
    obtain ⟨k, hk⟩ := hx
    obtain ⟨i', hi', v2, vm, v0, ve, vf, vo⟩ := aOut_eq hI hc hk
    have ee : getE (gBuf s c') k = e := pw_inj _ (hI.2.2.1 c' hc).1.2.1 vm he (by rw [v0, z3])
    unfold aBk
    have hk' : ixf (gBuf (wAsk s ((gAsk s).eraseIdx i)) c') 0 (nI l) = some k := hk
    rw [hk']
    dsimp only
    have her := er5 hI hi
    rw [z5] at her
    have eg : getE (gBuf (wAsk s ((gAsk s).eraseIdx i)) c') k = e := ee
    rw [eg, her, pn_ix (by omega), show (gBuf (wAsk s (rmv 5 (nI (3 * c' + 1 + j)) (gAsk s))) c').eraseIdx k = rmv 0 (e 0) (gBuf s c') by rw [z3]; exact ve]
    have g2 := RX_mem (l := l) (v := e 1) g1
    have hI2 : Inv (b + 1) (wMem (aOrd s (nI c') 66 (nI l)) l (e 1)) := Inv_k hI1 (fun _ _ _ _ _ _ => rfl) rfl rfl (fun _ => ⟨rfl, rfl⟩) rfl rfl rfl
    exact RX_unback g2 hI2 hc he hj z2
  · rcases z0 with z | z | z <;> rw [z] at h0 <;> exact absurd h0 (by decide)
