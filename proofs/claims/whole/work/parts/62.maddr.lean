/-! PURE: the address turn, a turn, in the model -/
def aEnd (s : Sx) (c : Nat) : Sx := wSc (wOp s c (zOp (gOp s c))) 9 (gSc s 9 + 1)
def aAway (s : Sx) (i : Nat) : Sx := wSc (wAsk (wSc s 5 (gSc s 5 + 1)) ((gAsk s).eraseIdx i ++ [mk [getE (gAsk s) i 0, getE (gAsk s) i 1, getE (gAsk s) i 2, gSc s 5, getE (gAsk s) i 4 + 1, getE (gAsk s) i 5]])) 7 (gSc s 7 + 1)
def aBk (s : Sx) (c : Nat) (l : Int32) : Sx := match ixf (gBuf s c) 0 l with
  | some k => aOrd (wMem (wBuf s c ((gBuf s c).eraseIdx k)) (sw_ix l) (getE (gBuf s c) k 1)) (nI c) 66 l
  | none => s
def aRise (s : Sx) (c : Nat) (l : Int32) : Sx := aOrd (aEnd (aUse (aNoOther s c l) c l (gOp s c 2) 3) c) (nI c) 85 l
def aOpn (s : Sx) (c : Nat) (k l sent : Int32) : Sx := aOpens (aOrd (wSc s 8 (gSc s 8 + (if k = 2 then 1 else 0))) (nI c) (if k = 0 then 82 else if k = 1 then 79 else 87) l) (if k = 0 then 0 else 1) c l sent
def aAddrE (s : Sx) (e : E) : Int32 × Sx :=
  if e 0 = 3 then (0, aBk s (sw_ix (e 1)) (e 2))
  else if e 0 = 2 ∧ howR (gRow s (sw_ix (e 1))) (e 2) = 1 then (1, aRise s (sw_ix (e 1)) (e 2))
  else (0, aOpn s (sw_ix (e 1)) (e 0) (e 2) (e 4))
def aAddr (s : Sx) (i : Nat) : Int32 × Sx := if isO (gOpn s) (getE (gAsk s) i 2) = true then (0, aAway s i) else aAddrE (wAsk s ((gAsk s).eraseIdx i)) (getE (gAsk s) i)
def aAdd (s : Sx) : Int32 × Sx := match fst1 (fun i => decide (rk (kx (gOpn s)) (gAsk s) (getE (gAsk s) i) = 0)) (gAsk s).length with
  | some i => aAddr s i
  | none => (0, s)
def aTurn (s : Sx) : Int32 × Sx := ((aAnsw (wSc s 4 (gSc s 4 + 1))).1 + (aAdd (aAnsw (wSc s 4 (gSc s 4 + 1))).2).1, (aAdd (aAnsw (wSc s 4 (gSc s 4 + 1))).2).2)
theorem kx_ne {o L : List E} (hp : plOk L) (h : L.Pairwise (fun a b => (a 3).toInt < (b 3).toInt)) : L.Pairwise (fun a b => kx o a ≠ kx o b) := by
  refine List.Pairwise.imp_of_mem (fun {a b} ha hb hab => ?_) h
  have p1 := hp a ha
  have p2 := hp b hb
  unfold kx
  split <;> split <;> omega
theorem rk_ix {K : E → Int} {L : List E} (h : L.Pairwise (fun a b => K a ≠ K b)) {i j : Nat} (hi : i < L.length) (hj : j < L.length) (hr : rk K L (getE L i) = rk K L (getE L j)) : i = j := by
  have ei := getE_s (List.getElem?_eq_getElem hi)
  have ej := getE_s (List.getElem?_eq_getElem hj)
  rw [ei, ej] at hr
  have hk := rk_inj (List.getElem_mem hi) (List.getElem_mem hj) hr
  have hpw := List.pairwise_iff_getElem.mp h
  rcases Nat.lt_trichotomy i j with q | q | q
  · exact absurd hk (hpw i j hi hj q)
  · exact q
  · exact absurd hk.symm (hpw j i hj hi q)
theorem iOrd_k {s s' : Sx} (h : iOrd s) (h1 : gSc s' 6 = gSc s 6) (h2 : gOrd s' = gOrd s) : iOrd s' := by
  obtain ⟨T, a, b, d⟩ := h
  exact ⟨T, by rw [h1]; exact a, b, by rw [h2]; exact d⟩
theorem m_away {s : Sx} {y : sw_St} {i : Nat} {w : Int32} (hw : w = getE (gAsk s) i 4) (h : RM (wAsk s ((gAsk s).eraseIdx i)) y) (hn : (gAsk s).length ≤ 12) : wp ((f_X7_asks y (getE (gAsk s) i 0) (getE (gAsk s) i 1) (getE (gAsk s) i 2)).bind fun r18 => (sw_ck (sw_in ((5 * (r18 1 18)) - 1) 80) (sw_pt r18 15 (sw_ix ((5 * (r18 1 18)) - 1)) (w + 1) fun s20 => (sw_pt s20 1 25 ((s20 1 25) + 1) fun s21 => (some ((0 : Int32), s21)))))) (Rm (0, aAway s i)) := by
  have hl : ((gAsk s).eraseIdx i).length ≤ 12 := Nat.le_trans (List.length_eraseIdx_le _ _) hn
  refine wp_bindM (m_asks (e := mk [getE (gAsk s) i 0, getE (gAsk s) i 1, getE (gAsk s) i 2, gSc s 5, 0, getE (gAsk s) i 5]) h (by show ((gAsk s).eraseIdx i).length < 16; omega) rfl rfl rfl rfl rfl) (fun y1 h1 => ?_)
  obtain ⟨a1, a2, a3⟩ := h1.2.2.2.2.2.1
  have a1' : y1 1 18 = nI (((gAsk s).eraseIdx i).length + 1) := by
    rw [a1]
    show nI ((gAsk s).eraseIdx i ++ [_]).length = _
    rw [List.length_append]
    rfl
  have e7 : y1 1 25 = gSc s 7 := by
    rw [h1.1.2.2.2.2.2.2.2.1]
    exact sc_n (s := wAsk s ((gAsk s).eraseIdx i)) (k := 5) (j := 7) (v := gSc s 5 + 1) (by decide)
  rw [a1', mu5, nl_1, pn_sub (by omega), ck_t (pn_in (by omega) (by omega)), pn_ix (by omega)]
  simp only [sw_pt]
  rw [up_ne (by decide), e7]
  refine wp_some ⟨rfl, ?_⟩
  refine RM_sc (v := gSc s 7 + 1) 7 (by decide) ?_
  refine RM_ask (s := wAsk (wSc s 5 (gSc s 5 + 1)) ((gAsk s).eraseIdx i ++ [mk [getE (gAsk s) i 0, getE (gAsk s) i 1, getE (gAsk s) i 2, gSc s 5, 0, getE (gAsk s) i 5]])) h1 ⟨?_, ?_, ?_⟩ (fun a ha ha' => up_ne ha') (fun b hb => by rw [up_ne (by decide)])
  · rw [up_ne (by decide), a1', List.length_append]
    rfl
  · rw [List.length_append]
    show ((gAsk s).eraseIdx i).length + 1 ≤ 16
    omega
  · have a3' : enc y1 15 5 0 ((gAsk s).eraseIdx i ++ [mk [getE (gAsk s) i 0, getE (gAsk s) i 1, getE (gAsk s) i 2, gSc s 5, 0, getE (gAsk s) i 5]]) := a3
    intro j e hj f hf
    simp only [up_at]
    by_cases hjl : j < ((gAsk s).eraseIdx i).length
    · rw [List.getElem?_append_left hjl] at hj
      have := a3' j e (by rw [List.getElem?_append_left hjl]; exact hj) f hf
      rw [if_neg (by omega)]
      exact this
    · rw [List.getElem?_append_right (by omega)] at hj
      have hz : j - ((gAsk s).eraseIdx i).length < 1 := (List.getElem?_eq_some_iff.mp hj).1
      have hj0 : j = ((gAsk s).eraseIdx i).length := by omega
      rw [hj0, Nat.sub_self] at hj
      cases hj
      have := a3' j _ (by rw [List.getElem?_append_right (by omega), hj0, Nat.sub_self]; rfl) f hf
      rw [hj0] at this ⊢
      by_cases q : f = 4
      · subst q
        rw [if_pos ⟨trivial, by omega⟩, hw]
        rfl
      · rw [if_neg (by omega), this]
        rcases (show f = 0 ∨ f = 1 ∨ f = 2 ∨ f = 3 by omega) with rfl | rfl | rfl | rfl <;> rfl
theorem m_opn {s : Sx} {y : sw_St} {c : Nat} {k l sent : Int32} (hk : k = 0 ∨ k = 1 ∨ k = 2) (hc : c < 4) (h : RM s y) (hN : Nums s) (hT : iOrd s) (hl : (gOpn s).length < 4) (hli : ∃ i, i < 8 ∧ l = nI i) : wp (f_X7_address_192 y k (nI c) l sent) (Rm (0, aOpn s c k l sent)) := by
  have h8 : y 1 26 = gSc s 8 := h.1.2.2.2.2.2.2.2.2.1
  have tail : ∀ (y1 : sw_St) (s1 : Sx) (t : Int32), RM s1 y1 → Nums s1 → iOrd s1 → (gOpn s1).length < 4 → wp (f_X7_address_234 y1 k (nI c) l sent t (nI c)) (Rm (0, aOpens (aOrd s1 (nI c) t l) (if k = 0 then 0 else 1) c l sent)) := by
    intro y1 s1 t h1 hN1 hT1 hl1
    unfold f_X7_address_234 f_X7_address_249
    refine wp_bindM (m_orders h1 hT1) (fun y2 h2 => ?_)
    have hN2 : Nums (aOrd s1 (nI c) t l) := by
      obtain ⟨C, a, b⟩ := hN1
      exact ⟨C, a, b⟩
    by_cases q : k = 0
    · rw [if_pos q, if_pos q]
      exact wp_bindM (m_opens (k := 0) (Or.inl rfl) hc h2 hN2 hl1 hli) (fun y3 h3 => wp_some ⟨rfl, h3⟩)
    · rw [if_neg q, if_neg q]
      exact wp_bindM (m_opens (k := 1) (Or.inr rfl) hc h2 hN2 hl1 hli) (fun y3 h3 => wp_some ⟨rfl, h3⟩)
  unfold f_X7_address_192 f_X7_address_207 aOpn
  rw [h8]
  simp only [sw_pt]
  have hs : ∀ v : Int32, RM (wSc s 8 v) (sw_up y 1 26 v) := fun v => RM_sc (v := v) 8 (by decide) h
  have hT' : ∀ v : Int32, iOrd (wSc s 8 v) := fun v => iOrd_k hT (sc_n (by decide)) rfl
  have hN' : ∀ v : Int32, Nums (wSc s 8 v) := fun v => by
    obtain ⟨C, a, b⟩ := hN
    exact ⟨C, (sc_n (by decide)).trans a, b⟩
  rcases hk with rfl | rfl | rfl
  · exact tail _ _ 82 (hs (gSc s 8 + 0)) (hN' _) (hT' _) hl
  · exact tail _ _ 79 (hs (gSc s 8 + 0)) (hN' _) (hT' _) hl
  · exact tail _ _ 87 (hs (gSc s 8 + 1)) (hN' _) (hT' _) hl
theorem m_address {b : Nat} {s : Sx} {y : sw_St} (h : RM s y) (hI : Inv b s) (hb : b < 2 ^ 30) : wp (f_X7_address y) (Rm (aAdd s)) := by
  have hp := Inv_pl hI hb
  have hT := Inv_ord hI hb
  have hN := Inv_Nums hI
  have hn := ask_len hI.2.2.2.1 hI.1.1.2.2
  obtain ⟨a1, a2, a3⟩ := h.2.2.2.2.2.1
  unfold f_X7_address aAdd
  rcases m_waitingAt h hp 0 with ⟨i, e, he, hi, hr, hf⟩ | ⟨hno, hf⟩
  · have hge := getE_s he
    have hr0 : rk (kx (gOpn s)) (gAsk s) e = 0 := by
      have := rk_len (K := kx (gOpn s)) (List.mem_of_getElem? he)
      exact (nI_eq (b := 0) (by omega) (by omega)).mp hr
    have hpw := kx_ne (o := gOpn s) hp hI.2.2.2.1.2.1
    have hfst : fst1 (fun i => decide (rk (kx (gOpn s)) (gAsk s) (getE (gAsk s) i) = 0)) (gAsk s).length = some i := by
      refine fst1_is hi (by simp [hge, hr0]) (fun j hj => ?_)
      refine decide_eq_false (fun z => ?_)
      have := rk_ix hpw (i := j) (j := i) (by omega) hi (by rw [z, hge, hr0])
      omega
    rw [hfst, hf, bd_s, if_neg (pn_neg (by omega))]
    obtain ⟨c, l, p, hc, h1, hl, h2, h3, hpp, hkind⟩ := hI.2.2.2.1.1 e (List.mem_of_getElem? he)
    have hC4 := hI.1.1.2.2
    have fld : ∀ f, f < 5 → y 15 (5 * i + f) = e f := fun f hf => by
      have := a3 i e he f hf
      rw [Nat.zero_add] at this
      exact this
    have f0 := fld 0 (by omega)
    rw [Nat.add_zero] at f0
    rw [mu5, nI_1, ad2, ad4, ck_t (pn_in (by omega) (by omega)), ck_t (pn_in (by omega) (by omega)), ck_t (pn_in (by omega) (by omega)), ck_t (pn_in (by omega) (by omega)), pn_ix (by omega), pn_ix (by omega), pn_ix (by omega), pn_ix (by omega), f0, fld 1 (by omega), fld 2 (by omega), fld 4 (by omega)]
    refine wp_bindM (m_noMore h hi) (fun y1 g1 => ?_)
    rw [m_isOpen _ g1.2.2.2.2.2.2.1, bd_s]
    show wp _ (Rm (aAddr s i))
    unfold aAddr
    rw [hge]
    by_cases ho : isO (gOpn s) (e 2) = true
    · rw [if_pos (show isO (gOpn (wAsk s ((gAsk s).eraseIdx i))) (e 2) = true from ho), if_neg (by decide), if_pos ho]
      have := m_away (w := e 4) (by rw [hge]) g1 hn
      rw [hge] at this
      exact this
    · rw [if_neg (show ¬ isO (gOpn (wAsk s ((gAsk s).eraseIdx i))) (e 2) = true from ho), if_pos rfl, if_neg ho]
      unfold aAddrE
      rw [h1, pn_ix (by omega)]
      have hli : ∃ i, i < 8 ∧ e 2 = nI i := ⟨l, hl, h2⟩
      by_cases q3 : e 0 = 3
      · rw [if_pos q3, if_pos q3]
        rcases hkind with ⟨_, be, hbe, j, hj, hj2, hb0, hb3, hb5⟩ | ⟨q, _⟩
        · cases hx : ixf (gBuf s c) 0 (e 2) with
          | none => exact absurd hb0 (ixf_none hx be hbe)
          | some k =>
            refine wp_bindM (m_out (by omega) g1 hx) (fun r hr => ?_)
            rw [h2, ck_t (pn_in (by omega) (by omega)), pn_ix (by omega)]
            simp only [sw_pt]
            have hm := RM_mem (l := l) (v := r.1) hr.2
            refine wp_bindM (m_orders hm (iOrd_k hT rfl rfl)) (fun y2 g2 => wp_some ⟨rfl, ?_⟩)
            rw [hr.1] at g2
            unfold aBk
            show RM (match ixf (gBuf s c) 0 (nI l) with | some k => _ | none => _) y2
            rw [← h2, hx]
            dsimp only
            rw [h2, pn_ix (by omega)]
            exact g2
        · rcases q with q | q | q <;> rw [q] at q3 <;> exact absurd q3 (by decide)
      · rw [if_neg q3, if_neg q3]
        obtain ⟨hk012, hk5, hkop, hkl⟩ : (e 0 = 0 ∨ e 0 = 1 ∨ e 0 = 2) ∧ e 5 = nI (3 * c) ∧ gOp s c 0 = (if e 0 = 0 then 1 else 2) ∧ gOp s c 1 = e 2 := by
          rcases hkind with ⟨q, _⟩ | q
          · exact absurd q q3
          · exact q
        have hol : (gOpn s).length < 4 := by
          have := cn_slots (f := 1) (N := 4) (by omega) (fun _ => true) (mk [0, nI c] :: gOpn s) (List.pairwise_cons.mpr ⟨fun a ha z => ?_, hI.2.2.2.2.1.2.1⟩) (fun a ha => ?_)
          · rw [List.countP_true] at this
            have h4 := cn_le (P := fun j => (mk [0, nI c] :: gOpn s).any (fun e => e 1 == nI j && true)) 4 0
            rw [this, List.length_cons] at h4
            omega
          · obtain ⟨c', l', t', g1, g2, g3, g4, g5, g6, g7, g8, g9, g10, g11⟩ := hI.2.2.2.2.1.1 a ha
            have : nI c = a 1 := z
            rw [g2, nI_eq (by omega) (by omega)] at this
            subst this
            exact g11 e (List.mem_of_getElem? he) hk5
          · rcases List.mem_cons.mp ha with rfl | ha
            · exact ⟨c, by omega, rfl⟩
            · obtain ⟨c', l', t', g1, g2, _⟩ := hI.2.2.2.2.1.1 a ha
              exact ⟨c', by omega, g2⟩
        have hopn := m_opn (s := wAsk s ((gAsk s).eraseIdx i)) (y := y1) (c := c) (k := e 0) (l := e 2) (sent := e 4) hk012 (by omega) g1 hN (iOrd_k hT rfl rfl) hol hli
        by_cases q2 : e 0 = 2
        · rw [if_pos q2, m_howOf (e 2) (by omega) (g1.2.2.1 c (by omega)), bd_s]
          by_cases q1 : howR (gRow s c) (e 2) = 1
          · rw [if_pos (show howR (gRow (wAsk s ((gAsk s).eraseIdx i)) c) (e 2) = 1 from q1), if_pos ⟨q2, q1⟩]
            refine wp_bindM (m_noOther (e 2) (by omega) g1 hN) (fun y2 g2 => ?_)
            have o2 : y2 13 c = gOp s c 2 := (g2.2.2.2.2.1 c (by omega)).2.2.1
            rw [ck_t (pn_in (by omega) (by omega)), o2]
            have hxx : ∃ k, ixf (gRow (aNoOther (wAsk s ((gAsk s).eraseIdx i)) c (e 2)) c) 0 (e 2) = some k := by
              show ∃ k, ixf (if c < _ ∧ c ≠ c then _ else gRow s c) 0 (e 2) = some k
              rw [if_neg (by omega)]
              cases hq : ixf (gRow s c) 0 (e 2) with
              | none => unfold howR at q1; rw [hq] at q1; exact absurd (show (0 : Int32) = 1 from q1) (by decide)
              | some k => exact ⟨k, rfl⟩
            refine wp_bindM (m_use (by omega) g2 hxx) (fun y3 g3 => ?_)
            refine wp_bindM (m_ends (by omega) g3) (fun y4 g4 => ?_)
            refine wp_bindM (m_orders g4 (iOrd_k hT ?_ rfl)) (fun y5 g5 => wp_some ⟨rfl, g5⟩)
            rw [sc_n (by decide)]
            show va_up (gSc s) (20 + c) _ 6 = _
            rw [up_n _ _ (by omega)]
          · rw [if_neg (show ¬ howR (gRow (wAsk s ((gAsk s).eraseIdx i)) c) (e 2) = 1 from q1), if_neg (fun z => q1 z.2)]
            exact hopn
        · rw [if_neg q2, if_neg (fun z => q2 z.1)]
          exact hopn
  · have hfst : fst1 (fun i => decide (rk (kx (gOpn s)) (gAsk s) (getE (gAsk s) i) = 0)) (gAsk s).length = none := by
      refine fst1_no (fun j hj => decide_eq_false (fun z => ?_))
      have := hno _ (List.mem_of_getElem? (getE_t hj))
      rw [z] at this
      exact this rfl
    rw [hfst, hf, bd_s, if_pos rfl]
    exact wp_some ⟨rfl, h⟩
theorem aAnsw_1 (s : Sx) : (aAnsw s).1 = 0 ∨ (aAnsw s).1 = 1 := by
  unfold aAnsw
  split
  · exact Or.inr rfl
  · exact Or.inl rfl
theorem m_oneTurn {b : Nat} {s : Sx} {y : sw_St} (h : RM s y) (hI : Inv b (wSc s 4 (gSc s 4 + 1))) (hI2 : Inv b (aAnsw (wSc s 4 (gSc s 4 + 1))).2) (hb : b < 2 ^ 30) : wp (f_X7_oneTurn y) (Rm (aTurn s)) := by
  have h4 : y 1 4 = gSc s 4 := h.1.2.2.2.2.1
  unfold f_X7_oneTurn
  simp only [sw_pt]
  rw [h4]
  have h1 := RM_sc (v := gSc s 4 + 1) 4 (by decide) h
  refine wp_bindM (m_answer h1 hI) (fun r hr => ?_)
  obtain ⟨hr1, hr2⟩ := hr
  unfold f_X7_oneTurn_22
  rw [hr1]
  rcases aAnsw_1 (wSc s 4 (gSc s 4 + 1)) with q | q
  · rw [if_pos q]
    refine wp_bindM (m_address hr2 hI2 hb) (fun r2 hr2 => wp_some ⟨?_, hr2.2⟩)
    show 0 + r2.1 = (aAnsw (wSc s 4 (gSc s 4 + 1))).1 + _
    rw [q, hr2.1]
  · rw [if_neg (by rw [q]; decide)]
    refine wp_bindM (m_address hr2 hI2 hb) (fun r2 hr2 => wp_some ⟨?_, hr2.2⟩)
    show 1 + r2.1 = (aAnsw (wSc s 4 (gSc s 4 + 1))).1 + _
    rw [q, hr2.1]
