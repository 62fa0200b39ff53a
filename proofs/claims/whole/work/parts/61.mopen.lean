/-! PURE: the address turn in the model -/
theorem ad2 (a : Nat) : nI a + 2 = nI (a + 2) := nI_add a 2
theorem ad3 (a : Nat) : nI a + 3 = nI (a + 3) := nI_add a 3
theorem ad4 (a : Nat) : nI a + 4 = nI (a + 4) := nI_add a 4
theorem ad5 (a : Nat) : nI a + 5 = nI (a + 5) := nI_add a 5
theorem ad6 (a : Nat) : nI a + 6 = nI (a + 6) := nI_add a 6
theorem ad7 (a : Nat) : nI a + 7 = nI (a + 7) := nI_add a 7
theorem mu2 (a : Nat) : 2 * nI a = nI (2 * a) := pn_mul 2 a
theorem mu3 (a : Nat) : 3 * nI a = nI (3 * a) := pn_mul 3 a
theorem mu4 (a : Nat) : 4 * nI a = nI (4 * a) := pn_mul 4 a
theorem mu5 (a : Nat) : 5 * nI a = nI (5 * a) := pn_mul 5 a
theorem mu7 (a : Nat) : 7 * nI a = nI (7 * a) := pn_mul 7 a
def valR (l : List E) (v : Int32) : Int32 := match ixf l 0 v with
  | some k => getE l k 1
  | none => 0
def one2 (e : E) : E := fun f => if f = 2 then 1 else e f
/-- the line stays, shared -/
def toSh (l : List E) (v : Int32) : List E := match ixf l 0 v with
  | some k => l.set k (one2 (getE l k))
  | none => l
def aDue (s : Sx) (c : Nat) (l : Int32) : Int32 := gSc s 4 + (if oth s (nI c) l 2 = none ∧ bfr s l = none then gSc s 3 else gSc s 2)
def aVal (s : Sx) (c : Nat) (l : Int32) : Int32 := match oth s (nI c) l 2 with
  | some d => valR (gRow s d) l
  | none => match bfr s l with
    | some d => valR (gBuf s d) l
    | none => gMem s (sw_ix l)
def aUn (s : Sx) (c : Nat) (l : Int32) : Sx := match oth s (nI c) l 2 with
  | some _ => s
  | none => match bfr s l with
    | some d => match ixf (gBuf s d) 0 l with
      | some k => aOut s d k l
      | none => s
    | none => s
def aChg (s : Sx) (o : Option Nat) (k : Int32) (c : Nat) (l v : Int32) : Sx := if k = 0 then (match o with
  | some d => wRow (wMem s (sw_ix l) v) d (toSh (gRow s d) l)
  | none => wMem s (sw_ix l) v) else aNoOther s c l
def aToBe (s : Sx) (k : Int32) (c : Nat) (l : Int32) : Int32 := if k = 1 then 3 else if oth s (nI c) l 1 = none then 2 else 1
def aPutO (s : Sx) (k : Int32) (c : Nat) (l due v sent : Int32) : Sx := wOpn s (gOpn s ++ [mk [k, nI c, l, due, aToBe s k c l, v, sent, gSc s 6]])
def aOpens (s : Sx) (k : Int32) (c : Nat) (l sent : Int32) : Sx := aPutO (aChg (aUn s c l) (oth s (nI c) l 2) k c l (aVal s c l)) k c l (aDue s c l) (aVal s c l) sent
theorem m_putO {s : Sx} {y : sw_St} {k due v sent : Int32} {c : Nat} {l : Int32} (h : RM s y) (hN : Nums s) (hl : (gOpn s).length < 4) : wp (f_X7_opens_175 y k (nI c) l sent v due) (RM (aPutO s k c l due v sent)) := by
  obtain ⟨a1, a2, a3⟩ := h.2.2.2.2.2.2.1
  unfold f_X7_opens_175
  rw [a1]
  simp (disch := omega) only [sw_pt, ck_tt, pn_in, pn_ix, mu7, nI_1, ad2, ad3, ad4]
  have h1 : ∀ x : sw_St, (∀ a, a ≠ 16 → x a = y a) → (∀ b, b < 7 * (gOpn s).length → x 16 b = y 16 b) → RM s x := by
    intro x g1 g2
    have := RM_opn (l := gOpn s) h ⟨by rw [g1 1 (by decide)]; exact a1, a2, enc_keep a3 (fun b _ hb => g2 b (by omega))⟩ (fun a _ ha => g1 a ha) (fun b _ => by rw [g1 1 (by decide)])
    exact this
  have fin : ∀ (x : sw_St) (t : Int32), (∀ a, a ≠ 16 → x a = y a) → (∀ b, b < 7 * (gOpn s).length → x 16 b = y 16 b) → x 16 (7 * (gOpn s).length) = k → x 16 (7 * (gOpn s).length + 1) = nI c → x 16 (7 * (gOpn s).length + 2) = l → x 16 (7 * (gOpn s).length + 3) = due → t = aToBe s k c l → wp (f_X7_opens_257 x sent v (nI (7 * (gOpn s).length)) t (nI (7 * (gOpn s).length + 4))) (RM (aPutO s k c l due v sent)) := by
    intro x t g1 g2 k0 k1 k2 k3 ht
    unfold f_X7_opens_257
    have e6 : (5 : Int32) = nI 5 ∧ (6 : Int32) = nI 6 := ⟨rfl, rfl⟩
    rw [e6.1, e6.2, nI_add, nI_add]
    simp (disch := omega) only [sw_pt, ck_tt, pn_in, pn_ix]
    refine wp_some ?_
    rw [up_ne (by decide), up_ne (by decide), up_ne (by decide), g1 1 (by decide), a1, nl_1, nI_add]
    refine RM_opn h ⟨?_, ?_, ?_⟩ (fun a ha ha' => ?_) (fun b hb => ?_)
    · rw [up_eq, List.length_append]; rfl
    · rw [List.length_append]; show (gOpn s).length + 1 ≤ 4; omega
    · refine enc_push (enc_keep a3 (fun b _ hb => ?_)) (fun f hf => ?_)
      · have := g2 b (by omega)
        simp only [up_at]
        grind
      · rw [Nat.zero_add]
        simp only [up_at]
        rcases (show f = 0 ∨ f = 1 ∨ f = 2 ∨ f = 3 ∨ f = 4 ∨ f = 5 ∨ f = 6 by omega) with rfl | rfl | rfl | rfl | rfl | rfl | rfl <;> simp [mk, k0, k1, k2, k3, ht]
    · funext b
      have := g1 a ha'
      simp only [up_at]
      grind
    · have := g1 1 (by decide)
      rw [up_nj hb, up_ne (by decide), up_ne (by decide), up_ne (by decide), this]
  have g1 : ∀ a, a ≠ 16 → sw_up (sw_up (sw_up (sw_up y 16 (7 * (gOpn s).length) k) 16 (7 * (gOpn s).length + 1) (nI c)) 16 (7 * (gOpn s).length + 2) l) 16 (7 * (gOpn s).length + 3) due a = y a := fun a ha => by rw [up_ne ha, up_ne ha, up_ne ha, up_ne ha]
  have g2 : ∀ b, b < 7 * (gOpn s).length → sw_up (sw_up (sw_up (sw_up y 16 (7 * (gOpn s).length) k) 16 (7 * (gOpn s).length + 1) (nI c)) 16 (7 * (gOpn s).length + 2) l) 16 (7 * (gOpn s).length + 3) due 16 b = y 16 b := fun b hb => by simp only [up_at]; grind
  have hs := h1 _ g1 g2
  refine wp_ite (fun q => ?_) (fun q => ?_)
  · exact fin _ _ g1 g2 (by simp only [up_at]; grind) (by simp only [up_at]; grind) (by simp only [up_at]; grind) (by simp only [up_at]; grind) (by unfold aToBe; rw [if_pos q])
  · rw [m_other (nI c) l 1 hs hN, bd_s]
    cases ho : oth s (nI c) l 1 with
    | none =>
      rw [if_pos (show nIo none = -4 from rfl)]
      exact fin _ _ g1 g2 (by simp only [up_at]; grind) (by simp only [up_at]; grind) (by simp only [up_at]; grind) (by simp only [up_at]; grind) (by unfold aToBe; rw [if_neg q, if_pos ho])
    | some d =>
      have hd : d < 4 := by
        obtain ⟨C, hC, _, hC4⟩ := hN
        have := (fst1_s ho).1
        rw [hC, pn_ix (by omega)] at this
        omega
      rw [if_neg (show ¬ nIo (some d) = -4 from pn_neg (by omega))]
      exact fin _ _ g1 g2 (by simp only [up_at]; grind) (by simp only [up_at]; grind) (by simp only [up_at]; grind) (by simp only [up_at]; grind) (by unfold aToBe; rw [if_neg q, if_neg (by rw [ho]; simp)])
theorem m_chg {s : Sx} {y : sw_St} {k due v sent : Int32} {o : Option Nat} {c : Nat} {l : Int32} (hk : k = 0 ∨ k = 1) (hc : c < 4) (h : RM s y) (hN : Nums s) (hl : (gOpn s).length < 4) (hli : ∃ i, i < 8 ∧ l = nI i) (ho : ∀ d, o = some d → d < 4 ∧ ∃ i, ixf (gRow s d) 0 l = some i) : wp (f_X7_opens_134 y k (nI c) l sent (nIo o) v due) (RM (aPutO (aChg s o k c l v) k c l due v sent)) := by
  obtain ⟨li, hli8, rfl⟩ := hli
  unfold f_X7_opens_134 aChg
  rcases hk with rfl | rfl
  · rw [if_pos rfl, if_pos rfl, ck_t (pn_in (by omega) (by omega)), pn_ix (by omega)]
    simp only [sw_pt]
    have h1 := RM_mem (l := li) (v := v) h
    cases o with
    | none =>
      show wp (if (-4 : Int32) = -4 then _ else _) _
      rw [if_pos rfl]
      exact m_putO (s := wMem s li v) h1 hN hl
    | some d =>
      obtain ⟨hd, i, hi⟩ := ho d rfl
      obtain ⟨r1, r2, r3⟩ := h1.2.2.1 d hd
      obtain ⟨e, g1, g2, g3⟩ := ixf_some hi
      show wp (if nI d = -4 then _ else _) _
      rw [if_neg (pn_neg (by omega))]
      show wp ((f_X7_at _ (nI d) (nI li)).bind _) _
      have g3' : i < 4 := by
        have : (gRow s d).length ≤ 4 := r2
        omega
      rw [m_at1 hd (h1.2.2.1 d hd) hi, bd_s, ck_t (pn_in (by omega) (by omega)), pn_ix (by omega)]
      refine m_putO (s := wRow (wMem s li v) d (toSh (gRow s d) (nI li))) (RM_row h1 ⟨?_, ?_, fun j e' hj => ?_⟩ (fun a ha => up_ne (by omega)) (fun b hb => by rw [up_ne (by decide)]) (fun a b h4 h6 hb => ?_)) hN hl
      · rw [up_ne (by decide), r1]
        unfold toSh
        rw [hi]
        show _ = nI ((gRow s d).set i _).length
        rw [List.length_set]
        rfl
      · unfold toSh
        rw [hi]
        show ((gRow s d).set i _).length ≤ 4
        rw [List.length_set]
        exact r2
      · unfold toSh at hj
        rw [hi] at hj
        have hj : ((gRow s d).set i (one2 (getE (gRow s d) i)))[j]? = some e' := hj
        simp only [up_at]
        by_cases q : j = i
        · subst q
          rw [List.getElem?_set_self g3] at hj
          cases hj
          have := r3 j e g1
          rw [getE_s g1]
          simp [one2]
          exact ⟨this.1, this.2.1⟩
        · rw [List.getElem?_set_ne (Ne.symm q)] at hj
          have := r3 j e' hj
          have hn : ¬ (4 * d + j = 4 * d + i) := by omega
          simp [q]
          exact this
      · simp only [up_at]
        rw [if_neg (by omega)]
  · rw [if_neg (by decide), if_neg (by decide)]
    refine wp_bindM (m_noOther (nI li) hc h hN) (fun y1 h1 => ?_)
    exact m_putO (s := aNoOther s c (nI li)) h1 hN hl
theorem hw_ex {L : List E} {v m : Int32} (h : ¬ howR L v < m) (hm : 0 < m) : ∃ i, ixf L 0 v = some i := by
  cases q : ixf L 0 v with
  | none =>
    unfold howR at h
    rw [q] at h
    exact absurd hm h
  | some k => exact ⟨k, rfl⟩
theorem m_opens {s : Sx} {y : sw_St} {k sent : Int32} {c : Nat} {l : Int32} (hk : k = 0 ∨ k = 1) (hc : c < 4) (h : RM s y) (hN : Nums s) (hl : (gOpn s).length < 4) (hli : ∃ i, i < 8 ∧ l = nI i) : wp (f_X7_opens y k (nI c) l sent) (RM (aOpens s k c l sent)) := by
  obtain ⟨C, hC, hC2, hC4⟩ := hN
  have hN : Nums s := ⟨C, hC, hC2, hC4⟩
  have h4 : y 1 4 = gSc s 4 := h.1.2.2.2.2.1
  have h2 : y 1 2 = gSc s 2 := h.1.2.2.1
  have h3 : y 1 3 = gSc s 3 := h.1.2.2.2.1
  unfold f_X7_opens aOpens aDue aVal aUn
  rw [m_other (nI c) l 2 h hN, bd_s, m_bfr l h hN, bd_s]
  cases ho : oth s (nI c) l 2 with
  | some d =>
    have hd := fst1_s ho
    rw [hC, pn_ix (by omega)] at hd
    have hd4 : d < 4 := by omega
    have hP := hd.2.1
    simp only [Bool.and_eq_true, Bool.not_eq_true', decide_eq_true_eq, decide_eq_false_iff_not] at hP
    obtain ⟨i, hi⟩ := hw_ex hP.2 (by decide)
    obtain ⟨r1, r2, r3⟩ := h.2.2.1 d hd4
    obtain ⟨e, g1, g2, g3⟩ := ixf_some hi
    show wp (if nI d = -4 then _ else _) _
    rw [if_neg (pn_neg (by omega))]
    unfold f_X7_opens_26 f_X7_opens_78 f_X7_opens_98 f_X7_opens_109
    show wp (if nI d = -4 then _ else _) _
    rw [if_neg (pn_neg (by omega))]
    show wp ((f_X7_at _ (nI d) l).bind _) _
    rw [m_at1 hd4 (h.2.2.1 d hd4) hi, bd_s, ck_t (pn_in (by omega) (by omega)), pn_ix (by omega), (r3 i e g1).2.1]
    show wp (if nI d = -4 then _ else _) _
    rw [if_neg (pn_neg (by omega)), if_pos rfl, h4, h2]
    have ev : valR (gRow s d) l = e 1 := by unfold valR; rw [hi]; exact congrFun (getE_s g1) 1
    rw [if_neg (by simp)]
    dsimp only
    rw [ev]
    exact m_chg hk hc h hN hl hli (fun d' hd' => by cases hd'; exact ⟨hd4, i, hi⟩)
  | none =>
    show wp (if (-4 : Int32) = -4 then _ else _) _
    rw [if_pos rfl]
    unfold f_X7_opens_26 f_X7_opens_78 f_X7_opens_98 f_X7_opens_109
    show wp (if (-4 : Int32) = -4 then _ else _) _
    rw [if_pos rfl]
    cases hb : bfr s l with
    | some d =>
      have hd := fst1_s hb
      rw [hC, pn_ix (by omega)] at hd
      have hd4 : d < 4 := by omega
      obtain ⟨i, hi⟩ := Option.isSome_iff_exists.mp hd.2.1
      obtain ⟨b1, b2, b3⟩ := h.2.2.2.1 d hd4
      obtain ⟨e, g1, g2, g3⟩ := ixf_some hi
      show wp (if nI d = -4 then _ else _) _
      rw [if_neg (pn_neg (by omega))]
      show wp ((f_X7_backAt _ (nI d) l).bind _) _
      rw [m_ba1 hd4 (h.2.2.2.1 d hd4) hi, bd_s, ck_t (pn_in (by omega) (by omega)), pn_ix (by omega), (b3 i e g1).2]
      show wp (if (-4 : Int32) = -4 then _ else _) _
      rw [if_pos rfl]
      show wp (if nI d = -4 then _ else _) _
      rw [if_neg (pn_neg (by omega))]
      show wp (if nI d = -4 then _ else _) _
      rw [if_neg (pn_neg (by omega)), h4, h2]
      have ev : valR (gBuf s d) l = e 1 := by unfold valR; rw [hi]; exact congrFun (getE_s g1) 1
      rw [if_neg (by simp)]
      dsimp only
      rw [ev, hi]
      refine wp_bindM (m_out hd4 h hi) (fun r1 hr1 => ?_)
      refine wp_bindM (m_noBack (c := nI d) (l := l) hr1.2) (fun y2 h2 => ?_)
      exact m_chg (s := aOut s d i l) (o := none) hk hc h2 hN hl hli (fun d' hd' => by cases hd')
    | none =>
      obtain ⟨li, hli8, rfl⟩ := hli
      show wp (if (-4 : Int32) = -4 then _ else _) _
      rw [if_pos rfl, ck_t (pn_in (by omega) (by omega)), pn_ix (by omega), h.2.1 li hli8]
      show wp (if (-4 : Int32) = -4 then _ else _) _
      rw [if_pos rfl]
      show wp (if (-4 : Int32) = -4 then _ else _) _
      rw [if_pos rfl]
      show wp (if (-4 : Int32) = -4 then _ else _) _
      rw [if_pos rfl, h4, h3, if_pos ⟨rfl, rfl⟩]
      exact m_chg (o := none) hk hc h hN hl ⟨li, hli8, rfl⟩ (fun d' hd' => by cases hd')
