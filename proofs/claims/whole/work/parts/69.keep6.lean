/-! PURE: what always holds stays: the address turn -/
theorem Inv_toSh {b : Nat} {s : Sx} {d : Nat} {l : Int32} (h : Inv b s) (hd : d < 4) (q0 : hw s d l ≠ 0) (q1 : hw s d l ≠ 1) : Inv b (wRow s d (toSh (gRow s d) l)) := by
  obtain ⟨n, h1, h2, h3, h4, h5, c1, c2, c3, c4, c5⟩ := h
  have hC4 := n.1.2.2
  obtain ⟨⟨r1, r2, r3, r4⟩, r5⟩ := h1 d hd
  have rc : gRow (wRow s d (toSh (gRow s d) l)) d = toSh (gRow s d) l := up_s _ _ _
  have rn : ∀ e, e ≠ d → gRow (wRow s d (toSh (gRow s d) l)) e = gRow s e := fun e he => up_n _ _ he
  have hwc : ∀ v, hw (wRow s d (toSh (gRow s d) l)) d v = if v = l then 1 else hw s d v := fun v => by
    unfold hw
    rw [rc, how_toSh r2 q0]
  have hwn : ∀ e v, e ≠ d → hw (wRow s d (toSh (gRow s d) l)) e v = hw s e v := fun e v he => by unfold hw; rw [rn e he]
  refine ⟨n, fun c hc => ?_, h2, h3, h4, h5, ?_, ?_, c3, ?_, ?_⟩
  · by_cases e1 : c = d
    · subst e1
      rw [rc]
      cases hx : ixf (gRow s c) 0 l with
      | none => exact absurd (by unfold hw howR; rw [hx]) q0
      | some k =>
        obtain ⟨e, g1, g2, g3⟩ := ixf_some hx
        have hm := List.mem_of_getElem? g1
        have et : toSh (gRow s c) l = (gRow s c).set k (one2 (getE (gRow s c) k)) := by unfold toSh; rw [hx]
        rw [et]
        refine ⟨⟨fun x hx' => ?_, ?_, ?_, ?_⟩, fun z => ?_⟩
        · rcases mem_set _ k g3 hx' with rfl | hx'
          · rw [getE_s g1]
            obtain ⟨y1, y2, y3⟩ := r1 e hm
            exact ⟨y1, Or.inl rfl, y3⟩
          · exact r1 x hx'
        · exact pw_map (g := fun e : E => e 0) (R := fun a b => a ≠ b) (map_set (fun e : E => e 0) _ k g3 rfl) r2
        · exact pw_map (g := fun e : E => (e 3).toInt) (R := fun a b => a < b) (map_set (fun e : E => (e 3).toInt) _ k g3 rfl) r3
        · rw [List.length_set]; exact r4
        · rw [r5 z]; rfl
    · rw [rn c e1]; exact h1 c hc
  · intro c e v hc he hne z0 z1
    by_cases e1 : c = d
    · subst e1
      rw [hwc] at z0 z1
      by_cases ev : v = l
      · rw [if_pos ev] at z1
        exact absurd rfl z1
      · rw [if_neg ev] at z0 z1
        rw [hwn e v (Ne.symm hne)]
        exact c1 c e v hc he hne z0 z1
    · rw [hwn c v e1] at z0 z1
      by_cases e2 : e = d
      · subst e2
        rw [hwc]
        by_cases ev : v = l
        · rw [ev] at z0 z1
          exact absurd (c1 c e l hc he hne z0 z1) q0
        · rw [if_neg ev]
          exact c1 c e v hc he hne z0 z1
      · rw [hwn e v e2]
        exact c1 c e v hc he hne z0 z1
  · intro c e hc he x hx
    have := c2 c e hc he x hx
    by_cases e2 : e = d
    · subst e2
      rw [hwc, if_neg (fun z => q0 (by rw [z] at this; exact this))]
      exact this
    · rw [hwn e _ e2]; exact this
  · intro a ha
    obtain ⟨g1, g2⟩ := c4 a ha
    obtain ⟨c', l', t', hc', hc1, _⟩ := h4.1 a ha
    have hal : a 2 ≠ l := fun z => by
      have := (g1 d hd).1
      rw [z] at this
      rcases this with y | y
      · exact q0 y
      · exact q1 y.1
    refine ⟨fun e he => ⟨?_, (g1 e he).2⟩, ?_⟩
    · by_cases e2 : e = d
      · subst e2
        rw [hwc, if_neg hal]; exact (g1 e he).1
      · rw [hwn e _ e2]; exact (g1 e he).1
    · rw [hc1, pn_ix (by omega)] at g2 ⊢
      by_cases e2 : c' = d
      · subst e2
        rw [hwc, if_neg hal]; exact g2
      · rw [hwn c' _ e2]; exact g2
  · intro a ha q
    obtain ⟨g1, g2⟩ := c5 a ha q
    obtain ⟨c', l', t', hc', hc1, _⟩ := h3.1 a ha
    refine ⟨g1, ?_⟩
    rw [hc1, pn_ix (by omega)] at g2 ⊢
    by_cases e2 : c' = d
    · subst e2
      have hal : a 2 ≠ l := fun z => by
        rw [z] at g2
        rcases g2 with y | y
        · exact q0 y
        · exact q1 y.2
      rw [hwc, if_neg hal]; exact g2
    · rw [hwn c' _ e2]; exact g2
/-- what the holders of a line are, by cases -/
theorem holders {b : Nat} {s : Sx} {c l : Nat} (h : Inv b s) (hc : c < cN s) (hl : l < 8) (hown : ∀ e ∈ gBuf s c, e 0 ≠ nI l) (hc2 : hw s c (nI l) = 0 ∨ hw s c (nI l) = 1) :
    (∃ d, oth s (nI c) (nI l) 2 = some d ∧ d < cN s ∧ d ≠ c ∧ hw s d (nI l) ≠ 0 ∧ hw s d (nI l) ≠ 1 ∧ (∀ e, e < 4 → e ≠ d → hw s e (nI l) = 0) ∧ ∀ e, e < 4 → ∀ x ∈ gBuf s e, x 0 ≠ nI l) ∨
    (oth s (nI c) (nI l) 2 = none ∧ ∃ d k, bfr s (nI l) = some d ∧ d < cN s ∧ d ≠ c ∧ ixf (gBuf s d) 0 (nI l) = some k ∧ (∀ e, e < 4 → hw s e (nI l) = 0) ∧ (∀ e, e < 4 → e ≠ d → ∀ x ∈ gBuf s e, x 0 ≠ nI l)) ∨
    (oth s (nI c) (nI l) 2 = none ∧ bfr s (nI l) = none ∧ (∀ e, e < 4 → hw s e (nI l) = 0 ∨ hw s e (nI l) = 1) ∧ ∀ e, e < 4 → ∀ x ∈ gBuf s e, x 0 ≠ nI l) := by
  have hC4 := h.1.1.2.2
  have hc4 : c < 4 := by omega
  cases ho : oth s (nI c) (nI l) 2 with
  | some d =>
    left
    obtain ⟨g1, g2, g3⟩ := fst1_s ho
    simp only [Bool.and_eq_true, Bool.not_eq_true', decide_eq_true_eq, decide_eq_false_iff_not] at g2
    have g1 : d < cN s := g1
    have z0 : hw s d (nI l) ≠ 0 := fun z => g2.2 (by unfold hw at z; rw [z]; decide)
    have z1 : hw s d (nI l) ≠ 1 := fun z => g2.2 (by unfold hw at z; rw [z]; decide)
    refine ⟨d, rfl, g1, fun z => g2.1 (by rw [z]), z0, z1, fun e he hne => h.2.2.2.2.2.2.1 d e (nI l) (by omega) he (Ne.symm hne) z0 z1, fun e he x hx z => ?_⟩
    have := h.2.2.2.2.2.2.2.1 e d he (by omega) x hx
    rw [z] at this
    exact z0 this
  | none =>
    right
    have hn := fst1_n ho
    have h01 : ∀ e, e < 4 → hw s e (nI l) = 0 ∨ hw s e (nI l) = 1 := fun e he => by
      by_cases ec : e = c
      · rw [ec]; exact hc2
      · by_cases eC : e < cN s
        · have := hn e eC
          have hlt : howR (gRow s e) (nI l) < 2 := by
            have hne : ¬ nI e = nI c := fun z => ec ((nI_eq (by omega) (by omega)).mp z)
            simpa [hne] using this
          rcases hw_123 (l := nI l) h he with z | z | z | z
          · exact Or.inl z
          · exact Or.inr z
          · unfold hw at z; rw [z] at hlt; exact absurd hlt (by decide)
          · unfold hw at z; rw [z] at hlt; exact absurd hlt (by decide)
        · left
          unfold hw
          rw [(h.2.1 e he).2 (by omega)]
          rfl
    cases hb : bfr s (nI l) with
    | some d =>
      left
      obtain ⟨g1, g2, g3⟩ := fst1_s hb
      have g1 : d < cN s := g1
      obtain ⟨k, hk⟩ := Option.isSome_iff_exists.mp g2
      obtain ⟨x, y1, y2, y3⟩ := ixf_some hk
      have hm := List.mem_of_getElem? y1
      refine ⟨rfl, d, k, rfl, g1, fun z => ?_, hk, fun e he => ?_, fun e he hne x' hx' z => ?_⟩
      · rw [z] at hm; exact hown x hm y2
      · have := h.2.2.2.2.2.2.2.1 d e (by omega) he x hm
        rw [y2] at this
        exact this
      · exact h.2.2.2.2.2.2.2.2.1 e d he (by omega) hne x' hx' x hm (by rw [z, y2])
    | none =>
      right
      refine ⟨rfl, rfl, h01, fun e he x hx z => ?_⟩
      by_cases eC : e < cN s
      · have := fst1_n hb e eC
        have hi : ixf (gBuf s e) 0 (nI l) = none := by simpa using this
        exact ixf_none hi x hx z
      · rw [(h.2.2.1 e he).2 (by omega)] at hx
        cases hx
theorem oth_none {s : Sx} {c d : Nat} {l m : Int32} (h : oth s (nI c) l m = none) (hd : d < cN s) (hne : d ≠ c) (hC : cN s ≤ 4) (hc : c < 4) : howR (gRow s d) l < m := by
  have := fst1_n h d hd
  have hne : ¬ nI d = nI c := fun z => hne ((nI_eq (by omega) (by omega)).mp z)
  simpa [hne] using this
theorem tobe_1 {s : Sx} {c d : Nat} {l : Int32} (hd : d < cN s) (hne : d ≠ c) (hC : cN s ≤ 4) (hc : c < 4) (hw1 : hw s d l = 1) : aToBe s 0 c l = 1 := by
  unfold aToBe
  rw [if_neg (by decide), if_neg]
  intro z
  have := oth_none z hd hne hC hc
  unfold hw at hw1
  rw [hw1] at this
  exact absurd this (by decide)
theorem tobe_123 (s : Sx) (k : Int32) (c : Nat) (l : Int32) : aToBe s k c l = 1 ∨ aToBe s k c l = 2 ∨ aToBe s k c l = 3 := by
  unfold aToBe
  split
  · exact Or.inr (Or.inr rfl)
  · split
    · exact Or.inr (Or.inl rfl)
    · exact Or.inl rfl
theorem noOther_hw {b : Nat} {s : Sx} {c l : Nat} (h : Inv b s) (h0 : hw s c (nI l) = 0) : ∀ d, d < 4 → hw (aNoOther s c (nI l)) d (nI l) = 0 := by
  intro d hd
  show howR (if d < cN s ∧ d ≠ c then del (gRow s d) (nI l) else gRow s d) (nI l) = 0
  by_cases q : d < cN s ∧ d ≠ c
  · rw [if_pos q, del_rmv (pw0 h hd), how_rmv, if_pos rfl]
  · rw [if_neg q]
    by_cases e : d = c
    · rw [e]; exact h0
    · rw [(h.2.1 d hd).2 (by omega)]
      rfl
theorem Inv_opens {b : Nat} {s : Sx} {c l : Nat} {a : E} {k sent : Int32} (h : Inv b s) (hb : b < 2 ^ 30) (hc : c < cN s) (hl : l < 8) (ha : a ∈ gAsk s) (ha5 : a 5 = nI (3 * c)) (ha2 : a 2 = nI l) (hk : k = (if a 0 = 0 then 0 else 1)) (ht : ∀ o ∈ gOpn s, (o 7).toInt < (gSc s 6).toInt) (hno : ∀ o ∈ gOpn s, o 2 ≠ nI l) (h0 : hw s c (nI l) = 0) (hown : ∀ e ∈ gBuf s c, e 0 ≠ nI l) : Inv b (aOpens (wAsk s (rmv 5 (nI (3 * c)) (gAsk s))) k c (nI l) sent) := by
  have hC4 := h.1.1.2.2
  have hc4 : c < 4 := by omega
  have hk01 : k = 0 ∨ k = 1 := by
    rw [hk]
    split
    · exact Or.inl rfl
    · exact Or.inr rfl
  have hli : sw_ix (nI l) = l := pn_ix (by omega)
  have fin : ∀ (S : Sx) (v due : Int32), Inv b S → gSc S = gSc s → gOpn S = gOpn s → a ∈ gAsk S → (∀ d, d < 4 → (hw S d (nI l) = 0 ∨ (hw S d (nI l) = 1 ∧ aToBe S k c (nI l) = 1)) ∧ ∀ e ∈ gBuf S d, e 0 ≠ nI l) → hw S c (nI l) = 0 → Inv b (wOpn (wAsk S (rmv 5 (nI (3 * c)) (gAsk S))) (gOpn S ++ [mk [k, nI c, nI l, due, aToBe S k c (nI l), v, sent, gSc S 6]])) := by
    intro S v due hS e1 e2 hm hr hrc
    refine Inv_swap hS hb (by show c < sw_ix (gSc S 0); rw [e1]; exact hc) hm ha5 rfl ha2.symm hk (tobe_123 _ _ _ _) rfl ?_ ?_ (fun d hd => ?_) ?_
    · rw [e1, e2]; exact ht
    · rw [e2, ha2]; exact hno
    · rw [ha2]; exact hr d hd
    · rw [ha2]; exact hrc
  rcases holders h hc hl hown (Or.inl h0) with ⟨d, z1, z2, z3, z4, z5, z6, z7⟩ | ⟨z1, d, j, z2, z3, z4, z5, z6, z7⟩ | ⟨z1, z2, z3, z4⟩
  · -- another core has it alone
    have z1' : oth (wAsk s (rmv 5 (nI (3 * c)) (gAsk s))) (nI c) (nI l) 2 = some d := z1
    unfold aOpens aPutO aUn aChg aVal aDue
    rw [z1']
    dsimp only
    rcases hk01 with k0 | k1
    · rw [if_pos k0]
      have hI : Inv b (wRow (wMem s l (valR (gRow s d) (nI l))) d (toSh (gRow s d) (nI l))) := Inv_k (Inv_toSh h (by omega) z4 z5) (fun j _ _ _ _ _ => rfl) rfl rfl (fun _ => ⟨rfl, rfl⟩) rfl rfl rfl
      have hwd : hw (wRow (wMem s l (valR (gRow s d) (nI l))) d (toSh (gRow s d) (nI l))) d (nI l) = 1 := by
        show howR (va_up (gRow s) d (toSh (gRow s d) (nI l)) d) (nI l) = 1
        rw [up_s, how_toSh (pw0 h (by omega)) z4, if_pos rfl]
      have hwn : ∀ e, e < 4 → e ≠ d → hw (wRow (wMem s l (valR (gRow s d) (nI l))) d (toSh (gRow s d) (nI l))) e (nI l) = 0 := fun e he hne => by
        show howR (va_up (gRow s) d (toSh (gRow s d) (nI l)) e) (nI l) = 0
        rw [up_n _ _ hne]
        exact z6 e he hne
      have := fin _ (valR (gRow s d) (nI l)) (gSc s 4 + gSc s 2) hI rfl rfl ha (fun e he => ⟨?_, z7 e he⟩) (hwn c hc4 (Ne.symm z3))
      · rw [hli, if_neg (by simp)]
        exact this
      · by_cases ed : e = d
        · subst ed
          refine Or.inr ⟨hwd, ?_⟩
          rw [k0]
          exact tobe_1 z2 z3 hC4 hc4 hwd
        · exact Or.inl (hwn e he ed)
    · rw [if_neg (by rw [k1]; decide), if_neg (by simp)]
      exact fin _ (valR (gRow s d) (nI l)) (gSc s 4 + gSc s 2) (Inv_noOther (c := c) (l := nI l) h) rfl rfl ha (fun e he => ⟨Or.inl (noOther_hw h h0 e he), z7 e he⟩) (noOther_hw h h0 c hc4)
  · -- a buffer has it
    have z1' : oth (wAsk s (rmv 5 (nI (3 * c)) (gAsk s))) (nI c) (nI l) 2 = none := z1
    have z2' : bfr (wAsk s (rmv 5 (nI (3 * c)) (gAsk s))) (nI l) = some d := z2
    have z5' : ixf (gBuf (wAsk s (rmv 5 (nI (3 * c)) (gAsk s))) d) 0 (nI l) = some j := z5
    unfold aOpens aPutO aUn aChg aVal aDue
    rw [z1', z2']
    dsimp only
    rw [z5']
    dsimp only
    obtain ⟨i, hi, y2, ym, y0, ye, yf, yo⟩ := aOut_eq h (by omega) z5
    have hI := Inv_out h (by omega) ym y0 hi y2
    rw [← yo] at hI
    have hma : a ∈ gAsk (aOut s d j (nI l)) := by
      rw [yo]
      refine mem_rmv.mpr ⟨ha, ?_⟩
      rw [ha5]
      intro z
      rw [nI_eq (by omega) (by omega)] at z
      omega
    have hbf : ∀ e, e < 4 → ∀ x ∈ gBuf (aOut s d j (nI l)) e, x 0 ≠ nI l := fun e he x hx => by
      have hx : x ∈ va_up (gBuf s) d ((gBuf s d).eraseIdx j) e := hx
      by_cases ed : e = d
      · subst ed
        rw [up_s, ye] at hx
        exact (mem_rmv.mp hx).2
      · rw [up_n _ _ ed] at hx
        exact z7 e he ed x hx
    have hcomm : (rmv 5 (nI (3 * c)) (gAsk s)).filter (nbP (nI d) (nI l)) = rmv 5 (nI (3 * c)) ((gAsk s).filter (nbP (nI d) (nI l))) := by
      unfold rmv
      rw [List.filter_filter, List.filter_filter]
      refine List.filter_congr (fun x _ => Bool.and_comm _ _)
    rw [if_neg (show ¬ ((none : Option Nat) = none ∧ some d = none) from fun z => by cases z.2)]
    rcases hk01 with k0 | k1
    · rw [if_pos k0, hli]
      have hI2 : Inv b (wMem (aOut s d j (nI l)) l (valR (gBuf s d) (nI l))) := Inv_k hI (fun j _ _ _ _ _ => rfl) rfl rfl (fun _ => ⟨rfl, rfl⟩) rfl rfl rfl
      have := fin _ (valR (gBuf s d) (nI l)) (gSc s 4 + gSc s 2) hI2 rfl rfl hma (fun e he => ⟨Or.inl (z6 e he), hbf e he⟩) h0
      refine Inv_k this (fun j _ _ _ _ _ => rfl) rfl rfl (fun _ => ⟨rfl, rfl⟩) ?_ rfl rfl
      exact hcomm
    · rw [if_neg (by rw [k1]; decide)]
      have := fin _ (valR (gBuf s d) (nI l)) (gSc s 4 + gSc s 2) (Inv_noOther (c := c) (l := nI l) hI) rfl rfl hma (fun e he => ⟨Or.inl (noOther_hw hI h0 e he), hbf e he⟩) (noOther_hw hI h0 c hc4)
      refine Inv_k this (fun j _ _ _ _ _ => rfl) rfl rfl (fun _ => ⟨rfl, rfl⟩) ?_ rfl rfl
      exact hcomm
  · -- memory has it
    have z1' : oth (wAsk s (rmv 5 (nI (3 * c)) (gAsk s))) (nI c) (nI l) 2 = none := z1
    have z2' : bfr (wAsk s (rmv 5 (nI (3 * c)) (gAsk s))) (nI l) = none := z2
    unfold aOpens aPutO aUn aChg aVal aDue
    rw [z1', z2']
    dsimp only
    rw [if_pos (show (none : Option Nat) = none ∧ (none : Option Nat) = none from ⟨rfl, rfl⟩)]
    rcases hk01 with k0 | k1
    · rw [if_pos k0, hli]
      have hI2 : Inv b (wMem s l (gMem s l)) := Inv_k h (fun j _ _ _ _ _ => rfl) rfl rfl (fun _ => ⟨rfl, rfl⟩) rfl rfl rfl
      refine fin _ (gMem s l) (gSc s 4 + gSc s 3) hI2 rfl rfl ha (fun e he => ⟨?_, z4 e he⟩) h0
      by_cases q1 : hw s e (nI l) = 1
      · refine Or.inr ⟨q1, ?_⟩
        rw [k0]
        have ec : e ≠ c := fun z => by rw [z, h0] at q1; exact absurd q1 (by decide)
        have eC : e < cN s := by
          refine Nat.lt_of_not_le (fun z => ?_)
          unfold hw at q1
          rw [(h.2.1 e he).2 z] at q1
          exact absurd (show (0 : Int32) = 1 from q1) (by decide)
        exact tobe_1 (s := wMem s l (gMem s l)) eC ec hC4 hc4 q1
      · rcases z3 e he with z | z
        · exact Or.inl z
        · exact absurd z q1
    · rw [if_neg (by rw [k1]; decide)]
      exact fin _ (gMem s (sw_ix (nI l))) (gSc s 4 + gSc s 3) (Inv_noOther (c := c) (l := nI l) h) rfl rfl ha (fun e he => ⟨Or.inl (noOther_hw h h0 e he), z4 e he⟩) (noOther_hw h h0 c hc4)
