/-! PURE: commands are done, in both -/
theorem ans_0 (s : Sx) : gSc (aAnsw s).2 0 = gSc s 0 := by
  unfold aAnsw
  split
  · next i _ =>
    show gSc (aAns s i) 0 = gSc s 0
    unfold aAns
    rw [sc_n (by decide), sc_n (by decide)]
    show gSc (aFill (wOpn s ((gOpn s).eraseIdx i)) (sw_ix (getE (gOpn s) i 1)) (getE (gOpn s) i 2) (if getE (gOpn s) i 0 = 1 then gOp s (sw_ix (getE (gOpn s) i 1)) 2 else getE (gOpn s) i 5) (getE (gOpn s) i 4)) 0 = gSc s 0
    rw [aFill_sc (by decide) (by decide)]
    rfl
  · rfl
theorem add_0 (s : Sx) : gSc (aAdd s).2 0 = gSc s 0 := by
  unfold aAdd
  split
  · next i _ =>
    unfold aAddr
    by_cases q : isO (gOpn s) (getE (gAsk s) i 2) = true
    · rw [if_pos q]
      show gSc (aAway s i) 0 = gSc s 0
      unfold aAway
      rw [sc_n (by decide)]
      show gSc (wSc s 5 (gSc s 5 + 1)) 0 = gSc s 0
      rw [sc_n (by decide)]
    · rw [if_neg q]
      unfold aAddrE
      by_cases q3 : getE (gAsk s) i 0 = 3
      · rw [if_pos q3]
        dsimp only
        unfold aBk
        split
        · unfold aOrd
          rw [sc_n (by decide)]
          rfl
        · rfl
      · rw [if_neg q3]
        split
        · next q2 =>
          generalize sw_ix (getE (gAsk s) i 1) = c
          dsimp only
          unfold aRise aOrd aEnd
          rw [sc_n (by decide)]
          show gSc (wSc (wOp (aUse (aNoOther (wAsk s ((gAsk s).eraseIdx i)) c (getE (gAsk s) i 2)) c (getE (gAsk s) i 2) (gOp (wAsk s ((gAsk s).eraseIdx i)) c 2) 3) c (zOp (gOp (aUse (aNoOther (wAsk s ((gAsk s).eraseIdx i)) c (getE (gAsk s) i 2)) c (getE (gAsk s) i 2) (gOp (wAsk s ((gAsk s).eraseIdx i)) c 2) 3) c))) 9 (gSc (aUse (aNoOther (wAsk s ((gAsk s).eraseIdx i)) c (getE (gAsk s) i 2)) c (getE (gAsk s) i 2) (gOp (wAsk s ((gAsk s).eraseIdx i)) c 2) 3) 9 + 1)) 0 = gSc s 0
          rw [sc_n (by decide)]
          show gSc (aUse (aNoOther (wAsk s ((gAsk s).eraseIdx i)) c (getE (gAsk s) i 2)) c (getE (gAsk s) i 2) (gOp (wAsk s ((gAsk s).eraseIdx i)) c 2) 3) 0 = gSc s 0
          rw [use_sc (by omega)]
          rfl
        · generalize sw_ix (getE (gAsk s) i 1) = c
          dsimp only
          unfold aOpn
          rw [opens_sc]
          unfold aOrd
          rw [sc_n (by decide)]
          show gSc (wSc (wAsk s ((gAsk s).eraseIdx i)) 8 (gSc (wAsk s ((gAsk s).eraseIdx i)) 8 + (if getE (gAsk s) i 0 = 2 then 1 else 0))) 0 = _
          rw [sc_n (by decide)]
          rfl
  · rfl
theorem turn_0 (s : Sx) : gSc (aTurn s).2 0 = gSc s 0 := by
  unfold aTurn
  dsimp only
  rw [add_0, ans_0, sc_n (by decide)]
theorem turns_0 : ∀ (n : Nat) (r : Int32) (s : Sx), gSc (aTurns n r s).2 0 = gSc s 0
  | 0, _, _ => rfl
  | n + 1, r, s => by
    show gSc (aTurns n (r + (aTurn s).1) (aTurn s).2).2 0 = gSc s 0
    rw [turns_0 n, turn_0]
theorem read1_0 (s : Sx) (c : Nat) (v : Int32) : gSc (aRead1 s c v).2 0 = gSc s 0 := by
  unfold aRead1
  split
  · dsimp only
    rw [sc_n (by decide), use_sc (by omega)]
    rfl
  · exact Eq.trans (sc_n (s := wOp s c (mk [1, v, 0, gSc s 4, gOp s c 4])) (k := 5) (j := 0) (v := gSc s 5 + 1) (by decide)) rfl
theorem store1_0 (s : Sx) (c : Nat) (v w : Int32) : gSc (aStore1 s c v w).2 0 = gSc s 0 := by
  unfold aStore1
  split
  · exact Eq.trans (sc_n (s := wOp s c (mk [2, v, w, gSc s 4, gOp s c 4])) (k := 5) (j := 0) (v := gSc s 5 + 1) (by decide)) rfl
  · dsimp only
    rw [sc_n (by decide), use_sc (by omega)]
theorem tRead_0 (s : Sx) (a b : Int32) : gSc (tRead s a b).2 0 = gSc s 0 := by
  unfold tRead
  split
  · split
    · rw [read1_0, take_sc (by decide) (by decide)]
    · rfl
  · rfl
theorem tStore_0 (s : Sx) (a b w : Int32) : gSc (tStore s a b w).2 0 = gSc s 0 := by
  unfold tStore
  split
  · split
    · rw [store1_0, take_sc (by decide) (by decide)]
    · rfl
  · rfl
theorem tDrop_0 (s : Sx) (a b : Int32) : gSc (tDrop s a b).2 0 = gSc s 0 := by
  unfold tDrop
  split
  · unfold aDrop1
    split
    · rfl
    · split
      · rfl
      · unfold aGive
        dsimp only
        split
        · rw [give_sc (by decide)]
        · rfl
  · rfl
theorem push_row {s : Sx} {c : Nat} {v w t : Int32} : gRow (aPush s c v w t) c = gRow s c ++ [mk [v, w, t, gSc s (20 + c) + 1]] := up_s _ _ _
/-- a cache's lines are so or so, also after one came from the buffer -/
theorem hh_all {b : Nat} {s : Sx} (hI : Inv b s) : ∀ (c : Nat) (v : Int32), c < 4 → ∀ e ∈ gRow (aTake s c v) c, e 2 = 1 ∨ e 2 = 2 ∨ e 2 = 3 := by
  intro c v hc e he
  have hh := Inv_Hows hI c hc
  unfold aTake at he
  cases hx : ixf (gBuf s c) 0 v with
  | none =>
    rw [hx] at he
    exact hh e he
  | some k =>
    rw [hx] at he
    dsimp only at he
    unfold aFill at he
    rw [push_row] at he
    rcases mem_push.mp he with w | w
    · by_cases z : nI (gRow (aOut s c k v) c).length = gSc (aOut s c k v) 1
      · rw [if_pos z, give_row] at w
        exact hh e (List.mem_of_mem_eraseIdx w)
      · rw [if_neg z] at w
        exact hh e w
    · rw [w]
      exact Or.inr (Or.inr rfl)
/-- what a command makes -/
def Tv (s : Sx) (v a b c : Nat) : Int32 × Sx := if v = 0 then aTurns a 0 s else if v = 1 then tRead s (nI a) (nI b) else if v = 2 then tStore s (nI a) (nI b) (nI c) else tDrop s (nI a) (nI b)
def CmdOk (C : Nat) (v a b c : Nat) : Prop := (v = 0 ∧ 1 ≤ a ∧ a ≤ 99) ∨ ((v = 1 ∨ v = 2 ∨ v = 3) ∧ a < C ∧ b < 8 ∧ c ≤ 9999)
theorem okC_n {b : Nat} {s : Sx} {a : Nat} (hI : Inv b s) (ha : a < cN s) : okC s (nI a) := by
  obtain ⟨h1, h2, h3⟩ := hI.1.1
  unfold okC
  rw [h1, nI_toInt (by omega), nI_toInt (by omega)]
  omega
theorem okL_n {l : Nat} (h : l < 8) : okL (nI l) := by
  unfold okL
  rw [nI_toInt (by omega)]
  omega
theorem Tv_k {b : Nat} {s : Sx} {v a b' c : Nat} (hI : Inv b s) (hb : b + 400 < 2 ^ 30) (ha : v = 0 → a ≤ 99) : Inv (b + 400) (Tv s v a b' c).2 ∧ gSc (Tv s v a b' c).2 0 = gSc s 0 := by
  unfold Tv
  by_cases z0 : v = 0
  · rw [if_pos z0]
    have := ha z0
    exact ⟨Inv_mono (Inv_turns a 0 b s hI (by omega)) (by omega), turns_0 a 0 s⟩
  · rw [if_neg z0]
    by_cases z1 : v = 1
    · rw [if_pos z1]
      exact ⟨Inv_mono (Inv_tRead _ _ hI (by omega)) (by omega), tRead_0 _ _ _⟩
    · rw [if_neg z1]
      by_cases z2 : v = 2
      · rw [if_pos z2]
        exact ⟨Inv_mono (Inv_tStore _ _ _ hI (by omega)) (by omega), tStore_0 _ _ _ _⟩
      · rw [if_neg z2]
        exact ⟨Inv_mono (Inv_tDrop _ _ hI (by omega)) (by omega), tDrop_0 _ _ _⟩
theorem x_perf {b : Nat} {s : Sx} {x : sw_St} {v a l c : Nat} {j1 j2 : Int32} (h : RX s x) (hI : Inv b s) (hb : b + 400 < 2 ^ 30) (hc : CmdOk (cN s) v a l c) (h1 : v ≠ 0 → j1 = nI l) (h2 : v = 2 → j2 = nI c) : wp (f_X0_perform x (nI v) (nI a) j1 j2) (Rx (Tv s v a l c)) := by
  have hC4 := hI.1.1.2.2
  unfold f_X0_perform Tv
  rcases hc with ⟨rfl, a1, a2⟩ | ⟨hv, a1, a2, a3⟩
  · rw [if_pos (show nI 0 = 0 from rfl), if_pos rfl]
    exact bind_id (x_run (by omega) h hI hb)
  · rcases hv with rfl | rfl | rfl
    · rw [if_neg (show ¬ nI 1 = 0 by decide), if_pos (show nI 1 = 1 from rfl), if_neg (show ¬ (1 : Nat) = 0 by decide), if_pos rfl, h1 (by decide)]
      unfold tRead
      rw [if_pos ⟨okC_n hI a1, okL_n a2⟩, pn_ix (by omega)]
      exact bind_id (x_startRead h hI (by omega) a1 a2)
    · rw [if_neg (show ¬ nI 2 = 0 by decide), if_neg (show ¬ nI 2 = 1 by decide), if_pos (show nI 2 = 2 from rfl), if_neg (show ¬ (2 : Nat) = 0 by decide), if_neg (show ¬ (2 : Nat) = 1 by decide), if_pos rfl, h1 (by decide), h2 rfl]
      unfold tStore
      rw [if_pos ⟨okC_n hI a1, okL_n a2, by rw [nI_toInt (by omega)]; omega, by rw [nI_toInt (by omega)]; omega⟩, pn_ix (by omega)]
      exact bind_id (x_startStore h hI (by omega) a1 a2)
    · rw [if_neg (show ¬ nI 3 = 0 by decide), if_neg (show ¬ nI 3 = 1 by decide), if_neg (show ¬ nI 3 = 2 by decide), if_pos (show nI 3 = 3 from rfl), if_neg (show ¬ (3 : Nat) = 0 by decide), if_neg (show ¬ (3 : Nat) = 1 by decide), if_neg (show ¬ (3 : Nat) = 2 by decide), h1 (by decide)]
      unfold tDrop
      rw [if_pos ⟨okC_n hI a1, okL_n a2⟩, pn_ix (by omega)]
      exact bind_id (x_dropLine h hI a1 a2)
theorem bind_idM {o : Option (Int32 × sw_St)} {Q : Int32 × sw_St → Prop} (h : wp o Q) : wp (o.bind fun r => some (r.1, r.2)) Q := wp_bindM h (fun _ hr => wp_some hr)
theorem kM_r (y : sw_St) : kM y y := ⟨rfl, rfl, rfl, rfl, rfl, rfl⟩
theorem kX_r (y : sw_St) : kX y y := fun _ _ => rfl
theorem m_does {b : Nat} {s : Sx} {y : sw_St} {v a l c : Nat} (h : RM s y) (hI : Inv b s) (hb : b + 400 < 2 ^ 30) (hc : CmdOk (cN s) v a l c) (h33 : y 1 33 = nI (mv v)) (h0 : y 19 0 = nI a) (h1 : v ≠ 0 → y 19 1 = nI l) (h2 : v = 2 → y 19 2 = nI c) : wp (f_X7_does y) (fun r => Rm (Tv s v a l c) r ∧ kM y r.2) := by
  unfold f_X7_does Tv
  rw [i0, i1, i2, h33, h0]
  rcases hc with ⟨rfl, a1, a2⟩ | ⟨hv, a1, a2, a3⟩
  · rw [if_neg (show ¬ nI (mv 0) = 0 by decide), if_neg (show ¬ nI (mv 0) = 1 by decide), if_neg (show ¬ nI (mv 0) = 2 by decide), if_pos rfl]
    refine bind_idM (wp_kg ?_ (k_X7_turn (kM_r y)))
    have := m_turn (nI a) h hI hb
    unfold tTurn at this
    rw [nI_toInt (by omega), if_pos (by omega), pn_ix (by omega)] at this
    exact this
  · rcases hv with rfl | rfl | rfl
    · rw [if_pos (show nI (mv 1) = 0 from rfl), if_neg (show ¬ (1 : Nat) = 0 by decide), if_pos rfl, h1 (by decide)]
      exact bind_idM (wp_kg (m_read _ _ h (Inv_Nums hI) (Inv_Wf hI)) (k_X7_read (kM_r y)))
    · rw [if_neg (show ¬ nI (mv 2) = 0 by decide), if_pos (show nI (mv 2) = 1 from rfl), if_neg (show ¬ (2 : Nat) = 0 by decide), if_neg (show ¬ (2 : Nat) = 1 by decide), if_pos rfl, h1 (by decide), h2 rfl]
      exact bind_idM (wp_kg (m_store _ _ _ h (Inv_Nums hI) (Inv_Wf hI) (hh_all hI)) (k_X7_store (kM_r y)))
    · rw [if_neg (show ¬ nI (mv 3) = 0 by decide), if_neg (show ¬ nI (mv 3) = 1 by decide), if_pos (show nI (mv 3) = 2 from rfl), if_neg (show ¬ (3 : Nat) = 0 by decide), if_neg (show ¬ (3 : Nat) = 1 by decide), if_neg (show ¬ (3 : Nat) = 2 by decide), h1 (by decide)]
      exact bind_idM (wp_kg (m_drop _ _ h (Inv_Nums hI) (Inv_Wf hI) (Inv_Hows hI)) (k_X7_drop (kM_r y)))
/-- a command that was understood -/
theorem prs_ok {t : Nat → Nat} {C n p : Nat} {w : Nat × Nat × Nat × Nat × Nat} (hz : ∀ i, n ≤ i → t i = 0) (h : prs t C p = some w) : p < w.2.2.2.2 ∧ w.2.2.2.2 ≤ n ∧ CmdOk C w.1 w.2.1 w.2.2.1 w.2.2.2.1 := by
  have key : ∀ e, t e = 59 → e + 1 ≤ n := fun e he => by
    apply Classical.byContradiction
    intro q
    rw [hz e (by omega)] at he
    omega
  unfold prs prsV at h
  have hvb := vb_4 t p (runL isSm t 300 p)
  generalize vb t p (runL isSm t 300 p) = v at *
  generalize runL isSm t 300 p = m at *
  by_cases z0 : v = 0
  · rw [if_pos z0] at h
    cases hn : num t (p + m) with
    | none => rw [hn] at h; cases h
    | some a =>
      rw [hn] at h
      have h' : fin1 t C v a = some w := h
      obtain ⟨b1, b2, b3, b4⟩ := num_bd (v := a.1) (e := a.2) hz hn
      unfold fin1 at h'
      by_cases q : t a.2 = 59 ∧ 1 ≤ a.1 ∧ a.1 ≤ 99
      · rw [if_pos q] at h'
        cases h'
        have := key _ q.1
        exact ⟨by dsimp only; omega, this, Or.inl ⟨z0, q.2.1, q.2.2⟩⟩
      · rw [if_neg q] at h'; cases h'
  · rw [if_neg z0] at h
    by_cases z2 : v = 2
    · rw [if_pos z2] at h
      cases hn : num t (p + m) with
      | none => rw [hn] at h; cases h
      | some a =>
        rw [hn] at h
        have h' : ((num t a.2).bind fun b => (num t b.2).bind (fin3 t C v a b)) = some w := h
        obtain ⟨b1, b2, b3, b4⟩ := num_bd (v := a.1) (e := a.2) hz hn
        cases hn2 : num t a.2 with
        | none => rw [hn2] at h'; cases h'
        | some a2 =>
          rw [hn2] at h'
          have h2 : (num t a2.2).bind (fin3 t C v a a2) = some w := h'
          obtain ⟨c1, c2, c3, c4⟩ := num_bd (v := a2.1) (e := a2.2) hz hn2
          cases hn3 : num t a2.2 with
          | none => rw [hn3] at h2; cases h2
          | some a3 =>
            rw [hn3] at h2
            have h3 : fin3 t C v a a2 a3 = some w := h2
            obtain ⟨d1, d2, d3, d4⟩ := num_bd (v := a3.1) (e := a3.2) hz hn3
            unfold fin3 at h3
            by_cases q : t a3.2 = 59 ∧ a.1 < C ∧ a2.1 < 8
            · rw [if_pos q] at h3
              cases h3
              have := key _ q.1
              exact ⟨by dsimp only; omega, this, Or.inr ⟨Or.inr (Or.inl z2), q.2.1, q.2.2, d4⟩⟩
            · rw [if_neg q] at h3; cases h3
    · rw [if_neg z2] at h
      by_cases z4 : v = 4
      · rw [if_pos z4] at h; cases h
      · rw [if_neg z4] at h
        cases hn : num t (p + m) with
        | none => rw [hn] at h; cases h
        | some a =>
          rw [hn] at h
          have h' : (num t a.2).bind (fin2 t C v a) = some w := h
          obtain ⟨b1, b2, b3, b4⟩ := num_bd (v := a.1) (e := a.2) hz hn
          cases hn2 : num t a.2 with
          | none => rw [hn2] at h'; cases h'
          | some a2 =>
            rw [hn2] at h'
            have h2 : fin2 t C v a a2 = some w := h'
            obtain ⟨c1, c2, c3, c4⟩ := num_bd (v := a2.1) (e := a2.2) hz hn2
            unfold fin2 at h2
            by_cases q : t a2.2 = 59 ∧ a.1 < C ∧ a2.1 < 8
            · rw [if_pos q] at h2
              cases h2
              have := key _ q.1
              exact ⟨by dsimp only; omega, this, Or.inr ⟨by dsimp only; omega, q.2.1, q.2.2, Nat.zero_le _⟩⟩
            · rw [if_neg q] at h2; cases h2
