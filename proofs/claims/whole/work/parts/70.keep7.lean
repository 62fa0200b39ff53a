/-! PURE: what always holds stays: a turn -/
theorem isO_t {o : List E} {v : Int32} : isO o v = true ↔ ∃ a ∈ o, a 2 = v := by
  unfold isO
  rw [List.any_eq_true]
  constructor
  · intro ⟨a, h1, h2⟩
    exact ⟨a, h1, by simpa using h2⟩
  · intro ⟨a, h1, h2⟩
    exact ⟨a, h1, by simpa using h2⟩
theorem er5 {b : Nat} {s : Sx} {i : Nat} (h : Inv b s) (hi : i < (gAsk s).length) : (gAsk s).eraseIdx i = rmv 5 (getE (gAsk s) i 5) (gAsk s) := er_rmv (f := 5) _ i h.2.2.2.1.2.2 hi
theorem Inv_addr {b : Nat} {s : Sx} {i : Nat} (h : Inv b s) (hb : b + 2 < 2 ^ 30) (hi : i < (gAsk s).length) : Inv (b + 2) (aAddr s i).2 := by
  have hC4 := h.1.1.2.2
  have hm := List.mem_of_getElem? (getE_t hi)
  have her := er5 h hi
  obtain ⟨c, l, p, hc, h1, hl, h2, h3, hp, hk⟩ := h.2.2.2.1.1 _ hm
  have hc4 : c < 4 := by omega
  unfold aAddr
  by_cases ho : isO (gOpn s) (getE (gAsk s) i 2) = true
  · rw [if_pos ho]
    obtain ⟨o, hoo, ho2⟩ := isO_t.mp ho
    rcases hk with ⟨z0, be, hbe, j, hj, y2, y3, y4, y5⟩ | ⟨z0, z1, z2, z3⟩
    · exact absurd (by rw [y3, ho2]) (((h.2.2.2.2.2.2.2.2.2.1 o hoo).1 c hc4).2 be hbe)
    · unfold aAway
      rw [her, z1]
      refine Inv_mono (b := b + 1) ?_ (by omega)
      refine Inv_k (Inv_away (x := mk [getE (gAsk s) i 0, getE (gAsk s) i 1, getE (gAsk s) i 2, gSc s 5, getE (gAsk s) i 4 + 1, nI (3 * c)]) h (by omega) hc4 hm z1 rfl rfl rfl rfl z1.symm) (fun j _ h7 _ _ _ => sc_n h7) rfl rfl (fun _ => ⟨rfl, rfl⟩) rfl rfl rfl
  · rw [if_neg ho]
    have hno : ∀ o ∈ gOpn s, o 2 ≠ nI l := fun o hoo z => ho (isO_t.mpr ⟨o, hoo, by rw [z, h2]⟩)
    unfold aAddrE
    rw [h1, pn_ix (by omega), h2]
    by_cases q3 : getE (gAsk s) i 0 = 3
    · rw [if_pos q3]
      rcases hk with ⟨z0, be, hbe, j, hj, y2, y3, y4, y5⟩ | ⟨z0, _⟩
      · rw [h2] at y3
        unfold aBk
        cases hx : ixf (gBuf s c) 0 (nI l) with
        | none => exact absurd y3 (ixf_none hx be hbe)
        | some k =>
          have hx' : ixf (gBuf (wAsk s ((gAsk s).eraseIdx i)) c) 0 (nI l) = some k := hx
          rw [hx']
          dsimp only
          obtain ⟨i', hi', w2, wm, w0, we, wf, wo⟩ := aOut_eq h hc4 hx
          have hI := Inv_out h hc4 hbe y3 hj y2
          rw [← we, ← y5, ← her] at hI
          exact Inv_mono (Inv_tell (Inv_k (s' := wMem (wBuf (wAsk s ((gAsk s).eraseIdx i)) c ((gBuf s c).eraseIdx k)) (sw_ix (nI l)) (getE (gBuf s c) k 1)) hI (fun _ _ _ _ _ _ => rfl) rfl rfl (fun _ => ⟨rfl, rfl⟩) rfl rfl rfl) (by omega)).1 (by omega)
      · rcases z0 with z | z | z <;> rw [z] at q3 <;> exact absurd q3 (by decide)
    · rw [if_neg q3]
      obtain ⟨z0, z1, z2, z3⟩ : (getE (gAsk s) i 0 = 0 ∨ getE (gAsk s) i 0 = 1 ∨ getE (gAsk s) i 0 = 2) ∧ getE (gAsk s) i 5 = nI (3 * c) ∧ gOp s c 0 = (if getE (gAsk s) i 0 = 0 then 1 else 2) ∧ gOp s c 1 = getE (gAsk s) i 2 := by
        rcases hk with ⟨z, _⟩ | z
        · exact absurd z q3
        · exact z
      obtain ⟨x1, x2⟩ := h.2.2.2.2.2.2.2.2.2.2 _ hm q3
      rw [h1, pn_ix (by omega), h2] at x1 x2
      rw [z1] at her
      rw [her]
      by_cases q2 : getE (gAsk s) i 0 = 2 ∧ howR (gRow s c) (nI l) = 1
      · rw [if_pos (show getE (gAsk s) i 0 = 2 ∧ howR (gRow (wAsk s (rmv 5 (nI (3 * c)) (gAsk s))) c) (nI l) = 1 from q2)]
        have hI0 := Inv_idle (c := c) (o := zOp (gOp s c)) h hc4 rfl
        have hopn : ∀ a ∈ gOpn s, a 1 ≠ nI c := fun a ha z => by
          obtain ⟨c', l', t', g1, g2, g3, g4, g5, g6, g7, g8, g9, g10, g11⟩ := h.2.2.2.2.1.1 a ha
          rw [z, nI_eq (by omega) (by omega)] at g2
          subst g2
          exact g11 _ hm z1
        rw [rmv_none hopn] at hI0
        have hI1 := Inv_noOther (c := c) (l := nI l) hI0
        have hop0 : gOp (aNoOther (wOp (wOpn (wAsk s (rmv 5 (nI (3 * c)) (gAsk s))) (gOpn s)) c (zOp (gOp s c))) c (nI l)) c 0 = 0 := by
          show va_up (gOp s) c (zOp (gOp s c)) c 0 = 0
          rw [up_s]; rfl
        obtain ⟨i1, i2⟩ := idle_no hI1 hc4 hop0
        have hwc : hw (aNoOther (wOp (wOpn (wAsk s (rmv 5 (nI (3 * c)) (gAsk s))) (gOpn s)) c (zOp (gOp s c))) c (nI l)) c (nI l) = 1 := by
          show howR (if c < cN s ∧ c ≠ c then del (gRow s c) (nI l) else gRow s c) (nI l) = 1
          rw [if_neg (by omega)]
          exact q2.2
        have hI2 := Inv_use (w := gOp s c 2) (t := 3) hI1 (by omega) hc hl (Or.inr (Or.inr rfl)) (by rw [hwc]; decide) (fun d hd hne => ?_) (fun a ha z => absurd z (hno a ha)) (fun a ha z z1 => absurd z1 (i1 a ha z))
        · have hI3 : Inv (b + 1) (aEnd (aUse (aNoOther (wAsk s (rmv 5 (nI (3 * c)) (gAsk s))) c (nI l)) c (nI l) (gOp s c 2) 3) c) := Inv_k hI2 (fun j _ _ _ h9 _ => sc_n h9) rfl rfl (fun _ => ⟨rfl, rfl⟩) rfl rfl rfl
          exact (Inv_tell hI3 (by omega)).1
        · left
          show howR (if d < cN s ∧ d ≠ c then del (gRow s d) (nI l) else gRow s d) (nI l) = 0
          by_cases qd : d < cN s
          · rw [if_pos ⟨qd, hne⟩, del_rmv (pw0 h hd), how_rmv, if_pos rfl]
          · rw [if_neg (fun z => qd z.1), (h.2.1 d hd).2 (by omega)]
            rfl
      · rw [if_neg (show ¬ (getE (gAsk s) i 0 = 2 ∧ howR (gRow (wAsk s (rmv 5 (nI (3 * c)) (gAsk s))) c) (nI l) = 1) from q2)]
        have hw0 : hw s c (nI l) = 0 := by
          rcases x2 with z | z
          · exact z
          · exact absurd z q2
        have hI8 : ∀ v, Inv b (wSc s 8 v) := fun v => Inv_k h (fun j _ _ h8 _ _ => sc_n h8) rfl rfl (fun _ => ⟨rfl, rfl⟩) rfl rfl rfl
        obtain ⟨hT, ht⟩ := Inv_tell (c := nI c) (k := (if getE (gAsk s) i 0 = 0 then 82 else if getE (gAsk s) i 0 = 1 then 79 else 87)) (l := nI l) (hI8 (gSc s 8 + (if getE (gAsk s) i 0 = 2 then 1 else 0))) (by omega)
        exact Inv_mono (Inv_opens (sent := getE (gAsk s) i 4) hT (by omega) hc hl hm z1 h2 rfl ht hno hw0 x1) (by omega)
theorem Inv_add {b : Nat} {s : Sx} (h : Inv b s) (hb : b + 2 < 2 ^ 30) : Inv (b + 2) (aAdd s).2 := by
  unfold aAdd
  cases q : fst1 (fun i => decide (rk (kx (gOpn s)) (gAsk s) (getE (gAsk s) i) = 0)) (gAsk s).length with
  | none => exact Inv_mono h (by omega)
  | some i => exact Inv_addr h hb (fst1_s q).1
theorem Inv_now {b : Nat} {s : Sx} {v : Int32} (h : Inv b s) : Inv b (wSc s 4 v) := Inv_k h (fun j h4 _ _ _ _ => sc_n h4) rfl rfl (fun _ => ⟨rfl, rfl⟩) rfl rfl rfl
theorem Inv_turn {b : Nat} {s : Sx} (h : Inv b s) (hb : b + 4 < 2 ^ 30) : Inv (b + 4) (aTurn s).2 := Inv_add (b := b + 2) (Inv_answ (Inv_now h) (by omega)) (by omega)
/-- turns -/
def aTurns : Nat → Int32 → Sx → Int32 × Sx
  | 0, r, s => (r, s)
  | n + 1, r, s => aTurns n (r + (aTurn s).1) (aTurn s).2
theorem Inv_turns : ∀ (n : Nat) (r : Int32) (b : Nat) (s : Sx), Inv b s → b + 4 * n < 2 ^ 30 → Inv (b + 4 * n) (aTurns n r s).2
  | 0, r, b, s, h, _ => h
  | n + 1, r, b, s, h, hb => by
    have := Inv_turns n (r + (aTurn s).1) (b + 4) (aTurn s).2 (Inv_turn h (by omega)) (by omega)
    rw [show b + 4 * (n + 1) = b + 4 + 4 * n by omega]
    exact this
theorem m_turns {N : Nat} (hN : N < 2 ^ 31) : ∀ (n k : Nat) (r : Int32) (b : Nat) (s : Sx) (y : sw_St), k ≤ N → N - k < n → RM s y → Inv b s → b + 4 * (N - k) < 2 ^ 30 → wp (f_X7_turn_18 n y (nI N) r (nI k)) (Rm (aTurns (N - k) r s)) := by
  intro n
  induction n with
  | zero => intro k r b s y _ q; omega
  | succ n ih =>
    intro k r b s y hk hn h hI hb
    rw [f_X7_turn_18]
    dsimp only
    by_cases hke : k = N
    · rw [if_pos (by rw [hke]; exact nI_le (Nat.le_refl _) (by omega)), show N - k = 0 by omega]
      exact wp_some ⟨rfl, h⟩
    · rw [if_neg (nI_ge (by omega) (by omega)), show N - k = (N - (k + 1)) + 1 by omega]
      have hIn := Inv_now (v := gSc s 4 + 1) hI
      refine wp_bindM (m_oneTurn (b := b + 2) h (Inv_mono hIn (by omega)) (Inv_answ hIn (by omega)) (by omega)) (fun r1 hr1 => ?_)
      rw [nI_1, hr1.1]
      exact ih (k + 1) _ (b + 4) _ _ (by omega) (by omega) hr1.2 (Inv_turn hI (by omega)) (by omega)
def tTurn (s : Sx) (a : Int32) : Int32 × Sx := if 1 ≤ a.toInt ∧ a.toInt ≤ 99 then aTurns (sw_ix a) 0 s else (-1, s)
theorem m_turn {b : Nat} {s : Sx} {y : sw_St} (a : Int32) (h : RM s y) (hI : Inv b s) (hb : b + 400 < 2 ^ 30) : wp (f_X7_turn y a) (Rm (tTurn s a)) := by
  unfold f_X7_turn tTurn
  have e99 : (1 : Int64).toInt = 1 ∧ (99 : Int64).toInt = 99 := by decide
  rw [m_in, bd_s, e99.1, e99.2]
  by_cases q : 1 ≤ a.toInt ∧ a.toInt ≤ 99
  · rw [if_pos q, if_neg (by decide), if_pos q]
    obtain ⟨n, hn, rfl⟩ := ok_ex (a := a) (n := 100) ⟨by omega, by have := q.2; omega⟩ (by omega)
    rw [pn_ix (by omega)]
    exact m_turns (by omega) sw_fuel 0 0 b s y (Nat.zero_le _) (by unfold sw_fuel; omega) h hI (by omega)
  · rw [if_neg q, if_pos rfl, if_neg q]
    exact wp_some ⟨rfl, h⟩
theorem Inv_tTurn {b : Nat} {s : Sx} (a : Int32) (hI : Inv b s) (hb : b + 400 < 2 ^ 30) : Inv (b + 400) (tTurn s a).2 := by
  unfold tTurn
  by_cases q : 1 ≤ a.toInt ∧ a.toInt ≤ 99
  · rw [if_pos q]
    obtain ⟨n, hn, rfl⟩ := ok_ex (a := a) (n := 100) ⟨by omega, by have := q.2; omega⟩ (by omega)
    rw [pn_ix (by omega)]
    exact Inv_mono (Inv_turns n 0 b s hI (by omega)) (by omega)
  · rw [if_neg q]
    exact Inv_mono hI (by omega)
