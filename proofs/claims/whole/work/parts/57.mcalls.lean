/-! PURE: the model's calls of a core -/
theorem lp_cntK {β : Type} {F : Nat → Int32 → Int32 → Option β} {Z : Int32 → Option β} {N : Nat} {P : Nat → Bool} (he : ∀ n a, F (n + 1) a (nI N) = Z a) (hs : ∀ n a k, k < N → F (n + 1) (nI a) (nI k) = F n (nI (a + if P k = true then 1 else 0)) (nI (k + 1))) : ∀ n k a, k ≤ N → N - k < n → F n (nI a) (nI k) = Z (nI (a + cn P (N - k) k)) := by
  intro n
  induction n with
  | zero => intro k a _ q; omega
  | succ n ih =>
    intro k a hk hn
    by_cases hkN : k = N
    · subst hkN
      rw [he, Nat.sub_self]
      rfl
    · rw [hs n a k (by omega), ih (k + 1) _ (by omega) (by omega), show N - k = (N - (k + 1)) + 1 by omega]
      show _ = Z (nI (a + ((if P k = true then 1 else 0) + cn P (N - (k + 1)) (k + 1))))
      rw [Nat.add_assoc]
/-- who goes before all others in the end -/
def urg (o : List E) (e : E) : Bool := !(decide (e 4 < 3)) && !(isO o (e 2))
/-- the key of one that waits -/
def kx (o : List E) (e : E) : Int := if urg o e = true then (e 3).toInt - 1073741824 else (e 3).toInt
theorem m_urg {s : Sx} {y : sw_St} {i : Nat} (h : RM s y) (hi : i < (gAsk s).length) : f_X7_isUrgent y (nI i) = some (if urg (gOpn s) (getE (gAsk s) i) = true then 1 else 0) := by
  obtain ⟨a1, a2, a3⟩ := h.2.2.2.2.2.1
  have f4 := a3 i _ (getE_t hi) 4 (by decide)
  have f2 := a3 i _ (getE_t hi) 2 (by decide)
  rw [Nat.zero_add] at f4 f2
  unfold f_X7_isUrgent urg
  rw [nl_5, pn_mul, nl_4, nl_2, nI_add, nI_add, ck_t (pn_in (by omega) (by omega)), ck_t (pn_in (by omega) (by omega)), pn_ix (by omega), pn_ix (by omega), f4, f2, m_isOpen _ h.2.2.2.2.2.2.1, bd_s]
  by_cases q : getE (gAsk s) i 4 < 3
  · rw [if_pos q]
    simp [q]
  · rw [if_neg q]
    by_cases q2 : isO (gOpn s) (getE (gAsk s) i 2) = true
    · rw [if_pos q2]; simp [q2]
    · rw [if_neg q2]; simp [q, q2]
def plOk (L : List E) : Prop := ∀ e ∈ L, 0 ≤ (e 3).toInt ∧ (e 3).toInt < 1073741824
theorem m_ahead {s : Sx} {y : sw_St} {i j : Nat} (h : RM s y) (hp : plOk (gAsk s)) (hi : i < (gAsk s).length) (hj : j < (gAsk s).length) : f_X7_isAhead y (nI i) (nI j) = some (if kx (gOpn s) (getE (gAsk s) i) < kx (gOpn s) (getE (gAsk s) j) then 1 else 0) := by
  obtain ⟨a1, a2, a3⟩ := h.2.2.2.2.2.1
  have f3 := a3 i _ (getE_t hi) 3 (by decide)
  have g3 := a3 j _ (getE_t hj) 3 (by decide)
  have p1 := hp _ (List.mem_of_getElem? (getE_t hi))
  have p2 := hp _ (List.mem_of_getElem? (getE_t hj))
  rw [Nat.zero_add] at f3 g3
  unfold f_X7_isAhead kx
  rw [m_urg h hi, m_urg h hj, bd_s, bd_s, bd_s, ck_t (b01 _ _), nl_5, pn_mul, pn_mul, nl_3, nI_add, nI_add, ck_t (pn_in (by omega) (by omega)), ck_t (pn_in (by omega) (by omega)), pn_ix (by omega), pn_ix (by omega), f3, g3]
  have hle : getE (gAsk s) j 3 ≤ getE (gAsk s) i 3 ↔ (getE (gAsk s) j 3).toInt ≤ (getE (gAsk s) i 3).toInt := Int32.le_iff_toInt_le
  cases hu : urg (gOpn s) (getE (gAsk s) i) <;> cases hv : urg (gOpn s) (getE (gAsk s) j) <;> simp <;> (try simp only [hle]) <;> grind
theorem m_waitingAt {s : Sx} {y : sw_St} (h : RM s y) (hp : plOk (gAsk s)) (v : Int32) : (∃ i e, (gAsk s)[i]? = some e ∧ i < (gAsk s).length ∧ nI (rk (kx (gOpn s)) (gAsk s) e) = v ∧ f_X7_waitingAt y v = some (nI i)) ∨ ((∀ e ∈ gAsk s, nI (rk (kx (gOpn s)) (gAsk s) e) ≠ v) ∧ f_X7_waitingAt y v = some (-4)) := by
  obtain ⟨a1, a2, a3⟩ := h.2.2.2.2.2.1
  have inner : ∀ (k2 : Int32 → Int32 → Option Int32) (i : Nat), i < (gAsk s).length → f_X7_waitingAt_15 y k2 sw_fuel v (nI i) 0 0 = if nI (rk (kx (gOpn s)) (gAsk s) (getE (gAsk s) i)) = v then some (nI i) else k2 v (nI i + 1) := by
    intro k2 i hi
    have := lp_cntK (F := fun n a k => f_X7_waitingAt_15 y k2 n v (nI i) a k) (Z := fun a => if a = v then some (nI i) else k2 v (nI i + 1)) (N := (gAsk s).length) (P := fun k => decide (kx (gOpn s) (getE (gAsk s) k) < kx (gOpn s) (getE (gAsk s) i))) (fun n a => by
        rw [f_X7_waitingAt_15]
        dsimp only
        rw [a1, if_pos (nI_le (Nat.le_refl _) (by omega))]) (fun n a k hk => by
        rw [f_X7_waitingAt_15]
        dsimp only
        rw [a1, if_neg (nI_ge hk (by omega))]
        unfold f_X7_waitingAt_45 f_X7_waitingAt_46
        rw [m_ahead h hp hk hi, bd_s, nI_1, nI_1]
        by_cases hki : k = i
        · subst hki
          rw [if_pos rfl, if_neg (by simp)]
          exact congrArg (fun z => f_X7_waitingAt_15 y k2 n v (nI k) z (nI (k + 1))) (nI_add a 0)
        · rw [if_neg (fun z => hki ((nI_eq (by omega) (by omega)).mp z))]
          by_cases hz : kx (gOpn s) (getE (gAsk s) k) < kx (gOpn s) (getE (gAsk s) i)
          · rw [if_pos hz, if_neg (by decide), if_pos (by simpa using hz)]
          · rw [if_neg hz, if_pos rfl, if_neg (by simpa using hz)]
            exact congrArg (fun z => f_X7_waitingAt_15 y k2 n v (nI i) z (nI (k + 1))) (nI_add a 0)) sw_fuel 0 0 (Nat.zero_le _) (by unfold sw_fuel; omega)
    have hr : cn (fun k => decide (kx (gOpn s) (getE (gAsk s) k) < kx (gOpn s) (getE (gAsk s) i))) (gAsk s).length 0 = rk (kx (gOpn s)) (gAsk s) (getE (gAsk s) i) := cn_list _ (gAsk s) _ 0 (fun j e hj => by rw [Nat.zero_add, getE_s hj])
    rw [Nat.zero_add, Nat.sub_zero, hr] at this
    exact this
  have outer := lp_find (F := fun n k => f_X7_waitingAt_2 y n v k) (N := (gAsk s).length) (P := fun i => nI (rk (kx (gOpn s)) (gAsk s) (getE (gAsk s) i)) = v) (g := fun i => nI i) (d := -4) (fun n => by
      rw [f_X7_waitingAt_2]
      dsimp only
      rw [a1, if_pos (nI_le (Nat.le_refl _) (by omega))]) (fun n k hk hP => by
      rw [f_X7_waitingAt_2]
      dsimp only
      rw [a1, if_neg (nI_ge hk (by omega)), inner _ k hk, if_pos hP]) (fun n k hk hP => by
      rw [f_X7_waitingAt_2]
      dsimp only
      rw [a1, if_neg (nI_ge hk (by omega)), inner _ k hk, if_neg hP, nI_1]) sw_fuel 0 (Nat.zero_le _) (by unfold sw_fuel; omega)
  unfold f_X7_waitingAt
  rcases outer with ⟨j, -, hj, hP, -, e⟩ | ⟨hb, e⟩
  · left
    exact ⟨j, _, getE_t hj, hj, hP, e⟩
  · right
    refine ⟨fun e' he' => ?_, e⟩
    obtain ⟨i, hi⟩ := List.getElem?_of_mem he'
    have := hb i (Nat.zero_le _) (List.getElem?_eq_some_iff.mp hi).1
    rw [getE_s hi] at this
    exact this
-- ===== a core begins, ends =====
def zOp (e : E) : E := fun f => if f = 0 then 0 else e f
def lOp (e : E) (v : Int32) : E := fun f => if f = 4 then v else e f
theorem m_begins {s : Sx} {y : sw_St} {c : Nat} {k l v : Int32} (hc : c < 4) (h : RM s y) : wp (f_X7_begins y (nI c) k l v) (RM (wOp s c (mk [k, l, v, gSc s 4, gOp s c 4]))) := by
  have h4 : y 1 4 = gSc s 4 := h.1.2.2.2.2.1
  have ho := (h.2.2.2.2.1 c hc).2.2.2.2
  unfold f_X7_begins
  simp (disch := omega) only [ck_tt, pn_in, pn_ix, pn_mul, nI_add, nl_0, nl_1, nl_2, nl_3, nl_4, nl_5, nl_6, nl_7, nl_8, sw_pt, bd_s, nI_eq, nI_leI, nI_ltI]
  refine wp_some (RM_op h ?_ (fun a ha => ?_) (fun a b hb => ?_))
  · unfold opM
    simp only [up_at, mk]
    simp [h4, ho]
  · funext b; simp only [up_at]; grind
  · simp only [up_at]; grind
theorem m_ends {s : Sx} {y : sw_St} {c : Nat} (hc : c < 4) (h : RM s y) : wp (f_X7_ends y (nI c)) (RM (wSc (wOp s c (zOp (gOp s c))) 9 (gSc s 9 + 1))) := by
  have h9 : y 1 27 = gSc s 9 := h.1.2.2.2.2.2.2.2.2.2.1
  have ho := h.2.2.2.2.1 c hc
  unfold f_X7_ends
  rw [ck_t (pn_in (by omega) (by omega)), pn_ix (by omega)]
  simp only [sw_pt]
  refine wp_some ?_
  have h1 : RM (wOp s c (zOp (gOp s c))) (sw_up y 11 c 0) := by
    refine RM_op h ?_ (fun a ha => ?_) (fun a b hb => ?_)
    · unfold opM at ho ⊢
      simp only [up_at, zOp]
      simp [ho]
    · funext b; simp only [up_at]; grind
    · simp only [up_at]; grind
  have h2 := RM_sc (v := gSc s 9 + 1) 9 (by decide) h1
  rw [up_ne (by decide), h9]
  exact h2
theorem m_last {s : Sx} {y : sw_St} {c : Nat} {v : Int32} (hc : c < 4) (h : RM s y) : RM (wOp s c (lOp (gOp s c) v)) (sw_up y 10 c v) := by
  have ho := h.2.2.2.2.1 c hc
  refine RM_op h ?_ (fun a ha => ?_) (fun a b hb => ?_)
  · unfold opM at ho ⊢
    simp only [up_at, lOp]
    simp [ho]
  · funext b; simp only [up_at]; grind
  · simp only [up_at]; grind
/-- what the calls need of the middle state -/
def Wf (s : Sx) : Prop := ∃ K, gSc s 1 = nI K ∧ 1 ≤ K ∧ K ≤ 4 ∧ (∀ c, c < 4 → (gRow s c).length ≤ K) ∧ (gAsk s).length ≤ 12 ∧ (∀ c v, c < 4 → ixf (gBuf s c) 0 v ≠ none → ixf (gRow s c) 0 v = none)
theorem m_isHere {s : Sx} {y : sw_St} {c : Nat} {v : Int32} (hc : c < 4) (h : RM s y) (hw : Wf s) : wp (f_X7_isHere y (nI c) v) (fun r => (r.1 = 0 ↔ ixf (gRow (aTake s c v) c) 0 v = none) ∧ RM (aTake s c v) r.2) := by
  obtain ⟨K, hK, hK1, hK4, hl, hn, hx⟩ := hw
  have fin : ∀ (s' : Sx) (y' : sw_St), RM s' y' → wp (f_X7_isHere_43 y' (nI c) v) (fun r => (r.1 = 0 ↔ ixf (gRow s' c) 0 v = none) ∧ RM s' r.2) := by
    intro s' y' h'
    unfold f_X7_isHere_43
    cases hi : ixf (gRow s' c) 0 v with
    | none => rw [m_at0 hc (h'.2.2.1 c hc) hi, bd_s, if_pos rfl]; exact wp_some ⟨by simp, h'⟩
    | some k =>
      have := (h'.2.2.1 c hc).2.1
      obtain ⟨e, h1, h2, h3⟩ := ixf_some hi
      rw [m_at1 hc (h'.2.2.1 c hc) hi, bd_s, if_neg (pn_neg (by omega))]; exact wp_some ⟨by simp, h'⟩
  unfold f_X7_isHere aTake
  cases hb : ixf (gBuf s c) 0 v with
  | none =>
    cases hi : ixf (gRow s c) 0 v with
    | none => rw [m_at0 hc (h.2.2.1 c hc) hi, bd_s, if_pos rfl, m_ba0 hc (h.2.2.2.1 c hc) hb, bd_s, if_pos rfl]; have f := fin s y h; rw [hi] at f; exact f
    | some k =>
      have := (h.2.2.1 c hc).2.1
      obtain ⟨e, h1, h2, h3⟩ := ixf_some hi
      rw [m_at1 hc (h.2.2.1 c hc) hi, bd_s, if_neg (pn_neg (by omega))]; have f := fin s y h; rw [hi] at f; exact f
  | some k =>
    have hi := hx c v hc (by rw [hb]; simp)
    have := (h.2.2.2.1 c hc).2.1
    obtain ⟨e, h1, h2, h3⟩ := ixf_some hb
    rw [m_at0 hc (h.2.2.1 c hc) hi, bd_s, if_pos rfl, m_ba1 hc (h.2.2.2.1 c hc) hb, bd_s, if_neg (pn_neg (by omega))]
    refine wp_bindM (m_out hc h hb) (fun r1 hr1 => ?_)
    refine wp_bindM (m_noBack (c := nI c) (l := v) hr1.2) (fun y2 h2 => ?_)
    have hfl : ((gAsk s).filter (nbP (nI c) v)).length ≤ (gAsk s).length := List.length_filter_le _ _
    refine wp_bindM (m_fill (s := aOut s c k v) (K := K) hc h2 hK hK1 hK4 (hl c hc) (Or.inr (Or.inr ?_)) (by show ((gAsk s).filter (nbP (nI c) v)).length < 16; omega)) (fun y3 h3 => ?_)
    · show (va_up (gBuf s) c ((gBuf s c).eraseIdx k) c).length < 2
      rw [up_s, List.length_eraseIdx_of_lt h3]
      omega
    · rw [hr1.1] at h3
      exact fin _ y3 h3
