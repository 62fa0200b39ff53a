/-! PURE: fault, play, day -/
theorem FX_RX {s : Sx} {x z : sw_St} (h : RX s x) (hf : FX x z) : RX s z := RX_far h (fun a ha => hf.1 a (by omega) (by omega))
theorem FM_RM {s : Sx} {x z : sw_St} (h : RM s x) (hf : FM x z) : RM s z := RM_far h (fun a h1 h2 => hf.1 a h1 (by omega)) (fun j _ h2 h3 => hf.2 j h2 h3)
theorem FM_W {x z : sw_St} (h : Wl x) (hf : FM x z) : Wl z := fun j hj => by rw [hf.1 20 (by decide) (by decide)]; exact h j hj
def flt (t : Nat → Nat) (C n : Nat) : Nat → Nat → Int32
  | 0, _ => -4
  | k + 1, p => if n ≤ p then -4 else match prs t C p with
    | none => nI p
    | some w => flt t C n k w.2.2.2.2
theorem flt_e {t : Nat → Nat} {C n k p : Nat} (h : n ≤ p) : flt t C n (k + 1) p = -4 := by
  rw [flt, if_pos h]
theorem flt_n {t : Nat → Nat} {C n k p : Nat} (h : ¬ n ≤ p) (hp : prs t C p = none) : flt t C n (k + 1) p = nI p := by
  rw [flt, if_neg h, hp]
theorem flt_s {t : Nat → Nat} {C n k p : Nat} {w : Nat × Nat × Nat × Nat × Nat} (h : ¬ n ≤ p) (hp : prs t C p = some w) : flt t C n (k + 1) p = flt t C n k w.2.2.2.2 := by
  rw [flt, if_neg h, hp]
theorem x_ff {C n : Nat} {t : Nat → Nat} (hC : 1 ≤ C ∧ C ≤ 4) : ∀ (fu k p c : Nat) (x : sw_St), TX x n t → p ≤ n → c ≤ p → n - p < fu → n - p < k → wp (f_X5_findFault_4 fu x (nI C) (nI p) (nI c)) (fun r => r.1 = flt t C n k p ∧ FX x r.2) := by
  intro fu
  induction fu with
  | zero => intro k p c x _ _ _ w; omega
  | succ fu ih =>
    intro k p c x h hp hc hf hk
    cases k with
    | zero => omega
    | succ k =>
      have hn := h.2.1
      rw [f_X5_findFault_4]
      dsimp only
      rw [show (200 : Int32) = nI 200 from rfl, h.1]
      by_cases z : n ≤ p
      · rw [flt_e z]
        by_cases z2 : 200 ≤ c
        · rw [if_pos (nI_le z2 (by omega))]
          exact wp_some ⟨rfl, FX_r x⟩
        · rw [if_neg (nI_ge (by omega) (by omega)), if_pos (nI_le z (by omega))]
          exact wp_some ⟨rfl, FX_r x⟩
      · rw [if_neg (nI_ge (by omega) (by omega)), if_neg (nI_ge (by omega) (by omega))]
        refine wp_bindM (x_und h hp hC) (fun r hr => ?_)
        obtain ⟨u1, u2, u3⟩ := hr
        cases hq : prs t C p with
        | none =>
          rw [if_pos (u2 hq), flt_n z hq]
          exact wp_some ⟨rfl, u1⟩
        | some w =>
          obtain ⟨w1, w2, w3, w4, w5, w6⟩ := u3 w hq
          obtain ⟨p1, p2, p3⟩ := prs_ok h.2.2.2.2 hq
          rw [w1, if_neg n10, w6, nI_1, flt_s z hq]
          exact wp_mono (ih k w.2.2.2.2 (c + 1) r.2 (FX_T u1 h) p2 (by omega) (by omega) (by omega)) (fun r' hr' => ⟨hr'.1, FX_t u1 hr'.2⟩)
theorem m_ff {C n : Nat} {t : Nat → Nat} (hC : 1 ≤ C ∧ C ≤ 4) : ∀ (fu k p : Nat) (y : sw_St), TM y n t → p ≤ n → y 1 31 = nI p → y 1 0 = nI C → n - p < fu → n - p < k → wp (f_X7_fault_5 fu y) (fun r => r.1 = flt t C n k p ∧ FM y r.2) := by
  intro fu
  induction fu with
  | zero => intro k p y _ _ _ _ w; omega
  | succ fu ih =>
    intro k p y h hp hs hy hf hk
    cases k with
    | zero => omega
    | succ k =>
      have hn := h.2.1
      rw [f_X7_fault_5]
      dsimp only
      rw [hs, h.1]
      by_cases z : n ≤ p
      · rw [flt_e z, if_pos (nI_le z (by omega))]
        exact wp_some ⟨rfl, FM_r y⟩
      · rw [if_neg (nI_ge (by omega) (by omega))]
        refine wp_bindM (m_reads h hp hs hC hy) (fun r hr => ?_)
        obtain ⟨u1, u2, u3⟩ := hr
        cases hq : prs t C p with
        | none =>
          rw [if_pos (u2 hq), flt_n z hq]
          exact wp_some ⟨rfl, u1⟩
        | some w =>
          obtain ⟨w1, w2, w3, w4, w5, w6⟩ := u3 w hq
          obtain ⟨p1, p2, p3⟩ := prs_ok h.2.2.2.2 hq
          rw [w1, if_neg n10, flt_s z hq]
          exact wp_mono (ih k w.2.2.2.2 r.2 (FM_T u1 h) p2 w6 (by rw [u1.2 0 (by decide) (by decide)]; exact hy) (by omega) (by omega)) (fun r' hr' => ⟨hr'.1, FM_t u1 hr'.2⟩)
/-- all commands are so -/
def gd (t : Nat → Nat) (C n : Nat) : Nat → Nat → Prop
  | 0, p => n ≤ p
  | k + 1, p => n ≤ p ∨ ∃ w, prs t C p = some w ∧ gd t C n k w.2.2.2.2
theorem flt_gd {t : Nat → Nat} {C n : Nat} (hz : ∀ i, n ≤ i → t i = 0) (hn : n ≤ 200) : ∀ (k p : Nat), p ≤ n → n - p < k → flt t C n k p = -4 → gd t C n k p
  | 0, p, _, hk, _ => by omega
  | k + 1, p, hp, hk, h => by
    by_cases z : n ≤ p
    · exact Or.inl z
    · cases hq : prs t C p with
      | none =>
        rw [flt_n z hq] at h
        exact absurd h (pn_neg (by omega))
      | some w =>
        obtain ⟨p1, p2, p3⟩ := prs_ok hz hq
        rw [flt_s z hq] at h
        exact Or.inr ⟨w, hq, flt_gd hz hn k w.2.2.2.2 p2 (by omega) h⟩
theorem cN_x {b : Nat} {s : Sx} {x : sw_St} (h : RX s x) (hI : Inv b s) : x 2 4 = nI (cN s) := by rw [← hI.1.1.1]; exact h.1.1
theorem cN_y {b : Nat} {s : Sx} {y : sw_St} (h : RM s y) (hI : Inv b s) : y 1 0 = nI (cN s) := by rw [← hI.1.1.1]; exact h.1.1
/-- the first fault, in both -/
theorem fault_both {b : Nat} {s : Sx} {x y : sw_St} {n : Nat} {t : Nat → Nat} (hx : RX s x) (hy : RM s y) (hI : Inv b s) (t1 : TX x n t) (t2 : TM y n t) : (∃ r, f_X5_findFault x (x 2 4) = some r ∧ r.1 = flt t (cN s) n 201 0 ∧ FX x r.2) ∧ ∃ r, f_X7_fault y = some r ∧ r.1 = flt t (cN s) n 201 0 ∧ FM y r.2 := by
  obtain ⟨-, hC2, hC4⟩ := hI.1.1
  have hn := t1.2.1
  constructor
  · obtain ⟨r, e, h1, h2⟩ := x_ff (C := cN s) (by omega) sw_fuel 201 0 0 x t1 (Nat.zero_le _) (Nat.le_refl _) (by unfold sw_fuel; omega) (by omega)
    unfold f_X5_findFault
    rw [cN_x hx hI]
    exact ⟨r, e, h1, h2⟩
  · have hF : FM y (sw_up y 1 31 0) := FM_1 (Or.inl rfl)
    obtain ⟨r, e, h1, h2⟩ := m_ff (C := cN s) (by omega) sw_fuel 201 0 _ (FM_T hF t2) (Nat.zero_le _) up_eq (by rw [up_nj (by decide)]; exact cN_y hy hI) (by unfold sw_fuel; omega) (by omega)
    unfold f_X7_fault
    simp only [sw_pt]
    exact ⟨r, e, h1, FM_t hF h2⟩
theorem e_fault {b : Nat} {x y : sw_St} (h : RR b x y) (ht : Tx x y) : ∃ r x' y', f_X6_fault x = some (r, x') ∧ f_X7_fault y = some (r, y') ∧ RR b x' y' ∧ Tx x' y' := by
  obtain ⟨s, hI, hx, hy⟩ := h
  obtain ⟨⟨n, t, t1, t2⟩, hw⟩ := ht
  obtain ⟨⟨r, er, r1, r2⟩, ⟨q, eq, q1, q2⟩⟩ := fault_both hx hy hI t1 t2
  refine ⟨r.1, r.2, q.2, ?_, ?_, ⟨s, hI, FX_RX hx r2, FM_RM hy q2⟩, ⟨⟨n, t, FX_T r2 t1, FM_T q2 t2⟩, FM_W hw q2⟩⟩
  · unfold f_X6_fault
    rw [er, bd_s]
  · rw [eq, r1, ← q1]
theorem x_ref (x : sw_St) (r : Int32) : f_X6_isRefusal x r = some (if 0 ≤ r ∨ r = -5 then 0 else 1) := by
  unfold f_X6_isRefusal
  by_cases z1 : 0 ≤ r
  · rw [if_pos z1, if_pos (Or.inl z1)]
  · by_cases z2 : r = -5
    · rw [if_neg z1, if_pos z2, if_pos (Or.inr z2)]
    · rw [if_neg z1, if_neg z2, if_neg (fun w => w.elim z1 z2)]
theorem kX_T {x z : sw_St} {n : Nat} {t : Nat → Nat} (h : kX x z) (k : TX x n t) : TX z n t := TX_k k (by rw [h 44 (by decide)]) (h 45 (by decide))
theorem kM_T {x z : sw_St} {n : Nat} {t : Nat → Nat} (h : kM x z) (k : TM x n t) : TM z n t := TM_k k h.2.2.2.1 h.1
theorem kM_W {x z : sw_St} (h : kM x z) (k : Wl x) : Wl z := fun j hj => by rw [h.2.2.1]; exact k j hj
theorem RR_mono {b b' : Nat} {x y : sw_St} (h : RR b x y) (hb : b ≤ b') : RR b' x y := by
  obtain ⟨s, hI, hx, hy⟩ := h
  exact ⟨s, Inv_mono hI hb, hx, hy⟩
theorem play_sim {C n : Nat} {t : Nat → Nat} (hC : 1 ≤ C ∧ C ≤ 4) : ∀ (fu k p c : Nat) (v : Int32) (b : Nat) (s : Sx) (x y : sw_St), gd t C n k p → p ≤ n → c ≤ p → n - p < fu → TX x n t → TM y n t → Wl y → RX s x → RM s y → Inv b s → cN s = C → y 1 31 = nI p → b + 400 * (n - p) < 2 ^ 30 → ∃ r x' y', f_X6_play_38 fu x v (nI p) (nI c) = some (r, x') ∧ f_X7_play_26 fu y v = some (r, y') ∧ RR (b + 400 * (n - p)) x' y' ∧ Tx x' y' := by
  intro fu
  induction fu with
  | zero => intro k p c v b s x y _ _ _ w; omega
  | succ fu ih =>
    intro k p c v b s x y hg hp hc hf t1 t2 hw hx hy hI hcs hs hb
    have hn := t1.2.1
    rw [f_X6_play_38, f_X7_play_26]
    dsimp only
    rw [show (200 : Int32) = nI 200 from rfl, t1.1, t2.1, hs]
    by_cases z : n ≤ p
    · rw [if_pos (show nI n ≤ nI p from nI_le z (by omega)), if_pos (show nI n ≤ nI p from nI_le z (by omega))]
      refine ⟨v, x, y, ?_, rfl, RR_mono ⟨s, hI, hx, hy⟩ (by omega), ⟨⟨n, t, t1, t2⟩, hw⟩⟩
      split <;> rfl
    · cases k with
      | zero => exact absurd hg z
      | succ k =>
        rcases hg with hg | ⟨w, hq, hg⟩
        · exact absurd hg z
        · obtain ⟨p1, p2, p3⟩ := prs_ok t1.2.2.2.2 hq
          rw [if_neg (show ¬ nI 200 ≤ nI c from nI_ge (by omega) (by omega)), if_neg (show ¬ nI n ≤ nI p from nI_ge (by omega) (by omega)), if_neg (show ¬ nI n ≤ nI p from nI_ge (by omega) (by omega))]
          obtain ⟨ru, eu, u1, u2, u3⟩ := x_und t1 hp hC
          obtain ⟨u4, u5, u6, u7, u8, u9⟩ := u3 w hq
          obtain ⟨rv, ev, v1, v2, v3⟩ := m_reads t2 hp hs hC (by rw [← hcs]; exact cN_y hy hI)
          obtain ⟨v4, v5, v6, v7, v8, v9⟩ := v3 w hq
          have hx1 := FX_RX hx u1
          have hy1 := FM_RM hy v1
          rw [cN_x hx hI, hcs, eu, bd_s, ev, bd_s, v4, if_neg n10, i0, i1, i2, u5, u6]
          rw [← hcs] at p3
          obtain ⟨rp, ep, hp1⟩ := wp_kg (x_perf (b := b) (j1 := ru.2 46 1) (j2 := ru.2 46 2) hx1 hI (by omega) p3 u7 u8) (k_X0_perform (kX_r ru.2))
          obtain ⟨rd, ed, hd1⟩ := m_does (b := b) hy1 hI (by omega) p3 v5 v6 v7 v8
          obtain ⟨⟨e1, e2⟩, e3⟩ := hp1
          obtain ⟨⟨d1, d2⟩, d3⟩ := hd1
          obtain ⟨I1, I2⟩ := Tv_k (v := w.1) (a := w.2.1) (b' := w.2.2.1) (c := w.2.2.2.1) hI (by omega) (fun z0 => by rcases p3 with q | q <;> omega)
          rw [ep, bd_s, x_ref, bd_s, ed, bd_s, e1, d1]
          have hnx : rp.2 44 4 = nI w.2.2.2.2 := by rw [e3 44 (by decide)]; exact u9
          have hny : rd.2 1 31 = nI w.2.2.2.2 := by rw [d3.2.2.2.2.1]; exact v9
          have hcn : cN (Tv s w.1 w.2.1 w.2.2.1 w.2.2.2.1).2 = C := by
            show sw_ix (gSc (Tv s w.1 w.2.1 w.2.2.1 w.2.2.2.1).2 0) = C
            rw [I2]
            exact hcs
          unfold f_X6_play_116 f_X7_play_60
          rw [hnx, nI_1]
          have go := fun v' => ih k w.2.2.2.2 (c + 1) v' (b + 400) _ rp.2 rd.2 hg p2 (by omega) (by omega) (kX_T e3 (FX_T u1 t1)) (kM_T d3 (FM_T v1 t2)) (kM_W d3 (FM_W hw v1)) e2 d2 I1 hcn hny (by omega)
          have fin : ∀ v', ∃ r x' y', f_X6_play_38 fu rp.2 v' (nI w.2.2.2.2) (nI (c + 1)) = some (r, x') ∧ f_X7_play_26 fu rd.2 v' = some (r, y') ∧ RR (b + 400 * (n - p)) x' y' ∧ Tx x' y' := fun v' => by
            obtain ⟨r, x', y', g1, g2, g3, g4⟩ := go v'
            exact ⟨r, x', y', g1, g2, RR_mono g3 (by omega), g4⟩
          generalize (Tv s w.1 w.2.1 w.2.2.1 w.2.2.2.1).1 = T1 at *
          by_cases z1 : 0 ≤ T1
          · rw [if_pos (Or.inl z1), if_pos rfl, if_pos z1]
            exact fin (v + 1)
          · by_cases z2 : T1 = -5
            · rw [if_pos (Or.inr z2), if_pos rfl, if_neg z1, if_pos z2]
              exact fin (v + 1)
            · rw [if_neg (show ¬ (0 ≤ T1 ∨ T1 = -5) from fun w => w.elim z1 z2), if_neg n10, if_neg z1, if_neg z2, Int32.add_zero]
              exact fin v
theorem e_play {b : Nat} {x y : sw_St} (hb : b + 80000 < 2 ^ 30) (h : RR b x y) (ht : Tx x y) : ∃ r x' y', f_X6_play x = some (r, x') ∧ f_X7_play y = some (r, y') ∧ RR (b + 80000) x' y' ∧ Tx x' y' := by
  obtain ⟨s, hI, hx, hy⟩ := h
  obtain ⟨⟨n, t, t1, t2⟩, hw⟩ := ht
  obtain ⟨-, hC2, hC4⟩ := hI.1.1
  have hn := t1.2.1
  unfold f_X6_play f_X7_play
  rw [t1.1, t2.1]
  by_cases z : n = 0
  · rw [if_pos (show nI n = 0 by rw [z]; rfl), if_pos (show nI n = 0 by rw [z]; rfl)]
    exact ⟨_, x, y, rfl, rfl, RR_mono ⟨s, hI, hx, hy⟩ (by omega), ⟨⟨n, t, t1, t2⟩, hw⟩⟩
  · rw [if_neg (nI_ne0 (by omega) (by omega)), if_neg (nI_ne0 (by omega) (by omega))]
    obtain ⟨⟨r, er, r1, r2⟩, ⟨q, eq, q1, q2⟩⟩ := fault_both hx hy hI t1 t2
    rw [er, bd_s, eq, bd_s, r1, q1]
    by_cases zf : flt t (cN s) n 201 0 = -4
    · rw [if_pos zf, if_pos zf]
      simp only [sw_pt]
      have hF : FM q.2 (sw_up q.2 1 31 0) := FM_1 (Or.inl rfl)
      obtain ⟨r', x', y', g1, g2, g3, g4⟩ := play_sim (C := cN s) (by omega) sw_fuel 201 0 0 0 b s r.2 (sw_up q.2 1 31 0) (flt_gd t1.2.2.2.2 hn 201 0 (Nat.zero_le _) (by omega) zf) (Nat.zero_le _) (Nat.le_refl _) (by unfold sw_fuel; omega) (FX_T r2 t1) (FM_T hF (FM_T q2 t2)) (FM_W (FM_W hw q2) hF) (FX_RX hx r2) (FM_RM (FM_RM hy q2) hF) hI rfl up_eq (by omega)
      exact ⟨r', x', y', g1, g2, RR_mono g3 (by omega), g4⟩
    · rw [if_neg zf, if_neg zf]
      exact ⟨_, _, _, rfl, rfl, RR_mono ⟨s, hI, FX_RX hx r2, FM_RM hy q2⟩ (by omega), ⟨⟨n, t, FX_T r2 t1, FM_T q2 t2⟩, FM_W hw q2⟩⟩
-- a day
def dN (z k : Nat) : Nat := (7919 * z + 6151 * k + 1) * (7919 * z + 6151 * k + 1) % 65521
theorem dr {z k : Nat} (hz : z ≤ 9999) (hk : k < 100) : Int64.toInt32 (sw_lrem (((((7919 : Int64) * (Int32.toInt64 (nI z))) + ((6151 : Int64) * (Int32.toInt64 (nI k)))) + (1 : Int64)) * ((((7919 : Int64) * (Int32.toInt64 (nI z))) + ((6151 : Int64) * (Int32.toInt64 (nI k)))) + (1 : Int64))) (65521 : Int64)) = nI (dN z k) := by
  have e1 : (7919 * z + 6151 * k + 1) * (7919 * z + 6151 * k + 1) ≤ 90000000 * 90000000 := Nat.mul_le_mul (by omega) (by omega)
  rw [nI_l (by omega), nI_l (by omega), show (7919 : Int64) = lN 7919 from rfl, show (6151 : Int64) = lN 6151 from rfl, show (65521 : Int64) = lN 65521 from rfl, lN_mul, lN_mul, lN_add, lN_1, lN_mul]
  unfold sw_lrem
  rw [pk_lRem (by omega) (by omega) (by omega), lN_i]
  rfl
theorem m_turn1 {b : Nat} {s : Sx} {y : sw_St} (h : RM s y) (hI : Inv b s) (hb : b + 400 < 2 ^ 30) {l c : Nat} : wp (f_X7_oneTurn y) (Rm (Tv s 0 1 l c)) := by
  have hI1 := Inv_now (v := gSc s 4 + 1) hI
  have e : Tv s 0 1 l c = aTurn s := by
    show (0 + (aTurn s).1, (aTurn s).2) = aTurn s
    rw [Int32.zero_add]
  rw [e]
  exact m_oneTurn (b := b + 2) h (Inv_mono hI1 (by omega)) (Inv_answ hI1 (by omega)) (by omega)
theorem day_sim {C N Z : Nat} (hC : 1 ≤ C ∧ C ≤ 4) (hN : N ≤ 40) (hZ : Z ≤ 9999) : ∀ (fu k : Nat) (v : Int32) (b : Nat) (s : Sx) (x y : sw_St), k ≤ N → N - k < fu → RX s x → RM s y → Inv b s → cN s = C → b + 400 * (N - k) < 2 ^ 30 → ∃ r x' y', f_X6_day_41 fu x (nI Z) (nI N) (nI C) v (nI k) = some (r, x') ∧ f_X7_day_31 fu y (nI Z) (nI N) v (nI k) = some (r, y') ∧ RR (b + 400 * (N - k)) x' y' ∧ kX x x' ∧ kM y y' := by
  intro fu
  induction fu with
  | zero => intro k v b s x y _ w; omega
  | succ fu ih =>
    intro k v b s x y hk hf hx hy hI hcs hb
    by_cases z : N ≤ k
    · rw [f_X6_day_41, f_X7_day_31]
      dsimp only
      rw [if_pos (nI_le z (by omega)), if_pos (nI_le z (by omega))]
      exact ⟨v, x, y, rfl, rfl, RR_mono ⟨s, hI, hx, hy⟩ (by omega), kX_r x, kM_r y⟩
    · have hd : dN Z k < 65521 := Nat.mod_lt _ (by omega)
      have hdr := dr hZ (show k < 100 by omega)
      generalize hD : dN Z k = d at *
      have hm : d % 4 < 4 := Nat.mod_lt _ (by omega)
      have hac : d / 4 % C < C := Nat.mod_lt _ (by omega)
      have hcl : d / 64 % 8 < 8 := Nat.mod_lt _ (by omega)
      have hcv : d / 512 % 100 < 100 := Nat.mod_lt _ (by omega)
      have f4 : sw_rem (nI d) 4 = nI (d % 4) := pn_rem (d := 4) (by omega) (by omega) (by omega)
      have g4 : sw_rem (nI d / 4) (nI C) = nI (d / 4 % C) := by rw [pn_div4 (by omega), pn_rem (by omega) (by omega) (by omega)]
      have g8 : sw_rem (nI d / 64) 8 = nI (d / 64 % 8) := by rw [show nI d / 64 = nI (d / 64) from pk_div (d := 64) (by omega) (by omega) (by omega)]; exact pn_rem (d := 8) (by omega) (by omega) (by omega)
      have g1 : sw_rem (nI d / 512) 100 = nI (d / 512 % 100) := by rw [show nI d / 512 = nI (d / 512) from pk_div (d := 512) (by omega) (by omega) (by omega)]; exact pn_rem (d := 100) (by omega) (by omega) (by omega)
      have hck : CmdOk (cN s) (d % 4) (if d % 4 = 0 then 1 else d / 4 % C) (d / 64 % 8) (d / 512 % 100) := by
        by_cases z0 : d % 4 = 0
        · rw [if_pos z0]
          exact Or.inl ⟨z0, by omega, by omega⟩
        · rw [if_neg z0, hcs]
          exact Or.inr ⟨by omega, hac, hcl, by omega⟩
      obtain ⟨I1, I2⟩ := Tv_k (v := d % 4) (a := if d % 4 = 0 then 1 else d / 4 % C) (b' := d / 64 % 8) (c := d / 512 % 100) hI (by omega) (fun z0 => by rw [if_pos z0]; omega)
      have hX : ∃ rx, f_X6_day_41 (fu + 1) x (nI Z) (nI N) (nI C) v (nI k) = ((f_X6_isRefusal rx.2 rx.1).bind fun r2 => (if r2 = 0 then (f_X6_day_41 fu rx.2 (nI Z) (nI N) (nI C) (v + 1) (nI (k + 1))) else (f_X6_day_41 fu rx.2 (nI Z) (nI N) (nI C) v (nI (k + 1))))) ∧ Rx (Tv s (d % 4) (if d % 4 = 0 then 1 else d / 4 % C) (d / 64 % 8) (d / 512 % 100)) rx ∧ kX x rx.2 := by
        obtain ⟨rp, ep, hp1, hp2⟩ := wp_kg (x_perf (b := b) (j1 := nI (d / 64 % 8)) (j2 := nI (d / 512 % 100)) hx hI (by omega) hck (fun _ => rfl) (fun _ => rfl)) (k_X0_perform (kX_r x))
        refine ⟨rp, ?_, hp1, hp2⟩
        rw [f_X6_day_41]
        unfold f_X6_day_98
        dsimp only
        rw [if_neg (nI_ge (by omega) (by omega)), hdr, f4, g4, g8, g1, nI_1]
        by_cases z0 : d % 4 = 0
        · rw [if_pos z0] at ep
          rw [z0] at ep ⊢
          rw [if_pos (show nI 0 = 0 from rfl)]
          have ep' : f_X0_perform x (nI 0) 1 (nI (d / 64 % 8)) (nI (d / 512 % 100)) = some rp := ep
          rw [ep', bd_s]
        · rw [if_neg z0] at ep
          have nz : ¬ nI C = 0 := nI_ne0 (by omega) (by omega)
          rw [if_neg (nI_ne0 (by omega) (by omega)), ck_t (show sw_n0 (nI C) = true by unfold sw_n0; simpa using nz), ep, bd_s]
      have hM : ∃ rm, f_X7_day_31 (fu + 1) y (nI Z) (nI N) v (nI k) = f_X7_day_157 (f_X7_day_31 fu) rm.2 (nI Z) (nI N) v (nI k) rm.1 ∧ Rm (Tv s (d % 4) (if d % 4 = 0 then 1 else d / 4 % C) (d / 64 % 8) (d / 512 % 100)) rm ∧ kM y rm.2 := by
        have hy0 : y 1 0 = nI C := by rw [← hcs]; exact cN_y hy hI
        have nz : ¬ nI C = 0 := nI_ne0 (by omega) (by omega)
        rw [f_X7_day_31]
        dsimp only
        rw [if_neg (nI_ge (by omega) (by omega)), hdr, hy0, f4, g4, g8, g1, ck_t (show sw_n0 (nI C) = true by unfold sw_n0; simpa using nz)]
        rcases (show d % 4 = 0 ∨ d % 4 = 1 ∨ d % 4 = 2 ∨ d % 4 = 3 by omega) with z0 | z0 | z0 | z0 <;> rw [z0]
        · rw [if_pos (show nI 0 = 0 from rfl), if_pos (show (0 : Nat) = 0 from rfl)]
          obtain ⟨rm, em, m1, m2⟩ := wp_kg (m_turn1 (l := d / 64 % 8) (c := d / 512 % 100) hy hI (by omega)) (k_X7_oneTurn (kM_r y))
          exact ⟨rm, by rw [em, bd_s], m1, m2⟩
        · rw [if_neg (show ¬ nI 1 = 0 by decide), if_pos (show nI 1 = 1 from rfl), if_neg (show ¬ (1 : Nat) = 0 by decide)]
          obtain ⟨rm, em, m1, m2⟩ := wp_kg (m_read (nI (d / 4 % C)) (nI (d / 64 % 8)) hy (Inv_Nums hI) (Inv_Wf hI)) (k_X7_read (kM_r y))
          exact ⟨rm, by rw [em, bd_s], m1, m2⟩
        · rw [if_neg (show ¬ nI 2 = 0 by decide), if_neg (show ¬ nI 2 = 1 by decide), if_pos (show nI 2 = 2 from rfl), if_neg (show ¬ (2 : Nat) = 0 by decide)]
          obtain ⟨rm, em, m1, m2⟩ := wp_kg (m_store (nI (d / 4 % C)) (nI (d / 64 % 8)) (nI (d / 512 % 100)) hy (Inv_Nums hI) (Inv_Wf hI) (hh_all hI)) (k_X7_store (kM_r y))
          exact ⟨rm, by rw [em, bd_s], m1, m2⟩
        · rw [if_neg (show ¬ nI 3 = 0 by decide), if_neg (show ¬ nI 3 = 1 by decide), if_neg (show ¬ nI 3 = 2 by decide), if_neg (show ¬ (3 : Nat) = 0 by decide)]
          obtain ⟨rm, em, m1, m2⟩ := wp_kg (m_drop (nI (d / 4 % C)) (nI (d / 64 % 8)) hy (Inv_Nums hI) (Inv_Wf hI) (Inv_Hows hI)) (k_X7_drop (kM_r y))
          exact ⟨rm, by rw [em, bd_s], m1, m2⟩
      obtain ⟨rx, ex, ⟨x1, x2⟩, x3⟩ := hX
      obtain ⟨rm, em, ⟨y1, y2⟩, y3⟩ := hM
      have hcn : cN (Tv s (d % 4) (if d % 4 = 0 then 1 else d / 4 % C) (d / 64 % 8) (d / 512 % 100)).2 = C := by
        show sw_ix (gSc (Tv s (d % 4) (if d % 4 = 0 then 1 else d / 4 % C) (d / 64 % 8) (d / 512 % 100)).2 0) = C
        rw [I2]
        exact hcs
      have fin : ∀ v', ∃ r x' y', f_X6_day_41 fu rx.2 (nI Z) (nI N) (nI C) v' (nI (k + 1)) = some (r, x') ∧ f_X7_day_31 fu rm.2 (nI Z) (nI N) v' (nI (k + 1)) = some (r, y') ∧ RR (b + 400 * (N - k)) x' y' ∧ kX x x' ∧ kM y y' := fun v' => by
        obtain ⟨r, x', y', h1, h2, h3, h4, h5⟩ := ih (k + 1) v' (b + 400) _ rx.2 rm.2 (by omega) (by omega) x2 y2 I1 hcn (by omega)
        exact ⟨r, x', y', h1, h2, RR_mono h3 (by omega), fun a ha => by rw [h4 a ha]; exact x3 a ha, ⟨h5.1.trans y3.1, h5.2.1.trans y3.2.1, h5.2.2.1.trans y3.2.2.1, h5.2.2.2.1.trans y3.2.2.2.1, h5.2.2.2.2.1.trans y3.2.2.2.2.1, h5.2.2.2.2.2.trans y3.2.2.2.2.2⟩⟩
      rw [ex, em, x_ref, bd_s, x1, y1]
      unfold f_X7_day_157 f_X7_day_172 f_X7_day_177
      rw [nI_1]
      generalize (Tv s (d % 4) (if d % 4 = 0 then 1 else d / 4 % C) (d / 64 % 8) (d / 512 % 100)).1 = T1 at *
      by_cases z1 : 0 ≤ T1
      · rw [if_pos (Or.inl z1), if_pos rfl, if_pos z1]
        exact fin (v + 1)
      · by_cases z2 : T1 = -5
        · rw [if_pos (Or.inr z2), if_pos rfl, if_neg z1, if_pos z2]
          exact fin (v + 1)
        · rw [if_neg (show ¬ (0 ≤ T1 ∨ T1 = -5) from fun w => w.elim z1 z2), if_neg n10, if_neg z1, if_neg z2, Int32.add_zero]
          exact fin v
theorem e_day {b : Nat} {x y : sw_St} (a c : Int32) (hb : b + 16000 < 2 ^ 30) (h : RR b x y) (ht : Tx x y) : ∃ r x' y', f_X6_day x a c = some (r, x') ∧ f_X7_day y a c = some (r, y') ∧ RR (b + 16000) x' y' ∧ Tx x' y' := by
  have e1 : (0 : Int32).toInt = 0 ∧ (1 : Int32).toInt = 1 ∧ (9999 : Int32).toInt = 9999 ∧ (40 : Int32).toInt = 40 := by decide
  have e2 : (0 : Int64).toInt = 0 ∧ (1 : Int64).toInt = 1 ∧ (9999 : Int64).toInt = 9999 ∧ (40 : Int64).toInt = 40 := by decide
  unfold f_X6_day f_X7_day
  rw [x_within, x_within, m_in, m_in, e1.1, e1.2.1, e1.2.2.1, e1.2.2.2, e2.1, e2.2.1, e2.2.2.1, e2.2.2.2]
  simp only [bd_s]
  by_cases z1 : 0 ≤ a.toInt ∧ a.toInt ≤ 9999
  · by_cases z2 : 1 ≤ c.toInt ∧ c.toInt ≤ 40
    · simp only [if_pos z1, if_pos z2, if_neg n10]
      obtain ⟨Z, hZ, rfl⟩ := ok_ex (a := a) (n := 10000) ⟨by omega, by omega⟩ (by omega)
      obtain ⟨N, hN, rfl⟩ := ok_ex (a := c) (n := 41) ⟨by omega, by omega⟩ (by omega)
      obtain ⟨s, hI, hx, hy⟩ := h
      obtain ⟨⟨n, t, t1, t2⟩, hw⟩ := ht
      obtain ⟨-, hC2, hC4⟩ := hI.1.1
      have h4 := cN_x hx hI
      rw [h4, if_neg (show ¬ nI (cN s) < 1 from nI_nlt (a := cN s) (b := 1) (by omega) (by omega))]
      obtain ⟨r, x', y', g1, g2, g3, g4, g5⟩ := day_sim (C := cN s) (N := N) (Z := Z) (by omega) (by omega) (by omega) sw_fuel 0 0 b s x y (Nat.zero_le _) (by unfold sw_fuel; omega) hx hy hI rfl (by omega)
      exact ⟨r, x', y', g1, g2, RR_mono g3 (by omega), ⟨⟨n, t, kX_T g4 t1, kM_T g5 t2⟩, kM_W g5 hw⟩⟩
    · simp only [if_pos z1, if_neg z2, if_neg n10, if_true]
      exact ⟨_, _, _, rfl, rfl, RR_mono h (by omega), ht⟩
  · simp only [if_neg z1, if_true]
    exact ⟨_, _, _, rfl, rfl, RR_mono h (by omega), ht⟩
