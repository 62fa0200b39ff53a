/-! PURE: a command is read, in the model: its numbers -/
def mv (v : Nat) : Nat := if v = 0 then 3 else v - 1
/-- what was read -/
def UM (x : sw_St) (res : Option (Nat × Nat × Nat × Nat × Nat)) (r : Int32 × sw_St) : Prop := FM x r.2 ∧ (res = none → r.1 = 0) ∧ (∀ w, res = some w → r.1 = 1 ∧ r.2 1 33 = nI (mv w.1) ∧ r.2 19 0 = nI w.2.1 ∧ (w.1 ≠ 0 → r.2 19 1 = nI w.2.2.1) ∧ (w.1 = 2 → r.2 19 2 = nI w.2.2.2.1) ∧ r.2 1 31 = nI w.2.2.2.2)
theorem UM_0 {x : sw_St} {res : Option (Nat × Nat × Nat × Nat × Nat)} {r : Int32 × sw_St} (h : FM x r.2) (h0 : r.1 = 0) (hn : res = none) : UM x res r := ⟨h, fun _ => h0, fun w hw => by rw [hn] at hw; cases hw⟩
theorem m_247f {x0 x : sw_St} {res : Option (Nat × Nat × Nat × Nat × Nat)} (h : FM x0 x) (hn : res = none) : wp (f_X7_reads_247 x 0) (UM x0 res) := by
  unfold f_X7_reads_247
  simp only [sw_pt, if_true]
  exact wp_some (UM_0 (FM_t h (FM_1 (Or.inl rfl))) rfl hn)
theorem m_204f {x0 x : sw_St} {res : Option (Nat × Nat × Nat × Nat × Nat)} (h : FM x0 x) (hn : res = none) : wp (f_X7_reads_204 x 0) (UM x0 res) := by
  unfold f_X7_reads_204
  rw [if_pos rfl]
  exact m_247f h hn
theorem m_161f {x0 x : sw_St} {res : Option (Nat × Nat × Nat × Nat × Nat)} (h : FM x0 x) (hn : res = none) : wp (f_X7_reads_161 x 0) (UM x0 res) := by
  unfold f_X7_reads_161
  rw [if_pos rfl]
  exact m_204f h hn
theorem m_247 {x : sw_St} {n q : Nat} {t : Nat → Nat} (h : TM x n t) (hq : q < 2 ^ 20) (hs : x 1 31 = nI q) : f_X7_reads_247 x 1 = some (if t q = 59 then 1 else 0, sw_up x 1 31 (nI (q + 1))) := by
  have ht := tM_126 h q
  unfold f_X7_reads_247
  simp only [sw_pt]
  rw [if_neg n10, hs, nI_1, up_eq, nl_1, pn_sub (by omega), show q + 1 - 1 = q by omega, m_let (FM_T (FM_1 (Or.inl rfl)) h) (by omega), bd_s, show (59 : Int32) = nI 59 from rfl]
  by_cases z : t q = 59
  · rw [if_pos z, if_pos (by rw [z])]
  · rw [if_neg z, if_neg (fun w => z ((nI_eq (by omega) (by omega)).mp w))]
/-- a number comes, and is kept -/
theorem m_take {x : sw_St} {n q lo hi : Nat} {t : Nat → Nat} {K : Int32 → sw_St → Option (Int32 × sw_St)} {Q : Int32 × sw_St → Prop} (h : TM x n t) (hq : q < 2 ^ 20) (hs : x 1 31 = nI q) (hlo : lo < 2 ^ 30) (hhi : hi < 2 ^ 30) (h0 : (∀ v e, num t q = some (v, e) → ¬ (lo ≤ v ∧ v ≤ hi)) → ∀ z, FM x z → wp (K (-4) z) Q) (h1 : ∀ v e z, num t q = some (v, e) → lo ≤ v → v ≤ hi → FM x z → z 19 = x 19 → z 1 33 = x 1 33 → z 1 31 = nI e → wp (K (nI v) z) Q) : wp ((f_X7_number x (nI lo) (nI hi)).bind fun r => K r.1 r.2) Q := by
  refine wp_bindM (m_num h hq hs hlo hhi) (fun r hr => ?_)
  obtain ⟨⟨s, es⟩, hr⟩ := hr
  rcases hr with ⟨v, e, n1, n2, n3, n4, n5⟩ | ⟨n1, n2⟩
  · rw [n4]
    refine h1 v e r.2 n1 n2 n3 (by rw [es]; exact FM_1 (Or.inl rfl)) (by rw [es, up_ne (by decide)]) (by rw [es, up_nj (by decide)]) n5
  · rw [n1]
    exact h0 n2 r.2 (by rw [es]; exact FM_1 (Or.inl rfl))
theorem i0 : sw_ix 0 = 0 := by decide
theorem i1 : sw_ix 1 = 1 := by decide
theorem i2 : sw_ix 2 = 2 := by decide
theorem none_b {α : Type} {o : Option (Nat × Nat)} {K : Nat × Nat → Option α} (h : ∀ v e, o = some (v, e) → K (v, e) = none) : o.bind K = none := by
  cases o with
  | none => rfl
  | some w => exact h w.1 w.2 rfl
theorem m_rv0 {x x0 : sw_St} {n q C : Nat} {t : Nat → Nat} (h : TM x n t) (hq : q < 2 ^ 20) (h0 : FM x0 x) (hs : x 1 31 = nI q) : wp (f_X7_reads_96 x 3) (UM x0 (prsV t C q 0)) := by
  have hres : prsV t C q 0 = (num t q).bind (fin1 t C 0) := rfl
  rw [hres]
  unfold f_X7_reads_96
  simp only [sw_pt]
  rw [up_eq, if_neg (show ¬ (3 : Int32) = -4 by decide), if_pos rfl]
  have hF : FM x (sw_up x 1 33 3) := FM_1 (Or.inr rfl)
  refine m_take (lo := 1) (hi := 99) (K := fun v z => f_X7_reads_144 z v 0) (FM_T hF h) hq (by rw [up_nj (by decide)]; exact hs) (by omega) (by omega) (fun hn z hz => ?_) (fun v e z hn v1 v2 hz z19 z33 z31 => ?_)
  · unfold f_X7_reads_144
    rw [ck_t (by decide)]
    simp only [sw_pt]
    rw [i0, up_eq, if_pos rfl]
    refine m_161f (FM_t h0 (FM_t hF (FM_t hz FM_19))) (none_b (fun v e hv => ?_))
    unfold fin1
    rw [if_neg (fun w => hn v e hv ⟨w.2.1, w.2.2⟩)]
  · obtain ⟨b1, b2, b3, b4⟩ := num_bd h.2.2.2.2 hn
    have hn2 := h.2.1
    unfold f_X7_reads_144
    rw [ck_t (by decide)]
    simp only [sw_pt]
    rw [i0, up_eq, if_neg (pn_neg (by omega))]
    have h33 : sw_up z 19 0 (nI v) 1 33 = 3 := by rw [up_ne (by decide), z33, up_eq]
    have hT := FM_T (FM_t hF (FM_t hz (FM_19 (j := 0) (v := nI v)))) h
    unfold f_X7_reads_161
    rw [if_neg n10, h33, if_pos (by decide)]
    unfold f_X7_reads_204
    rw [if_neg n10, h33, if_neg (by decide), m_247 (q := e) hT (by omega) (by rw [up_ne (by decide)]; exact z31), hn]
    refine wp_some ?_
    show UM x0 (fin1 t C 0 (v, e)) _
    have hFF : FM x0 (sw_up (sw_up z 19 0 (nI v)) 1 31 (nI (e + 1))) := FM_t h0 (FM_t hF (FM_t hz (FM_t FM_19 (FM_1 (Or.inl rfl)))))
    unfold fin1
    dsimp only
    by_cases zz : t e = 59
    · rw [if_pos zz, if_pos ⟨zz, v1, v2⟩]
      refine ⟨hFF, fun w => (by cases w), fun w hw => ?_⟩
      cases hw
      exact ⟨rfl, by dsimp only; rw [up_nj (by decide)]; exact h33, by dsimp only; rw [up_ne (by decide), up_eq], fun w => absurd rfl w, fun w => absurd (show (0 : Nat) = 2 from w) (by decide), by dsimp only; rw [up_eq]⟩
    · rw [if_neg zz, if_neg (fun w => zz w.1)]
      exact UM_0 hFF rfl rfl
theorem m_rv1 {x x0 : sw_St} {n q v C : Nat} {t : Nat → Nat} (h : TM x n t) (hq : q < 2 ^ 20) (h0 : FM x0 x) (hs : x 1 31 = nI q) (hv2 : v = 1 ∨ v = 3) (hC : 1 ≤ C ∧ C ≤ 4) (hx : x 1 0 = nI C) : wp (f_X7_reads_96 x (nI (v - 1))) (UM x0 (prsV t C q v)) := by
  have hres : prsV t C q v = (num t q).bind fun a => (num t a.2).bind (fin2 t C v a) := by
    unfold prsV
    rw [if_neg (by omega), if_neg (by omega), if_neg (by omega)]
  have emv : mv v = v - 1 := by
    unfold mv
    rw [if_neg (by omega)]
  rw [hres]
  unfold f_X7_reads_96
  simp only [sw_pt]
  rw [up_eq, if_neg (pn_neg (by omega)), if_neg (by rcases hv2 with rfl | rfl <;> decide), up_nj (by decide), hx, nl_1, pn_sub (by omega)]
  have hF : FM x (sw_up x 1 33 (nI (v - 1))) := FM_1 (Or.inr rfl)
  refine m_take (lo := 0) (hi := C - 1) (K := fun a z => f_X7_reads_144 z a 0) (FM_T hF h) hq (by rw [up_nj (by decide)]; exact hs) (by omega) (by omega) (fun hn z hz => ?_) (fun a e z hn v1 v2 hz z19 z33 z31 => ?_)
  · unfold f_X7_reads_144
    rw [ck_t (by decide)]
    simp only [sw_pt]
    rw [i0, up_eq, if_pos rfl]
    refine m_161f (FM_t h0 (FM_t hF (FM_t hz FM_19))) (none_b (fun v e hv => none_b (fun v' e' hv' => ?_)))
    unfold fin2
    rw [if_neg (fun w => hn v e hv ⟨Nat.zero_le _, by have := w.2.1; dsimp only at this; omega⟩)]
  · obtain ⟨b1, b2, b3, b4⟩ := num_bd h.2.2.2.2 hn
    have hn2 := h.2.1
    unfold f_X7_reads_144
    rw [ck_t (by decide)]
    simp only [sw_pt]
    rw [i0, up_eq, if_neg (pn_neg (by omega))]
    have h33 : sw_up z 19 0 (nI a) 1 33 = nI (v - 1) := by rw [up_ne (by decide), z33, up_eq]
    have hF2 : FM x (sw_up z 19 0 (nI a)) := FM_t hF (FM_t hz FM_19)
    have hT := FM_T hF2 h
    have e1 : ((num t q).bind fun a => (num t a.2).bind (fin2 t C v a)) = (num t e).bind (fin2 t C v (a, e)) := by rw [hn]; rfl
    rw [e1]
    unfold f_X7_reads_161
    rw [if_neg n10, h33, if_neg (by rcases hv2 with rfl | rfl <;> decide)]
    simp only [sw_pt]
    refine m_take (q := e) (lo := 0) (hi := 7) (K := fun b z => if sw_up z 19 (sw_ix 1) b 19 (sw_ix 1) = -4 then f_X7_reads_203 (sw_up z 19 (sw_ix 1) b) 0 else f_X7_reads_203 (sw_up z 19 (sw_ix 1) b) 1) hT (by omega) (by rw [up_ne (by decide)]; exact z31) (by omega) (by omega) (fun hn' z' hz' => ?_) (fun a' e' z' hn' v1' v2' hz' z19' z33' z31' => ?_)
    · rw [i1, up_eq, if_pos rfl]
      refine m_204f (FM_t h0 (FM_t hF2 (FM_t hz' FM_19))) (none_b (fun v' e' hv' => ?_))
      unfold fin2
      rw [if_neg (fun w => hn' v' e' hv' ⟨Nat.zero_le _, by have := w.2.2; dsimp only at this; omega⟩)]
    · obtain ⟨c1, c2, c3, c4⟩ := num_bd h.2.2.2.2 hn'
      rw [i1, up_eq, if_neg (pn_neg (by omega))]
      have h33' : sw_up z' 19 1 (nI a') 1 33 = nI (v - 1) := by rw [up_ne (by decide), z33']; exact h33
      have hF3 : FM x (sw_up z' 19 1 (nI a')) := FM_t hF2 (FM_t hz' FM_19)
      unfold f_X7_reads_203 f_X7_reads_204
      rw [if_neg n10, h33', if_neg (by rcases hv2 with rfl | rfl <;> decide), m_247 (q := e') (FM_T hF3 h) (by omega) (by rw [up_ne (by decide)]; exact z31'), hn']
      refine wp_some ?_
      show UM x0 (fin2 t C v (a, e) (a', e')) _
      have hFF : FM x0 (sw_up (sw_up z' 19 1 (nI a')) 1 31 (nI (e' + 1))) := FM_t h0 (FM_t hF3 (FM_1 (Or.inl rfl)))
      unfold fin2
      dsimp only
      by_cases zz : t e' = 59
      · rw [if_pos zz, if_pos ⟨zz, by omega, by omega⟩]
        refine ⟨hFF, fun w => (by cases w), fun w hw => ?_⟩
        cases hw
        refine ⟨rfl, ?_, ?_, fun _ => ?_, fun w => ?_, ?_⟩
        · dsimp only; rw [up_nj (by decide), h33', emv]
        · dsimp only; rw [up_ne (by decide), up_nj (by decide), z19', up_eq]
        · dsimp only; rw [up_ne (by decide), up_eq]
        · dsimp only at w; omega
        · dsimp only; rw [up_eq]
      · rw [if_neg zz, if_neg (fun w => zz w.1)]
        exact UM_0 hFF rfl rfl
theorem m_rv2 {x x0 : sw_St} {n q C : Nat} {t : Nat → Nat} (h : TM x n t) (hq : q < 2 ^ 20) (h0 : FM x0 x) (hs : x 1 31 = nI q) (hC : 1 ≤ C ∧ C ≤ 4) (hx : x 1 0 = nI C) : wp (f_X7_reads_96 x 1) (UM x0 (prsV t C q 2)) := by
  have hres : prsV t C q 2 = (num t q).bind fun a => (num t a.2).bind fun b => (num t b.2).bind (fin3 t C 2 a b) := rfl
  rw [hres]
  unfold f_X7_reads_96
  simp only [sw_pt]
  rw [up_eq, if_neg (show ¬ (1 : Int32) = -4 by decide), if_neg (show ¬ (1 : Int32) = 3 by decide), up_nj (by decide), hx]
  have eC : nI C - 1 = nI (C - 1) := by rw [nl_1, pn_sub (by omega)]
  rw [eC]
  have hF : FM x (sw_up x 1 33 1) := FM_1 (Or.inr rfl)
  refine m_take (lo := 0) (hi := C - 1) (K := fun a z => f_X7_reads_144 z a 0) (FM_T hF h) hq (by rw [up_nj (by decide)]; exact hs) (by omega) (by omega) (fun hn z hz => ?_) (fun a e z hn v1 v2 hz z19 z33 z31 => ?_)
  · unfold f_X7_reads_144
    rw [ck_t (by decide)]
    simp only [sw_pt]
    rw [i0, up_eq, if_pos rfl]
    refine m_161f (FM_t h0 (FM_t hF (FM_t hz FM_19))) (none_b (fun v e hv => none_b (fun v' e' hv' => none_b (fun v2 e2 hv2 => ?_))))
    unfold fin3
    rw [if_neg (fun w => hn v e hv ⟨Nat.zero_le _, by have := w.2.1; dsimp only at this; omega⟩)]
  · obtain ⟨b1, b2, b3, b4⟩ := num_bd h.2.2.2.2 hn
    have hn2 := h.2.1
    unfold f_X7_reads_144
    rw [ck_t (by decide)]
    simp only [sw_pt]
    rw [i0, up_eq, if_neg (pn_neg (by omega))]
    have h33 : sw_up z 19 0 (nI a) 1 33 = 1 := by rw [up_ne (by decide), z33, up_eq]
    have hF2 : FM x (sw_up z 19 0 (nI a)) := FM_t hF (FM_t hz FM_19)
    have hT := FM_T hF2 h
    have e1 : ((num t q).bind fun a => (num t a.2).bind fun b => (num t b.2).bind (fin3 t C 2 a b)) = (num t e).bind fun b => (num t b.2).bind (fin3 t C 2 (a, e) b) := by rw [hn]; rfl
    rw [e1]
    unfold f_X7_reads_161
    rw [if_neg n10, h33, if_neg (by decide)]
    simp only [sw_pt]
    refine m_take (q := e) (lo := 0) (hi := 7) (K := fun b z => if sw_up z 19 (sw_ix 1) b 19 (sw_ix 1) = -4 then f_X7_reads_203 (sw_up z 19 (sw_ix 1) b) 0 else f_X7_reads_203 (sw_up z 19 (sw_ix 1) b) 1) hT (by omega) (by rw [up_ne (by decide)]; exact z31) (by omega) (by omega) (fun hn' z' hz' => ?_) (fun a' e' z' hn' v1' v2' hz' z19' z33' z31' => ?_)
    · rw [i1, up_eq, if_pos rfl]
      refine m_204f (FM_t h0 (FM_t hF2 (FM_t hz' FM_19))) (none_b (fun v' e' hv' => none_b (fun v2 e2 hv2 => ?_)))
      unfold fin3
      rw [if_neg (fun w => hn' v' e' hv' ⟨Nat.zero_le _, by have := w.2.2; dsimp only at this; omega⟩)]
    · obtain ⟨c1, c2, c3, c4⟩ := num_bd h.2.2.2.2 hn'
      rw [i1, up_eq, if_neg (pn_neg (by omega))]
      have h33' : sw_up z' 19 1 (nI a') 1 33 = 1 := by rw [up_ne (by decide), z33']; exact h33
      have hF3 : FM x (sw_up z' 19 1 (nI a')) := FM_t hF2 (FM_t hz' FM_19)
      have e2 : ((num t e).bind fun b => (num t b.2).bind (fin3 t C 2 (a, e) b)) = (num t e').bind (fin3 t C 2 (a, e) (a', e')) := by rw [hn']; rfl
      rw [e2]
      unfold f_X7_reads_203 f_X7_reads_204
      rw [if_neg n10, h33', if_pos rfl]
      simp only [sw_pt]
      refine m_take (q := e') (lo := 0) (hi := 9999) (K := fun b z => if sw_up z 19 (sw_ix 2) b 19 (sw_ix 2) = -4 then f_X7_reads_246 (sw_up z 19 (sw_ix 2) b) 0 else f_X7_reads_246 (sw_up z 19 (sw_ix 2) b) 1) (FM_T hF3 h) (by omega) (by rw [up_ne (by decide)]; exact z31') (by omega) (by omega) (fun hn'' z'' hz'' => ?_) (fun a2 e2 z2 hn'' v1'' v2'' hz'' z19'' z33'' z31'' => ?_)
      · rw [i2, up_eq, if_pos rfl]
        refine m_247f (FM_t h0 (FM_t hF3 (FM_t hz'' FM_19))) (none_b (fun v' e' hv' => ?_))
        obtain ⟨_, _, _, d4⟩ := num_bd h.2.2.2.2 hv'
        exact absurd ⟨Nat.zero_le _, d4⟩ (hn'' v' e' hv')
      · obtain ⟨d1, d2, d3, d4⟩ := num_bd h.2.2.2.2 hn''
        rw [i2, up_eq, if_neg (pn_neg (by omega))]
        have h33'' : sw_up z2 19 2 (nI a2) 1 33 = 1 := by rw [up_ne (by decide), z33'']; exact h33'
        have hF4 : FM x (sw_up z2 19 2 (nI a2)) := FM_t hF3 (FM_t hz'' FM_19)
        unfold f_X7_reads_246
        rw [m_247 (q := e2) (FM_T hF4 h) (by omega) (by rw [up_ne (by decide)]; exact z31''), hn'']
        refine wp_some ?_
        show UM x0 (fin3 t C 2 (a, e) (a', e') (a2, e2)) _
        have hFF : FM x0 (sw_up (sw_up z2 19 2 (nI a2)) 1 31 (nI (e2 + 1))) := FM_t h0 (FM_t hF4 (FM_1 (Or.inl rfl)))
        unfold fin3
        dsimp only
        by_cases zz : t e2 = 59
        · rw [if_pos zz, if_pos ⟨zz, by omega, by omega⟩]
          refine ⟨hFF, fun w => (by cases w), fun w hw => ?_⟩
          cases hw
          refine ⟨rfl, ?_, ?_, fun _ => ?_, fun w => ?_, ?_⟩
          · dsimp only; rw [up_nj (by decide), h33'']; rfl
          · dsimp only; rw [up_ne (by decide), up_nj (by decide), z19'', up_nj (by decide), z19', up_eq]
          · dsimp only; rw [up_ne (by decide), up_nj (by decide), z19'', up_eq]
          · dsimp only; rw [up_ne (by decide), up_eq]
          · dsimp only; rw [up_eq]
        · rw [if_neg zz, if_neg (fun w => zz w.1)]
          exact UM_0 hFF rfl rfl
theorem lgc_0 (a b : Int64) : lg_cmp a b = 0 ↔ a = b := by
  unfold lg_cmp
  by_cases h : a > b
  · rw [if_pos h]
    refine ⟨fun z => absurd z (by decide), fun z => ?_⟩
    rw [z] at h
    exact absurd (Int64.lt_iff_toInt_lt.mp h) (by omega)
  · rw [if_neg h]
    by_cases h2 : a = b
    · rw [if_pos h2]
      exact ⟨fun _ => h2, fun _ => rfl⟩
    · rw [if_neg h2]
      exact ⟨fun z => absurd z (by decide), fun z => absurd z h2⟩
theorem m_reads {y : sw_St} {n p C : Nat} {t : Nat → Nat} (h : TM y n t) (hp : p ≤ n) (hs : y 1 31 = nI p) (hC : 1 ≤ C ∧ C ≤ 4) (hx : y 1 0 = nI C) : wp (f_X7_reads y) (UM y (prs t C p)) := by
  obtain ⟨r1, r2⟩ := run_n h.2.2.2.2 hp h.2.1
  have hn := h.2.1
  have ht := tM_126 h
  have hw : f_X7_word y = some (lN (hN t p (runL isSm t 300 p)), sw_up y 1 31 (nI (p + runL isSm t 300 p))) := by
    have := m_word_go h hp sw_fuel 0 (Nat.zero_le _) (by unfold sw_fuel; omega)
    rw [Nat.add_zero, ← hs, up_self2] at this
    exact this
  have hsm : ∀ i, i < runL isSm t 300 p → 97 ≤ t (p + i) ∧ t (p + i) ≤ 122 := fun i hi => by
    have := run_all (f := isSm) (t := t) 300 p i hi
    unfold isSm at this
    simpa using this
  unfold prs
  generalize runL isSm t 300 p = m at *
  have hlt := hN_lt (p := p) ht m
  have hF : FM y (sw_up y 1 31 (nI (p + m))) := FM_1 (Or.inl rfl)
  have hT := FM_T hF h
  have w1 : f_X7_wordOf (sw_up y 1 31 (nI (p + m))) 114 101 97 100 = some (lN 357970) := by rfl
  have w2 : f_X7_wordOf (sw_up y 1 31 (nI (p + m))) 115 116 111 114 = some (lN 388980) := by rfl
  have w3 : f_X7_wordOf (sw_up y 1 31 (nI (p + m))) 100 114 111 112 = some (lN 92275) := by rfl
  have w4 : f_X7_wordOf (sw_up y 1 31 (nI (p + m))) 116 117 114 110 = some (lN 409469) := by rfl
  have w5 : (27 : Int64) * lN 388980 + (5 : Int64) = lN 10502465 := by rfl
  have sT : sp t p m 105 = true ↔ _ := sp_4 (a := 116) (b := 117) (c := 114) (d := 110) ht (by decide) (by decide) (by decide) (by decide) (by decide)
  have sR : sp t p m 106 = true ↔ _ := sp_4 (a := 114) (b := 101) (c := 97) (d := 100) ht (by decide) (by decide) (by decide) (by decide) (by decide)
  have sD : sp t p m 108 = true ↔ _ := sp_4 (a := 100) (b := 114) (c := 111) (d := 112) ht (by decide) (by decide) (by decide) (by decide) (by decide)
  have sS : sp t p m 107 = true ↔ _ := sp_5 ht
  have nT : hN t p m = 409469 ↔ _ := hN_4 (A := 20) (B := 21) (C := 18) (D := 14) hsm (by omega) (by omega) (by omega) (by omega)
  have nR : hN t p m = 357970 ↔ _ := hN_4 (A := 18) (B := 5) (C := 1) (D := 4) hsm (by omega) (by omega) (by omega) (by omega)
  have nD : hN t p m = 92275 ↔ _ := hN_4 (A := 4) (B := 18) (C := 15) (D := 16) hsm (by omega) (by omega) (by omega) (by omega)
  have nS := hN_5 hsm
  unfold f_X7_reads
  rw [hw, bd_s]
  dsimp only
  rw [w1, w2, w3, w4]
  simp only [bd_s]
  rw [w5]
  have q1 : lg_cmp (lN (hN t p m)) (lN 357970) = 0 ↔ sp t p m 106 = true := by rw [lgc_0, pk_lEQ (by omega) (by omega), nR, sR]
  have q2 : lg_cmp (lN (hN t p m)) (lN 10502465) = 0 ↔ sp t p m 107 = true := by rw [lgc_0, pk_lEQ (by omega) (by omega), nS, sS]
  have q3 : lg_cmp (lN (hN t p m)) (lN 92275) = 0 ↔ sp t p m 108 = true := by rw [lgc_0, pk_lEQ (by omega) (by omega), nD, sD]
  have q4 : lg_cmp (lN (hN t p m)) (lN 409469) = 0 ↔ sp t p m 105 = true := by rw [lgc_0, pk_lEQ (by omega) (by omega), nT, sT]
  have hu : sw_up y 1 31 (nI (p + m)) 1 31 = nI (p + m) := up_eq
  have hu0 : sw_up y 1 31 (nI (p + m)) 1 0 = nI C := by rw [up_nj (by decide)]; exact hx
  unfold vb
  by_cases z1 : sp t p m 106 = true
  · have z0 : ¬ sp t p m 105 = true := fun w => by
      have a1 := sT.mp w
      have a2 := sR.mp z1
      omega
    rw [if_pos (q1.mpr z1), if_neg z0, if_pos z1]
    exact m_rv1 (v := 1) hT (by omega) hF hu (Or.inl rfl) hC hu0
  · rw [if_neg (fun w => z1 (q1.mp w))]
    by_cases z2 : sp t p m 107 = true
    · have z0 : ¬ sp t p m 105 = true := fun w => by
        have a1 := sT.mp w
        have a2 := sS.mp z2
        omega
      rw [if_pos (q2.mpr z2), if_neg z0, if_neg z1, if_pos z2]
      exact m_rv2 hT (by omega) hF hu hC hu0
    · rw [if_neg (fun w => z2 (q2.mp w))]
      by_cases z3 : sp t p m 108 = true
      · have z0 : ¬ sp t p m 105 = true := fun w => by
          have a1 := sT.mp w
          have a2 := sD.mp z3
          omega
        rw [if_pos (q3.mpr z3), if_neg z0, if_neg z1, if_neg z2, if_pos z3]
        exact m_rv1 (v := 3) hT (by omega) hF hu (Or.inr rfl) hC hu0
      · rw [if_neg (fun w => z3 (q3.mp w))]
        by_cases z0 : sp t p m 105 = true
        · rw [if_pos (q4.mpr z0), if_pos z0]
          exact m_rv0 hT (by omega) hF hu
        · rw [if_neg (fun w => z0 (q4.mp w)), if_neg z0, if_neg z1, if_neg z2, if_neg z3]
          unfold f_X7_reads_96
          simp only [sw_pt]
          rw [up_eq, if_pos rfl]
          exact wp_some (UM_0 (FM_t hF (FM_1 (Or.inr rfl))) rfl rfl)
