/-! PURE: numbers, the words of the program texts, a logic over them -/
theorem nl_0 : (0 : Int32) = nI 0 := rfl
theorem nl_1 : (1 : Int32) = nI 1 := rfl
theorem nl_2 : (2 : Int32) = nI 2 := rfl
theorem nl_3 : (3 : Int32) = nI 3 := rfl
theorem nl_4 : (4 : Int32) = nI 4 := rfl
theorem nl_5 : (5 : Int32) = nI 5 := rfl
theorem nl_6 : (6 : Int32) = nI 6 := rfl
theorem nl_7 : (7 : Int32) = nI 7 := rfl
theorem nl_8 : (8 : Int32) = nI 8 := rfl
theorem pn_ix {i : Nat} (h : i < 2 ^ 31) : sw_ix (nI i) = i := nI_clamp h
theorem pn_in {i n : Nat} (h : i < n) (hn : n < 2 ^ 31) : sw_in (nI i) n = true := sw_in_i.mpr ⟨nI_pos' (by omega), by rw [pn_ix (by omega)]; exact h⟩
theorem pn_sub {a b : Nat} (h : b ≤ a) : nI a - nI b = nI (a - b) := by
  have e : nI a = nI (a - b) + nI b := by rw [nI_add, Nat.sub_add_cancel h]
  rw [e]
  exact Int32.add_sub_cancel _ _
theorem pn_mul (a b : Nat) : nI a * nI b = nI (a * b) := (Int32.ofNat_mul a b).symm
theorem pn_neg {n : Nat} (h : n < 2 ^ 31) : nI n ≠ -4 := by
  intro e
  have h1 := nI_pos' h
  rw [e] at h1
  exact absurd h1 (by decide)
/-- the text comes to an end that Q holds of -/
def wp {β : Type} (o : Option β) (Q : β → Prop) : Prop := ∃ b, o = some b ∧ Q b
theorem wp_ck {β : Type} {p : Bool} {o : Option β} {Q : β → Prop} (h : p = true) (k : wp o Q) : wp (sw_ck p o) Q := by
  unfold sw_ck
  rw [if_pos h]
  exact k
theorem wp_bind {α β : Type} {o : Option α} {K : α → Option β} {Q : β → Prop} (k : wp o (fun a => wp (K a) Q)) : wp (o.bind K) Q := by
  obtain ⟨a, e, b, h1, h2⟩ := k
  rw [e]
  exact ⟨b, h1, h2⟩
theorem wp_bindE {α β : Type} {o : Option α} {K : α → Option β} {Q : β → Prop} {a : α} (h : o = some a) (k : wp (K a) Q) : wp (o.bind K) Q := by
  rw [h]
  exact k
theorem wp_bindM {α β : Type} {o : Option α} {K : α → Option β} {P : α → Prop} {Q : β → Prop} (h : wp o P) (k : ∀ a, P a → wp (K a) Q) : wp (o.bind K) Q := by
  obtain ⟨a, e, h1⟩ := h
  rw [e]
  exact k a h1
theorem wp_pt {β : Type} {σ : sw_St} {k j : Nat} {v : Int32} {K : sw_St → Option β} {Q : β → Prop} (h : wp (K (sw_up σ k j v)) Q) : wp (sw_pt σ k j v K) Q := h
theorem wp_ite {β : Type} {c : Prop} {i : Decidable c} {a b : Option β} {Q : β → Prop} (h1 : c → wp a Q) (h2 : ¬ c → wp b Q) : wp (@ite _ c i a b) Q := by
  by_cases h : c
  · rw [if_pos h]; exact h1 h
  · rw [if_neg h]; exact h2 h
theorem wp_t {β : Type} {c : Prop} {i : Decidable c} {a b : Option β} {Q : β → Prop} (h : c) (k : wp a Q) : wp (@ite _ c i a b) Q := by rw [if_pos h]; exact k
theorem wp_f {β : Type} {c : Prop} {i : Decidable c} {a b : Option β} {Q : β → Prop} (h : ¬ c) (k : wp b Q) : wp (@ite _ c i a b) Q := by rw [if_neg h]; exact k
theorem wp_some {β : Type} {b : β} {Q : β → Prop} (h : Q b) : wp (some b) Q := ⟨b, rfl, h⟩
theorem wp_mono {β : Type} {o : Option β} {P Q : β → Prop} (h : wp o P) (k : ∀ b, P b → Q b) : wp o Q := by
  obtain ⟨b, e, hb⟩ := h
  exact ⟨b, e, k b hb⟩
theorem wp_eq {β : Type} {o : Option β} {b : β} (h : wp o (fun r => r = b)) : o = some b := by
  obtain ⟨r, e, rfl⟩ := h
  exact e
theorem wp_of {β : Type} {o : Option β} {b : β} {Q : β → Prop} (h : o = some b) (hq : Q b) : wp o Q := ⟨b, h, hq⟩
theorem ck_t {β : Type} {p : Bool} {o : Option β} (h : p = true) : sw_ck p o = o := by
  unfold sw_ck
  rw [if_pos h]
theorem bd_s {α β : Type} {a : α} {K : α → Option β} : (some a).bind K = K a := rfl
-- the memory
theorem up_ne {σ : sw_St} {k j a : Nat} {v : Int32} (h : a ≠ k) : sw_up σ k j v a = σ a := by
  unfold sw_up
  rw [if_neg h]
theorem up_eq {σ : sw_St} {k j : Nat} {v : Int32} : sw_up σ k j v k j = v := by
  unfold sw_up
  rw [if_pos rfl, if_pos rfl]
theorem up_nj {σ : sw_St} {k j b : Nat} {v : Int32} (h : b ≠ j) : sw_up σ k j v k b = σ k b := by
  unfold sw_up
  rw [if_pos rfl, if_neg h]
theorem up_at {σ : sw_St} {k j a b : Nat} {v : Int32} : sw_up σ k j v a b = if a = k ∧ b = j then v else σ a b := by
  unfold sw_up
  by_cases h : a = k
  · subst h
    by_cases h2 : b = j
    · rw [if_pos rfl, if_pos h2, if_pos ⟨rfl, h2⟩]
    · rw [if_pos rfl, if_neg h2, if_neg (fun q => h2 q.2)]
  · rw [if_neg h, if_neg (fun q => h q.1)]
-- the boolean answers
theorem fz_0 : sw_fz .boolean 0 = true := by decide
theorem fz_1 : sw_fz .boolean 1 = true := by decide
theorem lgc_lt (a b : Int64) : lg_cmp a b < 0 ↔ a.toInt < b.toInt := by
  unfold lg_cmp
  by_cases h : a > b
  · rw [if_pos h]
    have h1 := Int64.lt_iff_toInt_lt.mp h
    exact ⟨fun z => absurd z (by decide), fun z => by omega⟩
  · rw [if_neg h]
    have h1 : ¬ b.toInt < a.toInt := fun z => h (Int64.lt_iff_toInt_lt.mpr z)
    by_cases h2 : a = b
    · rw [if_pos h2, h2]
      exact ⟨fun z => absurd z (by decide), fun z => by omega⟩
    · rw [if_neg h2]
      have h3 : a.toInt ≠ b.toInt := fun z => h2 (Int64.toInt_inj.mp z)
      exact ⟨fun _ => by omega, fun _ => by decide⟩
theorem lgc_gt (a b : Int64) : 0 < lg_cmp a b ↔ b.toInt < a.toInt := by
  unfold lg_cmp
  by_cases h : a > b
  · rw [if_pos h]
    exact ⟨fun _ => Int64.lt_iff_toInt_lt.mp h, fun _ => by decide⟩
  · rw [if_neg h]
    have h1 : ¬ b.toInt < a.toInt := fun z => h (Int64.lt_iff_toInt_lt.mpr z)
    refine ⟨fun z => ?_, fun z => absurd z h1⟩
    split at z <;> exact absurd z (by decide)
/-- in(v, low, high) of ints -/
theorem m_in (y : sw_St) (a : Int32) (lo hi : Int64) : f_X7_in y (Int32.toInt64 a) lo hi = some (if lo.toInt ≤ a.toInt ∧ a.toInt ≤ hi.toInt then 1 else 0) := by
  unfold f_X7_in
  have e : (Int32.toInt64 a).toInt = a.toInt := Int32.toInt_toInt64 a
  by_cases h1 : lg_cmp (Int32.toInt64 a) lo < 0
  · have h := (lgc_lt _ _).mp h1
    rw [if_pos h1, if_neg (by omega)]
  · have h : ¬ (Int32.toInt64 a).toInt < lo.toInt := fun z => h1 ((lgc_lt _ _).mpr z)
    rw [if_neg h1]
    by_cases h2 : 0 < lg_cmp (Int32.toInt64 a) hi
    · have h3 := (lgc_gt _ _).mp h2
      rw [if_pos h2, if_neg (by omega)]
    · have h3 : ¬ hi.toInt < (Int32.toInt64 a).toInt := fun z => h2 ((lgc_gt _ _).mpr z)
      rw [if_neg h2, if_pos (by omega)]
theorem b01 (c : Prop) (i : Decidable c) : sw_fz .boolean (@ite _ c i (1 : Int32) 0) = true := by
  by_cases h : c
  · rw [if_pos h]; decide
  · rw [if_neg h]; decide
theorem b0 (c : Prop) (i : Decidable c) : (@ite _ c i (1 : Int32) 0) = 0 ↔ ¬ c := by
  by_cases h : c
  · rw [if_pos h]; exact ⟨fun z => absurd z (by decide), fun z => absurd h z⟩
  · rw [if_neg h]; exact ⟨fun _ => h, fun _ => rfl⟩
/-- a number of a kind -/
def ok (a : Int32) (n : Nat) : Prop := 0 ≤ a.toInt ∧ a.toInt < (n : Int)
theorem ok_ex {a : Int32} {n : Nat} (h : ok a n) (hn : n < 2 ^ 31) : ∃ i, i < n ∧ a = nI i := by
  obtain ⟨h1, h2⟩ := h
  refine ⟨a.toInt.toNat, by omega, ?_⟩
  apply Int32.toInt_inj.mp
  rw [nI_toInt (by omega)]
  omega
theorem ok_nI {i n : Nat} (h : i < n) (hn : n < 2 ^ 31) : ok (nI i) n := by
  unfold ok
  rw [nI_toInt (by omega)]
  omega
/-- isWithin of the class -/
theorem x_within (x : sw_St) (a lo hi : Int32) : f_X6_isWithin x a lo hi = some (if lo.toInt ≤ a.toInt ∧ a.toInt ≤ hi.toInt then 1 else 0) := by
  unfold f_X6_isWithin
  by_cases h1 : a < lo
  · have h := Int32.lt_iff_toInt_lt.mp h1
    rw [if_pos h1, if_neg (by omega)]
  · have h : ¬ a.toInt < lo.toInt := fun z => h1 (Int32.lt_iff_toInt_lt.mpr z)
    rw [if_neg h1]
    by_cases h2 : hi < a
    · have h3 := Int32.lt_iff_toInt_lt.mp h2
      rw [if_pos h2, if_neg (by omega)]
    · have h3 : ¬ hi.toInt < a.toInt := fun z => h2 (Int32.lt_iff_toInt_lt.mpr z)
      rw [if_neg h2, if_pos (by omega)]
