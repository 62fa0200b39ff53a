/-! PURE: loops, counts, orders -/
theorem ck_tt {β : Type} {o : Option β} : sw_ck true o = o := rfl
/-- a loop that looks for the first -/
theorem lp_find {β : Type} {F : Nat → Int32 → Option β} {N : Nat} {P : Nat → Prop} {g : Nat → β} {d : β} (he : ∀ n, F (n + 1) (nI N) = some d) (ht : ∀ n k, k < N → P k → F (n + 1) (nI k) = some (g k)) (hf : ∀ n k, k < N → ¬ P k → F (n + 1) (nI k) = F n (nI (k + 1))) : ∀ n k, k ≤ N → N - k < n → (∃ j, k ≤ j ∧ j < N ∧ P j ∧ (∀ i, k ≤ i → i < j → ¬ P i) ∧ F n (nI k) = some (g j)) ∨ ((∀ i, k ≤ i → i < N → ¬ P i) ∧ F n (nI k) = some d) := by
  intro n
  induction n with
  | zero => intro k _ q; omega
  | succ n ih =>
    intro k hk hn
    by_cases hkN : k = N
    · right
      subst hkN
      exact ⟨fun i _ _ => by omega, he n⟩
    · by_cases hp : P k
      · left
        exact ⟨k, Nat.le_refl _, by omega, hp, fun i _ _ => by omega, ht n k (by omega) hp⟩
      · rw [hf n k (by omega) hp]
        rcases ih (k + 1) (by omega) (by omega) with ⟨j, h1, h2, h3, h4, h5⟩ | ⟨h1, h2⟩
        · left
          refine ⟨j, by omega, h2, h3, fun i hi hj => ?_, h5⟩
          by_cases hik : i = k
          · subst hik; exact hp
          · exact h4 i (by omega) hj
        · right
          refine ⟨fun i hi hj => ?_, h2⟩
          by_cases hik : i = k
          · subst hik; exact hp
          · exact h1 i (by omega) hj
/-- how many of m numbers from k on -/
def cn (P : Nat → Bool) : Nat → Nat → Nat
  | 0, _ => 0
  | m + 1, k => (if P k = true then 1 else 0) + cn P m (k + 1)
theorem lp_cnt {F : Nat → Int32 → Int32 → Option Int32} {N : Nat} {P : Nat → Bool} (he : ∀ n a, F (n + 1) a (nI N) = some a) (hs : ∀ n a k, k < N → F (n + 1) (nI a) (nI k) = F n (nI (a + if P k = true then 1 else 0)) (nI (k + 1))) : ∀ n k a, k ≤ N → N - k < n → F n (nI a) (nI k) = some (nI (a + cn P (N - k) k)) := by
  intro n
  induction n with
  | zero => intro k a _ q; omega
  | succ n ih =>
    intro k a hk hn
    by_cases hkN : k = N
    · subst hkN
      rw [he, Nat.sub_self]
      rfl
    · rw [hs n a k (by omega), ih (k + 1) _ (by omega) (by omega), show N - k = (N - (k + 1)) + 1 by omega]
      show _ = some (nI (a + ((if P k = true then 1 else 0) + cn P (N - (k + 1)) (k + 1))))
      rw [Nat.add_assoc]
/-- a loop that goes on with its memory -/
theorem lp_st {β : Type} {F : Nat → sw_St → Int32 → Option β} {N : Nat} {I : Nat → sw_St → Prop} (hs : ∀ n k x, k < N → I k x → ∃ x', F (n + 1) x (nI k) = F n x' (nI (k + 1)) ∧ I (k + 1) x') : ∀ n k x, k ≤ N → N - k < n → I k x → ∃ m x', F n x (nI k) = F (m + 1) x' (nI N) ∧ I N x' := by
  intro n
  induction n with
  | zero => intro k x _ q; omega
  | succ n ih =>
    intro k x hk hn hI
    by_cases hkN : k = N
    · subst hkN
      exact ⟨n, x, rfl, hI⟩
    · obtain ⟨x', h1, h2⟩ := hs n k x (by omega) hI
      rw [h1]
      exact ih (k + 1) x' (by omega) (by omega) h2
theorem cn_congr {P Q : Nat → Bool} : ∀ (m k : Nat), (∀ i, k ≤ i → i < k + m → P i = Q i) → cn P m k = cn Q m k
  | 0, _, _ => rfl
  | m + 1, k, h => by
    show (if P k = true then 1 else 0) + cn P m (k + 1) = (if Q k = true then 1 else 0) + cn Q m (k + 1)
    rw [h k (Nat.le_refl _) (by omega), cn_congr m (k + 1) (fun i hi hj => h i (by omega) (by omega))]
theorem cn_add {P Q : Nat → Bool} : ∀ (m k : Nat), (∀ i, k ≤ i → i < k + m → ¬ (P i = true ∧ Q i = true)) → cn (fun i => P i || Q i) m k = cn P m k + cn Q m k
  | 0, _, _ => rfl
  | m + 1, k, h => by
    show (if (P k || Q k) = true then 1 else 0) + cn (fun i => P i || Q i) m (k + 1) = ((if P k = true then 1 else 0) + cn P m (k + 1)) + ((if Q k = true then 1 else 0) + cn Q m (k + 1))
    rw [cn_add m (k + 1) (fun i hi hj => h i (by omega) (by omega))]
    have := h k (Nat.le_refl _) (by omega)
    cases hP : P k <;> cases hQ : Q k <;> simp_all <;> omega
theorem cn_none {P : Nat → Bool} : ∀ (m k : Nat), (∀ i, k ≤ i → i < k + m → P i = false) → cn P m k = 0
  | 0, _, _ => rfl
  | m + 1, k, h => by
    show (if P k = true then 1 else 0) + cn P m (k + 1) = 0
    rw [h k (Nat.le_refl _) (by omega), cn_none m (k + 1) (fun i hi hj => h i (by omega) (by omega))]
    rfl
theorem cn_one {P : Nat → Bool} {j : Nat} : ∀ (m k : Nat), k ≤ j → j < k + m → P j = true → (∀ i, k ≤ i → i < k + m → i ≠ j → P i = false) → cn P m k = 1
  | 0, _, h1, h2, _, _ => by omega
  | m + 1, k, h1, h2, hj, h => by
    show (if P k = true then 1 else 0) + cn P m (k + 1) = 1
    by_cases e : k = j
    · subst e
      rw [if_pos hj, cn_none m (k + 1) (fun i hi hj => h i (by omega) (by omega) (by omega))]
    · rw [if_neg (by rw [h k (Nat.le_refl _) (by omega) e]; decide), cn_one m (k + 1) (by omega) (by omega) hj (fun i hi hj => h i (by omega) (by omega))]
theorem cn_le {P : Nat → Bool} : ∀ (m k : Nat), cn P m k ≤ m
  | 0, _ => Nat.le_refl _
  | m + 1, k => by
    show (if P k = true then 1 else 0) + cn P m (k + 1) ≤ m + 1
    have := cn_le (P := P) m (k + 1)
    split <;> omega
/-- slots that a list fills: their number -/
theorem cn_slots {f N : Nat} (hN : N < 2 ^ 31) (p : E → Bool) : ∀ (L : List E), L.Pairwise (fun a b => a f ≠ b f) → (∀ e ∈ L, ∃ j, j < N ∧ e f = nI j) → cn (fun j => L.any (fun e => e f == nI j && p e)) N 0 = L.countP p
  | [], _, _ => cn_none N 0 (fun i _ _ => rfl)
  | a :: L, hp, hj => by
    have ih := cn_slots hN p L (List.pairwise_cons.mp hp).2 (fun e he => hj e (List.mem_cons_of_mem _ he))
    obtain ⟨j, hjN, hja⟩ := hj a List.mem_cons_self
    have hd := (List.pairwise_cons.mp hp).1
    show cn (fun j => (a f == nI j && p a) || L.any (fun e => e f == nI j && p e)) N 0 = _
    rw [cn_add N 0 (fun i _ hi hh => ?_), ih, List.countP_cons]
    · by_cases hpa : p a = true
      · rw [if_pos hpa, cn_one (j := j) N 0 (Nat.zero_le _) (by omega) (by rw [hja, hpa]; simp) (fun i _ hi hij => ?_)]
        · omega
        · rw [hja, hpa]
          have : ¬ nI j = nI i := fun z => hij ((nI_eq (by omega) (by omega)).mp z).symm
          simp [this]
      · rw [if_neg hpa, cn_none N 0 (fun i _ _ => ?_)]
        · omega
        · have : p a = false := by cases h : p a <;> simp_all
          rw [this, Bool.and_false]
    · obtain ⟨h1, h2⟩ := hh
      rw [Bool.and_eq_true, beq_iff_eq] at h1
      rw [List.any_eq_true] at h2
      obtain ⟨e, he, h3⟩ := h2
      rw [Bool.and_eq_true, beq_iff_eq] at h3
      exact hd e he (by rw [h1.1, h3.1])
/-- numbers along a list -/
theorem cn_list (p : E → Bool) : ∀ (L : List E) (P : Nat → Bool) (k : Nat), (∀ (i : Nat) (e : E), L[i]? = some e → P (k + i) = p e) → cn P L.length k = L.countP p
  | [], _, _, _ => rfl
  | a :: L, P, k, h => by
    show (if P k = true then 1 else 0) + cn P L.length (k + 1) = _
    rw [cn_list p L P (k + 1) (fun i e hi => by
      have := h (i + 1) e (by simpa using hi)
      rw [show k + 1 + i = k + (i + 1) by omega]
      exact this), List.countP_cons, show P k = p a from h 0 a rfl]
    omega
theorem cnt_lt {p q : E → Bool} : ∀ (L : List E) (e : E), e ∈ L → (∀ x ∈ L, p x = true → q x = true) → q e = true → p e = false → L.countP p < L.countP q
  | [], e, he, _, _, _ => by cases he
  | a :: L, e, he, h, hq, hp => by
    rw [List.countP_cons, List.countP_cons]
    have hle : L.countP p ≤ L.countP q := List.countP_mono_left (fun x hx => h x (List.mem_cons_of_mem _ hx))
    rcases List.mem_cons.mp he with rfl | he'
    · rw [if_neg (by rw [hp]; decide), if_pos hq]
      omega
    · have := cnt_lt L e he' (fun x hx => h x (List.mem_cons_of_mem _ hx)) hq hp
      have ha := h a List.mem_cons_self
      by_cases hpa : p a = true
      · rw [if_pos hpa, if_pos (ha hpa)]
        omega
      · rw [if_neg hpa]
        omega
/-- how many stand before, by a key -/
def rk (K : E → Int) (L : List E) (e : E) : Nat := L.countP (fun x => decide (K x < K e))
theorem rk_lt {K : E → Int} {L : List E} {a b : E} (ha : a ∈ L) (h : K a < K b) : rk K L a < rk K L b :=
  cnt_lt L a ha (fun x _ hx => by simp at hx ⊢; omega) (by simpa using h) (by simp)
theorem rk_inj {K : E → Int} {L : List E} {a b : E} (ha : a ∈ L) (hb : b ∈ L) (h : rk K L a = rk K L b) : K a = K b := by
  rcases Int.lt_trichotomy (K a) (K b) with h1 | h1 | h1
  · have := rk_lt ha h1; omega
  · exact h1
  · have := rk_lt hb h1; omega
theorem rk_len {K : E → Int} {L : List E} {a : E} (ha : a ∈ L) : rk K L a < L.length := by
  have := cnt_lt (p := fun x => decide (K x < K a)) (q := fun _ => true) L a ha (fun _ _ _ => rfl) rfl (by simp)
  rw [List.countP_true] at this
  exact this
theorem rk_0 {K : E → Int} {L : List E} {a : E} : rk K L a = 0 ↔ ∀ x ∈ L, K a ≤ K x := by
  unfold rk
  rw [List.countP_eq_zero]
  constructor
  · intro h x hx
    have := h x hx
    simp at this
    exact this
  · intro h x hx
    have := h x hx
    simp
    exact this
/-- along a list that rises -/
theorem rk_up {K : E → Int} : ∀ (L : List E) (i : Nat) (e : E), L.Pairwise (fun a b => K a < K b) → L[i]? = some e → rk K L e = i
  | [], i, e, _, h => by simp at h
  | a :: L, 0, e, hp, h => by
    simp at h
    subst h
    exact rk_0.mpr (fun x hx => by
      rcases List.mem_cons.mp hx with rfl | hx
      · exact Int.le_refl _
      · have := (List.pairwise_cons.mp hp).1 x hx; omega)
  | a :: L, i + 1, e, hp, h => by
    have h' : L[i]? = some e := by simpa using h
    have := rk_up L i e (List.pairwise_cons.mp hp).2 h'
    unfold rk at this ⊢
    rw [List.countP_cons, this, if_pos]
    have := (List.pairwise_cons.mp hp).1 e (List.mem_of_getElem? h')
    simpa using this
/-- each rank is somebody's -/
theorem rk_ex {K : E → Int} {L : List E} (hd : L.Pairwise (fun a b => K a ≠ K b)) {v : Nat} (hv : v < L.length) : ∃ e ∈ L, rk K L e = v := by
  have hperm := List.mergeSort_perm L (fun a b => decide (K a ≤ K b))
  have hsort : (L.mergeSort (fun a b => decide (K a ≤ K b))).Pairwise (fun a b => decide (K a ≤ K b) = true) := List.pairwise_mergeSort (le := fun a b => decide (K a ≤ K b)) (fun a b c h1 h2 => by simp at *; omega) (fun a b => by simp; omega) L
  have hd2 : (L.mergeSort (fun a b => decide (K a ≤ K b))).Pairwise (fun a b => K a ≠ K b) := (hperm.pairwise_iff (fun h => Ne.symm h)).mpr hd
  have hlt : (L.mergeSort (fun a b => decide (K a ≤ K b))).Pairwise (fun a b => K a < K b) := hsort.imp₂ (fun a b h1 h2 => by simp at h1; omega) hd2
  have hl : v < (L.mergeSort (fun a b => decide (K a ≤ K b))).length := by rw [hperm.length_eq]; exact hv
  refine ⟨(L.mergeSort (fun a b => decide (K a ≤ K b)))[v], hperm.mem_iff.mp (List.getElem_mem hl), ?_⟩
  have := rk_up _ v _ hlt (List.getElem?_eq_getElem hl)
  unfold rk at this ⊢
  rw [hperm.countP_eq] at this
  exact this
