/-! PURE: lists of records, by their members -/
theorem ixf_cons (a : E) (L : List E) (f : Nat) (v : Int32) : ixf (a :: L) f v = if a f = v then some 0 else (ixf L f v).map (· + 1) := by
  unfold ixf
  rw [List.findIdx?_cons]
  by_cases h : a f = v
  · simp [h]
  · simp [h]
theorem how_nil (l : Int32) : howR [] l = 0 := rfl
theorem how_cons (a : E) (L : List E) (l : Int32) : howR (a :: L) l = if a 0 = l then a 2 else howR L l := by
  unfold howR
  rw [ixf_cons]
  by_cases h : a 0 = l
  · rw [if_pos h, if_pos h]
    rfl
  · rw [if_neg h, if_neg h]
    cases ixf L 0 l <;> rfl
theorem val_cons (a : E) (L : List E) (l : Int32) : valR (a :: L) l = if a 0 = l then a 1 else valR L l := by
  unfold valR
  rw [ixf_cons]
  by_cases h : a 0 = l
  · rw [if_pos h, if_pos h]
    rfl
  · rw [if_neg h, if_neg h]
    cases ixf L 0 l <;> rfl
/-- without those -/
def rmv (f : Nat) (v : Int32) (L : List E) : List E := L.filter (fun a => !(a f == v))
theorem mem_rmv {f : Nat} {v : Int32} {L : List E} {e : E} : e ∈ rmv f v L ↔ e ∈ L ∧ e f ≠ v := by
  unfold rmv
  rw [List.mem_filter]
  simp
theorem rmv_sub (f : Nat) (v : Int32) (L : List E) : (rmv f v L).Sublist L := List.filter_sublist
theorem rmv_none {f : Nat} {v : Int32} {L : List E} (h : ∀ e ∈ L, e f ≠ v) : rmv f v L = L := by
  unfold rmv
  exact List.filter_eq_self.mpr (fun e he => by simp [h e he])
theorem er_rmv {f : Nat} : ∀ (L : List E) (k : Nat), L.Pairwise (fun a b => a f ≠ b f) → k < L.length → L.eraseIdx k = rmv f (getE L k f) L
  | [], k, _, h => by simp at h
  | a :: L, 0, hp, _ => by
    have hd := (List.pairwise_cons.mp hp).1
    have : rmv f (a f) (a :: L) = rmv f (a f) L := by
      unfold rmv
      rw [List.filter_cons]
      simp
    show L = rmv f (a f) (a :: L)
    rw [this, rmv_none (fun e he => Ne.symm (hd e he))]
  | a :: L, k + 1, hp, h => by
    have hk : k < L.length := by simpa using h
    have ih := er_rmv L k (List.pairwise_cons.mp hp).2 hk
    have hd := (List.pairwise_cons.mp hp).1 (getE L k) (List.mem_of_getElem? (getE_t hk))
    have hg : getE (a :: L) (k + 1) = getE L k := rfl
    rw [List.eraseIdx_cons_succ, hg, ih]
    show a :: rmv f (getE L k f) L = rmv f (getE L k f) (a :: L)
    unfold rmv
    rw [List.filter_cons, if_pos (by simpa using hd)]
theorem del_rmv {L : List E} {v : Int32} (hp : L.Pairwise (fun a b => a 0 ≠ b 0)) : del L v = rmv 0 v L := by
  unfold del
  cases h : ixf L 0 v with
  | none => exact (rmv_none (ixf_none h)).symm
  | some k =>
    obtain ⟨e, h1, h2, h3⟩ := ixf_some h
    show L.eraseIdx k = _
    rw [er_rmv L k hp h3, getE_s h1, h2]
theorem how_rmv (v l : Int32) : ∀ (L : List E), howR (rmv 0 v L) l = if l = v then 0 else howR L l
  | [] => by show howR [] l = _; rw [how_nil]; split <;> rfl
  | a :: L => by
    have ih := how_rmv v l L
    unfold rmv at ih ⊢
    rw [List.filter_cons]
    by_cases h : a 0 = v
    · rw [if_neg (by simp [h]), ih, how_cons]
      by_cases q : l = v
      · rw [if_pos q, if_pos q]
      · rw [if_neg q, if_neg q, if_neg (fun z => q (by rw [← z, h]))]
    · rw [if_pos (by simp [h]), how_cons, how_cons, ih]
      by_cases q : a 0 = l
      · rw [if_pos q, if_pos q, if_neg (fun z => h (by rw [q, z]))]
      · rw [if_neg q, if_neg q]
theorem how_no {L : List E} {l : Int32} (h : ∀ e ∈ L, e 0 ≠ l) : howR L l = 0 := by
  unfold howR
  rw [ixf_no (fun i e' hi => h e' (List.mem_of_getElem? hi))]
theorem how_mem {e : E} : ∀ (L : List E), L.Pairwise (fun a b => a 0 ≠ b 0) → e ∈ L → howR L (e 0) = e 2
  | [], _, h => by cases h
  | a :: L, hp, h => by
    rw [how_cons]
    rcases List.mem_cons.mp h with rfl | h
    · rw [if_pos rfl]
    · rw [if_neg ((List.pairwise_cons.mp hp).1 e h)]
      exact how_mem L (List.pairwise_cons.mp hp).2 h
theorem val_mem {e : E} : ∀ (L : List E), L.Pairwise (fun a b => a 0 ≠ b 0) → e ∈ L → valR L (e 0) = e 1
  | [], _, h => by cases h
  | a :: L, hp, h => by
    rw [val_cons]
    rcases List.mem_cons.mp h with rfl | h
    · rw [if_pos rfl]
    · rw [if_neg ((List.pairwise_cons.mp hp).1 e h)]
      exact val_mem L (List.pairwise_cons.mp hp).2 h
theorem how_push {x : E} {l : Int32} : ∀ (L : List E), (∀ e ∈ L, e 0 ≠ x 0) → howR (L ++ [x]) l = if l = x 0 then x 2 else howR L l
  | [], _ => by
    show howR [x] l = _
    rw [how_cons, how_nil]
    by_cases q : l = x 0
    · rw [if_pos q, if_pos q.symm]
    · rw [if_neg q, if_neg (Ne.symm q)]
  | a :: L, h => by
    show howR (a :: (L ++ [x])) l = _
    rw [how_cons, how_cons, how_push L (fun e he => h e (List.mem_cons_of_mem _ he))]
    have ha := h a List.mem_cons_self
    by_cases q : a 0 = l
    · rw [if_pos q, if_pos q, if_neg (fun z => ha (by rw [q, z]))]
    · rw [if_neg q, if_neg q]
theorem how_in {L : List E} {l : Int32} (h : howR L l ≠ 0) : ∃ e ∈ L, e 0 = l := by
  cases q : ixf L 0 l with
  | none => unfold howR at h; rw [q] at h; exact absurd rfl h
  | some k =>
    obtain ⟨e, h1, h2, h3⟩ := ixf_some q
    exact ⟨e, List.mem_of_getElem? h1, h2⟩
theorem how_sub {L L' : List E} {l : Int32} (hs : L'.Sublist L) (hp : L.Pairwise (fun a b => a 0 ≠ b 0)) : howR L' l = 0 ∨ howR L' l = howR L l := by
  by_cases q : howR L' l = 0
  · exact Or.inl q
  · obtain ⟨e, he, h0⟩ := how_in q
    right
    rw [← h0, how_mem L' (hp.sublist hs) he, how_mem L hp (hs.mem he)]
theorem map_set {α : Type} (g : E → α) {x : E} : ∀ (L : List E) (k : Nat), k < L.length → g x = g (getE L k) → (L.set k x).map g = L.map g
  | [], _, _, _ => rfl
  | a :: L, 0, _, h => by
    show g x :: L.map g = g a :: L.map g
    rw [h]
    rfl
  | a :: L, k + 1, hk, h => by
    show g a :: (L.set k x).map g = g a :: L.map g
    rw [map_set g L k (by simpa using hk) h]
theorem how_set {x : E} {l : Int32} : ∀ (L : List E) (k : Nat), L.Pairwise (fun a b => a 0 ≠ b 0) → k < L.length → x 0 = getE L k 0 → howR (L.set k x) l = if l = x 0 then x 2 else howR L l
  | [], _, _, h, _ => by simp at h
  | a :: L, 0, hp, _, h0 => by
    have h0 : x 0 = a 0 := h0
    show howR (x :: L) l = _
    rw [how_cons, how_cons]
    by_cases q : l = x 0
    · rw [if_pos q, if_pos q.symm]
    · rw [if_neg q, if_neg (Ne.symm q), if_neg (by rw [← h0]; exact Ne.symm q)]
  | a :: L, k + 1, hp, hk, h0 => by
    have hk' : k < L.length := by simpa using hk
    have h0' : x 0 = getE L k 0 := h0
    have ih := how_set (l := l) L k (List.pairwise_cons.mp hp).2 hk' h0'
    have hd := (List.pairwise_cons.mp hp).1 (getE L k) (List.mem_of_getElem? (getE_t hk'))
    show howR (a :: L.set k x) l = _
    rw [how_cons, how_cons, ih]
    by_cases q : a 0 = l
    · rw [if_pos q, if_pos q, if_neg (fun z => hd (by rw [q, z, h0']))]
    · rw [if_neg q, if_neg q]
theorem how_toSh {L : List E} {v l : Int32} (hp : L.Pairwise (fun a b => a 0 ≠ b 0)) (hv : howR L v ≠ 0) : howR (toSh L v) l = if l = v then 1 else howR L l := by
  unfold toSh
  cases h : ixf L 0 v with
  | none => unfold howR at hv; rw [h] at hv; exact absurd rfl hv
  | some k =>
    obtain ⟨e, h1, h2, h3⟩ := ixf_some h
    have e0 : one2 (getE L k) 0 = v := by rw [getE_s h1]; exact h2
    show howR (L.set k _) l = _
    rw [how_set (x := one2 (getE L k)) L k hp h3 rfl, e0]
    rfl
theorem mem_set {x e : E} : ∀ (L : List E) (k : Nat), k < L.length → e ∈ L.set k x → e = x ∨ e ∈ L
  | [], _, h, _ => by simp at h
  | a :: L, 0, _, h => by
    rcases List.mem_cons.mp h with rfl | h
    · exact Or.inl rfl
    · exact Or.inr (List.mem_cons_of_mem _ h)
  | a :: L, k + 1, hk, h => by
    rcases List.mem_cons.mp h with rfl | h
    · exact Or.inr List.mem_cons_self
    · rcases mem_set L k (by simpa using hk) h with q | q
      · exact Or.inl q
      · exact Or.inr (List.mem_cons_of_mem _ q)
/-- pairs of a list depend on what is mapped -/
theorem pw_map {α : Type} {g : E → α} {R : α → α → Prop} {L L' : List E} (h : L'.map g = L.map g) (hp : L.Pairwise (fun a b => R (g a) (g b))) : L'.Pairwise (fun a b => R (g a) (g b)) := by
  have := (List.pairwise_map (f := g) (R := R) (l := L)).mpr hp
  rw [← h] at this
  exact List.pairwise_map.mp this
theorem pw_push {R : E → E → Prop} {L : List E} {x : E} (hp : L.Pairwise R) (h : ∀ e ∈ L, R e x) : (L ++ [x]).Pairwise R := by
  refine List.pairwise_append.mpr ⟨hp, List.pairwise_singleton _ _, fun a ha b hb => ?_⟩
  rw [List.mem_singleton.mp hb]
  exact h a ha
theorem mem_push {L : List E} {x e : E} : e ∈ L ++ [x] ↔ e ∈ L ∨ e = x := by
  rw [List.mem_append, List.mem_singleton]
theorem nb_rmv {L : List E} {c v j : Int32} (h1 : ∀ a ∈ L, a 0 = 3 → a 1 = c → a 2 = v → a 5 = j) (h2 : ∀ a ∈ L, a 5 = j → a 0 = 3 ∧ a 1 = c ∧ a 2 = v) : L.filter (nbP c v) = rmv 5 j L := by
  unfold rmv
  refine List.filter_congr (fun a ha => ?_)
  unfold nbP
  by_cases q : a 5 = j
  · obtain ⟨q0, q1, q2⟩ := h2 a ha q
    simp [q, q0, q1, q2]
  · have : ¬ (a 0 = 3 ∧ a 1 = c ∧ a 2 = v) := fun z => q (h1 a ha z.1 z.2.1 z.2.2)
    by_cases q0 : a 0 = 3
    · by_cases q1 : a 1 = c
      · have q2 : ¬ a 2 = v := fun z => this ⟨q0, q1, z⟩
        simp only [beq_eq_false_iff_ne.mpr q, beq_eq_false_iff_ne.mpr q2, Bool.and_false]
      · simp only [beq_eq_false_iff_ne.mpr q, beq_eq_false_iff_ne.mpr q1, Bool.and_false, Bool.false_and]
    · simp only [beq_eq_false_iff_ne.mpr q, beq_eq_false_iff_ne.mpr q0, Bool.false_and]
