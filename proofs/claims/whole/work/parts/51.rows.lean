/-! PURE: rows of records in an array -/
abbrev E : Type := Nat → Int32
/-- the records of l stand in the array A from base on, st numbers each -/
def enc (y : sw_St) (A st base : Nat) (l : List E) : Prop := ∀ (i : Nat) (e : E), l[i]? = some e → ∀ f, f < st → y A (base + st * i + f) = e f
/-- numbers of an array move down -/
def shf (y : sw_St) (A d p q : Nat) : sw_St := fun a b => if a = A ∧ p ≤ b ∧ b < q then y a (b + d) else y a b
theorem shf_ne {y : sw_St} {A d p q a : Nat} (h : a ≠ A) : shf y A d p q a = y a := by
  funext b
  unfold shf
  rw [if_neg (fun z => h z.1)]
theorem shf_nil {y : sw_St} {A d p q : Nat} (h : q ≤ p) : shf y A d p q = y := by
  funext a b
  unfold shf
  rw [if_neg (by omega)]
theorem shf_step {y : sw_St} {A d p q : Nat} (h : p < q) (hd : 0 < d) : shf (sw_up y A p (y A (p + d))) A d (p + 1) q = shf y A d p q := by
  funext a b
  unfold shf
  by_cases ha : a = A
  · subst ha
    by_cases hb : b = p
    · subst hb
      rw [if_neg (by omega), if_pos ⟨rfl, Nat.le_refl _, h⟩, up_eq]
    · by_cases h1 : p + 1 ≤ b ∧ b < q
      · rw [if_pos ⟨rfl, h1⟩, if_pos ⟨rfl, by omega, h1.2⟩, up_nj (by omega)]
      · rw [if_neg (fun z => h1 z.2), if_neg (by omega), up_nj hb]
  · rw [if_neg (fun z => ha z.1), if_neg (fun z => ha z.1), up_ne ha]
theorem enc_erase {y : sw_St} {A st base i : Nat} {l : List E} (h : enc y A st base l) (hi : i < l.length) : enc (shf y A st (base + st * i) (base + st * (l.length - 1))) A st base (l.eraseIdx i) := by
  intro j e hj f hf
  have hlen : j < l.length - 1 := by
    have := (List.getElem?_eq_some_iff.mp hj).1
    rw [List.length_eraseIdx_of_lt hi] at this
    exact this
  rw [List.getElem?_eraseIdx] at hj
  unfold shf
  by_cases hji : j < i
  · rw [if_pos hji] at hj
    have h1 : st * (j + 1) ≤ st * i := Nat.mul_le_mul_left st hji
    rw [Nat.mul_succ] at h1
    rw [if_neg (by omega)]
    exact h j e hj f hf
  · rw [if_neg hji] at hj
    have h1 : st * i ≤ st * j := Nat.mul_le_mul_left st (by omega)
    have h2 : st * (j + 1) ≤ st * (l.length - 1) := Nat.mul_le_mul_left st (by omega)
    rw [Nat.mul_succ] at h2
    rw [if_pos ⟨rfl, by omega, by omega⟩]
    have h3 := h (j + 1) e hj f hf
    rw [Nat.mul_succ] at h3
    rw [show base + st * j + f + st = base + (st * j + st) + f by omega]
    exact h3
theorem enc_keep {y y' : sw_St} {A st base : Nat} {l : List E} (h : enc y A st base l) (hy : ∀ b, base ≤ b → b < base + st * l.length → y' A b = y A b) : enc y' A st base l := by
  intro i e hi f hf
  have hl := (List.getElem?_eq_some_iff.mp hi).1
  have h1 : st * (i + 1) ≤ st * l.length := Nat.mul_le_mul_left st hl
  rw [Nat.mul_succ] at h1
  rw [hy _ (by omega) (by omega)]
  exact h i e hi f hf
theorem enc_push {y : sw_St} {A st base : Nat} {l : List E} {e : E} (h : enc y A st base l) (he : ∀ f, f < st → y A (base + st * l.length + f) = e f) : enc y A st base (l ++ [e]) := by
  intro i e' hi f hf
  by_cases hl : i < l.length
  · rw [List.getElem?_append_left hl] at hi
    exact h i e' hi f hf
  · rw [List.getElem?_append_right (by omega)] at hi
    have hz : i - l.length < 1 := (List.getElem?_eq_some_iff.mp hi).1
    have hi0 : i = l.length := by omega
    subst hi0
    rw [Nat.sub_self] at hi
    cases hi
    exact he f hf
/-- where the first record with a number is -/
def ixf (l : List E) (f : Nat) (v : Int32) : Option Nat := l.findIdx? (fun e => e f == v)
theorem ixf_some {l : List E} {f : Nat} {v : Int32} {i : Nat} (h : ixf l f v = some i) : ∃ e, l[i]? = some e ∧ e f = v ∧ i < l.length := by
  unfold ixf at h
  obtain ⟨h1, h2, -⟩ := List.findIdx?_eq_some_iff_getElem.mp h
  exact ⟨l[i], List.getElem?_eq_getElem h1, by simpa using h2, h1⟩
theorem ixf_none {l : List E} {f : Nat} {v : Int32} (h : ixf l f v = none) : ∀ e ∈ l, e f ≠ v := by
  unfold ixf at h
  intro e he
  have := List.findIdx?_eq_none_iff.mp h e he
  simpa using this
/-- from a place on, behind which nothing fits -/
theorem ixf_go {l : List E} {f : Nat} {v : Int32} {k : Nat} {e : E} (hk : l[k]? = some e) (hb : ∀ (i : Nat) (e' : E), i < k → l[i]? = some e' → e' f ≠ v) (he : e f = v) : ixf l f v = some k := by
  unfold ixf
  have hl := (List.getElem?_eq_some_iff.mp hk)
  obtain ⟨hl1, hl2⟩ := hl
  refine List.findIdx?_eq_some_iff_getElem.mpr ⟨hl1, by rw [hl2]; simpa using he, fun j hj => ?_⟩
  have hj1 : j < l.length := by omega
  have := hb j l[j] hj (List.getElem?_eq_getElem hj1)
  simpa using this
theorem ixf_no {l : List E} {f : Nat} {v : Int32} (hb : ∀ (i : Nat) (e' : E), l[i]? = some e' → e' f ≠ v) : ixf l f v = none := by
  unfold ixf
  refine List.findIdx?_eq_none_iff.mpr (fun e he => ?_)
  obtain ⟨i, hi⟩ := List.getElem?_of_mem he
  have := hb i e hi
  simpa using this
-- ===== the model's rows of a cache =====
/-- the row of a cache: line, value, how -/
def rowM (y : sw_St) (c : Nat) (l : List E) : Prop := y 3 c = nI l.length ∧ l.length ≤ 4 ∧ ∀ (i : Nat) (e : E), l[i]? = some e → y 4 (4 * c + i) = e 0 ∧ y 5 (4 * c + i) = e 1 ∧ y 6 (4 * c + i) = e 2
def atR (c : Nat) (o : Option Nat) : Int32 := match o with
  | some k => nI (4 * c + k)
  | none => -4
theorem m_at_go {y : sw_St} {c : Nat} {l : List E} {v : Int32} (hc : c < 4) (h : rowM y c l) : ∀ (n k : Nat), k ≤ l.length → l.length - k < n → (∀ (i : Nat) (e' : E), i < k → l[i]? = some e' → e' 0 ≠ v) → f_X7_at_2 y n (nI c) v (nI k) = some (atR c (ixf l 0 v)) := by
  obtain ⟨h1, h2, h3⟩ := h
  intro n
  induction n with
  | zero => intro k _ q; omega
  | succ n ih =>
    intro k hk hn hb
    rw [f_X7_at_2]
    dsimp only
    rw [ck_t (pn_in (by omega) (by omega)), pn_ix (by omega), h1]
    by_cases hkl : k = l.length
    · rw [if_pos (by rw [hkl]; exact nI_le (Nat.le_refl _) (by omega))]
      rw [ixf_no (fun i e' hi => hb i e' (by rw [hkl]; exact (List.getElem?_eq_some_iff.mp hi).1) hi)]
      rfl
    · have hlt : k < l.length := by omega
      rw [if_neg (nI_ge hlt (by omega)), nl_4, pn_mul, nI_add, ck_t (pn_in (by omega) (by omega)), pn_ix (by omega)]
      have he : l[k]? = some l[k] := List.getElem?_eq_getElem hlt
      rw [(h3 k _ he).1]
      by_cases hv : l[k] 0 = v
      · rw [if_pos hv, ixf_go he hb hv]
        rfl
      · rw [if_neg hv, nl_1, nI_add]
        refine ih (k + 1) (by omega) (by omega) (fun i e' hi hi2 => ?_)
        by_cases hik : i = k
        · subst hik
          rw [he] at hi2
          cases hi2
          exact hv
        · exact hb i e' (by omega) hi2
theorem m_at {y : sw_St} {c : Nat} {l : List E} (v : Int32) (hc : c < 4) (h : rowM y c l) : f_X7_at y (nI c) v = some (atR c (ixf l 0 v)) :=
  m_at_go hc h sw_fuel 0 (Nat.zero_le _) (by unfold sw_fuel; have := h.2.1; omega) (fun i e' hi => by omega)
