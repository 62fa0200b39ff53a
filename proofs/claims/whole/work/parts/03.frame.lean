/-! THE FRAME: a memory of ints over a fixed shape of cells (sw_), what the machine does over it, a row an instruction (g_) -/
-- the words that every method gets: those of the tables that stay true
def sw_nest : Cond → Bool
  | .fieldLinkNest .. => true
  | .methodLinkNest .. => true
  | _ => false
def sw_ok (w : Cond) : Bool := goodWord w || sw_nest w
theorem sw_ok_warm {w : Cond} (h : sw_ok w = true) {args a' : Array Value} {s U : State} (hW : s.WarmedH U.vm) (hb : w.before args s = true) : w.before a' U = true := by
  unfold sw_ok at h
  rw [Bool.or_eq_true] at h
  rcases h with h | h
  · exact word_at hW (good_of_word h) hb
  · cases w with
    | fieldLinkNest a i b n d h => exact va_Nw.use rfl (va_Nw.warmF hW (va_Nw.of rfl hb))
    | methodLinkNest a i x h => exact va_Nw.use rfl (va_Nw.warmM hW (va_Nw.of rfl hb))
    | _ => cases h
def sw_WS : List Cond := lw_tbl.filter sw_ok
theorem sw_mem {w : Cond} (i : Nat) (h : lw_tbl[i]? = some w) (h2 : sw_ok w = true) : w ∈ sw_WS := List.mem_filter.mpr ⟨List.mem_of_getElem? h, h2⟩
theorem sw_WS_ok {w : Cond} (h : w ∈ sw_WS) : sw_ok w = true := (List.mem_filter.mp h).2
-- the memory: a number for each slot of each cell; cells are numbered from 1, 0 is null
abbrev sw_St : Type := Nat → Nat → Int32
def sw_up (σ : sw_St) (k j : Nat) (v : Int32) : sw_St := fun a => if a = k then (fun b => if b = j then v else σ k b) else σ a
-- a cell: an object (its class's number, for each field: an int, or the cell that it refers to), or an array (its kind, its length, of ints or of what it refers to)
abbrev sw_Sh : Type := (Nat × List (Option Nat)) ⊕ (Nat × Nat × Option (List Nat))
abbrev sw_Z : Type := Nat × (Nat → Option sw_Sh)
def sw_Zok (Z : sw_Z) : Prop := ∀ (k : Nat) (x : sw_Sh), Z.2 k = some x → 1 ≤ k ∧ k ≤ Z.1
def sw_rv (ad : Nat → Nat) (k : Nat) : Value := if k = 0 then .null else .ref (ad k)
theorem sw_rv_pos {ad : Nat → Nat} {k : Nat} (h : k ≠ 0) : sw_rv ad k = .ref (ad k) := if_neg h
theorem sw_rv_cat (ad : Nat → Nat) (k : Nat) : (sw_rv ad k).category = 1 := by
  unfold sw_rv
  split <;> rfl
def sw_fv (ad : Nat → Nat) : List (Option Nat) → (Nat → Int32) → Nat → List Value
  | [], _, _ => []
  | none :: fs, f, j => .int (f j) :: sw_fv ad fs f (j + 1)
  | some t :: fs, f, j => sw_rv ad t :: sw_fv ad fs f (j + 1)
theorem sw_fv_int {ad : Nat → Nat} {f : Nat → Int32} : ∀ (fs : List (Option Nat)) (i j : Nat), fs[j]? = some none → (sw_fv ad fs f i)[j]? = some (.int (f (i + j)))
  | [], i, j, h => by simp at h
  | o :: fs, i, 0, h => by
    simp at h; subst h; rfl
  | o :: fs, i, j + 1, h => by
    have h' : fs[j]? = some none := by simpa using h
    have := sw_fv_int (ad := ad) (f := f) fs (i + 1) j h'
    cases o <;> (simp only [sw_fv, List.getElem?_cons_succ]; rw [this]; congr 3; omega)
theorem sw_fv_ref {ad : Nat → Nat} {f : Nat → Int32} {t : Nat} : ∀ (fs : List (Option Nat)) (i j : Nat), fs[j]? = some (some t) → (sw_fv ad fs f i)[j]? = some (sw_rv ad t)
  | [], i, j, h => by simp at h
  | o :: fs, i, 0, h => by
    simp at h; subst h; rfl
  | o :: fs, i, j + 1, h => by
    have h' : fs[j]? = some (some t) := by simpa using h
    have := sw_fv_ref (ad := ad) (f := f) fs (i + 1) j h'
    cases o <;> (simp only [sw_fv, List.getElem?_cons_succ]; exact this)
theorem sw_fv_len {ad : Nat → Nat} {f : Nat → Int32} : ∀ (fs : List (Option Nat)) (i : Nat), (sw_fv ad fs f i).length = fs.length
  | [], i => rfl
  | o :: fs, i => by cases o <;> simp [sw_fv, sw_fv_len fs]
theorem sw_fv_congr {ad : Nat → Nat} {f g : Nat → Int32} : ∀ (fs : List (Option Nat)) (i : Nat), (∀ j, i ≤ j → f j = g j) → sw_fv ad fs f i = sw_fv ad fs g i
  | [], i, h => rfl
  | o :: fs, i, h => by
    have := sw_fv_congr (ad := ad) fs (i + 1) (fun j hj => h j (by omega))
    cases o <;> simp [sw_fv, this, h i (Nat.le_refl i)]
theorem sw_fv_set {ad : Nat → Nat} {f : Nat → Int32} {v : Int32} : ∀ (fs : List (Option Nat)) (i j : Nat), fs[j]? = some none → (sw_fv ad fs f i).set j (.int v) = sw_fv ad fs (fun b => if b = i + j then v else f b) i
  | [], i, j, h => by simp at h
  | o :: fs, i, 0, h => by
    simp at h; subst h
    simp only [sw_fv, List.set_cons_zero, Nat.add_zero, if_true]
    congr 1
    exact sw_fv_congr fs (i + 1) (fun j hj => by rw [if_neg (by omega)])
  | o :: fs, i, j + 1, h => by
    have h' : fs[j]? = some none := by simpa using h
    have := sw_fv_set (ad := ad) (f := f) (v := v) fs (i + 1) j h'
    have e : i + 1 + j = i + (j + 1) := by omega
    rw [e] at this
    cases o <;> simp [sw_fv, this]
def sw_on (ad : Nat → Nat) (t : Nat) : Option Nat := if t = 0 then none else some (ad t)
theorem sw_on_rv (ad : Nat → Nat) (t : Nat) : va_rf (sw_on ad t) = sw_rv ad t := by
  unfold sw_on sw_rv
  split <;> rfl
def sw_ent (ad : Nat → Nat) (dA : Nat → ClassId) (x : Option sw_Sh) (f : Nat → Int32) : va_E := match x with
  | some (.inl o) => .inr (o.1, sw_fv ad o.2 f 0)
  | some (.inr (ai, n, none)) => .inl (dA ai, n, .inl f)
  | some (.inr (ai, n, some t)) => .inl (dA ai, n, .inr (.inr (.inr (.inr (fun i => sw_on ad (t.getD i 0))))))
  | none => .inr (0, [])
def sw_ws (ad : Nat → Nat) (dA : Nat → ClassId) (Z : sw_Z) (σ : sw_St) : va_W := (List.range Z.1).map fun i => (ad (i + 1), sw_ent ad dA (Z.2 (i + 1)) (σ (i + 1)))
theorem sw_ws_get {ad : Nat → Nat} {dA : Nat → ClassId} {Z : sw_Z} {σ : sw_St} {k : Nat} {x : sw_Sh} (hZ : sw_Zok Z) (h : Z.2 k = some x) : (sw_ws ad dA Z σ)[k - 1]? = some (ad k, sw_ent ad dA (some x) (σ k)) := by
  obtain ⟨h1, h2⟩ := hZ k x h
  have e : k - 1 + 1 = k := by omega
  have hlt : k - 1 < Z.1 := by omega
  simp [sw_ws, List.getElem?_map, hlt, e, h]
theorem sw_ws_set {ad : Nat → Nat} {dA : Nat → ClassId} {Z : sw_Z} {σ : sw_St} {k j : Nat} {x : sw_Sh} {v : Int32} (hZ : sw_Zok Z) (h : Z.2 k = some x) : (sw_ws ad dA Z σ).set (k - 1) (ad k, sw_ent ad dA (some x) (sw_up σ k j v k)) = sw_ws ad dA Z (sw_up σ k j v) := by
  obtain ⟨h1, h2⟩ := hZ k x h
  apply List.ext_getElem?
  intro i
  by_cases hi : i = k - 1
  · subst hi
    rw [sw_ws_get hZ h, List.getElem?_set_self (by simp [sw_ws]; omega)]
  · rw [List.getElem?_set_ne (Ne.symm hi)]
    by_cases hl : i < Z.1
    · have hne : ¬ i + 1 = k := by omega
      simp [sw_ws, List.getElem?_map, hl, sw_up, hne]
    · simp [sw_ws, List.getElem?_map, hl]
-- classes and kinds of array
abbrev sw_cl : List vw_C := [(RX0, TX0, 14), (RX1, TX1, 4), (RX2, TX2, 4), (RX3, TX3, 4), (RX4, TX4, 11), (RX5, TX5, 5), (RX6, TX6, 2), (RX7, TX7, 35)]
abbrev sw_tys (dA : Nat → ClassId) : List (ClassId × FieldType) := [(dA 0, .int), (dA 1, .char), (dA 2, .object RX2), (dA 3, .object RX4)]
def sw_A (Z : sw_Z) (ad : Nat → Nat) : Nat → Prop := fun q => ∃ i : Nat, i < Z.1 ∧ q = ad (i + 1)
def sw_inj (Z : sw_Z) (ad : Nat → Nat) : Prop := ∀ i j : Nat, i < Z.1 → j < Z.1 → ad (i + 1) = ad (j + 1) → i = j
theorem sw_ws_D {Z : sw_Z} {ad : Nat → Nat} {dA : Nat → ClassId} {σ : sw_St} (h : sw_inj Z ad) : va_D (sw_A Z ad) (sw_ws ad dA Z σ) := by
  have key : ∀ (i : Nat) (q : Nat × va_E), (sw_ws ad dA Z σ)[i]? = some q → i < Z.1 ∧ q.1 = ad (i + 1) := by
    intro i q hq
    by_cases hl : i < Z.1
    · simp [sw_ws, List.getElem?_map, hl] at hq
      subst hq
      exact ⟨hl, rfl⟩
    · simp [sw_ws, List.getElem?_map, hl] at hq
  refine ⟨fun i j p q hi hj e => ?_, fun i q hi => ?_⟩
  · obtain ⟨a1, a2⟩ := key i p hi
    obtain ⟨b1, b2⟩ := key j q hj
    exact h i j a1 b1 (by rw [← a2, ← b2]; exact e)
  · obtain ⟨a1, a2⟩ := key i q hi
    exact ⟨i, a1, a2⟩
-- what stands outside the cells: the texts' constants (cells 100 + i, their bytes 200 + i), two statics of the JDK
abbrev sw_nS : Nat := 9
def sw_len : List Nat := [6, 5, 7, 8, 7, 4, 4, 5, 4]
def sw_byt : List (List Int32) := [[115, 104, 97, 114, 101, 100], [97, 108, 111, 110, 101], [99, 104, 97, 110, 103, 101, 100], [98, 117, 102, 102, 101, 114, 101, 100], [109, 105, 115, 115, 105, 110, 103], [116, 117, 114, 110], [114, 101, 97, 100], [115, 116, 111, 114, 101], [100, 114, 111, 112]]
def sw_sown : Nat → String × Nat × String := fun i => match i with
  | 0 => (RX0, 247, "shared")
  | 1 => (RX0, 249, "alone")
  | 2 => (RX0, 251, "changed")
  | 3 => (RX0, 253, "buffered")
  | 4 => (RX0, 255, "missing")
  | 5 => (RX5, 66, "turn")
  | 6 => (RX5, 72, "read")
  | 7 => (RX5, 74, "store")
  | _ => (RX5, 76, "drop")
def sw_Ex (ad : Nat → Nat) (A : Nat → Prop) (U : State) (H : Heap) : Prop :=
  vk_S sw_nS sw_len sw_byt (fun i => ad (100 + i)) (fun i => ad (200 + i)) A U H ∧ (∀ i, i < sw_nS → vk_R (sw_sown i).1 (sw_sown i).2.1 (sw_sown i).2.2 (ad (100 + i)) U) ∧ va_Z "java/lang/String" "COMPACT_STRINGS" "Z" (.int 1) A U H ∧ va_Zq "jdk/internal/util/Preconditions" "SIOOBE_FORMATTER" "Ljava/util/function/BiFunction;" A U H
