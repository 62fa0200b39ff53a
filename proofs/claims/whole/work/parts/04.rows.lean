/-! the walk: sw_S says that the machine, at this place of the code with these locals, this stack and this memory, comes to the end that the program text 'o' tells (if it tells one) -/
theorem sw_Ex.warm {ad : Nat → Nat} {A : Nat → Prop} {s U : State} {H : Heap} (hW : s.WarmedH U.vm) (h : sw_Ex ad A s H) : sw_Ex ad A U H := by
  obtain ⟨h1, h2, h3, h4⟩ := h
  exact ⟨h1.moved hW.alike, fun i hi => (h2 i hi).warm hW, h3.moved hW.alike, h4.moved hW.alike⟩
theorem sw_Ex.same {ad : Nat → Nat} {A : Nat → Prop} {s U : State} {H : Heap} (hv : U.vm = s.vm) (h : sw_Ex ad A s H) : sw_Ex ad A U H := by
  obtain ⟨h1, h2, h3, h4⟩ := h
  have hal : s.vm.Alike U.vm := by rw [hv]; exact Vm.Alike.refl _
  exact ⟨h1.moved hal, fun i hi => (h2 i hi).same hv, h3.moved hal, h4.moved hal⟩
theorem sw_Ex.kept {ad : Nat → Nat} {A : Nat → Prop} {U : State} {H H1 : Heap} (h : sw_Ex ad A U H) (hq : ∀ a : Nat, a < H.size → ¬ A a → H1[a]? = H[a]?) : sw_Ex ad A U H1 := by
  obtain ⟨h1, h2, h3, h4⟩ := h
  exact ⟨h1.kept hq, h2, h3.kept hq, h4.kept hq⟩
abbrev sw_V : Type := (Program × Launch × Env × Room) × (State × MethodId × Array Value × List Frame × Method × Code) × ((Nat → ClassId) × (Nat → Nat → Nat) × (Nat → ClassId) × (Nat → Nat))
def sw_r (V : sw_V) (k : Nat) : Value := sw_rv V.2.2.2.2.2 k
-- locals
def sw_L (V : sw_V) (ls : Array Slot) (lv : List (Option Value)) : Prop := (ls.size = lv.length ∧ lv.length = V.2.1.2.2.2.2.2.maxLocals) ∧ lv_wf ls ∧ ∀ (j : Nat) (w : Value), lv[j]? = some (some w) → ls[j]? = some (.val w)
def sw_as (lv : List (Option Value)) : List (Nat × Value) := lv.zipIdx.filterMap fun q => q.1.map fun w => (q.2, w)
theorem sw_as_mem {lv : List (Option Value)} {q : Nat × Value} : q ∈ sw_as lv ↔ lv[q.1]? = some (some q.2) := by
  unfold sw_as
  rw [List.mem_filterMap]
  constructor
  · rintro ⟨⟨o, i⟩, h1, h2⟩
    have h3 := List.mem_zipIdx_iff_getElem?.mp h1
    cases o with
    | none => cases h2
    | some w =>
      simp at h2
      subst h2
      exact h3
  · intro h
    exact ⟨(some q.2, q.1), List.mem_zipIdx_iff_getElem?.mpr h, rfl⟩
theorem sw_L.has {V : sw_V} {ls : Array Slot} {lv : List (Option Value)} (h : sw_L V ls lv) : lv_has ls lv.length (sw_as lv) := ⟨h.1.1, h.2.1, fun q hq => h.2.2 _ _ (sw_as_mem.mp hq)⟩
/-- no local of two slots ends where this one begins -/
def sw_pv (V : sw_V) (lv : List (Option Value)) (i : Nat) : Prop := i = 0 ∨ lv[i - 1]? = some none ∨ (∃ x : Int32, lv[i - 1]? = some (some (.int x))) ∨ ∃ k : Nat, lv[i - 1]? = some (some (sw_r V k))
def sw_sub : List (Option Value) → List (Option Value) → Prop
  | [], [] => True
  | none :: a, _ :: b => sw_sub a b
  | some v :: a, some w :: b => v = w ∧ sw_sub a b
  | _, _ => False
theorem sw_sub_get : ∀ (a b : List (Option Value)), sw_sub a b → a.length = b.length ∧ ∀ (j : Nat) (w : Value), a[j]? = some (some w) → b[j]? = some (some w)
  | [], [], _ => ⟨rfl, fun j w h => by simp at h⟩
  | [], _ :: _, h => h.elim
  | none :: a, [], h => h.elim
  | some _ :: a, [], h => h.elim
  | none :: a, o :: b, h => by
    obtain ⟨h1, h2⟩ := sw_sub_get a b h
    refine ⟨by simp [h1], fun j w hj => ?_⟩
    cases j with
    | zero => simp at hj
    | succ j => simpa using h2 j w (by simpa using hj)
  | some v :: a, none :: b, h => h.elim
  | some v :: a, some w :: b, h => by
    obtain ⟨h1, h2⟩ := sw_sub_get a b h.2
    refine ⟨by simp [h1], fun j x hj => ?_⟩
    cases j with
    | zero =>
      have e : v = x := by simpa using hj
      rw [← e, h.1]; rfl
    | succ j => simpa using h2 j x (by simpa using hj)
-- the code of a method, decoded
abbrev sw_Is : Type := List (Nat × Instr × Nat × Nat)
def sw_dc (b : ByteArray) (L : sw_Is) : Bool := L.all fun q => decide (decode b q.1 = .ok (q.2.1, q.2.2.1)) && decide (q.1 + q.2.2.1 = q.2.2.2)
theorem sw_dk {b : ByteArray} {L : sw_Is} (h : sw_dc b L = true) {i pc n q : Nat} {ins : Instr} (hi : L[i]? = some (pc, ins, n, q)) : decode b pc = .ok (ins, n) := by
  have h1 := List.all_eq_true.mp h _ (List.mem_of_getElem? hi)
  rw [Bool.and_eq_true] at h1
  exact of_decide_eq_true h1.1
theorem sw_dq {b : ByteArray} {L : sw_Is} (h : sw_dc b L = true) {i pc n q : Nat} {ins : Instr} (hi : L[i]? = some (pc, ins, n, q)) : pc + n = q := by
  have h1 := List.all_eq_true.mp h _ (List.mem_of_getElem? hi)
  rw [Bool.and_eq_true] at h1
  exact of_decide_eq_true h1.2
/-- what holds all through a method's body -/
def sw_Cx (Z : sw_Z) (V : sw_V) (cc : ByteArray) (own : String) (nL : Nat) (ret : Option FieldType) (L : sw_Is) (d : Nat) : Prop :=
  V.1.1.tables.exec = Jvm.exec ∧ V.2.1.2.2.2.2.2.code = cc ∧ V.2.1.2.2.2.2.2.maxLocals = nL ∧ V.2.1.2.2.2.2.1.sig.returnType = ret ∧ V.2.1.2.2.2.2.1.locks = false ∧ V.2.1.1.vm.findClass own = some V.2.1.2.1.cls ∧ (∀ w ∈ sw_WS, w.before V.2.1.2.2.1 V.2.1.1 = true) ∧ va_K (V.2.2.1, V.2.2.2.1) sw_cl (sw_tys V.2.2.2.2.1) V.2.1.1 ∧ sw_inj Z V.2.2.2.2.2 ∧ sw_Zok Z ∧ (d ≤ V.1.2.2.2.frames ∧ 40 * d ≤ V.1.2.2.2.locals) ∧ sw_Ex V.2.2.2.2.2 (sw_A Z V.2.2.2.2.2) V.2.1.1 V.2.1.1.heap ∧ sw_dc cc L = true
def sw_Wd (Z : sw_Z) (V : sw_V) (σ : sw_St) (H : Heap) (locs : List Loc) : Prop := va_P (V.2.2.1, V.2.2.2.1) sw_cl (sw_ws V.2.2.2.2.2 V.2.2.2.2.1 Z σ) H ∧ va_S (sw_A Z V.2.2.2.2.2) V.2.1.1.heap H locs
def sw_Q (Z : sw_Z) (dC : Nat → ClassId) (dI : Nat → Nat → Nat) (dA : Nat → ClassId) (ad : Nat → Nat) (x : Option Value × sw_St) : Array Value → State → Outcome → State → Prop := fun _ st oc t => oc = .returned x.1 ∧ va_P (dC, dI) sw_cl (sw_ws ad dA Z x.2) t.heap ∧ va_F (sw_A Z ad) st t
def sw_S {β : Type} (Z : sw_Z) (V : sw_V) (ψ : β → Option Value × sw_St) (lv : List (Option Value)) (st : List Value) (pc : Nat) (σ : sw_St) (o : Option β) : Prop :=
  ∀ (H : Heap) (locs : List Loc) (ls : Array Slot), sw_L V ls lv → sw_Wd Z V σ H locs → ∀ b, o = some b →
    W V.1.1 V.1.2.1 V.1.2.2.1 V.1.2.2.2 V.2.1.1 V.2.1.2.1 V.2.1.2.2.1 V.2.1.2.2.2.1 V.2.1.2.2.2.2.1 V.2.1.2.2.2.2.2 H locs 0 0 (MQ V.2.1.2.2.2.1 (sw_Q Z V.2.2.1 V.2.2.2.1 V.2.2.2.2.1 V.2.2.2.2.2 (ψ b)) V.2.1.2.2.1 V.2.1.1 0 0 (sw_A Z V.2.2.2.2.2)) (F0 V.2.1.2.1 pc ls st)

-- the words of a program text
def sw_ck {β : Type} (p : Bool) (o : Option β) : Option β := if p = true then o else none
def sw_pt {β : Type} (σ : sw_St) (k j : Nat) (v : Int32) (K : sw_St → Option β) : Option β := K (sw_up σ k j v)
def sw_in (i : Int32) (n : Nat) : Bool := decide (0 ≤ i) && decide (i.toNatClampNeg < n)
def sw_n0 (v : Int32) : Bool := decide (¬ v = 0)
def sw_nl (v : Int64) : Bool := decide (¬ v = 0)
def sw_fz (ty : FieldType) (v : Int32) : Bool := decide (vp_nar ty v = v)
def sw_ix (i : Int32) : Nat := i.toNatClampNeg
def sw_rem (x y : Int32) : Int32 := x - x / y * y
def sw_lrem (x y : Int64) : Int64 := x - x / y * y
def sw_c16 (x : Int32) : Int32 := (x.toUInt32 % 65536).toInt32
def sw_fuel : Nat := 300
def sw_eP (σ : sw_St) (r : Int32) : Option Value × sw_St := (some (.int r), σ)
def sw_eI (x : Int32 × sw_St) : Option Value × sw_St := (some (.int x.1), x.2)
def sw_eV (x : sw_St) : Option Value × sw_St := (none, x)
def sw_eR (ad : Nat → Nat) (σ : sw_St) (k : Nat) : Option Value × sw_St := (some (sw_rv ad k), σ)
def sw_eL (σ : sw_St) (r : Int64) : Option Value × sw_St := (some (.long r), σ)
def sw_eM (x : Int64 × sw_St) : Option Value × sw_St := (some (.long x.1), x.2)
theorem sw_in_vp {i : Int32} {n : Nat} (h : sw_in i n = true) : vp_in i n := by
  unfold sw_in at h
  rw [Bool.and_eq_true] at h
  have h1 := of_decide_eq_true h.1
  have h2 := of_decide_eq_true h.2
  rintro (q | q)
  · exact absurd h1 (Int32.not_le.mpr q)
  · omega
theorem sw_fz_n {ty : FieldType} {v : Int32} (h : sw_fz ty v = true) (hty : ∃ y, narrow ty (.int v) = .int y) : narrow ty (.int v) = .int v := by
  have h1 : vp_nar ty v = v := of_decide_eq_true h
  obtain ⟨y, hy⟩ := hty
  unfold vp_nar at h1
  rw [hy] at h1 ⊢
  exact congrArg Value.int h1
-- field links, method links: what an index of a class's pool stands for
def sw_FL (own : String) (idx ci j : Nat) : Prop := ∃ (C : String) (T : u_T) (N : Nat), sw_cl[ci]? = some (C, T, N) ∧ (∀ w ∈ u_ws C T N, w ∈ sw_WS) ∧ j < N ∧ (T j).1 = C ∧ (Cond.fieldLink own idx C (T j).2.1 (T j).2.2.1 ∈ sw_WS ∨ ∃ host : String, Cond.fieldLinkNest own idx C (T j).2.1 (T j).2.2.1 host ∈ sw_WS)
def sw_FP (own : String) (idx ci j : Nat) : Prop := ∃ (C : String) (T : u_T) (N : Nat) (ty0 : Nat → FieldType), sw_cl[ci]? = some (C, T, N) ∧ (∀ w ∈ u_ws C T N, w ∈ sw_WS) ∧ j < N ∧ (T j).1 = C ∧ (Cond.fieldLink own idx C (T j).2.1 (T j).2.2.1 ∈ sw_WS ∨ ∃ host : String, Cond.fieldLinkNest own idx C (T j).2.1 (T j).2.2.1 host ∈ sw_WS) ∧ (∀ k, k < N → parseFieldDescriptor (T k).2.2.1 = some (ty0 k)) ∧ (∀ a, a < N → ∀ b, b < N → a ≠ b → (T a).2.1 ≠ (T b).2.1) ∧ (T j).2.2.2 = false ∧ parseFieldDescriptor (T j).2.2.1 = some .int
def sw_ML (own : String) (idx : Nat) (y : MethodName) (cc : ByteArray) (nL : Nat) (ret : Option FieldType) (n : Nat) : Prop :=
  (Cond.methodLink own idx y ∈ sw_WS ∨ ∃ host : String, Cond.methodLinkNest own idx y host ∈ sw_WS) ∧ Cond.initialized y.cls ∈ sw_WS ∧ Cond.code y cc nL ret ∈ sw_WS ∧ (y.cls ≠ "java/lang/invoke/MethodHandle" ∧ y.cls ≠ "java/lang/invoke/VarHandle") ∧ (parseMethodDescriptor y.desc).map (fun d => d.parameters.length) = some n ∧ nL ≤ 21
def sw_MV (own : String) (idx : Nat) (y : MethodName) (cc : ByteArray) (nL : Nat) (ret : Option FieldType) (n : Nat) : Prop := sw_ML own idx y cc nL ret n ∧ Cond.instanceMethod y ∈ sw_WS ∧ Cond.selects y.cls y y ∈ sw_WS
def sw_MS (own : String) (idx : Nat) (y : MethodName) (cc : ByteArray) (nL : Nat) (ret : Option FieldType) (n : Nat) : Prop := sw_ML own idx y cc nL ret n ∧ Cond.static y ∈ sw_WS
section G
variable {β : Type} {Z : sw_Z} {V : sw_V} {cc : ByteArray} {own : String} {nL : Nat} {ret : Option FieldType} {L : sw_Is} {d : Nat}
theorem sw_Cx.dc (C : sw_Cx Z V cc own nL ret L d) : sw_dc cc L = true := C.2.2.2.2.2.2.2.2.2.2.2.2
theorem sw_Cx.ow (C : sw_Cx Z V cc own nL ret L d) : V.2.1.1.vm.findClass own = some V.2.1.2.1.cls := C.2.2.2.2.2.1
theorem sw_Cx.ws (C : sw_Cx Z V cc own nL ret L d) : ∀ w ∈ sw_WS, w.before V.2.1.2.2.1 V.2.1.1 = true := C.2.2.2.2.2.2.1
theorem sw_Cx.K (C : sw_Cx Z V cc own nL ret L d) : va_K (V.2.2.1, V.2.2.2.1) sw_cl (sw_tys V.2.2.2.2.1) V.2.1.1 := C.2.2.2.2.2.2.2.1
theorem sw_Cx.inj (C : sw_Cx Z V cc own nL ret L d) : sw_inj Z V.2.2.2.2.2 := C.2.2.2.2.2.2.2.2.1
theorem sw_Cx.ok (C : sw_Cx Z V cc own nL ret L d) : sw_Zok Z := C.2.2.2.2.2.2.2.2.2.1
theorem sw_Cx.room (C : sw_Cx Z V cc own nL ret L d) : d ≤ V.1.2.2.2.frames ∧ 40 * d ≤ V.1.2.2.2.locals := C.2.2.2.2.2.2.2.2.2.2.1
theorem sw_Cx.ex (C : sw_Cx Z V cc own nL ret L d) : sw_Ex V.2.2.2.2.2 (sw_A Z V.2.2.2.2.2) V.2.1.1 V.2.1.1.heap := C.2.2.2.2.2.2.2.2.2.2.2.1
variable {ψ : β → Option Value × sw_St} {lv : List (Option Value)} {st : List Value} {pc q : Nat} {σ : sw_St} {o o1 o2 : Option β}
theorem sw_L.at {V : sw_V} {ls : Array Slot} {lv : List (Option Value)} (h : sw_L V ls lv) {j : Nat} {w : Value} (hj : lv[j]? = some (some w)) : ls[j]? = some (.val w) := h.2.2 j w hj
theorem sw_L.of1 {V : sw_V} {ls ls' : Array Slot} {lv : List (Option Value)} {i : Nat} {v : Value} (hL : sw_L V ls lv) (hi : i < lv.length) (h : lv_has ls' lv.length ((i, v) :: (sw_as lv).filter (fun q => !(q.1 == i) && !(q.1 + 1 == i && q.2.category == 2)))) (hp : sw_pv V lv i) : sw_L V ls' (lv.set i (some v)) := by
  obtain ⟨h1, h2, h3⟩ := h
  refine ⟨⟨by rw [h1, List.length_set], by rw [List.length_set]; exact hL.1.2⟩, h2, fun j w hj => ?_⟩
  by_cases hji : j = i
  · subst hji
    rw [List.getElem?_set_self hi] at hj
    cases hj
    exact h3 (j, v) List.mem_cons_self
  · rw [List.getElem?_set_ne (Ne.symm hji)] at hj
    refine h3 (j, w) (List.mem_cons_of_mem _ (List.mem_filter.mpr ⟨sw_as_mem.mpr hj, ?_⟩))
    by_cases hj1 : j + 1 = i
    · have e1 : i - 1 = j := by omega
      have hw : w.category = 1 := by
        rcases hp with q | q | ⟨x, q⟩ | ⟨k, q⟩
        · omega
        · rw [e1, hj] at q; cases q
        · rw [e1, hj] at q; cases q; rfl
        · rw [e1, hj] at q; cases q; exact sw_rv_cat _ _
      simp [hji, hw]
    · simp [hji, hj1]
theorem sw_L.of2 {V : sw_V} {ls ls' : Array Slot} {lv : List (Option Value)} {i : Nat} {v : Value} (hL : sw_L V ls lv) (hi : i + 1 < lv.length) (h : lv_has ls' lv.length ((i, v) :: (sw_as lv).filter (fun q => !(q.1 == i) && (!(q.1 == i + 1) && !(q.1 + 1 == i && q.2.category == 2))))) (hp : sw_pv V lv i) : sw_L V ls' ((lv.set i (some v)).set (i + 1) none) := by
  obtain ⟨h1, h2, h3⟩ := h
  refine ⟨⟨by rw [h1, List.length_set, List.length_set], by rw [List.length_set, List.length_set]; exact hL.1.2⟩, h2, fun j w hj => ?_⟩
  by_cases hji1 : j = i + 1
  · subst hji1
    rw [List.getElem?_set_self (by simpa using hi)] at hj
    cases hj
  · rw [List.getElem?_set_ne (Ne.symm hji1)] at hj
    by_cases hji : j = i
    · subst hji
      rw [List.getElem?_set_self (by omega)] at hj
      cases hj
      exact h3 (j, v) List.mem_cons_self
    · rw [List.getElem?_set_ne (Ne.symm hji)] at hj
      refine h3 (j, w) (List.mem_cons_of_mem _ (List.mem_filter.mpr ⟨sw_as_mem.mpr hj, ?_⟩))
      by_cases hj1 : j + 1 = i
      · have e1 : i - 1 = j := by omega
        have hw : w.category = 1 := by
          rcases hp with q | q | ⟨x, q⟩ | ⟨k, q⟩
          · omega
          · rw [e1, hj] at q; cases q
          · rw [e1, hj] at q; cases q; rfl
          · rw [e1, hj] at q; cases q; exact sw_rv_cat _ _
        simp [hji, hji1, hw]
      · simp [hji, hji1, hj1]
-- what is no instruction
theorem g_none : sw_S Z V ψ lv st pc σ (none : Option β) := fun _ _ _ _ _ _ h => by cases h
theorem g_ck {p : Bool} (k : p = true → sw_S Z V ψ lv st pc σ o) : sw_S Z V ψ lv st pc σ (sw_ck p o) := fun H locs ls hL hW b hb => by
  unfold sw_ck at hb
  by_cases hp : p = true
  · rw [if_pos hp] at hb
    exact k hp H locs ls hL hW b hb
  · rw [if_neg hp] at hb
    cases hb
theorem g_wk {lv' : List (Option Value)} (k : sw_S Z V ψ lv' st pc σ o) (h : sw_sub lv' lv) : sw_S Z V ψ lv st pc σ o := fun H locs ls hL hW b hb => by
  obtain ⟨h1, h2⟩ := sw_sub_get _ _ h
  exact k H locs ls ⟨⟨hL.1.1.trans h1.symm, h1.trans hL.1.2⟩, hL.2.1, fun j w hj => hL.2.2 j w (h2 j w hj)⟩ hW b hb

theorem g_iconst (C : sw_Cx Z V cc own nL ret L d) (i : Nat) {n : Int} (hi : L[i]? = some (pc, .iconst n, 1, q)) (v : Int32) (hv : Int32.ofInt n = v) (k : sw_S Z V ψ lv (.int v :: st) q σ o) : sw_S Z V ψ lv st pc σ o := by
  have e := sw_dq C.dc hi
  subst e
  exact fun H locs ls hL hW b hb => lv_iconst C.1 C.2.1 (sw_dk C.dc hi) hv (k H locs ls hL hW b hb)
theorem g_bipush (C : sw_Cx Z V cc own nL ret L d) (i : Nat) {n : Int} (hi : L[i]? = some (pc, .bipush n, 2, q)) (v : Int32) (hv : (Int8.ofInt n).toInt32 = v) (k : sw_S Z V ψ lv (.int v :: st) q σ o) : sw_S Z V ψ lv st pc σ o := by
  have e := sw_dq C.dc hi
  subst e
  exact fun H locs ls hL hW b hb => lv_bipush C.1 C.2.1 (sw_dk C.dc hi) hv (k H locs ls hL hW b hb)
theorem g_sipush (C : sw_Cx Z V cc own nL ret L d) (i : Nat) {n : Int} (hi : L[i]? = some (pc, .sipush n, 3, q)) (v : Int32) (hv : (Int16.ofInt n).toInt32 = v) (k : sw_S Z V ψ lv (.int v :: st) q σ o) : sw_S Z V ψ lv st pc σ o := by
  have e := sw_dq C.dc hi
  subst e
  exact fun H locs ls hL hW b hb => lv_sipush C.1 C.2.1 (sw_dk C.dc hi) hv (k H locs ls hL hW b hb)
theorem g_lconst (C : sw_Cx Z V cc own nL ret L d) (i : Nat) {n : Fin 2} (hi : L[i]? = some (pc, .lconst n, 1, q)) (v : Int64) (hv : Int64.ofNat (n : Nat) = v) (k : sw_S Z V ψ lv (.long v :: st) q σ o) : sw_S Z V ψ lv st pc σ o := by
  have e := sw_dq C.dc hi
  subst e
  exact fun H locs ls hL hW b hb => lv_lconst C.1 C.2.1 (sw_dk C.dc hi) hv (k H locs ls hL hW b hb)
theorem g_iload_n (C : sw_Cx Z V cc own nL ret L d) (i : Nat) {n : Fin 4} (hi : L[i]? = some (pc, .iload_n n, 1, q)) {x : Int32} (hl : lv[(n : Nat)]? = some (some (.int x))) (k : sw_S Z V ψ lv (.int x :: st) q σ o) : sw_S Z V ψ lv st pc σ o := by
  have e := sw_dq C.dc hi
  subst e
  exact fun H locs ls hL hW b hb => lv_iload_n C.1 C.2.1 (sw_dk C.dc hi) rfl (hL.at hl) (k H locs ls hL hW b hb)
theorem g_iload (C : sw_Cx Z V cc own nL ret L d) (i : Nat) {n : Nat} (hi : L[i]? = some (pc, .iload n, 2, q)) {x : Int32} (hl : lv[n]? = some (some (.int x))) (k : sw_S Z V ψ lv (.int x :: st) q σ o) : sw_S Z V ψ lv st pc σ o := by
  have e := sw_dq C.dc hi
  subst e
  exact fun H locs ls hL hW b hb => lv_iload C.1 C.2.1 (sw_dk C.dc hi) (hL.at hl) (k H locs ls hL hW b hb)
theorem g_lload_n (C : sw_Cx Z V cc own nL ret L d) (i : Nat) {n : Fin 4} (hi : L[i]? = some (pc, .lload_n n, 1, q)) {x : Int64} (hl : lv[(n : Nat)]? = some (some (.long x))) (k : sw_S Z V ψ lv (.long x :: st) q σ o) : sw_S Z V ψ lv st pc σ o := by
  have e := sw_dq C.dc hi
  subst e
  exact fun H locs ls hL hW b hb => lv_lload_n C.1 C.2.1 (sw_dk C.dc hi) rfl (hL.at hl) (k H locs ls hL hW b hb)
theorem g_lload (C : sw_Cx Z V cc own nL ret L d) (i : Nat) {n : Nat} (hi : L[i]? = some (pc, .lload n, 2, q)) {x : Int64} (hl : lv[n]? = some (some (.long x))) (k : sw_S Z V ψ lv (.long x :: st) q σ o) : sw_S Z V ψ lv st pc σ o := by
  have e := sw_dq C.dc hi
  subst e
  exact fun H locs ls hL hW b hb => lv_lload C.1 C.2.1 (sw_dk C.dc hi) (hL.at hl) (k H locs ls hL hW b hb)
theorem g_aload_n (C : sw_Cx Z V cc own nL ret L d) (i : Nat) {n : Fin 4} (hi : L[i]? = some (pc, .aload_n n, 1, q)) {x : Nat} (hl : lv[(n : Nat)]? = some (some (sw_r V x))) (k : sw_S Z V ψ lv (sw_r V x :: st) q σ o) : sw_S Z V ψ lv st pc σ o := by
  have e := sw_dq C.dc hi
  subst e
  intro H locs ls hL hW b hb
  have h1 := hL.at hl
  have k1 := k H locs ls hL hW b hb
  unfold sw_r sw_rv at h1 k1
  by_cases h0 : x = 0
  · rw [if_pos h0] at h1 k1
    exact lv_aload_nN C.1 C.2.1 (sw_dk C.dc hi) rfl h1 k1
  · rw [if_neg h0] at h1 k1
    exact lv_aload_n C.1 C.2.1 (sw_dk C.dc hi) rfl h1 k1
theorem g_istore_n (C : sw_Cx Z V cc own nL ret L d) (i : Nat) {n : Fin 4} (hi : L[i]? = some (pc, .istore_n n, 1, q)) {x : Int32} (hn : (n : Nat) < lv.length) (hp : sw_pv V lv (n : Nat)) (k : sw_S Z V ψ (lv.set (n : Nat) (some (.int x))) st q σ o) : sw_S Z V ψ lv (.int x :: st) pc σ o := by
  have e := sw_dq C.dc hi
  subst e
  exact fun H locs ls hL hW b hb => lv_istore_n C.1 C.2.1 (sw_dk C.dc hi) rfl hL.has hn rfl (fun ls' hl' => k H locs ls' (sw_L.of1 hL hn hl' hp) hW b hb)
theorem g_lstore_n (C : sw_Cx Z V cc own nL ret L d) (i : Nat) {n : Fin 4} (hi : L[i]? = some (pc, .lstore_n n, 1, q)) {x : Int64} (hn : (n : Nat) + 1 < lv.length) (hp : sw_pv V lv (n : Nat)) (k : sw_S Z V ψ ((lv.set (n : Nat) (some (.long x))).set ((n : Nat) + 1) none) st q σ o) : sw_S Z V ψ lv (.long x :: st) pc σ o := by
  have e := sw_dq C.dc hi
  subst e
  exact fun H locs ls hL hW b hb => lv_lstore_n C.1 C.2.1 (sw_dk C.dc hi) rfl hL.has hn rfl (fun ls' hl' => k H locs ls' (sw_L.of2 hL hn hl' hp) hW b hb)
theorem g_astore_n (C : sw_Cx Z V cc own nL ret L d) (i : Nat) {n : Fin 4} (hi : L[i]? = some (pc, .astore_n n, 1, q)) {x : Nat} (hn : (n : Nat) < lv.length) (hp : sw_pv V lv (n : Nat)) (k : sw_S Z V ψ (lv.set (n : Nat) (some (sw_r V x))) st q σ o) : sw_S Z V ψ lv (sw_r V x :: st) pc σ o := by
  have e := sw_dq C.dc hi
  subst e
  intro H locs ls hL hW b hb
  by_cases h0 : x = 0
  · have e0 : sw_r V x = .null := if_pos h0
    rw [e0] at k ⊢
    exact lv_astore_nN C.1 C.2.1 (sw_dk C.dc hi) rfl hL.has hn rfl (fun ls' hl' => k H locs ls' (sw_L.of1 hL hn hl' hp) hW b hb)
  · have e0 : sw_r V x = .ref (V.2.2.2.2.2 x) := if_neg h0
    rw [e0] at k ⊢
    exact lv_astore_n C.1 C.2.1 (sw_dk C.dc hi) rfl hL.has hn rfl (fun ls' hl' => k H locs ls' (sw_L.of1 hL hn hl' hp) hW b hb)
theorem g_aload (C : sw_Cx Z V cc own nL ret L d) (i : Nat) {n : Nat} (hi : L[i]? = some (pc, .aload n, 2, q)) {x : Nat} (hl : lv[(n : Nat)]? = some (some (sw_r V x))) (k : sw_S Z V ψ lv (sw_r V x :: st) q σ o) : sw_S Z V ψ lv st pc σ o := by
  have e := sw_dq C.dc hi
  subst e
  intro H locs ls hL hW b hb
  have h1 := hL.at hl
  have k1 := k H locs ls hL hW b hb
  unfold sw_r sw_rv at h1 k1
  by_cases h0 : x = 0
  · rw [if_pos h0] at h1 k1
    exact lv_aloadN C.1 C.2.1 (sw_dk C.dc hi) h1 k1
  · rw [if_neg h0] at h1 k1
    exact lv_aload C.1 C.2.1 (sw_dk C.dc hi) h1 k1
theorem g_istore (C : sw_Cx Z V cc own nL ret L d) (i : Nat) {n : Nat} (hi : L[i]? = some (pc, .istore n, 2, q)) {x : Int32} (hn : (n : Nat) < lv.length) (hp : sw_pv V lv (n : Nat)) (k : sw_S Z V ψ (lv.set (n : Nat) (some (.int x))) st q σ o) : sw_S Z V ψ lv (.int x :: st) pc σ o := by
  have e := sw_dq C.dc hi
  subst e
  exact fun H locs ls hL hW b hb => lv_istore C.1 C.2.1 (sw_dk C.dc hi) hL.has hn rfl (fun ls' hl' => k H locs ls' (sw_L.of1 hL hn hl' hp) hW b hb)
theorem g_lstore (C : sw_Cx Z V cc own nL ret L d) (i : Nat) {n : Nat} (hi : L[i]? = some (pc, .lstore n, 2, q)) {x : Int64} (hn : (n : Nat) + 1 < lv.length) (hp : sw_pv V lv (n : Nat)) (k : sw_S Z V ψ ((lv.set (n : Nat) (some (.long x))).set ((n : Nat) + 1) none) st q σ o) : sw_S Z V ψ lv (.long x :: st) pc σ o := by
  have e := sw_dq C.dc hi
  subst e
  exact fun H locs ls hL hW b hb => lv_lstore C.1 C.2.1 (sw_dk C.dc hi) hL.has hn rfl (fun ls' hl' => k H locs ls' (sw_L.of2 hL hn hl' hp) hW b hb)
theorem g_astore (C : sw_Cx Z V cc own nL ret L d) (i : Nat) {n : Nat} (hi : L[i]? = some (pc, .astore n, 2, q)) {x : Nat} (hn : (n : Nat) < lv.length) (hp : sw_pv V lv (n : Nat)) (k : sw_S Z V ψ (lv.set (n : Nat) (some (sw_r V x))) st q σ o) : sw_S Z V ψ lv (sw_r V x :: st) pc σ o := by
  have e := sw_dq C.dc hi
  subst e
  intro H locs ls hL hW b hb
  by_cases h0 : x = 0
  · have e0 : sw_r V x = .null := if_pos h0
    rw [e0] at k ⊢
    exact lv_astoreN C.1 C.2.1 (sw_dk C.dc hi) hL.has hn rfl (fun ls' hl' => k H locs ls' (sw_L.of1 hL hn hl' hp) hW b hb)
  · have e0 : sw_r V x = .ref (V.2.2.2.2.2 x) := if_neg h0
    rw [e0] at k ⊢
    exact lv_astore C.1 C.2.1 (sw_dk C.dc hi) hL.has hn rfl (fun ls' hl' => k H locs ls' (sw_L.of1 hL hn hl' hp) hW b hb)
theorem g_iinc (C : sw_Cx Z V cc own nL ret L d) (i : Nat) {n : Nat} {a : Int} (hi : L[i]? = some (pc, .iinc n a, 3, q)) {x : Int32} (v : Int32) (hv : Int32.ofInt a = v) (hl : lv[n]? = some (some (.int x))) (hn : n < lv.length) (hp : sw_pv V lv n) (k : sw_S Z V ψ (lv.set n (some (.int (x + v)))) st q σ o) : sw_S Z V ψ lv st pc σ o := by
  have e := sw_dq C.dc hi
  subst e
  intro H locs ls hL hW b hb
  obtain ⟨j, hj⟩ := List.getElem?_of_mem (sw_as_mem.mpr (show lv[(n, Value.int x).1]? = some (some (n, Value.int x).2) from hl))
  exact lv_iinc C.1 C.2.1 (sw_dk C.dc hi) hL.has hj (by rw [hv]) hn rfl (fun ls' hl' => k H locs ls' (sw_L.of1 hL hn hl' hp) hW b hb)
theorem g_iadd (C : sw_Cx Z V cc own nL ret L d) (i : Nat) (hi : L[i]? = some (pc, .iadd, 1, q)) {x y : Int32} (k : sw_S Z V ψ lv (.int (x + y) :: st) q σ o) : sw_S Z V ψ lv (.int y :: .int x :: st) pc σ o := by
  have e := sw_dq C.dc hi
  subst e
  exact fun H locs ls hL hW b hb => lv_iadd C.1 C.2.1 (sw_dk C.dc hi) (k H locs ls hL hW b hb)
theorem g_isub (C : sw_Cx Z V cc own nL ret L d) (i : Nat) (hi : L[i]? = some (pc, .isub, 1, q)) {x y : Int32} (k : sw_S Z V ψ lv (.int (x - y) :: st) q σ o) : sw_S Z V ψ lv (.int y :: .int x :: st) pc σ o := by
  have e := sw_dq C.dc hi
  subst e
  exact fun H locs ls hL hW b hb => lv_isub C.1 C.2.1 (sw_dk C.dc hi) (k H locs ls hL hW b hb)
theorem g_imul (C : sw_Cx Z V cc own nL ret L d) (i : Nat) (hi : L[i]? = some (pc, .imul, 1, q)) {x y : Int32} (k : sw_S Z V ψ lv (.int (x * y) :: st) q σ o) : sw_S Z V ψ lv (.int y :: .int x :: st) pc σ o := by
  have e := sw_dq C.dc hi
  subst e
  exact fun H locs ls hL hW b hb => lv_imul C.1 C.2.1 (sw_dk C.dc hi) (k H locs ls hL hW b hb)
theorem g_iand (C : sw_Cx Z V cc own nL ret L d) (i : Nat) (hi : L[i]? = some (pc, .iand, 1, q)) {x y : Int32} (k : sw_S Z V ψ lv (.int (x &&& y) :: st) q σ o) : sw_S Z V ψ lv (.int y :: .int x :: st) pc σ o := by
  have e := sw_dq C.dc hi
  subst e
  exact fun H locs ls hL hW b hb => lv_iand C.1 C.2.1 (sw_dk C.dc hi) (k H locs ls hL hW b hb)
theorem g_ladd (C : sw_Cx Z V cc own nL ret L d) (i : Nat) (hi : L[i]? = some (pc, .ladd, 1, q)) {x y : Int64} (k : sw_S Z V ψ lv (.long (x + y) :: st) q σ o) : sw_S Z V ψ lv (.long y :: .long x :: st) pc σ o := by
  have e := sw_dq C.dc hi
  subst e
  exact fun H locs ls hL hW b hb => lv_ladd C.1 C.2.1 (sw_dk C.dc hi) (k H locs ls hL hW b hb)
theorem g_lsub (C : sw_Cx Z V cc own nL ret L d) (i : Nat) (hi : L[i]? = some (pc, .lsub, 1, q)) {x y : Int64} (k : sw_S Z V ψ lv (.long (x - y) :: st) q σ o) : sw_S Z V ψ lv (.long y :: .long x :: st) pc σ o := by
  have e := sw_dq C.dc hi
  subst e
  exact fun H locs ls hL hW b hb => lv_lsub C.1 C.2.1 (sw_dk C.dc hi) (k H locs ls hL hW b hb)
theorem g_lmul (C : sw_Cx Z V cc own nL ret L d) (i : Nat) (hi : L[i]? = some (pc, .lmul, 1, q)) {x y : Int64} (k : sw_S Z V ψ lv (.long (x * y) :: st) q σ o) : sw_S Z V ψ lv (.long y :: .long x :: st) pc σ o := by
  have e := sw_dq C.dc hi
  subst e
  exact fun H locs ls hL hW b hb => lv_lmul C.1 C.2.1 (sw_dk C.dc hi) (k H locs ls hL hW b hb)
theorem g_idiv (C : sw_Cx Z V cc own nL ret L d) (i : Nat) (hi : L[i]? = some (pc, .idiv, 1, q)) {x y : Int32} (h0 : ¬ y = 0) (k : sw_S Z V ψ lv (.int (x / y) :: st) q σ o) : sw_S Z V ψ lv (.int y :: .int x :: st) pc σ o := by
  have e := sw_dq C.dc hi
  subst e
  exact fun H locs ls hL hW b hb => lv_idiv C.1 C.2.1 (sw_dk C.dc hi) h0 (k H locs ls hL hW b hb)
theorem g_irem (C : sw_Cx Z V cc own nL ret L d) (i : Nat) (hi : L[i]? = some (pc, .irem, 1, q)) {x y : Int32} (h0 : ¬ y = 0) (k : sw_S Z V ψ lv (.int (sw_rem x y) :: st) q σ o) : sw_S Z V ψ lv (.int y :: .int x :: st) pc σ o := by
  have e := sw_dq C.dc hi
  subst e
  exact fun H locs ls hL hW b hb => lv_irem C.1 C.2.1 (sw_dk C.dc hi) h0 (k H locs ls hL hW b hb)
theorem g_lrem (C : sw_Cx Z V cc own nL ret L d) (i : Nat) (hi : L[i]? = some (pc, .lrem, 1, q)) {x y : Int64} (h0 : ¬ y = 0) (k : sw_S Z V ψ lv (.long (sw_lrem x y) :: st) q σ o) : sw_S Z V ψ lv (.long y :: .long x :: st) pc σ o := by
  have e := sw_dq C.dc hi
  subst e
  exact fun H locs ls hL hW b hb => lv_lrem C.1 C.2.1 (sw_dk C.dc hi) h0 (k H locs ls hL hW b hb)
theorem g_lcmp (C : sw_Cx Z V cc own nL ret L d) (i : Nat) (hi : L[i]? = some (pc, .lcmp, 1, q)) {x y : Int64} (k : sw_S Z V ψ lv (.int (lg_cmp x y) :: st) q σ o) : sw_S Z V ψ lv (.long y :: .long x :: st) pc σ o := by
  have e := sw_dq C.dc hi
  subst e
  exact fun H locs ls hL hW b hb => W.lcmp C.1 C.2.1 (sw_dk C.dc hi) (k H locs ls hL hW b hb)
theorem g_i2l (C : sw_Cx Z V cc own nL ret L d) (i : Nat) (hi : L[i]? = some (pc, .i2l, 1, q)) {x : Int32} (k : sw_S Z V ψ lv (.long x.toInt64 :: st) q σ o) : sw_S Z V ψ lv (.int x :: st) pc σ o := by
  have e := sw_dq C.dc hi
  subst e
  exact fun H locs ls hL hW b hb => lv_i2l C.1 C.2.1 (sw_dk C.dc hi) rfl (k H locs ls hL hW b hb)
theorem g_l2i (C : sw_Cx Z V cc own nL ret L d) (i : Nat) (hi : L[i]? = some (pc, .l2i, 1, q)) {x : Int64} (k : sw_S Z V ψ lv (.int x.toInt32 :: st) q σ o) : sw_S Z V ψ lv (.long x :: st) pc σ o := by
  have e := sw_dq C.dc hi
  subst e
  exact fun H locs ls hL hW b hb => lv_l2i C.1 C.2.1 (sw_dk C.dc hi) rfl (k H locs ls hL hW b hb)
theorem g_i2c (C : sw_Cx Z V cc own nL ret L d) (i : Nat) (hi : L[i]? = some (pc, .i2c, 1, q)) {x : Int32} (k : sw_S Z V ψ lv (.int (sw_c16 x) :: st) q σ o) : sw_S Z V ψ lv (.int x :: st) pc σ o := by
  have e := sw_dq C.dc hi
  subst e
  exact fun H locs ls hL hW b hb => lv_i2c C.1 C.2.1 (sw_dk C.dc hi) rfl (k H locs ls hL hW b hb)
theorem g_dupI (C : sw_Cx Z V cc own nL ret L d) (i : Nat) (hi : L[i]? = some (pc, .dup, 1, q)) {x : Int32} (k : sw_S Z V ψ lv ((.int x) :: (.int x) :: st) q σ o) : sw_S Z V ψ lv ((.int x) :: st) pc σ o := by
  have e := sw_dq C.dc hi
  subst e
  exact fun H locs ls hL hW b hb => lv_dup C.1 C.2.1 (sw_dk C.dc hi) rfl (k H locs ls hL hW b hb)
theorem g_popI (C : sw_Cx Z V cc own nL ret L d) (i : Nat) (hi : L[i]? = some (pc, .pop, 1, q)) {x : Int32} (k : sw_S Z V ψ lv st q σ o) : sw_S Z V ψ lv ((.int x) :: st) pc σ o := by
  have e := sw_dq C.dc hi
  subst e
  exact fun H locs ls hL hW b hb => lv_pop C.1 C.2.1 (sw_dk C.dc hi) rfl (k H locs ls hL hW b hb)
theorem g_dupR (C : sw_Cx Z V cc own nL ret L d) (i : Nat) (hi : L[i]? = some (pc, .dup, 1, q)) {x : Nat} (k : sw_S Z V ψ lv ((sw_r V x) :: (sw_r V x) :: st) q σ o) : sw_S Z V ψ lv ((sw_r V x) :: st) pc σ o := by
  have e := sw_dq C.dc hi
  subst e
  exact fun H locs ls hL hW b hb => lv_dup C.1 C.2.1 (sw_dk C.dc hi) (sw_rv_cat _ _) (k H locs ls hL hW b hb)
theorem g_popR (C : sw_Cx Z V cc own nL ret L d) (i : Nat) (hi : L[i]? = some (pc, .pop, 1, q)) {x : Nat} (k : sw_S Z V ψ lv st q σ o) : sw_S Z V ψ lv ((sw_r V x) :: st) pc σ o := by
  have e := sw_dq C.dc hi
  subst e
  exact fun H locs ls hL hW b hb => lv_pop C.1 C.2.1 (sw_dk C.dc hi) (sw_rv_cat _ _) (k H locs ls hL hW b hb)
theorem g_dup2 (C : sw_Cx Z V cc own nL ret L d) (i : Nat) (hi : L[i]? = some (pc, .dup2, 1, q)) {x : Int32} {y : Nat} (k : sw_S Z V ψ lv (.int x :: sw_r V y :: .int x :: sw_r V y :: st) q σ o) : sw_S Z V ψ lv (.int x :: sw_r V y :: st) pc σ o := by
  have e := sw_dq C.dc hi
  subst e
  exact fun H locs ls hL hW b hb => lv_dup2_11 C.1 C.2.1 (sw_dk C.dc hi) rfl (sw_rv_cat _ _) (k H locs ls hL hW b hb)
theorem g_dup2L (C : sw_Cx Z V cc own nL ret L d) (i : Nat) (hi : L[i]? = some (pc, .dup2, 1, q)) {x : Int64} (k : sw_S Z V ψ lv (.long x :: .long x :: st) q σ o) : sw_S Z V ψ lv (.long x :: st) pc σ o := by
  have e := sw_dq C.dc hi
  subst e
  exact fun H locs ls hL hW b hb => lv_dup2_2 C.1 C.2.1 (sw_dk C.dc hi) rfl (k H locs ls hL hW b hb)
theorem g_if_eq (C : sw_Cx Z V cc own nL ret L d) (i : Nat) {off : Int} (hi : L[i]? = some (pc, .ifCond .eq off, 3, q)) (tgt : Nat) (ht : (pc : Int) + off = (tgt : Int)) {x : Int32} (kt : sw_S Z V ψ lv st tgt σ o1) (kf : sw_S Z V ψ lv st q σ o2) : sw_S Z V ψ lv (.int x :: st) pc σ (if x = 0 then o1 else o2) := by
  have e := sw_dq C.dc hi
  subst e
  exact fun H locs ls hL hW b hb => lv_if_eq C.1 C.2.1 (sw_dk C.dc hi) ht (fun h => kt H locs ls hL hW b (by rw [if_pos h] at hb; exact hb)) (fun h => kf H locs ls hL hW b (by rw [if_neg h] at hb; exact hb))
theorem g_icmp_eq (C : sw_Cx Z V cc own nL ret L d) (i : Nat) {off : Int} (hi : L[i]? = some (pc, .if_icmp .eq off, 3, q)) (tgt : Nat) (ht : (pc : Int) + off = (tgt : Int)) {x y : Int32} (kt : sw_S Z V ψ lv st tgt σ o1) (kf : sw_S Z V ψ lv st q σ o2) : sw_S Z V ψ lv (.int y :: .int x :: st) pc σ (if x = y then o1 else o2) := by
  have e := sw_dq C.dc hi
  subst e
  exact fun H locs ls hL hW b hb => lv_icmp_eq C.1 C.2.1 (sw_dk C.dc hi) ht (fun h => kt H locs ls hL hW b (by rw [if_pos h] at hb; exact hb)) (fun h => kf H locs ls hL hW b (by rw [if_neg h] at hb; exact hb))
theorem g_if_ne (C : sw_Cx Z V cc own nL ret L d) (i : Nat) {off : Int} (hi : L[i]? = some (pc, .ifCond .ne off, 3, q)) (tgt : Nat) (ht : (pc : Int) + off = (tgt : Int)) {x : Int32} (kt : sw_S Z V ψ lv st tgt σ o1) (kf : sw_S Z V ψ lv st q σ o2) : sw_S Z V ψ lv (.int x :: st) pc σ (if x = 0 then o2 else o1) := by
  have e := sw_dq C.dc hi
  subst e
  exact fun H locs ls hL hW b hb => lv_if_ne C.1 C.2.1 (sw_dk C.dc hi) ht (fun h => kt H locs ls hL hW b (by rw [if_neg h] at hb; exact hb)) (fun h => kf H locs ls hL hW b (by rw [if_pos h] at hb; exact hb))
theorem g_icmp_ne (C : sw_Cx Z V cc own nL ret L d) (i : Nat) {off : Int} (hi : L[i]? = some (pc, .if_icmp .ne off, 3, q)) (tgt : Nat) (ht : (pc : Int) + off = (tgt : Int)) {x y : Int32} (kt : sw_S Z V ψ lv st tgt σ o1) (kf : sw_S Z V ψ lv st q σ o2) : sw_S Z V ψ lv (.int y :: .int x :: st) pc σ (if x = y then o2 else o1) := by
  have e := sw_dq C.dc hi
  subst e
  exact fun H locs ls hL hW b hb => lv_icmp_ne C.1 C.2.1 (sw_dk C.dc hi) ht (fun h => kt H locs ls hL hW b (by rw [if_neg h] at hb; exact hb)) (fun h => kf H locs ls hL hW b (by rw [if_pos h] at hb; exact hb))
theorem g_if_lt (C : sw_Cx Z V cc own nL ret L d) (i : Nat) {off : Int} (hi : L[i]? = some (pc, .ifCond .lt off, 3, q)) (tgt : Nat) (ht : (pc : Int) + off = (tgt : Int)) {x : Int32} (kt : sw_S Z V ψ lv st tgt σ o1) (kf : sw_S Z V ψ lv st q σ o2) : sw_S Z V ψ lv (.int x :: st) pc σ (if x < 0 then o1 else o2) := by
  have e := sw_dq C.dc hi
  subst e
  exact fun H locs ls hL hW b hb => lv_if_lt C.1 C.2.1 (sw_dk C.dc hi) ht (fun h => kt H locs ls hL hW b (by rw [if_pos h] at hb; exact hb)) (fun h => kf H locs ls hL hW b (by rw [if_neg h] at hb; exact hb))
theorem g_icmp_lt (C : sw_Cx Z V cc own nL ret L d) (i : Nat) {off : Int} (hi : L[i]? = some (pc, .if_icmp .lt off, 3, q)) (tgt : Nat) (ht : (pc : Int) + off = (tgt : Int)) {x y : Int32} (kt : sw_S Z V ψ lv st tgt σ o1) (kf : sw_S Z V ψ lv st q σ o2) : sw_S Z V ψ lv (.int y :: .int x :: st) pc σ (if x < y then o1 else o2) := by
  have e := sw_dq C.dc hi
  subst e
  exact fun H locs ls hL hW b hb => lv_icmp_lt C.1 C.2.1 (sw_dk C.dc hi) ht (fun h => kt H locs ls hL hW b (by rw [if_pos h] at hb; exact hb)) (fun h => kf H locs ls hL hW b (by rw [if_neg h] at hb; exact hb))
theorem g_if_ge (C : sw_Cx Z V cc own nL ret L d) (i : Nat) {off : Int} (hi : L[i]? = some (pc, .ifCond .ge off, 3, q)) (tgt : Nat) (ht : (pc : Int) + off = (tgt : Int)) {x : Int32} (kt : sw_S Z V ψ lv st tgt σ o1) (kf : sw_S Z V ψ lv st q σ o2) : sw_S Z V ψ lv (.int x :: st) pc σ (if 0 ≤ x then o1 else o2) := by
  have e := sw_dq C.dc hi
  subst e
  exact fun H locs ls hL hW b hb => lv_if_ge C.1 C.2.1 (sw_dk C.dc hi) ht (fun h => kt H locs ls hL hW b (by rw [if_pos h] at hb; exact hb)) (fun h => kf H locs ls hL hW b (by rw [if_neg h] at hb; exact hb))
theorem g_icmp_ge (C : sw_Cx Z V cc own nL ret L d) (i : Nat) {off : Int} (hi : L[i]? = some (pc, .if_icmp .ge off, 3, q)) (tgt : Nat) (ht : (pc : Int) + off = (tgt : Int)) {x y : Int32} (kt : sw_S Z V ψ lv st tgt σ o1) (kf : sw_S Z V ψ lv st q σ o2) : sw_S Z V ψ lv (.int y :: .int x :: st) pc σ (if y ≤ x then o1 else o2) := by
  have e := sw_dq C.dc hi
  subst e
  exact fun H locs ls hL hW b hb => lv_icmp_ge C.1 C.2.1 (sw_dk C.dc hi) ht (fun h => kt H locs ls hL hW b (by rw [if_pos h] at hb; exact hb)) (fun h => kf H locs ls hL hW b (by rw [if_neg h] at hb; exact hb))
theorem g_if_gt (C : sw_Cx Z V cc own nL ret L d) (i : Nat) {off : Int} (hi : L[i]? = some (pc, .ifCond .gt off, 3, q)) (tgt : Nat) (ht : (pc : Int) + off = (tgt : Int)) {x : Int32} (kt : sw_S Z V ψ lv st tgt σ o1) (kf : sw_S Z V ψ lv st q σ o2) : sw_S Z V ψ lv (.int x :: st) pc σ (if 0 < x then o1 else o2) := by
  have e := sw_dq C.dc hi
  subst e
  exact fun H locs ls hL hW b hb => lv_if_gt C.1 C.2.1 (sw_dk C.dc hi) ht (fun h => kt H locs ls hL hW b (by rw [if_pos h] at hb; exact hb)) (fun h => kf H locs ls hL hW b (by rw [if_neg h] at hb; exact hb))
theorem g_icmp_gt (C : sw_Cx Z V cc own nL ret L d) (i : Nat) {off : Int} (hi : L[i]? = some (pc, .if_icmp .gt off, 3, q)) (tgt : Nat) (ht : (pc : Int) + off = (tgt : Int)) {x y : Int32} (kt : sw_S Z V ψ lv st tgt σ o1) (kf : sw_S Z V ψ lv st q σ o2) : sw_S Z V ψ lv (.int y :: .int x :: st) pc σ (if y < x then o1 else o2) := by
  have e := sw_dq C.dc hi
  subst e
  exact fun H locs ls hL hW b hb => lv_icmp_gt C.1 C.2.1 (sw_dk C.dc hi) ht (fun h => kt H locs ls hL hW b (by rw [if_pos h] at hb; exact hb)) (fun h => kf H locs ls hL hW b (by rw [if_neg h] at hb; exact hb))
theorem g_if_le (C : sw_Cx Z V cc own nL ret L d) (i : Nat) {off : Int} (hi : L[i]? = some (pc, .ifCond .le off, 3, q)) (tgt : Nat) (ht : (pc : Int) + off = (tgt : Int)) {x : Int32} (kt : sw_S Z V ψ lv st tgt σ o1) (kf : sw_S Z V ψ lv st q σ o2) : sw_S Z V ψ lv (.int x :: st) pc σ (if x ≤ 0 then o1 else o2) := by
  have e := sw_dq C.dc hi
  subst e
  exact fun H locs ls hL hW b hb => lv_if_le C.1 C.2.1 (sw_dk C.dc hi) ht (fun h => kt H locs ls hL hW b (by rw [if_pos h] at hb; exact hb)) (fun h => kf H locs ls hL hW b (by rw [if_neg h] at hb; exact hb))
theorem g_icmp_le (C : sw_Cx Z V cc own nL ret L d) (i : Nat) {off : Int} (hi : L[i]? = some (pc, .if_icmp .le off, 3, q)) (tgt : Nat) (ht : (pc : Int) + off = (tgt : Int)) {x y : Int32} (kt : sw_S Z V ψ lv st tgt σ o1) (kf : sw_S Z V ψ lv st q σ o2) : sw_S Z V ψ lv (.int y :: .int x :: st) pc σ (if x ≤ y then o1 else o2) := by
  have e := sw_dq C.dc hi
  subst e
  exact fun H locs ls hL hW b hb => lv_icmp_le C.1 C.2.1 (sw_dk C.dc hi) ht (fun h => kt H locs ls hL hW b (by rw [if_pos h] at hb; exact hb)) (fun h => kf H locs ls hL hW b (by rw [if_neg h] at hb; exact hb))
theorem g_goto (C : sw_Cx Z V cc own nL ret L d) (i : Nat) {off : Int} (hi : L[i]? = some (pc, .goto off, 3, q)) (tgt : Nat) (ht : (pc : Int) + off = (tgt : Int)) (k : sw_S Z V ψ lv st tgt σ o) : sw_S Z V ψ lv st pc σ o := fun H locs ls hL hW b hb => lv_goto C.1 C.2.1 (sw_dk C.dc hi) ht (k H locs ls hL hW b hb)
theorem g_ifnull (C : sw_Cx Z V cc own nL ret L d) (i : Nat) {off : Int} (hi : L[i]? = some (pc, .ifnull off, 3, q)) (tgt : Nat) (ht : (pc : Int) + off = (tgt : Int)) {x : Nat} (kt : sw_S Z V ψ lv st tgt σ o1) (kf : sw_S Z V ψ lv st q σ o2) : sw_S Z V ψ lv (sw_r V x :: st) pc σ (if x = 0 then o1 else o2) := by
  have e := sw_dq C.dc hi
  subst e
  intro H locs ls hL hW b hb
  by_cases h0 : x = 0
  · have e0 : sw_r V x = .null := if_pos h0
    rw [e0]
    exact lv_ifnullN C.1 C.2.1 (sw_dk C.dc hi) ht (kt H locs ls hL hW b (by rw [if_pos h0] at hb; exact hb))
  · have e0 : sw_r V x = .ref (V.2.2.2.2.2 x) := if_neg h0
    rw [e0]
    exact lv_ifnull C.1 C.2.1 (sw_dk C.dc hi) (kf H locs ls hL hW b (by rw [if_neg h0] at hb; exact hb))
theorem g_ifnonnull (C : sw_Cx Z V cc own nL ret L d) (i : Nat) {off : Int} (hi : L[i]? = some (pc, .ifnonnull off, 3, q)) (tgt : Nat) (ht : (pc : Int) + off = (tgt : Int)) {x : Nat} (kt : sw_S Z V ψ lv st tgt σ o1) (kf : sw_S Z V ψ lv st q σ o2) : sw_S Z V ψ lv (sw_r V x :: st) pc σ (if x = 0 then o2 else o1) := by
  have e := sw_dq C.dc hi
  subst e
  intro H locs ls hL hW b hb
  by_cases h0 : x = 0
  · have e0 : sw_r V x = .null := if_pos h0
    rw [e0]
    exact lv_ifnonnullN C.1 C.2.1 (sw_dk C.dc hi) (kf H locs ls hL hW b (by rw [if_pos h0] at hb; exact hb))
  · have e0 : sw_r V x = .ref (V.2.2.2.2.2 x) := if_neg h0
    rw [e0]
    exact lv_ifnonnull C.1 C.2.1 (sw_dk C.dc hi) ht (kt H locs ls hL hW b (by rw [if_neg h0] at hb; exact hb))
theorem g_null (C : sw_Cx Z V cc own nL ret L d) (i : Nat) (hi : L[i]? = some (pc, .aconst_null, 1, q)) (k : sw_S Z V ψ lv (sw_r V 0 :: st) q σ o) : sw_S Z V ψ lv st pc σ o := by
  have e := sw_dq C.dc hi
  subst e
  exact fun H locs ls hL hW b hb => lv_null C.1 C.2.1 (sw_dk C.dc hi) (k H locs ls hL hW b hb)
theorem g_tin (C : sw_Cx Z V cc own nL ret L d) (i : Nat) {dflt lo hi' : Int} {offs : Array Int} {len : Nat} (hi : L[i]? = some (pc, .tableswitch dflt lo hi' offs, len, q)) {x : Int32} (v : Int32) (tgt : Nat) (hv : ¬ v.toInt < lo ∧ ¬ hi' < v.toInt) (off : Int) (ho : offs[(v.toInt - lo).toNat]? = some off) (ht : (pc : Int) + off = (tgt : Int)) (kt : sw_S Z V ψ lv st tgt σ o1) (kf : ¬ x = v → sw_S Z V ψ lv (.int x :: st) pc σ o2) : sw_S Z V ψ lv (.int x :: st) pc σ (if x = v then o1 else o2) := by
  intro H locs ls hL hW b hb
  by_cases h : x = v
  · rw [if_pos h] at hb
    subst h
    exact lv_tableIn C.1 C.2.1 (sw_dk C.dc hi) hv.1 hv.2 ho ht (kt H locs ls hL hW b hb)
  · rw [if_neg h] at hb
    exact kf h H locs ls hL hW b hb
theorem g_tout (C : sw_Cx Z V cc own nL ret L d) (i : Nat) {dflt lo hi' : Int} {offs : Array Int} {len : Nat} (hi : L[i]? = some (pc, .tableswitch dflt lo hi' offs, len, q)) {x : Int32} (tgt : Nat) (h : x.toInt < lo ∨ hi' < x.toInt) (ht : (pc : Int) + dflt = (tgt : Int)) (k : sw_S Z V ψ lv st tgt σ o) : sw_S Z V ψ lv (.int x :: st) pc σ o := fun H locs ls hL hW b hb => lv_tableOut C.1 C.2.1 (sw_dk C.dc hi) h ht (k H locs ls hL hW b hb)
theorem g_lsw (C : sw_Cx Z V cc own nL ret L d) (i : Nat) {dflt : Int} {ps : Array (Int × Int)} {len : Nat} (hi : L[i]? = some (pc, .lookupswitch dflt ps, len, q)) (hp : (ps.toList.zip (ps.toList.drop 1)).all (fun (a, next) => a.1 < next.1) = true) {x : Int32} (v : Int32) (tgt : Nat) (off : Int) (ho : Op.lookupswitch.offset ps.toList dflt v.toInt = off) (ht : (pc : Int) + off = (tgt : Int)) (kt : sw_S Z V ψ lv st tgt σ o1) (kf : ¬ x = v → sw_S Z V ψ lv (.int x :: st) pc σ o2) : sw_S Z V ψ lv (.int x :: st) pc σ (if x = v then o1 else o2) := by
  intro H locs ls hL hW b hb
  by_cases h : x = v
  · rw [if_pos h] at hb
    subst h
    exact lv_lookup C.1 C.2.1 (sw_dk C.dc hi) hp ho ht (kt H locs ls hL hW b hb)
  · rw [if_neg h] at hb
    exact kf h H locs ls hL hW b hb
theorem g_lswd (C : sw_Cx Z V cc own nL ret L d) (i : Nat) {dflt : Int} {ps : Array (Int × Int)} {len : Nat} (hi : L[i]? = some (pc, .lookupswitch dflt ps, len, q)) (hp : (ps.toList.zip (ps.toList.drop 1)).all (fun (a, next) => a.1 < next.1) = true) {x : Int32} (tgt : Nat) (off : Int) (ho : Op.lookupswitch.offset ps.toList dflt x.toInt = off) (ht : (pc : Int) + off = (tgt : Int)) (k : sw_S Z V ψ lv st tgt σ o) : sw_S Z V ψ lv (.int x :: st) pc σ o := fun H locs ls hL hW b hb => lv_lookup C.1 C.2.1 (sw_dk C.dc hi) hp ho ht (k H locs ls hL hW b hb)
theorem g_ldc (C : sw_Cx Z V cc own nL ret L d) (i : Nat) {idx : Nat} (hi : L[i]? = some (pc, .ldc idx, 2, q)) (v : Int32) (hw : Cond.constant own idx v ∈ sw_WS) (k : sw_S Z V ψ lv (.int v :: st) q σ o) : sw_S Z V ψ lv st pc σ o := by
  have e := sw_dq C.dc hi
  subst e
  exact fun H locs ls hL hW b hb => lv_ldc C.1 C.2.1 C.ow (C.ws _ hw) (sw_dk C.dc hi) (k H locs ls hL hW b hb)
theorem g_ldc2 (C : sw_Cx Z V cc own nL ret L d) (i : Nat) {idx : Nat} (hi : L[i]? = some (pc, .ldc2_w idx, 3, q)) (v : Int64) (hw : Cond.constantLong own idx v ∈ sw_WS) (k : sw_S Z V ψ lv (.long v :: st) q σ o) : sw_S Z V ψ lv st pc σ o := by
  have e := sw_dq C.dc hi
  subst e
  exact fun H locs ls hL hW b hb => lv_ldc2 C.1 C.2.1 C.ow (C.ws _ hw) (sw_dk C.dc hi) (k H locs ls hL hW b hb)
theorem g_ldcS (C : sw_Cx Z V cc own nL ret L d) (i : Nat) {idx : Nat} (hi : L[i]? = some (pc, .ldc idx, 2, q)) (t : Nat) (ht : t < sw_nS) (ho : (sw_sown t).1 = own) (hx : (sw_sown t).2.1 = idx) (k : sw_S Z V ψ lv (sw_r V (100 + t) :: st) q σ o) : sw_S Z V ψ lv st pc σ o := by
  have e := sw_dq C.dc hi
  subst e
  subst ho; subst hx
  intro H locs ls hL hW b hb
  have k1 := k H locs ls hL hW b hb
  rw [show sw_r V (100 + t) = .ref (V.2.2.2.2.2 (100 + t)) from sw_rv_pos (by omega)] at k1
  exact va_ldcS C.1 C.2.1 C.ow (C.ex.2.1 t ht) (sw_dk C.dc hi) k1
theorem g_get {ci j k : Nat} {fs : List (Option Nat)} {v : Value} (C : sw_Cx Z V cc own nL ret L d) (i : Nat) {idx : Nat} (hi : L[i]? = some (pc, .getfield idx, 3, q)) (hF : sw_FL own idx ci j) (hs : Z.2 k = some (.inl (ci, fs))) (hv : (sw_fv V.2.2.2.2.2 fs (σ k) 0)[j]? = some v) (kk : sw_S Z V ψ lv (v :: st) q σ o) : sw_S Z V ψ lv (sw_r V k :: st) pc σ o := by
  have e := sw_dq C.dc hi
  subst e
  intro H locs ls hL hW b hb
  obtain ⟨Cn, T, N, hc, hin, hj, h1, hl⟩ := hF
  have hk0 : k ≠ 0 := by
    have := (C.ok k _ hs).1
    omega
  have hg := sw_ws_get (ad := V.2.2.2.2.2) (dA := V.2.2.2.2.1) (σ := σ) C.ok hs
  rw [show sw_r V k = .ref (V.2.2.2.2.2 k) from sw_rv_pos hk0]
  rcases hl with hl | ⟨host, hl⟩
  · exact va_get (ref := Cn) C.1 C.2.1 C.ws hin C.ow C.K hW.1 (k - 1) hg hc j hj (C.ws _ hl) (by rw [h1]; exact fun _ h => h) hv (sw_dk C.dc hi) (kk H locs ls hL hW b hb)
  · exact va_getN (ref := Cn) C.1 C.2.1 C.ws hin C.ow C.K hW.1 (k - 1) hg hc j hj (C.ws _ hl) (by rw [h1]; exact fun _ h => h) hv (sw_dk C.dc hi) (kk H locs ls hL hW b hb)
theorem g_getI {ci j k : Nat} {fs : List (Option Nat)} (C : sw_Cx Z V cc own nL ret L d) (i : Nat) {idx : Nat} (hi : L[i]? = some (pc, .getfield idx, 3, q)) (hF : sw_FL own idx ci j) (hs : Z.2 k = some (.inl (ci, fs))) (hf : fs[j]? = some none) (kk : sw_S Z V ψ lv (.int (σ k j) :: st) q σ o) : sw_S Z V ψ lv (sw_r V k :: st) pc σ o :=
  g_get C i hi hF hs (by rw [sw_fv_int fs 0 j hf, Nat.zero_add]) kk
theorem g_getR {ci j k t : Nat} {fs : List (Option Nat)} (C : sw_Cx Z V cc own nL ret L d) (i : Nat) {idx : Nat} (hi : L[i]? = some (pc, .getfield idx, 3, q)) (hF : sw_FL own idx ci j) (hs : Z.2 k = some (.inl (ci, fs))) (hf : fs[j]? = some (some t)) (kk : sw_S Z V ψ lv (sw_r V t :: st) q σ o) : sw_S Z V ψ lv (sw_r V k :: st) pc σ o :=
  g_get C i hi hF hs (sw_fv_ref fs 0 j hf) kk
theorem g_put {ci j k : Nat} {fs : List (Option Nat)} {x : Int32} {K : sw_St → Option β} (C : sw_Cx Z V cc own nL ret L d) (i : Nat) {idx : Nat} (hi : L[i]? = some (pc, .putfield idx, 3, q)) (hF : sw_FP own idx ci j) (hs : Z.2 k = some (.inl (ci, fs))) (hf : fs[j]? = some none) (kk : ∀ σ', sw_S Z V ψ lv st q σ' (K σ')) : sw_S Z V ψ lv (.int x :: sw_r V k :: st) pc σ (sw_pt σ k j x K) := by
  have e := sw_dq C.dc hi
  subst e
  intro H locs ls hL hW b hb
  obtain ⟨Cn, T, N, ty0, hc, hin, hj, h1, hl, hty, hnm, hfin, hd⟩ := hF
  have hk0 : k ≠ 0 := by
    have := (C.ok k _ hs).1
    omega
  have hg := sw_ws_get (ad := V.2.2.2.2.2) (dA := V.2.2.2.2.1) (σ := σ) C.ok hs
  have hD := sw_ws_D (dA := V.2.2.2.2.1) (σ := σ) C.inj
  have hlen : j < (sw_fv V.2.2.2.2.2 fs (σ k) 0).length := by
    rw [sw_fv_len]
    exact (List.getElem?_eq_some_iff.mp hf).1
  have hset : (sw_ws V.2.2.2.2.2 V.2.2.2.2.1 Z σ).set (k - 1) (V.2.2.2.2.2 k, .inr (ci, (sw_fv V.2.2.2.2.2 fs (σ k) 0).set j (.int x))) = sw_ws V.2.2.2.2.2 V.2.2.2.2.1 Z (sw_up σ k j x) := by
    rw [← sw_ws_set (j := j) (v := x) C.ok hs]
    congr 1
    rw [sw_fv_set fs 0 j hf]
    simp [sw_ent, sw_up]
  rw [show sw_r V k = .ref (V.2.2.2.2.2 k) from sw_rv_pos hk0]
  rcases hl with hl | ⟨host, hl⟩
  · exact va_put (ref := Cn) (ty := .int) C.1 C.2.1 C.ws hin ty0 hty hnm C.ow C.K hW.1 hD hW.2 (k - 1) hg hc j hj (C.ws _ hl) (by rw [h1]; exact fun _ h => h) hfin hd rfl rfl hlen (sw_dk C.dc hi) (fun H1 locs1 hP1 _ hS1 => kk (sw_up σ k j x) H1 locs1 ls hL ⟨by rw [hset] at hP1; exact hP1, hS1⟩ b hb)
  · exact va_putN (ref := Cn) (ty := .int) C.1 C.2.1 C.ws hin ty0 hty hnm C.ow C.K hW.1 hD hW.2 (k - 1) hg hc j hj (C.ws _ hl) (by rw [h1]; exact fun _ h => h) hfin hd rfl rfl hlen (sw_dk C.dc hi) (fun H1 locs1 hP1 _ hS1 => kk (sw_up σ k j x) H1 locs1 ls hL ⟨by rw [hset] at hP1; exact hP1, hS1⟩ b hb)
theorem g_iald {n k : Nat} {x : Int32} (C : sw_Cx Z V cc own nL ret L d) (i : Nat) (hi : L[i]? = some (pc, .iaload, 1, q)) (hs : Z.2 k = some (.inr (0, n, none))) (hin : sw_in x n = true) (kk : sw_S Z V ψ lv (.int (σ k (sw_ix x)) :: st) q σ o) : sw_S Z V ψ lv (.int x :: sw_r V k :: st) pc σ o := by
  have e := sw_dq C.dc hi
  subst e
  intro H locs ls hL hW b hb
  have hk0 : k ≠ 0 := by
    have := (C.ok k _ hs).1
    omega
  have hg := sw_ws_get (ad := V.2.2.2.2.2) (dA := V.2.2.2.2.1) (σ := σ) C.ok hs
  rw [show sw_r V k = .ref (V.2.2.2.2.2 k) from sw_rv_pos hk0]
  exact va_iald C.1 C.2.1 C.K hW.1 (k - 1) 0 hg rfl (sw_in_vp hin) (sw_dk C.dc hi) (kk H locs ls hL hW b hb)
theorem g_cald {n k : Nat} {x : Int32} (C : sw_Cx Z V cc own nL ret L d) (i : Nat) (hi : L[i]? = some (pc, .caload, 1, q)) (hs : Z.2 k = some (.inr (1, n, none))) (hin : sw_in x n = true) (kk : sw_S Z V ψ lv (.int (σ k (sw_ix x)) :: st) q σ o) : sw_S Z V ψ lv (.int x :: sw_r V k :: st) pc σ o := by
  have e := sw_dq C.dc hi
  subst e
  intro H locs ls hL hW b hb
  have hk0 : k ≠ 0 := by
    have := (C.ok k _ hs).1
    omega
  have hg := sw_ws_get (ad := V.2.2.2.2.2) (dA := V.2.2.2.2.1) (σ := σ) C.ok hs
  rw [show sw_r V k = .ref (V.2.2.2.2.2 k) from sw_rv_pos hk0]
  exact va_cald C.1 C.2.1 C.K hW.1 (k - 1) 1 hg rfl (sw_in_vp hin) (sw_dk C.dc hi) (kk H locs ls hL hW b hb)
theorem g_iast {n k : Nat} {x y : Int32} {K : sw_St → Option β} (C : sw_Cx Z V cc own nL ret L d) (i : Nat) (hi : L[i]? = some (pc, .iastore, 1, q)) (hs : Z.2 k = some (.inr (0, n, none))) (hin : sw_in y n = true) (kk : ∀ σ', sw_S Z V ψ lv st q σ' (K σ')) : sw_S Z V ψ lv (.int x :: .int y :: sw_r V k :: st) pc σ (sw_pt σ k (sw_ix y) x K) := by
  have e := sw_dq C.dc hi
  subst e
  intro H locs ls hL hW b hb
  have hk0 : k ≠ 0 := by
    have := (C.ok k _ hs).1
    omega
  have hg := sw_ws_get (ad := V.2.2.2.2.2) (dA := V.2.2.2.2.1) (σ := σ) C.ok hs
  have hD := sw_ws_D (dA := V.2.2.2.2.1) (σ := σ) C.inj
  have hset : (sw_ws V.2.2.2.2.2 V.2.2.2.2.1 Z σ).set (k - 1) (V.2.2.2.2.2 k, .inl (V.2.2.2.2.1 0, n, .inl (upd (σ k) y.toNatClampNeg x))) = sw_ws V.2.2.2.2.2 V.2.2.2.2.1 Z (sw_up σ k (sw_ix y) x) := by
    rw [← sw_ws_set (j := sw_ix y) (v := x) C.ok hs]
    congr 1
    simp only [sw_ent, sw_up, if_true]
    rfl
  rw [show sw_r V k = .ref (V.2.2.2.2.2 k) from sw_rv_pos hk0]
  exact va_iast C.1 C.2.1 C.K hW.1 hD hW.2 (k - 1) 0 hg rfl (sw_in_vp hin) (sw_dk C.dc hi) (fun H1 locs1 hP1 _ hS1 => kk (sw_up σ k (sw_ix y) x) H1 locs1 ls hL ⟨by rw [hset] at hP1; exact hP1, hS1⟩ b hb)
theorem g_cast {n k : Nat} {x y : Int32} {K : sw_St → Option β} (C : sw_Cx Z V cc own nL ret L d) (i : Nat) (hi : L[i]? = some (pc, .castore, 1, q)) (hs : Z.2 k = some (.inr (1, n, none))) (hin : sw_in y n = true) (kk : ∀ σ', sw_S Z V ψ lv st q σ' (K σ')) : sw_S Z V ψ lv (.int x :: .int y :: sw_r V k :: st) pc σ (sw_pt σ k (sw_ix y) (vp_nar .char x) K) := by
  have e := sw_dq C.dc hi
  subst e
  intro H locs ls hL hW b hb
  have hk0 : k ≠ 0 := by
    have := (C.ok k _ hs).1
    omega
  have hg := sw_ws_get (ad := V.2.2.2.2.2) (dA := V.2.2.2.2.1) (σ := σ) C.ok hs
  have hD := sw_ws_D (dA := V.2.2.2.2.1) (σ := σ) C.inj
  have hset : (sw_ws V.2.2.2.2.2 V.2.2.2.2.1 Z σ).set (k - 1) (V.2.2.2.2.2 k, .inl (V.2.2.2.2.1 1, n, .inl (upd (σ k) y.toNatClampNeg (vp_nar .char x)))) = sw_ws V.2.2.2.2.2 V.2.2.2.2.1 Z (sw_up σ k (sw_ix y) (vp_nar .char x)) := by
    rw [← sw_ws_set (j := sw_ix y) (v := (vp_nar .char x)) C.ok hs]
    congr 1
    simp only [sw_ent, sw_up, if_true]
    rfl
  rw [show sw_r V k = .ref (V.2.2.2.2.2 k) from sw_rv_pos hk0]
  exact va_cast C.1 C.2.1 C.K hW.1 hD hW.2 (k - 1) 1 hg rfl (sw_in_vp hin) (sw_dk C.dc hi) (fun H1 locs1 hP1 _ hS1 => kk (sw_up σ k (sw_ix y) (vp_nar .char x)) H1 locs1 ls hL ⟨by rw [hset] at hP1; exact hP1, hS1⟩ b hb)
theorem g_aald {ai n k t : Nat} {ts : List Nat} {x : Int32} (C : sw_Cx Z V cc own nL ret L d) (i : Nat) (hi : L[i]? = some (pc, .aaload, 1, q)) (hs : Z.2 k = some (.inr (ai, n, some ts))) {Cn : String} (ha : (sw_tys V.2.2.2.2.1)[ai]? = some (V.2.2.2.2.1 ai, .object Cn)) (hin : sw_in x n = true) (ht : ts.getD (sw_ix x) 0 = t) (kk : sw_S Z V ψ lv (sw_r V t :: st) q σ o) : sw_S Z V ψ lv (.int x :: sw_r V k :: st) pc σ o := by
  have e := sw_dq C.dc hi
  subst e
  subst ht
  intro H locs ls hL hW b hb
  have hk0 : k ≠ 0 := by
    have := (C.ok k _ hs).1
    omega
  have hg := sw_ws_get (ad := V.2.2.2.2.2) (dA := V.2.2.2.2.1) (σ := σ) C.ok hs
  rw [show sw_r V k = .ref (V.2.2.2.2.2 k) from sw_rv_pos hk0]
  have k1 := kk H locs ls hL hW b hb
  rw [show sw_r V (ts.getD (sw_ix x) 0) = va_rf (sw_on V.2.2.2.2.2 (ts.getD (sw_ix x) 0)) from (sw_on_rv _ _).symm] at k1
  exact va_aldq C.1 C.2.1 C.K hW.1 (k - 1) ai hg ha (sw_in_vp hin) (sw_dk C.dc hi) k1
theorem g_alen {ai n k : Nat} {t : Option (List Nat)} (C : sw_Cx Z V cc own nL ret L d) (i : Nat) (hi : L[i]? = some (pc, .arraylength, 1, q)) (hs : Z.2 k = some (.inr (ai, n, t))) (h4 : ai < 4) (v : Int32) (hv : Int32.ofNat n = v) (kk : sw_S Z V ψ lv (.int v :: st) q σ o) : sw_S Z V ψ lv (sw_r V k :: st) pc σ o := by
  have e := sw_dq C.dc hi
  subst e
  intro H locs ls hL hW b hb
  have hk0 : k ≠ 0 := by
    have := (C.ok k _ hs).1
    omega
  have hg := sw_ws_get (ad := V.2.2.2.2.2) (dA := V.2.2.2.2.1) (σ := σ) C.ok hs
  rw [show sw_r V k = .ref (V.2.2.2.2.2 k) from sw_rv_pos hk0]
  have k1 := kk H locs ls hL hW b hb
  have ha : ∃ ty, (sw_tys V.2.2.2.2.1)[ai]? = some (V.2.2.2.2.1 ai, ty) := by
    rcases (show ai = 0 ∨ ai = 1 ∨ ai = 2 ∨ ai = 3 by omega) with rfl | rfl | rfl | rfl <;> exact ⟨_, rfl⟩
  obtain ⟨ty, ha⟩ := ha
  cases t with
  | none => exact va_alen C.1 C.2.1 C.K hW.1 (k - 1) ai hg ha hv (sw_dk C.dc hi) k1
  | some t => exact va_alen C.1 C.2.1 C.K hW.1 (k - 1) ai hg ha hv (sw_dk C.dc hi) k1
theorem g_fin {x : Option Value × sw_St} {t : State} {H : Heap} {locs : List Loc} (hx : x.2 = σ) (hW : sw_Wd Z V σ H locs) (ht : t.heap = H) : sw_Q Z V.2.2.1 V.2.2.2.1 V.2.2.2.2.1 V.2.2.2.2.2 x V.2.1.2.2.1 V.2.1.1 (.returned x.1) t := ⟨rfl, by rw [ht, hx]; exact hW.1, hW.2.F ht⟩
theorem g_iret {v : Int32} {x : β} (C : sw_Cx Z V cc own nL (some .int) L d) (i : Nat) (hi : L[i]? = some (pc, .ireturn, 1, q)) (hx : ψ x = (some (.int v), σ)) : sw_S Z V ψ lv [.int v] pc σ (some x) := by
  intro H locs ls hL hW b hb
  cases hb
  exact W.iret (v := v) C.1 C.2.1 C.2.2.2.1 (fun t ht _ => by rw [hx]; exact g_fin rfl hW ht) hW.2.2.2 (sw_dk C.dc hi) C.2.2.2.2.1
theorem g_zret {v : Int32} {x : β} {ty : FieldType} (C : sw_Cx Z V cc own nL (some ty) L d) (i : Nat) (hi : L[i]? = some (pc, .ireturn, 1, q)) (hn : narrow ty (.int v) = .int v) (hx : ψ x = (some (.int v), σ)) : sw_S Z V ψ lv [.int v] pc σ (some x) := by
  intro H locs ls hL hW b hb
  cases hb
  exact W.zret (v := v) C.1 C.2.1 C.2.2.2.1 hn (fun t ht _ => by rw [hx]; exact g_fin rfl hW ht) hW.2.2.2 (sw_dk C.dc hi) C.2.2.2.2.1
theorem g_vret {x : β} (C : sw_Cx Z V cc own nL none L d) (i : Nat) (hi : L[i]? = some (pc, .return_, 1, q)) (hx : ψ x = (none, σ)) : sw_S Z V ψ lv [] pc σ (some x) := by
  intro H locs ls hL hW b hb
  cases hb
  exact W.vret C.1 C.2.1 C.2.2.2.1 (fun t ht _ => by rw [hx]; exact g_fin rfl hW ht) hW.2.2.2 (sw_dk C.dc hi) C.2.2.2.2.1
theorem g_lret {v : Int64} {x : β} (C : sw_Cx Z V cc own nL (some .long) L d) (i : Nat) (hi : L[i]? = some (pc, .lreturn, 1, q)) (hx : ψ x = (some (.long v), σ)) : sw_S Z V ψ lv [.long v] pc σ (some x) := by
  intro H locs ls hL hW b hb
  cases hb
  exact W.lret (v := v) C.1 C.2.1 C.2.2.2.1 (fun t ht _ => by rw [hx]; exact g_fin rfl hW ht) hW.2.2.2 (sw_dk C.dc hi) C.2.2.2.2.1
theorem g_aret {k : Nat} {x : β} {nm : String} (C : sw_Cx Z V cc own nL (some (.object nm)) L d) (i : Nat) (hi : L[i]? = some (pc, .areturn, 1, q)) (hx : ψ x = (some (sw_r V k), σ)) : sw_S Z V ψ lv [sw_r V k] pc σ (some x) := by
  intro H locs ls hL hW b hb
  cases hb
  exact W.aret (v := sw_r V k) C.1 C.2.1 C.2.2.2.1 (Or.inl ⟨nm, rfl⟩) (by unfold sw_r sw_rv; split; exact Or.inl rfl; exact Or.inr ⟨_, rfl⟩) (fun t ht _ => by rw [hx]; exact g_fin rfl hW ht) hW.2.2.2 (sw_dk C.dc hi) C.2.2.2.2.1
-- contracts
def sw_Pc (Z : sw_Z) (dC : Nat → ClassId) (dI : Nat → Nat → Nat) (dA : Nat → ClassId) (ad : Nat → Nat) (av : List Value) (σ : sw_St) : Array Value → State → Prop := fun v U => v = av.toArray ∧ va_P (dC, dI) sw_cl (sw_ws ad dA Z σ) U.heap ∧ va_K (dC, dI) sw_cl (sw_tys dA) U ∧ sw_Ex ad (sw_A Z ad) U U.heap
def sw_M (Z : sw_Z) (l : Launch) (y : MethodName) (cc : ByteArray) (nL : Nat) (ret : Option FieldType) (d : Nat) (dC : Nat → ClassId) (dI : Nat → Nat → Nat) (dA : Nat → ClassId) (ad : Nat → Nat) (av : List Value) (σ : sw_St) (x : Option Value × sw_St) : Prop :=
  Met l y (Cond.code y cc nL ret :: sw_WS) { frames := d, cells := 0, slots := 0, locals := 40 * d } (sw_Pc Z dC dI dA ad av σ) (sw_Q Z dC dI dA ad x) 0 0 (sw_A Z ad)
theorem sw_Pc_blind (Z : sw_Z) (dC : Nat → ClassId) (dI : Nat → Nat → Nat) (dA : Nat → ClassId) (ad : Nat → Nat) (av : List Value) (σ : sw_St) : FrameBlind (sw_Pc Z dC dI dA ad av σ) := by
  intro a U g mk h
  obtain ⟨h1, h2, h3, h4⟩ := h
  exact ⟨h1, h2, va_K.moved (u := U) (U := U.calling g mk a) (Vm.Alike.refl U.vm) h3, sw_Ex.same (s := U) (U := U.calling g mk a) rfl h4⟩
theorem sw_cats : ∀ (rest : List Value), (rest.map fun v => v.category).sum ≤ 2 * rest.length
  | [] => Nat.le_refl 0
  | v :: r => by
    have h := sw_cats r
    have h2 : v.category ≤ 2 := by cases v <;> simp [Value.category]
    simp only [List.map_cons, List.sum_cons, List.length_cons]
    omega
theorem sw_run {β₁ : Type} {ψ₁ : β₁ → Option Value × sw_St} {oc : Option β₁} {K : β₁ → Option β} {av st0 rest : List Value} {y : MethodName} {cc' : ByteArray} {nL' d' : Nat} {ret' : Option FieldType} (C : sw_Cx Z V cc own nL ret L d)
    (hM : ∀ b, oc = some b → sw_M Z V.1.2.1 y cc' nL' ret' d' V.2.2.1 V.2.2.2.1 V.2.2.2.2.1 V.2.2.2.2.2 av σ (ψ₁ b)) {pc : Nat}
    (run : ∀ b, oc = some b → ∀ (H : Heap) (locs : List Loc) (ls : Array Slot), sw_L V ls lv → sw_Wd Z V σ H locs → va_Run V.1.1 V.1.2.1 V.1.2.2.1 V.1.2.2.2 V.2.1.1 V.2.1.2.1 V.2.1.2.2.1 V.2.1.2.2.2.1 V.2.1.2.2.2.2.1 V.2.1.2.2.2.2.2 H locs 0 0 0 0 (F0 V.2.1.2.1 pc ls st0) rest (sw_Q Z V.2.2.1 V.2.2.2.1 V.2.2.2.2.1 V.2.2.2.2.2 (ψ₁ b) av.toArray) (sw_A Z V.2.2.2.2.2))
    (kk : ∀ b, sw_S Z V ψ lv ((ψ₁ b).1.toList ++ rest) (pc + 3) (ψ₁ b).2 (K b)) : sw_S Z V ψ lv st0 pc σ (oc.bind K) := by
  intro H locs ls hL hW b hb
  cases hoc : oc with
  | none => rw [hoc] at hb; cases hb
  | some b₁ =>
    rw [hoc] at hb
    have hb : K b₁ = some b := hb
    intro T hT X
    obtain ⟨v, st₀, t, T', L', h0, X', hL', e1, e2, ⟨hv, hP, hz, hk⟩, stp⟩ := run b₁ hoc H locs ls hL hW T hT X
    have hv' : v = (ψ₁ b₁).1 := by
      injection hv
    rw [h0] at hz hk
    have hS : va_S (sw_A Z V.2.2.2.2.2) V.2.1.1.heap T'.heap (locs ++ L') :=
      ⟨Nat.le_trans hW.2.1 (by rw [e1]; exact hz), fun q h1 h2 => by rw [e1, hk q (Nat.lt_of_lt_of_le h1 hW.2.1) h2]; exact hW.2.2.1 q h1 h2, fun q hq => by
        rcases List.mem_append.mp hq with h | h
        · exact hW.2.2.2 q h
        · exact hL' q h⟩
    obtain ⟨t2, a1, b1⟩ := kk b₁ T'.heap (locs ++ L') ls hL ⟨by rw [e1]; exact hP, hS⟩ b hb T' rfl X'
    subst hv'
    exact ⟨t2, stp t2 a1, b1⟩
theorem sw_pay (C : sw_Cx Z V cc own nL ret L d) {y : MethodName} {cc' : ByteArray} {nL' : Nat} {ret' : Option FieldType} (hc : Cond.code y cc' nL' ret' ∈ sw_WS) : ∀ w ∈ (Cond.code y cc' nL' ret' :: sw_WS), ∀ (a' : Array Value) (U : State), V.2.1.1.WarmedH U.vm → w.before a' U = true := by
  intro w hw a' U hWm
  rcases List.mem_cons.mp hw with rfl | h
  · exact sw_ok_warm (sw_WS_ok hc) hWm (C.ws _ hc)
  · exact sw_ok_warm (sw_WS_ok h) hWm (C.ws _ h)
theorem sw_preS (C : sw_Cx Z V cc own nL ret L d) {av : List Value} {H : Heap} {locs : List Loc} (hW : sw_Wd Z V σ H locs) : PreS V.2.1.1 H (sw_Pc Z V.2.2.1 V.2.2.2.1 V.2.2.2.2.1 V.2.2.2.2.2 av σ) av :=
  ⟨sw_Pc_blind _ _ _ _ _ _ _, fun U hU hWm => ⟨rfl, by rw [hU]; exact hW.1, va_K.moved hWm.alike C.K, by rw [hU]; exact (C.ex.warm hWm).kept hW.2.2.1⟩⟩
theorem g_callV {β₁ : Type} {ψ₁ : β₁ → Option Value × sw_St} {oc : Option β₁} {K : β₁ → Option β} {y : MethodName} {cc' : ByteArray} {nL' d' n idx k ci : Nat} {ret' : Option FieldType} {fs : List (Option Nat)} (C : sw_Cx Z V cc own nL ret L d) (i : Nat) (hi : L[i]? = some (pc, .invokevirtual idx, 3, q)) (As rest : List Value)
    (hm : sw_MV own idx y cc' nL' ret' n) (hn : As.length = n) (hr : rest.length ≤ 4) (hd : d' + 1 ≤ d) (hs : Z.2 k = some (.inl (ci, fs))) (hcl : (sw_cl[ci]?).map (fun q => q.1) = some y.cls) (hM : ∀ b, oc = some b → sw_M Z V.1.2.1 y cc' nL' ret' d' V.2.2.1 V.2.2.2.1 V.2.2.2.2.1 V.2.2.2.2.2 (sw_r V k :: As) σ (ψ₁ b))
    {st0 : List Value} (hst : st0 = As.reverse ++ sw_r V k :: rest) (kk : ∀ b, sw_S Z V ψ lv ((ψ₁ b).1.toList ++ rest) q (ψ₁ b).2 (K b)) : sw_S Z V ψ lv st0 pc σ (oc.bind K) := by
  have e := sw_dq C.dc hi
  subst e
  subst hst
  have hk0 : k ≠ 0 := by
    have := (C.ok k _ hs).1
    omega
  have er : sw_r V k = .ref (V.2.2.2.2.2 k) := sw_rv_pos hk0
  rw [er] at hM ⊢
  refine sw_run (rest := rest) C hM (fun b hob H locs ls hL hW => ?_) kk
  obtain ⟨⟨hlk, hini, hcode, hy, hdesc, h21⟩, hinst, hsel⟩ := hm
  obtain ⟨hf, hlo⟩ := C.room
  have hg := sw_ws_get (ad := V.2.2.2.2.2) (dA := V.2.2.2.2.1) (σ := σ) C.ok hs
  have hsz : ls.size = lv.length := hL.1.1
  have hmx : V.2.1.2.2.2.2.2.maxLocals = nL := C.2.2.1
  have hroom : 8 + (nL' + 11) + 40 * d' ≤ V.1.2.2.2.locals := by omega
  have hWs : 2 * (F0 V.2.1.2.1 pc ls (As.reverse ++ .ref (V.2.2.2.2.2 k) :: rest)).monitorRoom + (rest.map fun v => v.category).sum ≤ 8 := lv_room (by have := sw_cats rest; omega)
  have hpar : ∀ sig, parseMethodDescriptor y.desc = some sig → n = sig.parameters.length := fun sig h => by
    rw [h] at hdesc
    exact (Option.some.inj hdesc).symm
  cases hq : sw_cl[ci]? with
  | none => rw [hq] at hcl; cases hcl
  | some qq =>
    rw [hq] at hcl
    have hcl' : qq.1 = y.cls := Option.some.inj hcl
    have hrecv := va_recv C.K hW.1 hq hg
    rw [hcl'] at hrecv
    have hp : PreV V.2.1.1 H y.cls (V.2.2.2.2.2 k) (sw_Pc Z V.2.2.1 V.2.2.2.1 V.2.2.2.2.1 V.2.2.2.2.2 (.ref (V.2.2.2.2.2 k) :: As) σ) As := ⟨(sw_preS C hW).1, hrecv, (sw_preS (av := .ref (V.2.2.2.2.2 k) :: As) C hW).2⟩
    rcases hlk with hlk | ⟨host, hlk⟩
    · exact va_runV (nL := nL) (rest := rest) ⟨C.1, C.2.1, hmx, C.ow, C.ws⟩ (hM b hob) ⟨⟨rfl, rfl, by show d' + 1 ≤ _; omega, hroom, sw_pay C hcode, List.mem_cons_self, C.ws _ hcode, C.ws _ hini, hy, hpar, C.ws _ hlk⟩, C.ws _ hinst, C.ws _ hsel⟩ hp rfl hn (hsz.trans (hL.1.2.trans hmx)) rfl hWs (sw_dk C.dc hi) ⟨Nat.zero_le _, Nat.zero_le _⟩
    · exact va_runVN (nL := nL) (rest := rest) ⟨C.1, C.2.1, hmx, C.ow, C.ws⟩ (hM b hob) ⟨⟨⟨rfl, rfl, by show d' + 1 ≤ _; omega, hroom, sw_pay C hcode, List.mem_cons_self⟩, C.ws _ hcode, C.ws _ hini, hy, hpar, C.ws _ hlk⟩, C.ws _ hinst, C.ws _ hsel⟩ hp rfl hn (hsz.trans (hL.1.2.trans hmx)) rfl hWs (sw_dk C.dc hi) ⟨Nat.zero_le _, Nat.zero_le _⟩
theorem g_callS {β₁ : Type} {ψ₁ : β₁ → Option Value × sw_St} {oc : Option β₁} {K : β₁ → Option β} {y : MethodName} {cc' : ByteArray} {nL' d' n idx : Nat} {ret' : Option FieldType} (C : sw_Cx Z V cc own nL ret L d) (i : Nat) (hi : L[i]? = some (pc, .invokestatic idx, 3, q)) (As rest : List Value)
    (hm : sw_MS own idx y cc' nL' ret' n) (hn : As.length = n) (hr : rest.length ≤ 4) (hd : d' + 1 ≤ d) (hM : ∀ b, oc = some b → sw_M Z V.1.2.1 y cc' nL' ret' d' V.2.2.1 V.2.2.2.1 V.2.2.2.2.1 V.2.2.2.2.2 As σ (ψ₁ b))
    {st0 : List Value} (hst : st0 = As.reverse ++ rest) (kk : ∀ b, sw_S Z V ψ lv ((ψ₁ b).1.toList ++ rest) q (ψ₁ b).2 (K b)) : sw_S Z V ψ lv st0 pc σ (oc.bind K) := by
  have e := sw_dq C.dc hi
  subst e
  subst hst
  refine sw_run (rest := rest) C hM (fun b hob H locs ls hL hW => ?_) kk
  obtain ⟨⟨hlk, hini, hcode, hy, hdesc, h21⟩, hstat⟩ := hm
  obtain ⟨hf, hlo⟩ := C.room
  have hsz : ls.size = lv.length := hL.1.1
  have hmx : V.2.1.2.2.2.2.2.maxLocals = nL := C.2.2.1
  have hroom : 8 + (nL' + 11) + 40 * d' ≤ V.1.2.2.2.locals := by omega
  have hWs : 2 * (F0 V.2.1.2.1 pc ls (As.reverse ++ rest)).monitorRoom + (rest.map fun v => v.category).sum ≤ 8 := lv_room (by have := sw_cats rest; omega)
  have hpar : ∀ sig, parseMethodDescriptor y.desc = some sig → n = sig.parameters.length := fun sig h => by
    rw [h] at hdesc
    exact (Option.some.inj hdesc).symm
  rcases hlk with hlk | ⟨host, hlk⟩
  · exact va_runS (nL := nL) (rest := rest) ⟨C.1, C.2.1, hmx, C.ow, C.ws⟩ (hM b hob) ⟨⟨rfl, rfl, by show d' + 1 ≤ _; omega, hroom, sw_pay C hcode, List.mem_cons_self, C.ws _ hcode, C.ws _ hini, hy, hpar, C.ws _ hlk⟩, C.ws _ hstat⟩ (sw_preS C hW) rfl hn (hsz.trans (hL.1.2.trans hmx)) rfl hWs (sw_dk C.dc hi) ⟨Nat.zero_le _, Nat.zero_le _⟩
  · exact va_runSN (nL := nL) (rest := rest) ⟨C.1, C.2.1, hmx, C.ow, C.ws⟩ (hM b hob) ⟨⟨⟨rfl, rfl, by show d' + 1 ≤ _; omega, hroom, sw_pay C hcode, List.mem_cons_self⟩, C.ws _ hcode, C.ws _ hini, hy, hpar, C.ws _ hlk⟩, C.ws _ hstat, trivial⟩ (sw_preS C hW) rfl hn (hsz.trans (hL.1.2.trans hmx)) rfl hWs (sw_dk C.dc hi) ⟨Nat.zero_le _, Nat.zero_le _⟩
theorem g_mmin {idx : Nat} {x y : Int32} (C : sw_Cx Z V cc own nL ret L d) (i : Nat) (hi : L[i]? = some (pc, .invokestatic idx, 3, q)) (hl : Cond.methodLink own idx Lib.Math.min.name ∈ sw_WS) (h2 : Cond.static Lib.Math.min.name ∈ sw_WS) (h3 : Cond.initialized "java/lang/Math" ∈ sw_WS) (h4 : Cond.code Lib.Math.min.name Lib.Math.min.code 2 (some .int) ∈ sw_WS) (hd : 1 ≤ d) (hr : st.length ≤ 4) (k : sw_S Z V ψ lv (.int (if y < x then y else x) :: st) q σ o) : sw_S Z V ψ lv (.int y :: .int x :: st) pc σ o := by
  have e := sw_dq C.dc hi
  subst e
  obtain ⟨hf, hlo⟩ := C.room
  intro H locs ls hL hW b hb
  exact va_mmin C.1 C.2.1 (hL.1.2.symm.trans hL.1.1.symm) C.ow (C.ws _ hl) (C.ws _ h2) (C.ws _ h3) (C.ws _ h4) (by omega) (by have := sw_cats st; omega) (Nat.zero_le _) (Nat.zero_le _) (sw_dk C.dc hi) (k H locs ls hL hW b hb)
theorem g_mmax {idx : Nat} {x y : Int32} (C : sw_Cx Z V cc own nL ret L d) (i : Nat) (hi : L[i]? = some (pc, .invokestatic idx, 3, q)) (hl : Cond.methodLink own idx Lib.Math.max.name ∈ sw_WS) (h2 : Cond.static Lib.Math.max.name ∈ sw_WS) (h3 : Cond.initialized "java/lang/Math" ∈ sw_WS) (h4 : Cond.code Lib.Math.max.name Lib.Math.max.code 2 (some .int) ∈ sw_WS) (hd : 1 ≤ d) (hr : st.length ≤ 4) (k : sw_S Z V ψ lv (.int (if x < y then y else x) :: st) q σ o) : sw_S Z V ψ lv (.int y :: .int x :: st) pc σ o := by
  have e := sw_dq C.dc hi
  subst e
  obtain ⟨hf, hlo⟩ := C.room
  intro H locs ls hL hW b hb
  exact va_mmax C.1 C.2.1 (hL.1.2.symm.trans hL.1.1.symm) C.ow (C.ws _ hl) (C.ws _ h2) (C.ws _ h3) (C.ws _ h4) (by omega) (by have := sw_cats st; omega) (Nat.zero_le _) (Nat.zero_le _) (sw_dk C.dc hi) (k H locs ls hL hW b hb)
theorem g_cP {K : Int32 → Option β} {rest : List Value} (h : ∀ r, sw_S Z V ψ lv (.int r :: rest) q σ (K r)) : ∀ b, sw_S Z V ψ lv ((sw_eP σ b).1.toList ++ rest) q (sw_eP σ b).2 (K b) := h
theorem g_cI {K : Int32 × sw_St → Option β} {rest : List Value} (h : ∀ r : Int32 × sw_St, sw_S Z V ψ lv (.int r.1 :: rest) q r.2 (K r)) : ∀ b, sw_S Z V ψ lv ((sw_eI b).1.toList ++ rest) q (sw_eI b).2 (K b) := h
theorem g_cV {K : sw_St → Option β} {rest : List Value} (h : ∀ r, sw_S Z V ψ lv rest q r (K r)) : ∀ b, sw_S Z V ψ lv ((sw_eV b).1.toList ++ rest) q (sw_eV b).2 (K b) := h
theorem g_cR {K : Nat → Option β} {rest : List Value} (h : ∀ r, sw_S Z V ψ lv (sw_r V r :: rest) q σ (K r)) : ∀ b, sw_S Z V ψ lv ((sw_eR V.2.2.2.2.2 σ b).1.toList ++ rest) q (sw_eR V.2.2.2.2.2 σ b).2 (K b) := h
theorem g_cL {K : Int64 → Option β} {rest : List Value} (h : ∀ r, sw_S Z V ψ lv (.long r :: rest) q σ (K r)) : ∀ b, sw_S Z V ψ lv ((sw_eL σ b).1.toList ++ rest) q (sw_eL σ b).2 (K b) := h
theorem g_cM {K : Int64 × sw_St → Option β} {rest : List Value} (h : ∀ r : Int64 × sw_St, sw_S Z V ψ lv (.long r.1 :: rest) q r.2 (K r)) : ∀ b, sw_S Z V ψ lv ((sw_eM b).1.toList ++ rest) q (sw_eM b).2 (K b) := h
end G
/-- a contract out of the walk of a body -/
theorem sw_mk {β : Type} {Z : sw_Z} {l : Launch} {y : MethodName} {cc : ByteArray} {nL d : Nat} {ret : Option FieldType} {L : sw_Is} {dC : Nat → ClassId} {dI : Nat → Nat → Nat} {dA : Nat → ClassId} {ad : Nat → Nat} {σ : sw_St} {ψ : β → Option Value × sw_St} {o : Option β} {b : β} {av : List Value} {lv : List (Option Value)}
    (hy : plainName y.cls = true) (hZ : sw_Zok Z) (hI : sw_inj Z ad) (hdc : sw_dc cc L = true) (hlen : lv.length = nL) (hsl : (lg_sl av).length ≤ nL) (hlv : ∀ (j : Nat) (w : Value), lv[j]? = some (some w) → (j, w) ∈ lv_args 0 av) (hb : o = some b)
    (body : ∀ (p : Program) (e : Env) (R : Room) (M : State × MethodId × Array Value × List Frame × Method × Code), sw_Cx Z ((p, l, e, R), M, (dC, dI, dA, ad)) cc y.cls nL ret L d → sw_S Z ((p, l, e, R), M, (dC, dI, dA, ad)) ψ lv [] 0 σ o) : sw_M Z l y cc nL ret d dC dI dA ad av σ (ψ b) := by
  refine Met.ofW (cc := cc) (maxL := nL) (ret := ret) hy rfl ?_
  intro p e s m args below meth c s₁ B hml hv
  obtain ⟨rfl, hP, hK, hE⟩ := hv
  have hts := atoms_spec (ws := Cond.code y cc nL ret :: sw_WS) B.pre
  have hown : s.vm.findClass y.cls = some m.cls := findClass_of_methodNamed B.named
  have C : sw_Cx Z ((p, l, e, (headSpec (Cond.code y cc nL ret :: sw_WS) { frames := d, cells := 0, slots := 0, locals := 40 * d }).room), (s, m, av.toArray, below, meth, c), (dC, dI, dA, ad)) cc y.cls nL ret L d :=
    ⟨B.exec, B.bytes, hml, B.returns, B.notSynchronized, hown, fun w hw => hts w (List.mem_cons_of_mem _ hw), hK, hI, hZ, ⟨Nat.le_refl _, Nat.le_refl _⟩, hE, hdc⟩
  have hl := lv_entry av (n := nL) hsl
  rw [lg_entry_eq]
  refine body p e _ (s, m, av.toArray, below, meth, c) C s.heap [] _ ⟨⟨hl.1.trans hlen.symm, hlen.trans hml.symm⟩, hl.2.1, fun j w hj => hl.2.2 (j, w) (hlv j w hj)⟩ ⟨hP, va_S.rf⟩ b hb
theorem sw_args1 : ∀ (av : List Value) (i : Nat), (∀ v ∈ av, v.category = 1) → (lg_sl av).length = av.length ∧ ∀ (j : Nat) (w : Value), av[j]? = some w → (i + j, w) ∈ lv_args i av
  | [], i, _ => ⟨rfl, fun j w h => by simp at h⟩
  | v :: av, i, h => by
    have hv : v.category = 1 := h v List.mem_cons_self
    obtain ⟨h1, h2⟩ := sw_args1 av (i + 1) (fun w hw => h w (List.mem_cons_of_mem _ hw))
    have hne : ¬ v.category = 2 := by omega
    refine ⟨?_, fun j w hj => ?_⟩
    · unfold lg_sl at h1 ⊢
      simp [hne, h1]
    · unfold lv_args
      rw [if_neg hne]
      cases j with
      | zero =>
        have e : v = w := by simpa using hj
        rw [e]
        exact List.mem_cons_self
      | succ j =>
        have h3 := h2 j w (by simpa using hj)
        have e : i + 1 + j = i + (j + 1) := by omega
        rw [e] at h3
        exact List.mem_cons_of_mem _ h3
theorem sw_mk1 {β : Type} {Z : sw_Z} {l : Launch} {y : MethodName} {cc : ByteArray} {nL d : Nat} {ret : Option FieldType} {L : sw_Is} {dC : Nat → ClassId} {dI : Nat → Nat → Nat} {dA : Nat → ClassId} {ad : Nat → Nat} {σ : sw_St} {ψ : β → Option Value × sw_St} {o : Option β} {b : β} {av : List Value}
    (n : Nat) (hy : plainName y.cls = true) (hZ : sw_Zok Z) (hI : sw_inj Z ad) (hdc : sw_dc cc L = true) (hlen : av.length + n = nL) (hcat : ∀ v ∈ av, v.category = 1) (hb : o = some b)
    (body : ∀ (p : Program) (e : Env) (R : Room) (M : State × MethodId × Array Value × List Frame × Method × Code), sw_Cx Z ((p, l, e, R), M, (dC, dI, dA, ad)) cc y.cls nL ret L d → sw_S Z ((p, l, e, R), M, (dC, dI, dA, ad)) ψ (av.map some ++ List.replicate n none) [] 0 σ o) : sw_M Z l y cc nL ret d dC dI dA ad av σ (ψ b) := by
  obtain ⟨h1, h2⟩ := sw_args1 av 0 hcat
  refine sw_mk hy hZ hI hdc (by simp; omega) (by rw [h1]; omega) (fun j w hj => ?_) hb body
  by_cases hj1 : j < av.length
  · rw [List.getElem?_append_left (by simpa using hj1), List.getElem?_map] at hj
    cases ha : av[j]? with
    | none => rw [ha] at hj; cases hj
    | some x =>
      rw [ha] at hj
      cases hj
      have h3 := h2 j w ha
      rw [Nat.zero_add] at h3
      exact h3
  · rw [List.getElem?_append_right (by simpa using Nat.not_lt.mp hj1)] at hj
    rw [List.getElem?_replicate] at hj
    split at hj <;> cases hj
