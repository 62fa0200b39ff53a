/-! CONSTRUCTORS: a world that grows, cell by cell in the order of making; its cells lie side by side from the address b on -/
def sw_ab (b : Nat) (g : Nat → Nat) : Nat → Nat := fun k => if k ≤ 46 then b + (k - 1) else g k
theorem sw_ab_at {b : Nat} {g : Nat → Nat} {k : Nat} (h : k ≤ 46) : sw_ab b g k = b + (k - 1) := if_pos h
theorem sw_ab_inj {b : Nat} {g : Nat → Nat} {Z : sw_Z} (h : Z.1 ≤ 46) : sw_inj Z (sw_ab b g) := by
  intro i j hi hj e
  rw [sw_ab_at (by omega), sw_ab_at (by omega)] at e
  omega
def sw_zu (Z : sw_Z) (k : Nat) (x : sw_Sh) : sw_Z := (Z.1, fun a => if a = k then some x else Z.2 a)
def sw_zn (Z : sw_Z) (x : sw_Sh) : sw_Z := (Z.1 + 1, fun a => if a = Z.1 + 1 then some x else Z.2 a)
theorem sw_wg {ad : Nat → Nat} {dA : Nat → ClassId} {Z : sw_Z} {σ : sw_St} {k : Nat} {x : sw_Sh} (h1 : 1 ≤ k) (h2 : k ≤ Z.1) (h : Z.2 k = some x) : (sw_ws ad dA Z σ)[k - 1]? = some (ad k, sw_ent ad dA (some x) (σ k)) := by
  have e : k - 1 + 1 = k := by omega
  have hlt : k - 1 < Z.1 := by omega
  simp [sw_ws, List.getElem?_map, hlt, e, h]
theorem sw_wz {ad : Nat → Nat} {dA : Nat → ClassId} {Z : sw_Z} {σ : sw_St} {k : Nat} {x : sw_Sh} (h1 : 1 ≤ k) (h2 : k ≤ Z.1) : (sw_ws ad dA Z σ).set (k - 1) (ad k, sw_ent ad dA (some x) (σ k)) = sw_ws ad dA (sw_zu Z k x) σ := by
  apply List.ext_getElem?
  intro i
  by_cases hi : i = k - 1
  · subst hi
    rw [sw_wg (Z := sw_zu Z k x) (x := x) h1 h2 (by simp [sw_zu]), List.getElem?_set_self (by simp [sw_ws]; omega)]
  · rw [List.getElem?_set_ne (Ne.symm hi)]
    by_cases hl : i < Z.1
    · have hne : ¬ i + 1 = k := by omega
      simp [sw_ws, List.getElem?_map, hl, sw_zu, hne]
    · simp [sw_ws, List.getElem?_map, hl, sw_zu]
theorem sw_wn {ad : Nat → Nat} {dA : Nat → ClassId} {Z : sw_Z} {σ : sw_St} {x : sw_Sh} : sw_ws ad dA (sw_zn Z x) σ = sw_ws ad dA Z σ ++ [(ad (Z.1 + 1), sw_ent ad dA (some x) (σ (Z.1 + 1)))] := by
  unfold sw_ws sw_zn
  rw [List.range_succ, List.map_append]
  congr 1
  · apply List.map_congr_left
    intro i hi
    have := List.mem_range.mp hi
    have hne : ¬ i = Z.1 := by omega
    simp [hne]
  · simp
theorem sw_wu {ad : Nat → Nat} {dA : Nat → ClassId} {Z : sw_Z} {σ : sw_St} {k j : Nat} {x : sw_Sh} {v : Int32} (h1 : 1 ≤ k) (h2 : k ≤ Z.1) (h : Z.2 k = some x) : (sw_ws ad dA Z σ).set (k - 1) (ad k, sw_ent ad dA (some x) (sw_up σ k j v k)) = sw_ws ad dA Z (sw_up σ k j v) := by
  apply List.ext_getElem?
  intro i
  by_cases hi : i = k - 1
  · subst hi
    rw [sw_wg h1 h2 h, List.getElem?_set_self (by simp [sw_ws]; omega)]
  · rw [List.getElem?_set_ne (Ne.symm hi)]
    by_cases hl : i < Z.1
    · have hne : ¬ i + 1 = k := by omega
      simp [sw_ws, List.getElem?_map, hl, sw_up, hne]
    · simp [sw_ws, List.getElem?_map, hl]
theorem sw_fv_setR {ad : Nat → Nat} {f : Nat → Int32} {t u : Nat} : ∀ (fs : List (Option Nat)) (i j : Nat), fs[j]? = some (some u) → (sw_fv ad fs f i).set j (sw_rv ad t) = sw_fv ad (fs.set j (some t)) f i
  | [], i, j, h => by simp at h
  | o :: fs, i, 0, h => by
    simp at h; subst h
    simp [sw_fv]
  | o :: fs, i, j + 1, h => by
    have h' : fs[j]? = some (some u) := by simpa using h
    have := sw_fv_setR (ad := ad) (f := f) (t := t) fs (i + 1) j h'
    cases o <;> simp [sw_fv, this]
/-- what holds all through a constructor's body: N0 cells stand at its start -/
def sw_Dx (V : sw_V) (b : Nat) (g : Nat → Nat) (N0 : Nat) (cc : ByteArray) (own : String) (nL : Nat) (L : sw_Is) (fr mc ms lo : Nat) : Prop :=
  V.1.1.tables.exec = Jvm.exec ∧ V.2.1.2.2.2.2.2.code = cc ∧ V.2.1.2.2.2.2.2.maxLocals = nL ∧ V.2.1.2.2.2.2.1.sig.returnType = none ∧ V.2.1.2.2.2.2.1.locks = false ∧ V.2.1.1.vm.findClass own = some V.2.1.2.1.cls ∧ (∀ w ∈ sw_WS, w.before V.2.1.2.2.1 V.2.1.1 = true) ∧ va_K (V.2.2.1, V.2.2.2.1) sw_cl (sw_tys V.2.2.2.2.1) V.2.1.1 ∧ V.2.2.2.2.2 = sw_ab b g ∧ V.2.1.1.heap.size = b + N0 ∧ V.2.1.2.2.2.2.1.name = "<init>" ∧ V.1.2.2.2 = ({ frames := fr, cells := mc, slots := ms, locals := lo } : Room) ∧ (va_AO RX2 V.2.1.1 ∧ va_AO RX4 V.2.1.1) ∧ sw_Ex (sw_ab b g) (fun q => b ≤ q) V.2.1.1 V.2.1.1.heap ∧ sw_dc cc L = true
def sw_QC (b : Nat) (g : Nat → Nat) (dC : Nat → ClassId) (dI : Nat → Nat → Nat) (dA : Nat → ClassId) (Z : sw_Z) (σ : sw_St) : Array Value → State → Outcome → State → Prop := fun _ st oc t => oc = .returned none ∧ va_P (dC, dI) sw_cl (sw_ws (sw_ab b g) dA Z σ) t.heap ∧ va_F (fun q => b ≤ q) st t
def sw_PC (b : Nat) (g : Nat → Nat) (dC : Nat → ClassId) (dI : Nat → Nat → Nat) (dA : Nat → ClassId) (Z : sw_Z) (σ : sw_St) (av : List Value) : Array Value → State → Prop := fun v U => v = av.toArray ∧ va_P (dC, dI) sw_cl (sw_ws (sw_ab b g) dA Z σ) U.heap ∧ U.heap.size = b + Z.1 ∧ va_K (dC, dI) sw_cl (sw_tys dA) U ∧ (va_AO RX2 U ∧ va_AO RX4 U) ∧ sw_Ex (sw_ab b g) (fun q => b ≤ q) U U.heap
def sw_MC (l : Launch) (y : MethodName) (cc : ByteArray) (nL : Nat) (fr mc ms lo : Nat) (b : Nat) (g : Nat → Nat) (dC : Nat → ClassId) (dI : Nat → Nat → Nat) (dA : Nat → ClassId) (Z : sw_Z) (σ : sw_St) (av : List Value) (Z' : sw_Z) (σ' : sw_St) : Prop :=
  Met l y (Cond.code y cc nL none :: sw_WS) { frames := fr, cells := mc, slots := ms, locals := lo } (sw_PC b g dC dI dA Z σ av) (sw_QC b g dC dI dA Z' σ') mc ms (fun q => b ≤ q)
def sw_T (V : sw_V) (b : Nat) (fin : sw_Z × sw_St) (mc ms : Nat) (Z : sw_Z) (cs sl : Nat) (lv : List (Option Value)) (st : List Value) (pc : Nat) (σ : sw_St) : Prop :=
  ∀ (H : Heap) (locs : List Loc) (ls : Array Slot), sw_L V ls lv → va_P (V.2.2.1, V.2.2.2.1) sw_cl (sw_ws V.2.2.2.2.2 V.2.2.2.2.1 Z σ) H → va_S (fun q => b ≤ q) V.2.1.1.heap H locs →
    W V.1.1 V.1.2.1 V.1.2.2.1 V.1.2.2.2 V.2.1.1 V.2.1.2.1 V.2.1.2.2.1 V.2.1.2.2.2.1 V.2.1.2.2.2.2.1 V.2.1.2.2.2.2.2 H locs cs sl (MQ V.2.1.2.2.2.1 (fun _ st oc t => oc = .returned none ∧ va_P (V.2.2.1, V.2.2.2.1) sw_cl (sw_ws V.2.2.2.2.2 V.2.2.2.2.1 fin.1 fin.2) t.heap ∧ va_F (fun q => b ≤ q) st t) V.2.1.2.2.1 V.2.1.1 mc ms (fun q => b ≤ q)) (F0 V.2.1.2.1 pc ls st)
section T
variable {V : sw_V} {b : Nat} {g : Nat → Nat} {N0 : Nat} {cc : ByteArray} {own : String} {nL : Nat} {L : sw_Is} {fr mc ms lo : Nat} {fin : sw_Z × sw_St} {Z : sw_Z} {cs sl : Nat} {lv : List (Option Value)} {st : List Value} {pc q : Nat} {σ : sw_St}
theorem sw_Dx.dc (C : sw_Dx V b g N0 cc own nL L fr mc ms lo) : sw_dc cc L = true := C.2.2.2.2.2.2.2.2.2.2.2.2.2.2
theorem sw_Dx.ow (C : sw_Dx V b g N0 cc own nL L fr mc ms lo) : V.2.1.1.vm.findClass own = some V.2.1.2.1.cls := C.2.2.2.2.2.1
theorem sw_Dx.ws (C : sw_Dx V b g N0 cc own nL L fr mc ms lo) : ∀ w ∈ sw_WS, w.before V.2.1.2.2.1 V.2.1.1 = true := C.2.2.2.2.2.2.1
theorem sw_Dx.K (C : sw_Dx V b g N0 cc own nL L fr mc ms lo) : va_K (V.2.2.1, V.2.2.2.1) sw_cl (sw_tys V.2.2.2.2.1) V.2.1.1 := C.2.2.2.2.2.2.2.1
theorem sw_Dx.ad (C : sw_Dx V b g N0 cc own nL L fr mc ms lo) : V.2.2.2.2.2 = sw_ab b g := C.2.2.2.2.2.2.2.2.1
theorem sw_Dx.sz (C : sw_Dx V b g N0 cc own nL L fr mc ms lo) : V.2.1.1.heap.size = b + N0 := C.2.2.2.2.2.2.2.2.2.1
theorem sw_Dx.nm (C : sw_Dx V b g N0 cc own nL L fr mc ms lo) : V.2.1.2.2.2.2.1.name = "<init>" := C.2.2.2.2.2.2.2.2.2.2.1
theorem sw_Dx.R (C : sw_Dx V b g N0 cc own nL L fr mc ms lo) : V.1.2.2.2 = ({ frames := fr, cells := mc, slots := ms, locals := lo } : Room) := C.2.2.2.2.2.2.2.2.2.2.2.1
theorem sw_Dx.ao (C : sw_Dx V b g N0 cc own nL L fr mc ms lo) : va_AO RX2 V.2.1.1 ∧ va_AO RX4 V.2.1.1 := C.2.2.2.2.2.2.2.2.2.2.2.2.1
theorem sw_Dx.ex (C : sw_Dx V b g N0 cc own nL L fr mc ms lo) : sw_Ex (sw_ab b g) (fun q => b ≤ q) V.2.1.1 V.2.1.1.heap := C.2.2.2.2.2.2.2.2.2.2.2.2.2.1
theorem tc_iconst (C : sw_Dx V b g N0 cc own nL L fr mc ms lo) (i : Nat) {n : Int} (hi : L[i]? = some (pc, .iconst n, 1, q)) (v : Int32) (hv : Int32.ofInt n = v) (k : sw_T V b fin mc ms Z cs sl lv (.int v :: st) q σ) : sw_T V b fin mc ms Z cs sl lv st pc σ := by
  have e := sw_dq C.dc hi
  subst e
  exact fun H locs ls hL hP hS => lv_iconst C.1 C.2.1 (sw_dk C.dc hi) hv (k H locs ls hL hP hS)
theorem tc_bipush (C : sw_Dx V b g N0 cc own nL L fr mc ms lo) (i : Nat) {n : Int} (hi : L[i]? = some (pc, .bipush n, 2, q)) (v : Int32) (hv : (Int8.ofInt n).toInt32 = v) (k : sw_T V b fin mc ms Z cs sl lv (.int v :: st) q σ) : sw_T V b fin mc ms Z cs sl lv st pc σ := by
  have e := sw_dq C.dc hi
  subst e
  exact fun H locs ls hL hP hS => lv_bipush C.1 C.2.1 (sw_dk C.dc hi) hv (k H locs ls hL hP hS)
theorem tc_sipush (C : sw_Dx V b g N0 cc own nL L fr mc ms lo) (i : Nat) {n : Int} (hi : L[i]? = some (pc, .sipush n, 3, q)) (v : Int32) (hv : (Int16.ofInt n).toInt32 = v) (k : sw_T V b fin mc ms Z cs sl lv (.int v :: st) q σ) : sw_T V b fin mc ms Z cs sl lv st pc σ := by
  have e := sw_dq C.dc hi
  subst e
  exact fun H locs ls hL hP hS => lv_sipush C.1 C.2.1 (sw_dk C.dc hi) hv (k H locs ls hL hP hS)
theorem tc_iload_n (C : sw_Dx V b g N0 cc own nL L fr mc ms lo) (i : Nat) {n : Fin 4} (hi : L[i]? = some (pc, .iload_n n, 1, q)) {x : Int32} (hl : lv[(n : Nat)]? = some (some (.int x))) (k : sw_T V b fin mc ms Z cs sl lv (.int x :: st) q σ) : sw_T V b fin mc ms Z cs sl lv st pc σ := by
  have e := sw_dq C.dc hi
  subst e
  exact fun H locs ls hL hP hS => lv_iload_n C.1 C.2.1 (sw_dk C.dc hi) rfl (hL.at hl) (k H locs ls hL hP hS)
theorem tc_aload_n (C : sw_Dx V b g N0 cc own nL L fr mc ms lo) (i : Nat) {n : Fin 4} (hi : L[i]? = some (pc, .aload_n n, 1, q)) {x : Nat} (hl : lv[(n : Nat)]? = some (some (sw_r V x))) (k : sw_T V b fin mc ms Z cs sl lv (sw_r V x :: st) q σ) : sw_T V b fin mc ms Z cs sl lv st pc σ := by
  have e := sw_dq C.dc hi
  subst e
  intro H locs ls hL hP hS
  have h1 := hL.at hl
  have k1 := k H locs ls hL hP hS
  unfold sw_r sw_rv at h1 k1
  by_cases h0 : x = 0
  · rw [if_pos h0] at h1 k1
    exact lv_aload_nN C.1 C.2.1 (sw_dk C.dc hi) rfl h1 k1
  · rw [if_neg h0] at h1 k1
    exact lv_aload_n C.1 C.2.1 (sw_dk C.dc hi) rfl h1 k1
theorem tc_istore_n (C : sw_Dx V b g N0 cc own nL L fr mc ms lo) (i : Nat) {n : Fin 4} (hi : L[i]? = some (pc, .istore_n n, 1, q)) {x : Int32} (hn : (n : Nat) < lv.length) (hp : sw_pv V lv (n : Nat)) (k : sw_T V b fin mc ms Z cs sl (lv.set (n : Nat) (some (.int x))) st q σ) : sw_T V b fin mc ms Z cs sl lv (.int x :: st) pc σ := by
  have e := sw_dq C.dc hi
  subst e
  exact fun H locs ls hL hP hS => lv_istore_n C.1 C.2.1 (sw_dk C.dc hi) rfl hL.has hn rfl (fun ls' hl' => k H locs ls' (sw_L.of1 hL hn hl' hp) hP hS)
theorem tc_iinc (C : sw_Dx V b g N0 cc own nL L fr mc ms lo) (i : Nat) {n : Nat} {a : Int} (hi : L[i]? = some (pc, .iinc n a, 3, q)) {x : Int32} (v : Int32) (hv : x + Int32.ofInt a = v) (hl : lv[n]? = some (some (.int x))) (hn : n < lv.length) (hp : sw_pv V lv n) (k : sw_T V b fin mc ms Z cs sl (lv.set n (some (.int v))) st q σ) : sw_T V b fin mc ms Z cs sl lv st pc σ := by
  have e := sw_dq C.dc hi
  subst e
  intro H locs ls hL hP hS
  obtain ⟨j, hj⟩ := List.getElem?_of_mem (sw_as_mem.mpr (show lv[(n, Value.int x).1]? = some (some (n, Value.int x).2) from hl))
  exact lv_iinc C.1 C.2.1 (sw_dk C.dc hi) hL.has hj hv hn rfl (fun ls' hl' => k H locs ls' (sw_L.of1 hL hn hl' hp) hP hS)
theorem tc_imul (C : sw_Dx V b g N0 cc own nL L fr mc ms lo) (i : Nat) (hi : L[i]? = some (pc, .imul, 1, q)) {x y : Int32} (v : Int32) (hv : x * y = v) (k : sw_T V b fin mc ms Z cs sl lv (.int v :: st) q σ) : sw_T V b fin mc ms Z cs sl lv (.int y :: .int x :: st) pc σ := by
  have e := sw_dq C.dc hi
  subst e; subst hv
  exact fun H locs ls hL hP hS => lv_imul C.1 C.2.1 (sw_dk C.dc hi) (k H locs ls hL hP hS)
theorem tc_iadd (C : sw_Dx V b g N0 cc own nL L fr mc ms lo) (i : Nat) (hi : L[i]? = some (pc, .iadd, 1, q)) {x y : Int32} (v : Int32) (hv : x + y = v) (k : sw_T V b fin mc ms Z cs sl lv (.int v :: st) q σ) : sw_T V b fin mc ms Z cs sl lv (.int y :: .int x :: st) pc σ := by
  have e := sw_dq C.dc hi
  subst e; subst hv
  exact fun H locs ls hL hP hS => lv_iadd C.1 C.2.1 (sw_dk C.dc hi) (k H locs ls hL hP hS)
theorem tc_dup (C : sw_Dx V b g N0 cc own nL L fr mc ms lo) (i : Nat) (hi : L[i]? = some (pc, .dup, 1, q)) {x : Nat} (k : sw_T V b fin mc ms Z cs sl lv (sw_r V x :: sw_r V x :: st) q σ) : sw_T V b fin mc ms Z cs sl lv (sw_r V x :: st) pc σ := by
  have e := sw_dq C.dc hi
  subst e
  exact fun H locs ls hL hP hS => lv_dup C.1 C.2.1 (sw_dk C.dc hi) (sw_rv_cat _ _) (k H locs ls hL hP hS)
theorem tc_pop (C : sw_Dx V b g N0 cc own nL L fr mc ms lo) (i : Nat) (hi : L[i]? = some (pc, .pop, 1, q)) {x : Int32} (k : sw_T V b fin mc ms Z cs sl lv st q σ) : sw_T V b fin mc ms Z cs sl lv (.int x :: st) pc σ := by
  have e := sw_dq C.dc hi
  subst e
  exact fun H locs ls hL hP hS => lv_pop C.1 C.2.1 (sw_dk C.dc hi) rfl (k H locs ls hL hP hS)
theorem tc_goto (C : sw_Dx V b g N0 cc own nL L fr mc ms lo) (i : Nat) {off : Int} (hi : L[i]? = some (pc, .goto off, 3, q)) (tgt : Nat) (ht : (pc : Int) + off = (tgt : Int)) (k : sw_T V b fin mc ms Z cs sl lv st tgt σ) : sw_T V b fin mc ms Z cs sl lv st pc σ := fun H locs ls hL hP hS => lv_goto C.1 C.2.1 (sw_dk C.dc hi) ht (k H locs ls hL hP hS)
theorem tc_geT (C : sw_Dx V b g N0 cc own nL L fr mc ms lo) (i : Nat) {off : Int} (hi : L[i]? = some (pc, .if_icmp .ge off, 3, q)) (tgt : Nat) (ht : (pc : Int) + off = (tgt : Int)) {x y : Int32} (h : y ≤ x) (k : sw_T V b fin mc ms Z cs sl lv st tgt σ) : sw_T V b fin mc ms Z cs sl lv (.int y :: .int x :: st) pc σ := fun H locs ls hL hP hS => lv_icmp_ge C.1 C.2.1 (sw_dk C.dc hi) ht (fun _ => k H locs ls hL hP hS) (fun h' => absurd h h')
theorem tc_geF (C : sw_Dx V b g N0 cc own nL L fr mc ms lo) (i : Nat) {off : Int} (hi : L[i]? = some (pc, .if_icmp .ge off, 3, q)) (tgt : Nat) (ht : (pc : Int) + off = (tgt : Int)) {x y : Int32} (h : ¬ y ≤ x) (k : sw_T V b fin mc ms Z cs sl lv st q σ) : sw_T V b fin mc ms Z cs sl lv (.int y :: .int x :: st) pc σ := by
  have e := sw_dq C.dc hi
  subst e
  exact fun H locs ls hL hP hS => lv_icmp_ge C.1 C.2.1 (sw_dk C.dc hi) ht (fun h' => absurd h' h) (fun _ => k H locs ls hL hP hS)
theorem tc_cs {cs' sl' : Nat} (h1 : cs = cs') (h2 : sl = sl') (k : sw_T V b fin mc ms Z cs' sl' lv st pc σ) : sw_T V b fin mc ms Z cs sl lv st pc σ := by
  subst h1; subst h2; exact k
theorem tc_vret (C : sw_Dx V b g N0 cc own nL L fr mc ms lo) (i : Nat) (hi : L[i]? = some (pc, .return_, 1, q)) : sw_T V b (Z, σ) mc ms Z mc ms lv [] pc σ := by
  intro H locs ls hL hP hS
  exact W.vret C.1 C.2.1 C.2.2.2.1 (fun t ht _ => ⟨rfl, by rw [ht]; exact hP, hS.F ht⟩) hS.2.2 (sw_dk C.dc hi) C.2.2.2.2.1
theorem tc_objInit (C : sw_Dx V b g N0 cc own nL L fr mc ms lo) (i : Nat) {idx : Nat} (hi : L[i]? = some (pc, .invokespecial idx, 3, q)) {x : Nat} (hx : x ≠ 0) (h1 : Cond.methodLink own idx objectInit ∈ sw_WS) (h2 : Cond.instanceMethod objectInit ∈ sw_WS) (h3 : Cond.code objectInit ⟨#[0xb1]⟩ 1 none ∈ sw_WS) (hf : 1 ≤ fr) (hr : 12 + 2 * st.length ≤ lo) (k : sw_T V b fin mc ms Z cs sl lv st q σ) : sw_T V b fin mc ms Z cs sl lv (sw_r V x :: st) pc σ := by
  have e := sw_dq C.dc hi
  subst e
  intro H locs ls hL hP hS
  rw [show sw_r V x = .ref (V.2.2.2.2.2 x) from sw_rv_pos hx]
  refine W.objInit C.1 C.2.1 C.ow (C.ws _ h1) (C.ws _ h2) (C.ws _ h3) rfl (hL.1.1.trans hL.1.2) rfl (sw_dk C.dc hi) (by rw [C.R]; exact hf) ?_ (k H locs ls hL hP hS)
  rw [C.R]
  have := sw_cats st
  show 2 * 0 + _ + 12 ≤ lo
  omega
end T
section T2
variable {V : sw_V} {b : Nat} {g : Nat → Nat} {N0 : Nat} {cc : ByteArray} {own : String} {nL : Nat} {L : sw_Is} {fr mc ms lo : Nat} {fin : sw_Z × sw_St} {Z : sw_Z} {cs sl : Nat} {lv : List (Option Value)} {st : List Value} {pc q : Nat} {σ : sw_St}
/-- the address of what is made next -/
theorem sw_next (C : sw_Dx V b g N0 cc own nL L fr mc ms lo) (hN : N0 + cs = Z.1) (h46 : Z.1 + 1 ≤ 46) {H1 : Heap} {x : sw_Sh} {e : va_E} {a : Nat} (hP : va_P (V.2.2.1, V.2.2.2.1) sw_cl (sw_ws V.2.2.2.2.2 V.2.2.2.2.1 Z σ ++ [(a, e)]) H1) (hD : va_D (fun q => b ≤ q) (sw_ws V.2.2.2.2.2 V.2.2.2.2.1 Z σ ++ [(a, e)])) (hle : H1.size ≤ V.2.1.1.heap.size + (cs + 1)) : a = V.2.2.2.2.2 (Z.1 + 1) := by
  have hlen : (sw_ws V.2.2.2.2.2 V.2.2.2.2.1 Z σ).length = Z.1 := by simp [sw_ws]
  have hlast : (sw_ws V.2.2.2.2.2 V.2.2.2.2.1 Z σ ++ [(a, e)])[Z.1]? = some (a, e) := by
    rw [List.getElem?_append_right (by omega), hlen]
    simp
  have h1 : a < H1.size := (hP _ _ hlast).lt
  have h2 : b ≤ a := hD.2 _ _ hlast
  rw [C.sz] at hle
  rw [C.ad, sw_ab_at (by omega)]
  have hne : ∀ i, i < Z.1 → a ≠ b + i := by
    intro i hi he
    have hi' : (sw_ws V.2.2.2.2.2 V.2.2.2.2.1 Z σ ++ [(a, e)])[i]? = some (V.2.2.2.2.2 (i + 1), sw_ent V.2.2.2.2.2 V.2.2.2.2.1 (Z.2 (i + 1)) (σ (i + 1))) := by
      rw [List.getElem?_append_left (by omega)]
      simp [sw_ws, List.getElem?_map, hi]
    have := hD.1 Z.1 i _ _ hlast hi' (by
      show a = V.2.2.2.2.2 (i + 1)
      rw [C.ad, sw_ab_at (by omega), he]
      omega)
    omega
  rcases Nat.lt_or_ge a (b + Z.1) with h | h
  · exact absurd (show a = b + (a - b) by omega) (hne (a - b) (by omega))
  · omega
theorem sw_DD (C : sw_Dx V b g N0 cc own nL L fr mc ms lo) (h46 : Z.1 ≤ 46) : va_D (fun q => b ≤ q) (sw_ws V.2.2.2.2.2 V.2.2.2.2.1 Z σ) := by
  have hI : sw_inj Z V.2.2.2.2.2 := by rw [C.ad]; exact sw_ab_inj h46
  have hD := sw_ws_D (dA := V.2.2.2.2.1) (σ := σ) hI
  refine ⟨hD.1, fun k x hx => ?_⟩
  obtain ⟨i, hi, e⟩ := hD.2 k x hx
  rw [e, C.ad, sw_ab_at (by omega)]
  omega
theorem sw_DA (C : sw_Dx V b g N0 cc own nL L fr mc ms lo) : ∀ q, V.2.1.1.heap.size ≤ q → b ≤ q := fun q h => by
  rw [C.sz] at h
  omega
def sw_df (fs : List (Option Nat)) (N : Nat) (ty : Nat → FieldType) : Prop := ∀ (ad : Nat → Nat) (j : Nat), j < N → defaultValue (ty j) = vp_V (sw_fv ad fs (fun _ => 0) 0) j
theorem tc_new (C : sw_Dx V b g N0 cc own nL L fr mc ms lo) (i : Nat) {idx ci N : Nat} {Cn : String} {T : u_T} {ty : Nat → FieldType} (hi : L[i]? = some (pc, .new idx, 3, q)) (fs : List (Option Nat)) (hc : sw_cl[ci]? = some (Cn, T, N)) (hin : ∀ w ∈ u_ws Cn T N, w ∈ sw_WS) (hty : ∀ k, k < N → parseFieldDescriptor (T k).2.2.1 = some (ty k)) (h1 : Cond.classLink own idx Cn ∈ sw_WS) (h2 : Cond.instantiable Cn N ∈ sw_WS) (h3 : Cond.initialized Cn ∈ sw_WS) (hdf : sw_df fs N ty) (hN : N0 + cs = Z.1) (k' : Nat) (hk' : Z.1 + 1 = k') (h46 : k' ≤ 46) (hσ : σ k' = fun _ => 0) (hcs : cs + 1 ≤ mc) (hsl : sl + N ≤ ms)
    (k : sw_T V b fin mc ms (sw_zn Z (.inl (ci, fs))) (cs + 1) (sl + N) lv (sw_r V k' :: st) q σ) : sw_T V b fin mc ms Z cs sl lv st pc σ := by
  have e := sw_dq C.dc hi
  subst e
  subst hk'
  intro H locs ls hL hP hS
  refine va_new (ci := ci) (fs := sw_fv V.2.2.2.2.2 fs (fun _ => 0) 0) C.1 C.2.1 C.ws hin ty hty C.ow (C.ws _ h1) (C.ws _ h2) (C.ws _ h3) C.K hP (sw_DD C (by omega)) hS (sw_DA C) hc (hdf _) (by rw [C.R]; exact hcs) (by rw [C.R]; exact hsl) (sw_dk C.dc hi) (fun a H1 hP1 hD1 hS1 => ?_)
  intro T' hT X
  have ha := sw_next (x := .inl (ci, fs)) C hN h46 hP1 hD1 (by have := X.same.2.2.1; rw [← hT]; exact this)
  subst ha
  have hP2 : va_P (V.2.2.1, V.2.2.2.1) sw_cl (sw_ws V.2.2.2.2.2 V.2.2.2.2.1 (sw_zn Z (.inl (ci, fs))) σ) H1 := by
    rw [sw_wn, hσ]
    exact hP1
  have k1 := k H1 locs ls hL hP2 hS1
  rw [show sw_r V (Z.1 + 1) = .ref (V.2.2.2.2.2 (Z.1 + 1)) from sw_rv_pos (by omega)] at k1
  exact k1 T' hT X
theorem tc_newi (C : sw_Dx V b g N0 cc own nL L fr mc ms lo) (i : Nat) (hi : L[i]? = some (pc, .newarray .int, 2, q)) {x : Int32} (n : Nat) (h1 : Cond.arrayClass .int ∈ sw_WS) (hx : ¬ x < 0 ∧ x.toNatClampNeg = n) (hb : n * 4 ≤ 536870912) (hN : N0 + cs = Z.1) (k' : Nat) (hk' : Z.1 + 1 = k') (h46 : k' ≤ 46) (hσ : σ k' = fun _ => 0) (hcs : cs + 1 ≤ mc) (hsl : sl + n ≤ ms)
    (k : sw_T V b fin mc ms (sw_zn Z (.inr (0, n, none))) (cs + 1) (sl + n) lv (sw_r V k' :: st) q σ) : sw_T V b fin mc ms Z cs sl lv (.int x :: st) pc σ := by
  have e := sw_dq C.dc hi
  subst e
  subst hk'
  intro H locs ls hL hP hS
  refine va_newa (atype := .int) C.1 C.2.1 (C.ws _ h1) (ty := .int) rfl C.K hP (sw_DD C (by omega)) hS (sw_DA C) (a0 := (n, .inl fun _ => 0)) (fun cA => rfl) hx.1 hx.2 hb (by rw [C.R]; exact hcs) (by rw [C.R]; exact hsl) (sw_dk C.dc hi) (fun a cA H1 hK1 hP1 hD1 hS1 => ?_)
  intro T' hT X
  have hcA : cA = V.2.2.2.2.1 0 := by
    have r1 : V.2.1.1.vm.findClass _ = some cA := (hK1.2 4 (cA, .int) rfl).2
    have r2 : V.2.1.1.vm.findClass _ = some (V.2.2.2.2.1 0) := (hK1.2 0 (V.2.2.2.2.1 0, .int) rfl).2
    exact Option.some.inj (r1.symm.trans r2)
  subst hcA
  have ha := sw_next (x := .inr (0, n, none)) C hN h46 hP1 hD1 (by have := X.same.2.2.1; rw [← hT]; exact this)
  subst ha
  have hP2 : va_P (V.2.2.1, V.2.2.2.1) sw_cl (sw_ws V.2.2.2.2.2 V.2.2.2.2.1 (sw_zn Z (.inr (0, n, none))) σ) H1 := by
    rw [sw_wn, hσ]
    exact hP1
  have k1 := k H1 locs ls hL hP2 hS1
  rw [show sw_r V (Z.1 + 1) = .ref (V.2.2.2.2.2 (Z.1 + 1)) from sw_rv_pos (by omega)] at k1
  exact k1 T' hT X
theorem tc_newc (C : sw_Dx V b g N0 cc own nL L fr mc ms lo) (i : Nat) (hi : L[i]? = some (pc, .newarray .char, 2, q)) {x : Int32} (n : Nat) (h1 : Cond.arrayClass .char ∈ sw_WS) (hx : ¬ x < 0 ∧ x.toNatClampNeg = n) (hb : n * 2 ≤ 536870912) (hN : N0 + cs = Z.1) (k' : Nat) (hk' : Z.1 + 1 = k') (h46 : k' ≤ 46) (hσ : σ k' = fun _ => 0) (hcs : cs + 1 ≤ mc) (hsl : sl + n ≤ ms)
    (k : sw_T V b fin mc ms (sw_zn Z (.inr (1, n, none))) (cs + 1) (sl + n) lv (sw_r V k' :: st) q σ) : sw_T V b fin mc ms Z cs sl lv (.int x :: st) pc σ := by
  have e := sw_dq C.dc hi
  subst e
  subst hk'
  intro H locs ls hL hP hS
  refine va_newa (atype := .char) C.1 C.2.1 (C.ws _ h1) (ty := .char) rfl C.K hP (sw_DD C (by omega)) hS (sw_DA C) (a0 := (n, .inl fun _ => 0)) (fun cA => rfl) hx.1 hx.2 hb (by rw [C.R]; exact hcs) (by rw [C.R]; exact hsl) (sw_dk C.dc hi) (fun a cA H1 hK1 hP1 hD1 hS1 => ?_)
  intro T' hT X
  have hcA : cA = V.2.2.2.2.1 1 := by
    have r1 : V.2.1.1.vm.findClass _ = some cA := (hK1.2 4 (cA, .char) rfl).2
    have r2 : V.2.1.1.vm.findClass _ = some (V.2.2.2.2.1 1) := (hK1.2 1 (V.2.2.2.2.1 1, .char) rfl).2
    exact Option.some.inj (r1.symm.trans r2)
  subst hcA
  have ha := sw_next (x := .inr (1, n, none)) C hN h46 hP1 hD1 (by have := X.same.2.2.1; rw [← hT]; exact this)
  subst ha
  have hP2 : va_P (V.2.2.1, V.2.2.2.1) sw_cl (sw_ws V.2.2.2.2.2 V.2.2.2.2.1 (sw_zn Z (.inr (1, n, none))) σ) H1 := by
    rw [sw_wn, hσ]
    exact hP1
  have k1 := k H1 locs ls hL hP2 hS1
  rw [show sw_r V (Z.1 + 1) = .ref (V.2.2.2.2.2 (Z.1 + 1)) from sw_rv_pos (by omega)] at k1
  exact k1 T' hT X
theorem tc_newq (C : sw_Dx V b g N0 cc own nL L fr mc ms lo) (i : Nat) {idx ai : Nat} {Cn : String} (hi : L[i]? = some (pc, .anewarray idx, 3, q)) {x : Int32} (n : Nat) (ts : List Nat) (hts : ts = List.replicate n 0) (h1 : Cond.classLink own idx Cn ∈ sw_WS) (hao : va_AO Cn V.2.1.1) (hai : (sw_tys V.2.2.2.2.1)[ai]? = some (V.2.2.2.2.1 ai, .object Cn)) (hx : ¬ x < 0 ∧ x.toNatClampNeg = n) (hb : n * 4 ≤ 536870912) (hN : N0 + cs = Z.1) (k' : Nat) (hk' : Z.1 + 1 = k') (h46 : k' ≤ 46) (hcs : cs + 1 ≤ mc) (hsl : sl + n ≤ ms)
    (k : sw_T V b fin mc ms (sw_zn Z (.inr (ai, n, some ts))) (cs + 1) (sl + n) lv (sw_r V k' :: st) q σ) : sw_T V b fin mc ms Z cs sl lv (.int x :: st) pc σ := by
  have e := sw_dq C.dc hi
  subst e
  subst hk'
  intro H locs ls hL hP hS
  refine va_newq C.1 C.2.1 C.ow (C.ws _ h1) hao C.K hP (sw_DD C (by omega)) hS (sw_DA C) hx.1 hx.2 hb (by rw [C.R]; exact hcs) (by rw [C.R]; exact hsl) (sw_dk C.dc hi) (fun a cA H1 hK1 hP1 hD1 hS1 => ?_)
  intro T' hT X
  have hcA : cA = V.2.2.2.2.1 ai := by
    obtain ⟨_, _, _, _, _, r1⟩ := (hK1.2 4 (cA, .object Cn) rfl).2
    obtain ⟨_, _, _, _, _, r2⟩ := (C.K.2 ai _ hai).2
    exact Option.some.inj (r1.symm.trans r2)
  subst hcA
  have ha := sw_next (x := .inr (ai, n, some ts)) C hN h46 hP1 hD1 (by have := X.same.2.2.1; rw [← hT]; exact this)
  subst ha
  have hf : (fun i => sw_on V.2.2.2.2.2 (ts.getD i 0)) = fun _ => none := by
    funext i
    subst hts
    have : (List.replicate n 0).getD i 0 = 0 := by
      rw [List.getD_eq_getElem?_getD, List.getElem?_replicate]
      split <;> rfl
    rw [this]
    rfl
  have hP2 : va_P (V.2.2.1, V.2.2.2.1) sw_cl (sw_ws V.2.2.2.2.2 V.2.2.2.2.1 (sw_zn Z (.inr (ai, n, some ts))) σ) H1 := by
    rw [sw_wn]
    show va_P _ _ (_ ++ [(_, .inl (_, n, .inr (.inr (.inr (.inr fun i => sw_on V.2.2.2.2.2 (ts.getD i 0))))))]) _
    rw [hf]
    exact hP1
  have k1 := k H1 locs ls hL hP2 hS1
  rw [show sw_r V (Z.1 + 1) = .ref (V.2.2.2.2.2 (Z.1 + 1)) from sw_rv_pos (by omega)] at k1
  exact k1 T' hT X
def sw_FF (own : String) (idx ci j : Nat) (ty : FieldType) : Prop := ∃ (C : String) (T : u_T) (N : Nat) (ty0 : Nat → FieldType), sw_cl[ci]? = some (C, T, N) ∧ (∀ w ∈ u_ws C T N, w ∈ sw_WS) ∧ j < N ∧ (T j).1 = own ∧ Cond.fieldLink own idx C (T j).2.1 (T j).2.2.1 ∈ sw_WS ∧ (∀ k, k < N → parseFieldDescriptor (T k).2.2.1 = some (ty0 k)) ∧ (∀ a, a < N → ∀ b, b < N → a ≠ b → (T a).2.1 ≠ (T b).2.1) ∧ (T j).2.2.2 = true ∧ parseFieldDescriptor (T j).2.2.1 = some ty ∧ C = own
theorem tc_putR (C : sw_Dx V b g N0 cc own nL L fr mc ms lo) (i : Nat) {idx ci j k t u : Nat} {fs : List (Option Nat)} {ty : FieldType} (hi : L[i]? = some (pc, .putfield idx, 3, q)) (hF : sw_FF own idx ci j ty) (hn : ∀ a : Nat, narrow ty (.ref a) = .ref a ∧ fits ty (.ref a) = true) (hk1 : 1 ≤ k) (hk2 : k ≤ Z.1) (h46 : Z.1 ≤ 46) (hs : Z.2 k = some (.inl (ci, fs))) (hf : fs[j]? = some (some u)) (ht : t ≠ 0) (fs' : List (Option Nat)) (hfs' : fs.set j (some t) = fs')
    (kk : sw_T V b fin mc ms (sw_zu Z k (.inl (ci, fs'))) cs sl lv st q σ) : sw_T V b fin mc ms Z cs sl lv (sw_r V t :: sw_r V k :: st) pc σ := by
  have e := sw_dq C.dc hi
  subst e
  subst hfs'
  intro H locs ls hL hP hS
  obtain ⟨Cn, T, N, ty0, hc, hin, hj, h1, hl, hty, hnm, hfin, hd, hCo⟩ := hF
  have hg := sw_wg (ad := V.2.2.2.2.2) (dA := V.2.2.2.2.1) (σ := σ) hk1 hk2 hs
  have hlen : j < (sw_fv V.2.2.2.2.2 fs (σ k) 0).length := by
    rw [sw_fv_len]
    exact (List.getElem?_eq_some_iff.mp hf).1
  have er : sw_r V t = .ref (V.2.2.2.2.2 t) := sw_rv_pos ht
  have hset : (sw_ws V.2.2.2.2.2 V.2.2.2.2.1 Z σ).set (k - 1) (V.2.2.2.2.2 k, .inr (ci, (sw_fv V.2.2.2.2.2 fs (σ k) 0).set j (.ref (V.2.2.2.2.2 t)))) = sw_ws V.2.2.2.2.2 V.2.2.2.2.1 (sw_zu Z k (.inl (ci, fs.set j (some t)))) σ := by
    rw [← sw_wz hk1 hk2]
    congr 1
    rw [show Value.ref (V.2.2.2.2.2 t) = sw_rv V.2.2.2.2.2 t from (sw_rv_pos ht).symm, sw_fv_setR fs 0 j hf]
    rfl
  rw [show sw_r V k = .ref (V.2.2.2.2.2 k) from sw_rv_pos (by omega), er]
  exact va_putF (ref := Cn) (ty := ty) C.1 C.2.1 C.ws hin ty0 hty hnm C.ow C.K hP (sw_DD C h46) hS (k - 1) hg hc j hj (C.ws _ hl) (by rw [h1, hCo]; exact fun _ h => h) hfin C.nm h1 hd (hn _).1 (hn _).2 hlen (sw_dk C.dc hi) (fun H1 locs1 hP1 _ hS1 => kk H1 locs1 ls hL (by rw [hset] at hP1; exact hP1) hS1)
theorem tc_putI (C : sw_Dx V b g N0 cc own nL L fr mc ms lo) (i : Nat) {idx ci j k : Nat} {x : Int32} {fs : List (Option Nat)} (hi : L[i]? = some (pc, .putfield idx, 3, q)) (hF : sw_FF own idx ci j .int) (hk1 : 1 ≤ k) (hk2 : k ≤ Z.1) (h46 : Z.1 ≤ 46) (hs : Z.2 k = some (.inl (ci, fs))) (hf : fs[j]? = some none)
    (kk : sw_T V b fin mc ms Z cs sl lv st q (sw_up σ k j x)) : sw_T V b fin mc ms Z cs sl lv (.int x :: sw_r V k :: st) pc σ := by
  have e := sw_dq C.dc hi
  subst e
  intro H locs ls hL hP hS
  obtain ⟨Cn, T, N, ty0, hc, hin, hj, h1, hl, hty, hnm, hfin, hd, hCo⟩ := hF
  have hg := sw_wg (ad := V.2.2.2.2.2) (dA := V.2.2.2.2.1) (σ := σ) hk1 hk2 hs
  have hlen : j < (sw_fv V.2.2.2.2.2 fs (σ k) 0).length := by
    rw [sw_fv_len]
    exact (List.getElem?_eq_some_iff.mp hf).1
  have hset : (sw_ws V.2.2.2.2.2 V.2.2.2.2.1 Z σ).set (k - 1) (V.2.2.2.2.2 k, .inr (ci, (sw_fv V.2.2.2.2.2 fs (σ k) 0).set j (.int x))) = sw_ws V.2.2.2.2.2 V.2.2.2.2.1 Z (sw_up σ k j x) := by
    rw [← sw_wu (j := j) (v := x) hk1 hk2 hs]
    congr 1
    rw [sw_fv_set fs 0 j hf]
    simp [sw_ent, sw_up]
  rw [show sw_r V k = .ref (V.2.2.2.2.2 k) from sw_rv_pos (by omega)]
  exact va_putF (ref := Cn) (ty := .int) C.1 C.2.1 C.ws hin ty0 hty hnm C.ow C.K hP (sw_DD C h46) hS (k - 1) hg hc j hj (C.ws _ hl) (by rw [h1, hCo]; exact fun _ h => h) hfin C.nm h1 hd rfl rfl hlen (sw_dk C.dc hi) (fun H1 locs1 hP1 _ hS1 => kk H1 locs1 ls hL (by rw [hset] at hP1; exact hP1) hS1)
theorem tc_getR (C : sw_Dx V b g N0 cc own nL L fr mc ms lo) (i : Nat) {idx ci j k t : Nat} {fs : List (Option Nat)} (hi : L[i]? = some (pc, .getfield idx, 3, q)) (hF : sw_FL own idx ci j) (hk1 : 1 ≤ k) (hk2 : k ≤ Z.1) (hs : Z.2 k = some (.inl (ci, fs))) (hf : fs[j]? = some (some t)) (kk : sw_T V b fin mc ms Z cs sl lv (sw_r V t :: st) q σ) : sw_T V b fin mc ms Z cs sl lv (sw_r V k :: st) pc σ := by
  have e := sw_dq C.dc hi
  subst e
  intro H locs ls hL hP hS
  obtain ⟨Cn, T, N, hc, hin, hj, h1, hl⟩ := hF
  have hg := sw_wg (ad := V.2.2.2.2.2) (dA := V.2.2.2.2.1) (σ := σ) hk1 hk2 hs
  rw [show sw_r V k = .ref (V.2.2.2.2.2 k) from sw_rv_pos (by omega)]
  rcases hl with hl | ⟨host, hl⟩
  · exact va_get (ref := Cn) C.1 C.2.1 C.ws hin C.ow C.K hP (k - 1) hg hc j hj (C.ws _ hl) (by rw [h1]; exact fun _ h => h) (sw_fv_ref fs 0 j hf) (sw_dk C.dc hi) (kk H locs ls hL hP hS)
  · exact va_getN (ref := Cn) C.1 C.2.1 C.ws hin C.ow C.K hP (k - 1) hg hc j hj (C.ws _ hl) (by rw [h1]; exact fun _ h => h) (sw_fv_ref fs 0 j hf) (sw_dk C.dc hi) (kk H locs ls hL hP hS)
theorem tc_aald (C : sw_Dx V b g N0 cc own nL L fr mc ms lo) (i : Nat) {ai n k t : Nat} {ts : List Nat} {x : Int32} {Cn : String} (hi : L[i]? = some (pc, .aaload, 1, q)) (hk1 : 1 ≤ k) (hk2 : k ≤ Z.1) (hs : Z.2 k = some (.inr (ai, n, some ts))) (ha : (sw_tys V.2.2.2.2.1)[ai]? = some (V.2.2.2.2.1 ai, .object Cn)) (hin : sw_in x n = true) (ht : ts.getD (sw_ix x) 0 = t) (kk : sw_T V b fin mc ms Z cs sl lv (sw_r V t :: st) q σ) : sw_T V b fin mc ms Z cs sl lv (.int x :: sw_r V k :: st) pc σ := by
  have e := sw_dq C.dc hi
  subst e
  subst ht
  intro H locs ls hL hP hS
  have hg := sw_wg (ad := V.2.2.2.2.2) (dA := V.2.2.2.2.1) (σ := σ) hk1 hk2 hs
  rw [show sw_r V k = .ref (V.2.2.2.2.2 k) from sw_rv_pos (by omega)]
  have k1 := kk H locs ls hL hP hS
  rw [show sw_r V (ts.getD (sw_ix x) 0) = va_rf (sw_on V.2.2.2.2.2 (ts.getD (sw_ix x) 0)) from (sw_on_rv _ _).symm] at k1
  exact va_aldq C.1 C.2.1 C.K hP (k - 1) ai hg ha (sw_in_vp hin) (sw_dk C.dc hi) k1
theorem tc_aast (C : sw_Dx V b g N0 cc own nL L fr mc ms lo) (i : Nat) {ai n k t ci : Nat} {ts : List Nat} {x : Int32} {r : vw_C} {fs : List (Option Nat)} (hi : L[i]? = some (pc, .aastore, 1, q)) (hk1 : 1 ≤ k) (hk2 : k ≤ Z.1) (h46 : Z.1 ≤ 46) (hs : Z.2 k = some (.inr (ai, n, some ts))) (ha : (sw_tys V.2.2.2.2.1)[ai]? = some (V.2.2.2.2.1 ai, .object r.1)) (hin : sw_in x n = true) (ht1 : 1 ≤ t) (ht2 : t ≤ Z.1) (hst : Z.2 t = some (.inl (ci, fs))) (hc : sw_cl[ci]? = some r) (hl : sw_ix x < ts.length) (ts' : List Nat) (hts' : ts.set (sw_ix x) t = ts')
    (kk : sw_T V b fin mc ms (sw_zu Z k (.inr (ai, n, some ts'))) cs sl lv st q σ) : sw_T V b fin mc ms Z cs sl lv (sw_r V t :: .int x :: sw_r V k :: st) pc σ := by
  have e := sw_dq C.dc hi
  subst e
  subst hts'
  intro H locs ls hL hP hS
  have hg := sw_wg (ad := V.2.2.2.2.2) (dA := V.2.2.2.2.1) (σ := σ) hk1 hk2 hs
  have hgt := sw_wg (ad := V.2.2.2.2.2) (dA := V.2.2.2.2.1) (σ := σ) ht1 ht2 hst
  have hset : (sw_ws V.2.2.2.2.2 V.2.2.2.2.1 Z σ).set (k - 1) (V.2.2.2.2.2 k, .inl (V.2.2.2.2.1 ai, n, .inr (.inr (.inr (.inr (va_up (fun i => sw_on V.2.2.2.2.2 (ts.getD i 0)) x.toNatClampNeg (some (V.2.2.2.2.2 t)))))))) = sw_ws V.2.2.2.2.2 V.2.2.2.2.1 (sw_zu Z k (.inr (ai, n, some (ts.set (sw_ix x) t)))) σ := by
    rw [← sw_wz hk1 hk2]
    congr 1
    have hf : va_up (fun i => sw_on V.2.2.2.2.2 (ts.getD i 0)) x.toNatClampNeg (some (V.2.2.2.2.2 t)) = fun i => sw_on V.2.2.2.2.2 ((ts.set (sw_ix x) t).getD i 0) := by
      funext i
      unfold va_up
      by_cases hi : i = x.toNatClampNeg
      · subst hi
        have : (ts.set (sw_ix x) t).getD x.toNatClampNeg 0 = t := by
          rw [List.getD_eq_getElem?_getD]
          show ((ts.set (sw_ix x) t)[sw_ix x]?).getD 0 = t
          rw [List.getElem?_set_self hl]
          rfl
        rw [if_pos rfl, this]
        unfold sw_on
        rw [if_neg (by omega)]
      · have : (ts.set (sw_ix x) t).getD i 0 = ts.getD i 0 := by
          rw [List.getD_eq_getElem?_getD, List.getD_eq_getElem?_getD, List.getElem?_set_ne (show ¬ sw_ix x = i from fun h => hi h.symm)]
        rw [if_neg hi, this]
    rw [hf]
    rfl
  rw [show sw_r V k = .ref (V.2.2.2.2.2 k) from sw_rv_pos (by omega), show sw_r V t = .ref (V.2.2.2.2.2 t) from sw_rv_pos (by omega)]
  exact va_astq C.1 C.2.1 C.K hP (sw_DD C h46) hS (k - 1) ai (t - 1) ci hg ha hgt hc (sw_in_vp hin) (sw_dk C.dc hi) (fun H1 locs1 hP1 _ hS1 => kk H1 locs1 ls hL (by rw [hset] at hP1; exact hP1) hS1)
theorem tc_iast (C : sw_Dx V b g N0 cc own nL L fr mc ms lo) (i : Nat) {n k : Nat} {x y : Int32} (hi : L[i]? = some (pc, .iastore, 1, q)) (hk1 : 1 ≤ k) (hk2 : k ≤ Z.1) (h46 : Z.1 ≤ 46) (hs : Z.2 k = some (.inr (0, n, none))) (hin : sw_in y n = true) (kk : sw_T V b fin mc ms Z cs sl lv st q (sw_up σ k (sw_ix y) x)) : sw_T V b fin mc ms Z cs sl lv (.int x :: .int y :: sw_r V k :: st) pc σ := by
  have e := sw_dq C.dc hi
  subst e
  intro H locs ls hL hP hS
  have hg := sw_wg (ad := V.2.2.2.2.2) (dA := V.2.2.2.2.1) (σ := σ) hk1 hk2 hs
  have hset : (sw_ws V.2.2.2.2.2 V.2.2.2.2.1 Z σ).set (k - 1) (V.2.2.2.2.2 k, .inl (V.2.2.2.2.1 0, n, .inl (upd (σ k) y.toNatClampNeg x))) = sw_ws V.2.2.2.2.2 V.2.2.2.2.1 Z (sw_up σ k (sw_ix y) x) := by
    rw [← sw_wu (j := sw_ix y) (v := x) hk1 hk2 hs]
    congr 1
    simp only [sw_ent, sw_up, if_true]
    rfl
  rw [show sw_r V k = .ref (V.2.2.2.2.2 k) from sw_rv_pos (by omega)]
  exact va_iast C.1 C.2.1 C.K hP (sw_DD C h46) hS (k - 1) 0 hg rfl (sw_in_vp hin) (sw_dk C.dc hi) (fun H1 locs1 hP1 _ hS1 => kk H1 locs1 ls hL (by rw [hset] at hP1; exact hP1) hS1)
theorem tc_conv {Z' : sw_Z} (h1 : Z.1 = Z'.1) (h2 : ∀ i, i < Z.1 → Z.2 (i + 1) = Z'.2 (i + 1)) (k : sw_T V b fin mc ms Z' cs sl lv st pc σ) : sw_T V b fin mc ms Z cs sl lv st pc σ := by
  have e : sw_ws V.2.2.2.2.2 V.2.2.2.2.1 Z σ = sw_ws V.2.2.2.2.2 V.2.2.2.2.1 Z' σ := by
    unfold sw_ws
    rw [h1]
    apply List.map_congr_left
    intro i hi
    rw [h2 i (by rw [h1]; exact List.mem_range.mp hi)]
  intro H locs ls hL hP hS
  rw [e] at hP
  exact k H locs ls hL hP hS
def sw_zeq (Z Z' : sw_Z) : Bool := decide (Z.1 = Z'.1) && (List.range Z.1).all fun i => decide (Z.2 (i + 1) = Z'.2 (i + 1))
theorem tc_cv {Z' : sw_Z} (h : sw_zeq Z Z' = true) (k : sw_T V b fin mc ms Z' cs sl lv st pc σ) : sw_T V b fin mc ms Z cs sl lv st pc σ := by
  unfold sw_zeq at h
  rw [Bool.and_eq_true] at h
  exact tc_conv (of_decide_eq_true h.1) (fun i hi => of_decide_eq_true (List.all_eq_true.mp h.2 i (List.mem_range.mpr hi))) k
def sw_zl (l : List sw_Sh) : sw_Z := (l.length, fun k => if k = 0 then none else l[k - 1]?)
theorem sw_payD (C : sw_Dx V b g N0 cc own nL L fr mc ms lo) {y : MethodName} {cc' : ByteArray} {nL' : Nat} {ret' : Option FieldType} (hc : Cond.code y cc' nL' ret' ∈ sw_WS) : ∀ w ∈ (Cond.code y cc' nL' ret' :: sw_WS), ∀ (a' : Array Value) (U : State), V.2.1.1.WarmedH U.vm → w.before a' U = true := by
  intro w hw a' U hWm
  rcases List.mem_cons.mp hw with rfl | h
  · exact sw_ok_warm (sw_WS_ok hc) hWm (C.ws _ hc)
  · exact sw_ok_warm (sw_WS_ok h) hWm (C.ws _ h)
theorem sw_PC_blind (b : Nat) (g : Nat → Nat) (dC : Nat → ClassId) (dI : Nat → Nat → Nat) (dA : Nat → ClassId) (Z : sw_Z) (σ : sw_St) (av : List Value) : FrameBlind (sw_PC b g dC dI dA Z σ av) := by
  intro a U gg mk h
  obtain ⟨h1, h2, h3, h4, h5, h6⟩ := h
  exact ⟨h1, h2, h3, va_K.moved (u := U) (U := U.calling gg mk a) (Vm.Alike.refl U.vm) h4, ⟨va_AO.moved (u := U) (U := U.calling gg mk a) (Vm.Alike.refl U.vm) h5.1, va_AO.moved (u := U) (U := U.calling gg mk a) (Vm.Alike.refl U.vm) h5.2⟩, sw_Ex.same (s := U) (U := U.calling gg mk a) rfl h6⟩
theorem tc_callI (C : sw_Dx V b g N0 cc own nL L fr mc ms lo) (i : Nat) {idx k n nL' fr' mc' ms' lo' : Nat} {y : MethodName} {cc' : ByteArray} {Z' : sw_Z} {σ' : sw_St} (hi : L[i]? = some (pc, .invokespecial idx, 3, q)) (As rest : List Value) (hm : sw_ML own idx y cc' nL' none n) (hin : Cond.instanceMethod y ∈ sw_WS) (hy1 : y.name = "<init>") (hn : As.length = n) (hr : rest.length ≤ 4) (hk0 : k ≠ 0) (hN : N0 + cs = Z.1) (h46 : Z.1 ≤ 46) (hZ1 : 1 ≤ Z.1) (hR : fr' + 1 ≤ fr ∧ 8 + (nL' + 11) + lo' ≤ lo ∧ cs + mc' ≤ mc ∧ sl + ms' ≤ ms)
    (hM : sw_MC V.1.2.1 y cc' nL' fr' mc' ms' lo' b g V.2.2.1 V.2.2.2.1 V.2.2.2.2.1 Z σ (sw_rv (sw_ab b g) k :: As) Z' σ') {st0 : List Value} (hst : st0 = As.reverse ++ sw_r V k :: rest) (kk : sw_T V b fin mc ms Z' (cs + mc') (sl + ms') lv rest q σ') : sw_T V b fin mc ms Z cs sl lv st0 pc σ := by
  have e := sw_dq C.dc hi
  subst e
  subst hst
  intro H locs ls hL hP hS
  obtain ⟨hlk, hini, hcode, hy, hdesc, h21⟩ := hm
  have er : sw_r V k = .ref (V.2.2.2.2.2 k) := sw_rv_pos hk0
  rw [show sw_rv (sw_ab b g) k = .ref (V.2.2.2.2.2 k) from by rw [C.ad]; exact sw_rv_pos hk0] at hM
  rw [er]
  intro T hT X
  have hsz : H.size = b + Z.1 := by
    have h1 : H.size ≤ V.2.1.1.heap.size + cs := by have := X.same.2.2.1; rw [← hT]; exact this
    rw [C.sz] at h1
    have hlast : (sw_ws V.2.2.2.2.2 V.2.2.2.2.1 Z σ)[Z.1 - 1]? = some (V.2.2.2.2.2 Z.1, sw_ent V.2.2.2.2.2 V.2.2.2.2.1 (Z.2 Z.1) (σ Z.1)) := by
      have e1 : Z.1 - 1 + 1 = Z.1 := by omega
      have e2 : Z.1 - 1 < Z.1 := by omega
      simp [sw_ws, List.getElem?_map, e2, e1]
    have h2 := (hP _ _ hlast).lt
    have h3 : V.2.2.2.2.2 Z.1 < H.size := h2
    rw [C.ad, sw_ab_at (by omega)] at h3
    omega
  have hpre : PreS V.2.1.1 H (sw_PC b g V.2.2.1 V.2.2.2.1 V.2.2.2.2.1 Z σ (.ref (V.2.2.2.2.2 k) :: As)) (.ref (V.2.2.2.2.2 k) :: As) :=
    ⟨sw_PC_blind _ _ _ _ _ _ _ _, fun U hU hWm => ⟨rfl, by rw [hU, ← C.ad]; exact hP, by rw [hU]; exact hsz, va_K.moved hWm.alike C.K, ⟨va_AO.moved hWm.alike C.ao.1, va_AO.moved hWm.alike C.ao.2⟩, by rw [hU]; exact (C.ex.warm hWm).kept hS.2.1⟩⟩
  have hmx : V.2.1.2.2.2.2.2.maxLocals = nL := C.2.2.1
  have hWs : 2 * (F0 V.2.1.2.1 pc ls (As.reverse ++ .ref (V.2.2.2.2.2 k) :: rest)).monitorRoom + (rest.map fun v => v.category).sum ≤ 8 := lv_room (by have := sw_cats rest; omega)
  have hpar : ∀ sig, parseMethodDescriptor y.desc = some sig → n = sig.parameters.length := fun sig h => by
    rw [h] at hdesc
    exact (Option.some.inj hdesc).symm
  have run : va_Run V.1.1 V.1.2.1 V.1.2.2.1 V.1.2.2.2 V.2.1.1 V.2.1.2.1 V.2.1.2.2.1 V.2.1.2.2.2.1 V.2.1.2.2.2.2.1 V.2.1.2.2.2.2.2 H locs cs sl mc' ms' (F0 V.2.1.2.1 pc ls (As.reverse ++ .ref (V.2.2.2.2.2 k) :: rest)) rest (sw_QC b g V.2.2.1 V.2.2.2.1 V.2.2.2.2.1 Z' σ' (Value.ref (V.2.2.2.2.2 k) :: As).toArray) (fun q => b ≤ q) := by
    rcases hlk with hlk | ⟨host, hlk⟩
    · exact va_runI (nL := nL) (rest := rest) ⟨C.1, C.2.1, hmx, C.ow, C.ws⟩ hM ⟨⟨rfl, rfl, by rw [C.R]; exact hR.1, by rw [C.R]; exact hR.2.1, sw_payD C hcode, List.mem_cons_self, C.ws _ hcode, C.ws _ hini, hy, hpar, C.ws _ hlk⟩, hy1, C.ws _ hin⟩ hpre rfl hn (hL.1.1.trans (hL.1.2.trans hmx)) rfl hWs (sw_dk C.dc hi) (by rw [C.R]; exact hR.2.2)
    · exact va_runIN (nL := nL) (rest := rest) ⟨C.1, C.2.1, hmx, C.ow, C.ws⟩ hM ⟨⟨⟨rfl, rfl, by rw [C.R]; exact hR.1, by rw [C.R]; exact hR.2.1, sw_payD C hcode, List.mem_cons_self⟩, C.ws _ hcode, C.ws _ hini, hy, hpar, C.ws _ hlk⟩, hy1, C.ws _ hin⟩ hpre rfl hn (hL.1.1.trans (hL.1.2.trans hmx)) rfl hWs (sw_dk C.dc hi) (by rw [C.R]; exact hR.2.2)
  obtain ⟨v, st₀, t, T', L', h0, X', hL', e1, e2, ⟨hv, hP', hz, hk⟩, stp⟩ := run T hT X
  have hv' : v = none := by injection hv
  rw [h0] at hz hk
  have hS' : va_S (fun q => b ≤ q) V.2.1.1.heap T'.heap (locs ++ L') :=
    ⟨Nat.le_trans hS.1 (by rw [e1]; exact hz), fun q h1 h2 => by rw [e1, hk q (Nat.lt_of_lt_of_le h1 hS.1) h2]; exact hS.2.1 q h1 h2, fun q hq => by
      rcases List.mem_append.mp hq with h | h
      · exact hS.2.2 q h
      · exact hL' q h⟩
  obtain ⟨t2, a1, b1⟩ := kk T'.heap (locs ++ L') ls hL (by rw [e1, C.ad]; exact hP') hS' T' rfl X'
  subst hv'
  exact ⟨t2, stp t2 a1, b1⟩
theorem tc_callV (C : sw_Dx V b g N0 cc own nL L fr mc ms lo) (i : Nat) {idx k n nL' d' ci : Nat} {y : MethodName} {cc' : ByteArray} {ret' : Option FieldType} {fs : List (Option Nat)} {x : Option Value × sw_St} (hi : L[i]? = some (pc, .invokevirtual idx, 3, q)) (As rest : List Value) (hm : sw_MV own idx y cc' nL' ret' n) (hn : As.length = n) (hr : rest.length ≤ 4) (hk1 : 1 ≤ k) (hk2 : k ≤ Z.1) (h46 : Z.1 ≤ 46) (hs : Z.2 k = some (.inl (ci, fs))) (hcl : (sw_cl[ci]?).map (fun q => q.1) = some y.cls) (hR : d' + 1 ≤ fr ∧ 8 + (nL' + 11) + 40 * d' ≤ lo ∧ cs ≤ mc ∧ sl ≤ ms)
    (hM : sw_M Z V.1.2.1 y cc' nL' ret' d' V.2.2.1 V.2.2.2.1 V.2.2.2.2.1 (sw_ab b g) (sw_rv (sw_ab b g) k :: As) σ x) {st0 : List Value} (hst : st0 = As.reverse ++ sw_r V k :: rest) (kk : sw_T V b fin mc ms Z cs sl lv (x.1.toList ++ rest) q x.2) : sw_T V b fin mc ms Z cs sl lv st0 pc σ := by
  have e := sw_dq C.dc hi
  subst e
  subst hst
  intro H locs ls hL hP hS
  obtain ⟨⟨hlk, hini, hcode, hy, hdesc, h21⟩, hinst, hsel⟩ := hm
  have er : sw_r V k = .ref (V.2.2.2.2.2 k) := sw_rv_pos (by omega)
  rw [show sw_rv (sw_ab b g) k = .ref (V.2.2.2.2.2 k) from by rw [C.ad]; exact sw_rv_pos (by omega)] at hM
  rw [er]
  have hg := sw_wg (ad := V.2.2.2.2.2) (dA := V.2.2.2.2.1) (σ := σ) hk1 hk2 hs
  have hAb : ∀ q, sw_A Z (sw_ab b g) q → b ≤ q := by
    rintro q ⟨j, hj, rfl⟩
    rw [sw_ab_at (by omega)]
    omega
  have hEx : ∀ U : State, U.heap = H → V.2.1.1.WarmedH U.vm → sw_Ex (sw_ab b g) (sw_A Z (sw_ab b g)) U U.heap := by
    intro U hU hWm
    rw [hU]
    obtain ⟨x1, x2, x3, x4⟩ := (C.ex.warm hWm).kept hS.2.1
    exact ⟨x1.narrow hAb, x2, x3.narrow hAb, x4.narrow hAb⟩
  have hPc : ∀ U : State, U.heap = H → V.2.1.1.WarmedH U.vm → sw_Pc Z V.2.2.1 V.2.2.2.1 V.2.2.2.2.1 (sw_ab b g) (.ref (V.2.2.2.2.2 k) :: As) σ (Value.ref (V.2.2.2.2.2 k) :: As).toArray U :=
    fun U hU hWm => ⟨rfl, by rw [hU, ← C.ad]; exact hP, va_K.moved hWm.alike C.K, hEx U hU hWm⟩
  have hmx : V.2.1.2.2.2.2.2.maxLocals = nL := C.2.2.1
  have hWs : 2 * (F0 V.2.1.2.1 pc ls (As.reverse ++ .ref (V.2.2.2.2.2 k) :: rest)).monitorRoom + (rest.map fun v => v.category).sum ≤ 8 := lv_room (by have := sw_cats rest; omega)
  have hpar : ∀ sig, parseMethodDescriptor y.desc = some sig → n = sig.parameters.length := fun sig h => by
    rw [h] at hdesc
    exact (Option.some.inj hdesc).symm
  cases hq : sw_cl[ci]? with
  | none => rw [hq] at hcl; cases hcl
  | some qq =>
    rw [hq] at hcl
    have hcl' : qq.1 = y.cls := Option.some.inj hcl
    have hrecv := va_recv C.K hP hq hg
    rw [hcl'] at hrecv
    have hp : PreV V.2.1.1 H y.cls (V.2.2.2.2.2 k) (sw_Pc Z V.2.2.1 V.2.2.2.1 V.2.2.2.2.1 (sw_ab b g) (.ref (V.2.2.2.2.2 k) :: As) σ) As := ⟨sw_Pc_blind _ _ _ _ _ _ _, hrecv, hPc⟩
    have run : va_Run V.1.1 V.1.2.1 V.1.2.2.1 V.1.2.2.2 V.2.1.1 V.2.1.2.1 V.2.1.2.2.1 V.2.1.2.2.2.1 V.2.1.2.2.2.2.1 V.2.1.2.2.2.2.2 H locs cs sl 0 0 (F0 V.2.1.2.1 pc ls (As.reverse ++ .ref (V.2.2.2.2.2 k) :: rest)) rest (sw_Q Z V.2.2.1 V.2.2.2.1 V.2.2.2.2.1 (sw_ab b g) x (Value.ref (V.2.2.2.2.2 k) :: As).toArray) (sw_A Z (sw_ab b g)) := by
      rcases hlk with hlk | ⟨host, hlk⟩
      · exact va_runV (nL := nL) (rest := rest) ⟨C.1, C.2.1, hmx, C.ow, C.ws⟩ hM ⟨⟨rfl, rfl, by rw [C.R]; exact hR.1, by rw [C.R]; exact hR.2.1, sw_payD C hcode, List.mem_cons_self, C.ws _ hcode, C.ws _ hini, hy, hpar, C.ws _ hlk⟩, C.ws _ hinst, C.ws _ hsel⟩ hp rfl hn (hL.1.1.trans (hL.1.2.trans hmx)) rfl hWs (sw_dk C.dc hi) (by rw [C.R]; exact hR.2.2)
      · exact va_runVN (nL := nL) (rest := rest) ⟨C.1, C.2.1, hmx, C.ow, C.ws⟩ hM ⟨⟨⟨rfl, rfl, by rw [C.R]; exact hR.1, by rw [C.R]; exact hR.2.1, sw_payD C hcode, List.mem_cons_self⟩, C.ws _ hcode, C.ws _ hini, hy, hpar, C.ws _ hlk⟩, C.ws _ hinst, C.ws _ hsel⟩ hp rfl hn (hL.1.1.trans (hL.1.2.trans hmx)) rfl hWs (sw_dk C.dc hi) (by rw [C.R]; exact hR.2.2)
    intro T hT X
    obtain ⟨v, st₀, t, T', L', h0, X', hL', e1, e2, ⟨hv, hP', hz, hk⟩, stp⟩ := run T hT X
    have hv' : v = x.1 := by injection hv
    rw [h0] at hz hk
    have hS' : va_S (fun q => b ≤ q) V.2.1.1.heap T'.heap (locs ++ L') :=
      ⟨Nat.le_trans hS.1 (by rw [e1]; exact hz), fun q h1 h2 => by rw [e1, hk q (Nat.lt_of_lt_of_le h1 hS.1) (fun z => h2 (hAb q z))]; exact hS.2.1 q h1 h2, fun q hq => by
        rcases List.mem_append.mp hq with h | h
        · exact hS.2.2 q h
        · exact hAb _ (hL' q h)⟩
    obtain ⟨t2, a1, b1⟩ := kk T'.heap (locs ++ L') ls hL (by rw [e1, C.ad]; exact hP') hS' T' rfl X'
    subst hv'
    exact ⟨t2, stp t2 a1, b1⟩
end T2
/-- a constructor's contract out of the walk of its body -/
theorem sw_mkC {l : Launch} {y : MethodName} {cc : ByteArray} {nL fr mc ms lo b : Nat} {g : Nat → Nat} {L : sw_Is} {dC : Nat → ClassId} {dI : Nat → Nat → Nat} {dA : Nat → ClassId} {Z Z' : sw_Z} {σ σ' : sw_St} {av : List Value}
    (n : Nat) (hy : plainName y.cls = true) (hyn : y.name = "<init>") (hdc : sw_dc cc L = true) (hlen : av.length + n = nL) (hcat : ∀ v ∈ av, v.category = 1)
    (body : ∀ (p : Program) (e : Env) (R : Room) (M : State × MethodId × Array Value × List Frame × Method × Code), sw_Dx ((p, l, e, R), M, (dC, dI, dA, sw_ab b g)) b g Z.1 cc y.cls nL L fr mc ms lo → sw_T ((p, l, e, R), M, (dC, dI, dA, sw_ab b g)) b (Z', σ') mc ms Z 0 0 (av.map some ++ List.replicate n none) [] 0 σ) : sw_MC l y cc nL fr mc ms lo b g dC dI dA Z σ av Z' σ' := by
  refine Met.ofW (cc := cc) (maxL := nL) (ret := none) hy rfl ?_
  intro p e s m args below meth c s₁ B hml hv
  obtain ⟨rfl, hP, hsz, hK, hAO, hE⟩ := hv
  have hts := atoms_spec (ws := Cond.code y cc nL none :: sw_WS) B.pre
  have hown : s.vm.findClass y.cls = some m.cls := findClass_of_methodNamed B.named
  have hnm : meth.name = "<init>" := (name_of_methodNamed B.named B.method).1.trans hyn
  have C : sw_Dx ((p, l, e, (headSpec (Cond.code y cc nL none :: sw_WS) { frames := fr, cells := mc, slots := ms, locals := lo }).room), (s, m, av.toArray, below, meth, c), (dC, dI, dA, sw_ab b g)) b g Z.1 cc y.cls nL L fr mc ms lo :=
    ⟨B.exec, B.bytes, hml, B.returns, B.notSynchronized, hown, fun w hw => hts w (List.mem_cons_of_mem _ hw), hK, rfl, hsz, hnm, rfl, hAO, hE, hdc⟩
  obtain ⟨a1, a2⟩ := sw_args1 av 0 hcat
  have hl := lv_entry av (n := nL) (by rw [a1]; omega)
  rw [lg_entry_eq]
  refine body p e _ (s, m, av.toArray, below, meth, c) C s.heap [] _ ⟨⟨hl.1.trans (by simp; omega), (by simp; omega : _ = nL).trans hml.symm⟩, hl.2.1, fun j w hj => hl.2.2 (j, w) ?_⟩ hP va_S.rf
  by_cases hj1 : j < av.length
  · rw [List.getElem?_append_left (by simpa using hj1), List.getElem?_map] at hj
    cases ha : av[j]? with
    | none => rw [ha] at hj; cases hj
    | some x =>
      rw [ha] at hj
      cases hj
      have h3 := a2 j w ha
      rw [Nat.zero_add] at h3
      exact h3
  · rw [List.getElem?_append_right (by simpa using Nat.not_lt.mp hj1)] at hj
    rw [List.getElem?_replicate] at hj
    split at hj <;> cases hj
