/-! THE LAW: two worlds, the script, the loop -/
-- ===== the skeleton's words =====
def R_law : String := "SplitWatchLaw"
def lw_P (b : Addr) (xs : List Int32) (args : Array Value) (s : State) : Prop := args = #[.ref b] ∧ s.IntsAt b xs ∧ xs.length ≤ 2560 ∧ (Jvm.Cond.and given_1 narrow_1).before args s = true
def lw_Q (_ : Array Value) (s : State) (o : Outcome) (t : State) : Prop := o = .returned (some (.int 1)) ∧ Framed s o t [] 600000 7302250
def lw_Z (below : List Frame) (a : Array Value) (s : State) : State → Prop := fun t => ∃ o, t.status = .running ∧ Ended t below o ∧ lw_Q a s o t
/-- the law's own end, with 1 on the stack, nothing written that was there before, its room as the claim has it -/
theorem lw_ret {p : Program} {l : Launch} {e : Env} {s : State} {m : MethodId} {below : List Frame} {meth : Method} {c : Code} {b : Nat} (hx : p.tables.exec = Jvm.exec) (hb : c.code = code) (hr : meth.sig.returnType = ret) (hlocks : meth.locks = false) {pc : Nat} {H : Heap} {ls : Array Slot} (hdg : decode code pc = .ok (.ireturn, 1)) : W p l e room_1 s m #[Value.ref b] below meth c H [] 600000 7302250 (lw_Z below #[Value.ref b] s) (F0 m pc ls [.int 1]) := by
  intro T hT X
  obtain ⟨fs, hret, hrun, hended, hW, hframe⟩ := X.leave (v := some (.int 1)) (hlocks := hlocks) (fun h => by rw [hr] at h; cases h)
  have hmeth' : T.vm.method? m = some meth := X.method'
  refine ⟨T.setFrames fs, ?_, .returned (some (.int 1)), hrun, hended, rfl, ⟨_, rfl⟩, hW, hframe⟩
  jvm_step X.here [X.here.top, hx, hb, hdg, hmeth', hr, ret, narrow_b1]
  (try refine ⟨rfl, ?_⟩); (try refine ⟨rfl, ?_⟩)
  first | (intro acts; rw [hret _ acts rfl rfl rfl]) | rw [hret _ _ rfl rfl rfl]
  exact Steps.refl _
/-- what holds at the law's entry: the machine, the code, the tables' words (any of lw_tbl by 'hts w (by decide +kernel)'), the script of L ints xs at the cell b, what the Statement gives of the start (any of its parts by flat_of_before) -/
def lw_At (p : Program) (s : State) (m : MethodId) (meth : Method) (c : Code) (b L : Nat) (xs : Nat → Int32) : Prop :=
  p.tables.exec = Jvm.exec ∧ c.code = code ∧ meth.sig.returnType = ret ∧ c.maxLocals = 4 ∧ s.vm.findClass R_law = some m.cls ∧ (∀ w ∈ lw_tbl, w.before #[Value.ref b] s = true) ∧ va_X b L xs s s.heap ∧ b < s.heap.size ∧ meth.locks = false ∧ (Jvm.Cond.and given_1 narrow_1).before #[Value.ref b] s = true

-- ===== the two programs, by the number of the call =====
def sw_FX (k : Nat) (σ : sw_St) (a1 a2 a3 a4 : Int32) : Option (Int32 × sw_St) := match k with
  | 0 => f_X6_begin σ a1 a2 a3 a4
  | 1 => f_X6_read σ a1 a2
  | 2 => f_X6_store σ a1 a2 a3
  | 3 => f_X6_drop σ a1 a2
  | 4 => f_X6_turn σ a1
  | 5 => f_X6_write σ a1
  | 6 => f_X6_wipe σ
  | 7 => f_X6_fault σ
  | 8 => f_X6_play σ
  | 9 => (f_X6_order σ a1).map fun v => (v, σ)
  | 10 => (f_X6_told σ a1 a2 a3).map fun v => (v, σ)
  | 11 => (f_X6_word σ a1 a2 a3).map fun v => (v, σ)
  | 12 => (f_X6_cached σ a1 a2 a3).map fun v => (v, σ)
  | 13 => (f_X6_buffered σ a1 a2 a3).map fun v => (v, σ)
  | 14 => (f_X6_memory σ a1).map fun v => (v, σ)
  | 15 => (f_X6_truth σ a1).map fun v => (v, σ)
  | 16 => (f_X6_core σ a1 a2).map fun v => (v, σ)
  | 17 => (f_X6_waiting σ a1 a2).map fun v => (v, σ)
  | 18 => (f_X6_open σ a1 a2).map fun v => (v, σ)
  | 19 => f_X6_day σ a1 a2
  | 20 => (f_X6_count σ a1).map fun v => (v, σ)
  | _ => none
def sw_FM (k : Nat) (σ : sw_St) (a1 a2 a3 a4 : Int32) : Option (Int32 × sw_St) := match k with
  | 0 => f_X7_begin σ a1 a2 a3 a4
  | 1 => f_X7_read σ a1 a2
  | 2 => f_X7_store σ a1 a2 a3
  | 3 => f_X7_drop σ a1 a2
  | 4 => f_X7_turn σ a1
  | 5 => f_X7_write σ a1
  | 6 => f_X7_wipe σ
  | 7 => f_X7_fault σ
  | 8 => f_X7_play σ
  | 9 => (f_X7_order σ a1).map fun v => (v, σ)
  | 10 => (f_X7_told σ a1 a2 a3).map fun v => (v, σ)
  | 11 => (f_X7_word_ σ a1 a2 a3).map fun v => (v, σ)
  | 12 => (f_X7_cached σ a1 a2 a3).map fun v => (v, σ)
  | 13 => (f_X7_buffered σ a1 a2 a3).map fun v => (v, σ)
  | 14 => (f_X7_memory σ a1).map fun v => (v, σ)
  | 15 => (f_X7_truth σ a1).map fun v => (v, σ)
  | 16 => (f_X7_core σ a1 a2).map fun v => (v, σ)
  | 17 => (f_X7_waiting σ a1 a2).map fun v => (v, σ)
  | 18 => (f_X7_open σ a1 a2).map fun v => (v, σ)
  | 19 => f_X7_day σ a1 a2
  | 20 => (f_X7_count σ a1).map fun v => (v, σ)
  | _ => none
/-- what the proof of the programs gives: a relation of the two memories that every call keeps, and the answers are the same -/
def sw_Step (R : Nat → sw_St → sw_St → Prop) : Prop := (∀ (n : Nat) (x y : sw_St), R n x y → R (n + 1) x y) ∧ ∀ (n k : Nat) (x y : sw_St) (a1 a2 a3 a4 : Int32), n < 512 → k < 21 → R n x y → ∃ (r : Int32) (x' y' : sw_St), sw_FX k x a1 a2 a3 a4 = some (r, x') ∧ sw_FM k y a1 a2 a3 a4 = some (r, y') ∧ R (n + 1) x' y'
theorem sw_mapS {o : Option Int32} {σ σ' : sw_St} {r : Int32} (h : o.map (fun v => (v, σ)) = some (r, σ')) : o = some r ∧ σ' = σ := by
  cases o with
  | none => cases h
  | some v => cases h; exact ⟨rfl, rfl⟩
def sw_Ux (V : sw_V) (adX adM : Nat → Nat) (b Ln : Nat) (xs : Nat → Int32) : Prop :=
  V.1.1.tables.exec = Jvm.exec ∧ V.2.1.2.2.2.2.2.code = code ∧ V.2.1.2.2.2.2.2.maxLocals = 4 ∧ V.2.1.2.2.2.2.1.sig.returnType = ret ∧ V.2.1.2.2.2.2.1.locks = false ∧ V.2.1.1.vm.findClass RL = some V.2.1.2.1.cls ∧ (∀ w ∈ sw_WS, w.before V.2.1.2.2.1 V.2.1.1 = true) ∧ va_K (V.2.2.1, V.2.2.2.1) sw_cl (sw_tys V.2.2.2.2.1) V.2.1.1 ∧ (sw_inj sw_ZX adX ∧ sw_inj sw_ZM adM) ∧ (sw_Ex adX (fun q => V.2.1.1.heap.size ≤ q) V.2.1.1 V.2.1.1.heap ∧ sw_Ex adM (fun q => V.2.1.1.heap.size ≤ q) V.2.1.1 V.2.1.1.heap) ∧ (va_X b Ln xs V.2.1.1 V.2.1.1.heap ∧ b < V.2.1.1.heap.size ∧ V.2.1.2.2.1 = #[.ref b]) ∧ ((∀ q, sw_A sw_ZX adX q → V.2.1.1.heap.size ≤ q) ∧ (∀ q, sw_A sw_ZM adM q → V.2.1.1.heap.size ≤ q) ∧ ∀ q, sw_A sw_ZX adX q → ¬ sw_A sw_ZM adM q) ∧ V.1.2.2.2 = room_1
def sw_U (V : sw_V) (adX adM : Nat → Nat) (b : Nat) (lv : List (Option Value)) (st : List Value) (pc : Nat) (σx σm : sw_St) : Prop :=
  ∀ (H : Heap) (locs : List Loc) (ls : Array Slot), sw_L V ls lv → va_P (V.2.2.1, V.2.2.2.1) sw_cl (sw_ws adX V.2.2.2.2.1 sw_ZX σx) H → va_P (V.2.2.1, V.2.2.2.1) sw_cl (sw_ws adM V.2.2.2.2.1 sw_ZM σm) H → va_S (fun q => V.2.1.1.heap.size ≤ q) V.2.1.1.heap H locs →
    W V.1.1 V.1.2.1 V.1.2.2.1 V.1.2.2.2 V.2.1.1 V.2.1.2.1 V.2.1.2.2.1 V.2.1.2.2.2.1 V.2.1.2.2.2.2.1 V.2.1.2.2.2.2.2 H locs 600000 7302250 (lw_Z V.2.1.2.2.2.1 #[Value.ref b] V.2.1.1) (F0 V.2.1.2.1 pc ls st)
section U
variable {V : sw_V} {adX adM : Nat → Nat} {b Ln : Nat} {xs : Nat → Int32} {lv : List (Option Value)} {st : List Value} {pc : Nat} {σx σm : sw_St}
theorem u_iconst (C : sw_Ux V adX adM b Ln xs) {n : Int} (hi : decode code pc = .ok (.iconst n, 1)) (v : Int32) (hv : Int32.ofInt n = v) (k : sw_U V adX adM b lv (.int v :: st) (pc + 1) σx σm) : sw_U V adX adM b lv st pc σx σm := fun H locs ls hL h1 h2 hS => lv_iconst C.1 C.2.1 hi hv (k H locs ls hL h1 h2 hS)
theorem u_bipush (C : sw_Ux V adX adM b Ln xs) {n : Int} (hi : decode code pc = .ok (.bipush n, 2)) (v : Int32) (hv : (Int8.ofInt n).toInt32 = v) (k : sw_U V adX adM b lv (.int v :: st) (pc + 2) σx σm) : sw_U V adX adM b lv st pc σx σm := fun H locs ls hL h1 h2 hS => lv_bipush C.1 C.2.1 hi hv (k H locs ls hL h1 h2 hS)
theorem u_iload_n (C : sw_Ux V adX adM b Ln xs) {n : Fin 4} (hi : decode code pc = .ok (.iload_n n, 1)) {x : Int32} (hl : lv[(n : Nat)]? = some (some (.int x))) (k : sw_U V adX adM b lv (.int x :: st) (pc + 1) σx σm) : sw_U V adX adM b lv st pc σx σm := fun H locs ls hL h1 h2 hS => lv_iload_n C.1 C.2.1 hi rfl (hL.at hl) (k H locs ls hL h1 h2 hS)
theorem u_aload_n (C : sw_Ux V adX adM b Ln xs) {n : Fin 4} (hi : decode code pc = .ok (.aload_n n, 1)) {x : Nat} (hl : lv[(n : Nat)]? = some (some (.ref x))) (k : sw_U V adX adM b lv (.ref x :: st) (pc + 1) σx σm) : sw_U V adX adM b lv st pc σx σm := fun H locs ls hL h1 h2 hS => lv_aload_n C.1 C.2.1 hi rfl (hL.at hl) (k H locs ls hL h1 h2 hS)
theorem u_iadd (C : sw_Ux V adX adM b Ln xs) (hi : decode code pc = .ok (.iadd, 1)) {x y : Int32} (k : sw_U V adX adM b lv (.int (x + y) :: st) (pc + 1) σx σm) : sw_U V adX adM b lv (.int y :: .int x :: st) pc σx σm := fun H locs ls hL h1 h2 hS => lv_iadd C.1 C.2.1 hi (k H locs ls hL h1 h2 hS)
theorem u_isub (C : sw_Ux V adX adM b Ln xs) (hi : decode code pc = .ok (.isub, 1)) {x y : Int32} (k : sw_U V adX adM b lv (.int (x - y) :: st) (pc + 1) σx σm) : sw_U V adX adM b lv (.int y :: .int x :: st) pc σx σm := fun H locs ls hL h1 h2 hS => lv_isub C.1 C.2.1 hi (k H locs ls hL h1 h2 hS)
theorem u_iand (C : sw_Ux V adX adM b Ln xs) (hi : decode code pc = .ok (.iand, 1)) {x y : Int32} (k : sw_U V adX adM b lv (.int (x &&& y) :: st) (pc + 1) σx σm) : sw_U V adX adM b lv (.int y :: .int x :: st) pc σx σm := fun H locs ls hL h1 h2 hS => lv_iand C.1 C.2.1 hi (k H locs ls hL h1 h2 hS)
theorem u_iinc (C : sw_Ux V adX adM b Ln xs) {n : Nat} {a : Int} (hi : decode code pc = .ok (.iinc n a, 3)) {x : Int32} (v : Int32) (hv : x + Int32.ofInt a = v) (hl : lv[n]? = some (some (.int x))) (hn : n < lv.length) (hp : ∀ w, lv[n - 1]? = some (some w) → w.category = 1) (k : sw_U V adX adM b (lv.set n (some (.int v))) st (pc + 3) σx σm) : sw_U V adX adM b lv st pc σx σm := by
  intro H locs ls hL h1 h2 hS
  obtain ⟨j, hj⟩ := List.getElem?_of_mem (sw_as_mem.mpr (show lv[(n, Value.int x).1]? = some (some (n, Value.int x).2) from hl))
  refine lv_iinc C.1 C.2.1 hi hL.has hj hv hn rfl (fun ls' hl' => k H locs ls' ?_ h1 h2 hS)
  obtain ⟨g1, g2, g3⟩ := hl'
  refine ⟨⟨by rw [g1, List.length_set], by rw [List.length_set]; exact hL.1.2⟩, g2, fun j w hj => ?_⟩
  by_cases hji : j = n
  · subst hji
    rw [List.getElem?_set_self hn] at hj
    cases hj
    exact g3 (j, .int v) List.mem_cons_self
  · rw [List.getElem?_set_ne (Ne.symm hji)] at hj
    refine g3 (j, w) (List.mem_cons_of_mem _ (List.mem_filter.mpr ⟨sw_as_mem.mpr hj, ?_⟩))
    by_cases hj1 : j + 1 = n
    · have hw := hp w (by rw [show n - 1 = j by omega]; exact hj)
      simp [hji, hw]
    · simp [hji, hj1]
theorem u_goto (C : sw_Ux V adX adM b Ln xs) {off : Int} (hi : decode code pc = .ok (.goto off, 3)) (tgt : Nat) (ht : (pc : Int) + off = (tgt : Int)) (k : sw_U V adX adM b lv st tgt σx σm) : sw_U V adX adM b lv st pc σx σm := fun H locs ls hL h1 h2 hS => lv_goto C.1 C.2.1 hi ht (k H locs ls hL h1 h2 hS)
theorem u_gt (C : sw_Ux V adX adM b Ln xs) {off : Int} (hi : decode code pc = .ok (.if_icmp .gt off, 3)) (tgt : Nat) (ht : (pc : Int) + off = (tgt : Int)) {x y : Int32} (kt : y < x → sw_U V adX adM b lv st tgt σx σm) (kf : ¬ y < x → sw_U V adX adM b lv st (pc + 3) σx σm) : sw_U V adX adM b lv (.int y :: .int x :: st) pc σx σm := fun H locs ls hL h1 h2 hS => lv_icmp_gt C.1 C.2.1 hi ht (fun h => kt h H locs ls hL h1 h2 hS) (fun h => kf h H locs ls hL h1 h2 hS)
theorem u_eqT (C : sw_Ux V adX adM b Ln xs) {off : Int} (hi : decode code pc = .ok (.if_icmp .eq off, 3)) (tgt : Nat) (ht : (pc : Int) + off = (tgt : Int)) {x : Int32} (kt : sw_U V adX adM b lv st tgt σx σm) : sw_U V adX adM b lv (.int x :: .int x :: st) pc σx σm := fun H locs ls hL h1 h2 hS => lv_icmp_eq C.1 C.2.1 hi ht (fun _ => kt H locs ls hL h1 h2 hS) (fun h => absurd rfl h)
theorem u_tin (C : sw_Ux V adX adM b Ln xs) {dflt lo hi' : Int} {offs : Array Int} {len : Nat} (hi : decode code pc = .ok (.tableswitch dflt lo hi' offs, len)) {x : Int32} (v : Int32) (tgt : Nat) (hv : ¬ v.toInt < lo ∧ ¬ hi' < v.toInt) (off : Int) (ho : offs[(v.toInt - lo).toNat]? = some off) (ht : (pc : Int) + off = (tgt : Int)) (kt : sw_U V adX adM b lv st tgt σx σm) (kf : ¬ x = v → sw_U V adX adM b lv (.int x :: st) pc σx σm) : sw_U V adX adM b lv (.int x :: st) pc σx σm := by
  intro H locs ls hL h1 h2 hS
  by_cases h : x = v
  · subst h
    exact lv_tableIn C.1 C.2.1 hi hv.1 hv.2 ho ht (kt H locs ls hL h1 h2 hS)
  · exact kf h H locs ls hL h1 h2 hS
theorem u_tout (C : sw_Ux V adX adM b Ln xs) {dflt lo hi' : Int} {offs : Array Int} {len : Nat} (hi : decode code pc = .ok (.tableswitch dflt lo hi' offs, len)) {x : Int32} (tgt : Nat) (h : x.toInt < lo ∨ hi' < x.toInt) (ht : (pc : Int) + dflt = (tgt : Int)) (k : sw_U V adX adM b lv st tgt σx σm) : sw_U V adX adM b lv (.int x :: st) pc σx σm := fun H locs ls hL h1 h2 hS => lv_tableOut C.1 C.2.1 hi h ht (k H locs ls hL h1 h2 hS)
theorem u_slen (C : sw_Ux V adX adM b Ln xs) (hi : decode code pc = .ok (.arraylength, 1)) (k : sw_U V adX adM b lv (.int (nI Ln) :: st) (pc + 1) σx σm) : sw_U V adX adM b lv (.ref b :: st) pc σx σm := by
  intro H locs ls hL h1 h2 hS
  obtain ⟨hX, hb, -⟩ := C.2.2.2.2.2.2.2.2.2.2.1
  exact va_slen C.1 C.2.1 hX hb (Nat.not_le.mpr hb) hS hi (k H locs ls hL h1 h2 hS)
theorem u_sld (C : sw_Ux V adX adM b Ln xs) (hi : decode code pc = .ok (.iaload, 1)) {i : Int32} (hin : vp_in i Ln) (k : sw_U V adX adM b lv (.int (xs i.toNatClampNeg) :: st) (pc + 1) σx σm) : sw_U V adX adM b lv (.int i :: .ref b :: st) pc σx σm := by
  intro H locs ls hL h1 h2 hS
  obtain ⟨hX, hb, -⟩ := C.2.2.2.2.2.2.2.2.2.2.1
  exact va_sld C.1 C.2.1 hX hb (Nat.not_le.mpr hb) hS hin hi (k H locs ls hL h1 h2 hS)
theorem u_ret (C : sw_Ux V adX adM b Ln xs) (hi : decode code pc = .ok (.ireturn, 1)) : sw_U V adX adM b lv [.int 1] pc σx σm := by
  intro H locs ls hL h1 h2 hS
  obtain ⟨⟨p, l, e, R⟩, ⟨s, m, args, below, meth, c⟩, dC, dI, dA, ad⟩ := V
  obtain ⟨hx, hc, hm, hr, hlk, ho, hw, hK, hI, hE, ⟨hX, hb, ha⟩, hA, hR⟩ := C
  have hR : R = room_1 := hR
  have ha : args = #[.ref b] := ha
  subst hR; subst ha
  refine va_forget (fun q hq => hS.2.2 q hq) ?_
  exact lw_ret hx hc hr hlk hi
theorem sw_payU (C : sw_Ux V adX adM b Ln xs) {y : MethodName} {cc' : ByteArray} {nL' : Nat} {ret' : Option FieldType} (hc : Cond.code y cc' nL' ret' ∈ sw_WS) : ∀ w ∈ (Cond.code y cc' nL' ret' :: sw_WS), ∀ (a' : Array Value) (U : State), V.2.1.1.WarmedH U.vm → w.before a' U = true := by
  intro w hw a' U hWm
  rcases List.mem_cons.mp hw with rfl | h
  · exact sw_ok_warm (sw_WS_ok hc) hWm (C.2.2.2.2.2.2.1 _ hc)
  · exact sw_ok_warm (sw_WS_ok h) hWm (C.2.2.2.2.2.2.1 _ h)
/-- a call on one of the two worlds, the other stays -/
theorem u_call0 (C : sw_Ux V adX adM b Ln xs) {Z Z2 : sw_Z} {ad ad2 : Nat → Nat} {σ σ2 : sw_St} {idx n nL' d' ci : Nat} {y : MethodName} {cc' : ByteArray} {fs : List (Option Nat)} {r : Int32} {σ' : sw_St} (hZ : sw_Zok Z) (hi : decode code pc = .ok (.invokevirtual idx, 3)) (As rest : List Value) (hm : sw_MV RL idx y cc' nL' (some .int) n) (hn : As.length = n) (hr : rest.length ≤ 4) (hs : Z.2 1 = some (.inl (ci, fs))) (hcl : (sw_cl[ci]?).map (fun q => q.1) = some y.cls) (hd : d' + 1 ≤ 12 ∧ 8 + (nL' + 11) + 40 * d' ≤ 448) (hI : sw_inj Z ad) (hE : sw_Ex ad (fun q => V.2.1.1.heap.size ≤ q) V.2.1.1 V.2.1.1.heap) (hA1 : ∀ q, sw_A Z ad q → V.2.1.1.heap.size ≤ q) (hA2 : ∀ q, sw_A Z2 ad2 q → ¬ sw_A Z ad q)
    (hM : sw_M Z V.1.2.1 y cc' nL' (some .int) d' V.2.2.1 V.2.2.2.1 V.2.2.2.2.1 ad (.ref (ad 1) :: As) σ (some (.int r), σ')) {H : Heap} {locs : List Loc} {ls : Array Slot} (hL : sw_L V ls lv) (hP : va_P (V.2.2.1, V.2.2.2.1) sw_cl (sw_ws ad V.2.2.2.2.1 Z σ) H) (hP2 : va_P (V.2.2.1, V.2.2.2.1) sw_cl (sw_ws ad2 V.2.2.2.2.1 Z2 σ2) H) (hS : va_S (fun q => V.2.1.1.heap.size ≤ q) V.2.1.1.heap H locs)
    {Q : State → Prop} (kk : ∀ (H' : Heap) (locs' : List Loc), va_P (V.2.2.1, V.2.2.2.1) sw_cl (sw_ws ad V.2.2.2.2.1 Z σ') H' → va_P (V.2.2.1, V.2.2.2.1) sw_cl (sw_ws ad2 V.2.2.2.2.1 Z2 σ2) H' → va_S (fun q => V.2.1.1.heap.size ≤ q) V.2.1.1.heap H' locs' → W V.1.1 V.1.2.1 V.1.2.2.1 V.1.2.2.2 V.2.1.1 V.2.1.2.1 V.2.1.2.2.1 V.2.1.2.2.2.1 V.2.1.2.2.2.2.1 V.2.1.2.2.2.2.2 H' locs' 600000 7302250 Q (F0 V.2.1.2.1 (pc + 3) ls (.int r :: rest))) : W V.1.1 V.1.2.1 V.1.2.2.1 V.1.2.2.2 V.2.1.1 V.2.1.2.1 V.2.1.2.2.1 V.2.1.2.2.2.1 V.2.1.2.2.2.2.1 V.2.1.2.2.2.2.2 H locs 600000 7302250 Q (F0 V.2.1.2.1 pc ls (As.reverse ++ .ref (ad 1) :: rest)) := by
  obtain ⟨⟨hlk, hini, hcode, hy, hdesc, h21⟩, hinst, hsel⟩ := hm
  have hws := C.2.2.2.2.2.2.1
  have hK := C.2.2.2.2.2.2.2.1
  have hR : V.1.2.2.2 = room_1 := C.2.2.2.2.2.2.2.2.2.2.2.2
  have hg := sw_ws_get (ad := ad) (dA := V.2.2.2.2.1) (σ := σ) hZ hs
  have hmx : V.2.1.2.2.2.2.2.maxLocals = 4 := C.2.2.1
  have hWs : 2 * (F0 V.2.1.2.1 pc ls (As.reverse ++ .ref (ad 1) :: rest)).monitorRoom + (rest.map fun v => v.category).sum ≤ 8 := lv_room (by have := sw_cats rest; omega)
  have hpar : ∀ sig, parseMethodDescriptor y.desc = some sig → n = sig.parameters.length := fun sig h => by
    rw [h] at hdesc
    exact (Option.some.inj hdesc).symm
  cases hq : sw_cl[ci]? with
  | none => rw [hq] at hcl; cases hcl
  | some qq =>
    rw [hq] at hcl
    have hcl' : qq.1 = y.cls := Option.some.inj hcl
    have hrecv := va_recv hK hP hq hg
    rw [hcl'] at hrecv
    have hp : PreV V.2.1.1 H y.cls (ad 1) (sw_Pc Z V.2.2.1 V.2.2.2.1 V.2.2.2.2.1 ad (.ref (ad 1) :: As) σ) As := ⟨sw_Pc_blind _ _ _ _ _ _ _, hrecv, fun U hU hWm => ⟨rfl, by rw [hU]; exact hP, va_K.moved hWm.alike hK, by
      rw [hU]
      obtain ⟨x1, x2, x3, x4⟩ := (hE.warm hWm).kept hS.2.1
      exact ⟨x1.narrow hA1, x2, x3.narrow hA1, x4.narrow hA1⟩⟩⟩
    have run : va_Run V.1.1 V.1.2.1 V.1.2.2.1 V.1.2.2.2 V.2.1.1 V.2.1.2.1 V.2.1.2.2.1 V.2.1.2.2.2.1 V.2.1.2.2.2.2.1 V.2.1.2.2.2.2.2 H locs 600000 7302250 0 0 (F0 V.2.1.2.1 pc ls (As.reverse ++ .ref (ad 1) :: rest)) rest (sw_Q Z V.2.2.1 V.2.2.2.1 V.2.2.2.2.1 ad (some (.int r), σ') (Value.ref (ad 1) :: As).toArray) (sw_A Z ad) := by
      rcases hlk with hlk | ⟨host, hlk⟩
      · exact va_runV (nL := 4) (rest := rest) ⟨C.1, C.2.1, hmx, C.2.2.2.2.2.1, hws⟩ hM ⟨⟨rfl, rfl, by rw [hR]; exact hd.1, by rw [hR]; exact hd.2, sw_payU C hcode, List.mem_cons_self, hws _ hcode, hws _ hini, hy, hpar, hws _ hlk⟩, hws _ hinst, hws _ hsel⟩ hp rfl hn (hL.1.1.trans (hL.1.2.trans hmx)) rfl hWs hi (by rw [hR]; exact ⟨Nat.le_refl _, Nat.le_refl _⟩)
      · exact va_runVN (nL := 4) (rest := rest) ⟨C.1, C.2.1, hmx, C.2.2.2.2.2.1, hws⟩ hM ⟨⟨⟨rfl, rfl, by rw [hR]; exact hd.1, by rw [hR]; exact hd.2, sw_payU C hcode, List.mem_cons_self⟩, hws _ hcode, hws _ hini, hy, hpar, hws _ hlk⟩, hws _ hinst, hws _ hsel⟩ hp rfl hn (hL.1.1.trans (hL.1.2.trans hmx)) rfl hWs hi (by rw [hR]; exact ⟨Nat.le_refl _, Nat.le_refl _⟩)
    intro T hT X
    obtain ⟨v, st₀, t, T', L', h0, X', hL', e1, e2, ⟨hv, hP', hz, hk⟩, stp⟩ := run T hT X
    have hv' : v = some (.int r) := by injection hv
    rw [h0] at hz hk
    have hS' : va_S (fun q => V.2.1.1.heap.size ≤ q) V.2.1.1.heap T'.heap (locs ++ L') :=
      ⟨Nat.le_trans hS.1 (by rw [e1]; exact hz), fun q h1 h2 => by rw [e1, hk q (Nat.lt_of_lt_of_le h1 hS.1) (fun z => h2 (hA1 q z))]; exact hS.2.1 q h1 h2, fun q hq => by
        rcases List.mem_append.mp hq with h | h
        · exact hS.2.2 q h
        · exact hA1 _ (hL' q h)⟩
    have hP2' : va_P (V.2.2.1, V.2.2.2.1) sw_cl (sw_ws ad2 V.2.2.2.2.1 Z2 σ2) T'.heap := by
      refine hP2.kept (fun k x hx => ?_)
      have hin : sw_A Z2 ad2 x.1 := by
        by_cases hl : k < Z2.1
        · simp [sw_ws, List.getElem?_map, hl] at hx
          exact ⟨k, hl, by rw [← hx]⟩
        · simp [sw_ws, List.getElem?_map, hl] at hx
      rw [e1]
      exact hk x.1 ((hP2 k x hx).lt) (hA2 x.1 hin)
    obtain ⟨t2, a1, b1⟩ := kk T'.heap (locs ++ L') (by rw [e1]; exact hP') hP2' hS' T' rfl X'
    subst hv'
    exact ⟨t2, stp t2 a1, b1⟩
theorem u_callX (C : sw_Ux V adX adM b Ln xs) {idx n nL' d' : Nat} {y : MethodName} {cc' : ByteArray} {r : Int32} {σ' : sw_St} (hi : decode code pc = .ok (.invokevirtual idx, 3)) (As rest : List Value) (hm : sw_MV RL idx y cc' nL' (some .int) n) (hn : As.length = n) (hr : rest.length ≤ 4) (hcl : some "SplitWatch" = some y.cls) (hd : d' + 1 ≤ 12 ∧ 8 + (nL' + 11) + 40 * d' ≤ 448)
    (hM : sw_M sw_ZX V.1.2.1 y cc' nL' (some .int) d' V.2.2.1 V.2.2.2.1 V.2.2.2.2.1 adX (sw_rv adX 1 :: As) σx (some (.int r), σ')) {st0 : List Value} (hst : st0 = As.reverse ++ .ref (adX 1) :: rest) (kk : sw_U V adX adM b lv (.int r :: rest) (pc + 3) σ' σm) : sw_U V adX adM b lv st0 pc σx σm := by
  subst hst
  intro H locs ls hL h1 h2 hS
  obtain ⟨hI, hE, hXX, hA, hR⟩ := C.2.2.2.2.2.2.2.2
  exact u_call0 C sw_ZXok hi As rest hm hn hr (ci := 6) rfl hcl hd hI.1 hE.1 hA.1 (fun q q2 q1 => hA.2.2 q q1 q2) hM hL h1 h2 hS (fun H' locs' g1 g2 g3 => kk H' locs' ls hL g1 g2 g3)
theorem u_callM (C : sw_Ux V adX adM b Ln xs) {idx n nL' d' : Nat} {y : MethodName} {cc' : ByteArray} {r : Int32} {σ' : sw_St} (hi : decode code pc = .ok (.invokevirtual idx, 3)) (As rest : List Value) (hm : sw_MV RL idx y cc' nL' (some .int) n) (hn : As.length = n) (hr : rest.length ≤ 4) (hcl : some "SplitWatchModel" = some y.cls) (hd : d' + 1 ≤ 12 ∧ 8 + (nL' + 11) + 40 * d' ≤ 448)
    (hM : sw_M sw_ZM V.1.2.1 y cc' nL' (some .int) d' V.2.2.1 V.2.2.2.1 V.2.2.2.2.1 adM (sw_rv adM 1 :: As) σm (some (.int r), σ')) {st0 : List Value} (hst : st0 = As.reverse ++ .ref (adM 1) :: rest) (kk : sw_U V adX adM b lv (.int r :: rest) (pc + 3) σx σ') : sw_U V adX adM b lv st0 pc σx σm := by
  subst hst
  intro H locs ls hL h1 h2 hS
  obtain ⟨hI, hE, hXX, hA, hR⟩ := C.2.2.2.2.2.2.2.2
  exact u_call0 C sw_ZMok hi As rest hm hn hr (ci := 7) rfl hcl hd hI.2 hE.2 hA.2.1 (fun q q2 q1 => hA.2.2 q q2 q1) hM hL h2 h1 hS (fun H' locs' g1 g2 g3 => kk H' locs' ls hL g2 g1 g3)
end U
