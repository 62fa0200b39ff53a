theorem q_109 : (Jvm.Cond.classLink "SplitWatchLaw" (7 : Nat) "SplitWatch") ∈ sw_WS := sw_mem 109 (by decide +kernel) rfl
theorem q_110 : (Jvm.Cond.instantiable "SplitWatch" (2 : Nat)) ∈ sw_WS := sw_mem 110 (by decide +kernel) rfl
theorem q_111 : (Jvm.Cond.methodLink "SplitWatchLaw" (9 : Nat) ({ cls := "SplitWatch", name := "<init>", desc := "()V" } : Jvm.MethodName)) ∈ sw_WS := sw_mem 111 (by decide +kernel) rfl
theorem q_112 : (Jvm.Cond.instanceMethod ({ cls := "SplitWatch", name := "<init>", desc := "()V" } : Jvm.MethodName)) ∈ sw_WS := sw_mem 112 (by decide +kernel) rfl
theorem q_113 : (Jvm.Cond.code ({ cls := "SplitWatch", name := "<init>", desc := "()V" } : Jvm.MethodName) prog_1_method_1_code (1 : Nat) (Option.none : Option Jvm.ClassFile.FieldType)) ∈ sw_WS := sw_mem 113 (by decide +kernel) rfl
theorem q_759 : (Jvm.Cond.classLink "SplitWatchLaw" (10 : Nat) "SplitWatchModel") ∈ sw_WS := sw_mem 759 (by decide +kernel) rfl
theorem q_760 : (Jvm.Cond.instantiable "SplitWatchModel" (35 : Nat)) ∈ sw_WS := sw_mem 760 (by decide +kernel) rfl
theorem q_761 : (Jvm.Cond.methodLink "SplitWatchLaw" (12 : Nat) ({ cls := "SplitWatchModel", name := "<init>", desc := "()V" } : Jvm.MethodName)) ∈ sw_WS := sw_mem 761 (by decide +kernel) rfl
theorem q_762 : (Jvm.Cond.instanceMethod ({ cls := "SplitWatchModel", name := "<init>", desc := "()V" } : Jvm.MethodName)) ∈ sw_WS := sw_mem 762 (by decide +kernel) rfl
theorem q_763 : (Jvm.Cond.code ({ cls := "SplitWatchModel", name := "<init>", desc := "()V" } : Jvm.MethodName) prog_9_method_1_code (1 : Nat) (Option.none : Option Jvm.ClassFile.FieldType)) ∈ sw_WS := sw_mem 763 (by decide +kernel) rfl
/-! THE LAW'S START: the tables' classes, the texts' constants, the two objects made; then the loop -/
def sw_tm (i : Nat) : Term := .string (sw_sown i).1 (sw_sown i).2.1
abbrev sw_F : List Cond := flatC (Jvm.Cond.and given_1 narrow_1)
theorem st_ex : ∀ i, i < sw_nS → Cond.exactly (sw_tm i) "java/lang/String" ∈ sw_F := by decide +kernel
theorem st_co : ∀ i, i < sw_nS → Cond.eq (.field (sw_tm i) "java/lang/String" "coder" "B") (.int 0) ∈ sw_F := by decide +kernel
theorem st_ar : ∀ i, i < sw_nS → Cond.arrayOf (.field (sw_tm i) "java/lang/String" "value" "[B") .byte ∈ sw_F := by decide +kernel
theorem st_le : ∀ i, i < sw_nS → Cond.eq (.length (.field (sw_tm i) "java/lang/String" "value" "[B")) (.int (Int32.ofNat (sw_len.getD i 0))) ∈ sw_F := by decide +kernel
theorem st_el : ∀ i, i < sw_nS → ∀ j, j < sw_len.getD i 0 → Cond.eq (.elem (.field (sw_tm i) "java/lang/String" "value" "[B") (.int (Int32.ofNat j))) (.int ((sw_byt.getD i []).getD j 0)) ∈ sw_F := by decide +kernel
theorem st_ne : ∀ i, i < sw_nS → ∀ j, j < sw_nS → i ≠ j → (Cond.not (Cond.eq (sw_tm i) (sw_tm j)) ∈ sw_F ∨ Cond.not (Cond.eq (sw_tm j) (sw_tm i)) ∈ sw_F) := by decide +kernel
theorem st_cs : Cond.eq (.static "java/lang/String" "COMPACT_STRINGS" "Z") (.int 1) ∈ sw_F := by decide +kernel
theorem st_sf : Cond.isRef (.static "jdk/internal/util/Preconditions" "SIOOBE_FORMATTER" "Ljava/util/function/BiFunction;") ∈ sw_F := by decide +kernel
theorem st_sr : ∀ i, i < sw_nS → Cond.stringRef (sw_sown i).1 (sw_sown i).2.1 (sw_sown i).2.2 ∈ lw_tbl := by decide +kernel
theorem st_l1 : Cond.laysStatic "java/lang/String" "COMPACT_STRINGS" "Z" ∈ lw_tbl := List.mem_of_getElem? (i := 564) (by decide +kernel)
theorem st_l2 : Cond.laysStatic "jdk/internal/util/Preconditions" "SIOOBE_FORMATTER" "Ljava/util/function/BiFunction;" ∈ lw_tbl := List.mem_of_getElem? (i := 580) (by decide +kernel)
theorem st_o1 : Cond.arrayOver (.object RX2) ∈ lw_tbl := by decide +kernel
theorem st_o2 : Cond.arrayOver (.object RX4) ∈ lw_tbl := by decide +kernel
/-- what stands outside the cells, at the law's start -/
theorem st_Ex {args : Array Value} {s : State} (hts : ∀ w ∈ lw_tbl, w.before args s = true) (hgv : (Jvm.Cond.and given_1 narrow_1).before args s = true) : ∃ g : Nat → Nat, ∀ b : Nat, sw_Ex (sw_ab b g) (fun q => s.heap.size ≤ q) s s.heap := by
  have hs := flat_of_before _ hgv
  have hA : ∀ a : Nat, a < s.heap.size → ¬ s.heap.size ≤ a := fun a h => Nat.not_le.mpr h
  obtain ⟨adK, adV, hS, hev⟩ := vk_Sof (args := args) (s := s) (N := sw_nS) (tm := sw_tm) (len := sw_len) (byt := sw_byt) (A := fun q => s.heap.size ≤ q) sw_len_small (fun i hi => hs _ (st_ex i hi)) (fun i hi => hs _ (st_co i hi)) (fun i hi => hs _ (st_ar i hi)) (fun i hi => hs _ (st_le i hi)) (fun i hi j hj => hs _ (st_el i hi j hj)) (fun i j hi hj hne => (st_ne i hi j hj hne).elim (fun h => Or.inl (hs _ h)) (fun h => Or.inr (hs _ h))) hA
  refine ⟨fun k => if k < 200 then adK (k - 100) else adV (k - 200), fun b => ?_⟩
  have eK : ∀ i, i < sw_nS → sw_ab b (fun k => if k < 200 then adK (k - 100) else adV (k - 200)) (100 + i) = adK i := by
    intro i hi
    have hi : i < 9 := hi
    unfold sw_ab
    rw [if_neg (by omega)]
    show (if 100 + i < 200 then adK (100 + i - 100) else adV (100 + i - 200)) = adK i
    rw [if_pos (by omega), show 100 + i - 100 = i by omega]
  have eV : ∀ i, i < sw_nS → sw_ab b (fun k => if k < 200 then adK (k - 100) else adV (k - 200)) (200 + i) = adV i := by
    intro i hi
    have hi : i < 9 := hi
    unfold sw_ab
    rw [if_neg (by omega)]
    show (if 200 + i < 200 then adK (200 + i - 100) else adV (200 + i - 200)) = adV i
    rw [if_neg (by omega), show 200 + i - 200 = i by omega]
  refine ⟨⟨fun i hi => ?_, fun i j hi hj e => ?_⟩, fun i hi => ?_, ?_, ?_⟩
  · obtain ⟨h1, h2, h3, h4⟩ := hS.1 i hi
    dsimp only
    rw [eK i hi, eV i hi]
    exact ⟨h1, h2, h3, h4⟩
  · dsimp only at e
    rw [eK i hi, eK j hj] at e
    exact hS.2 i j hi hj e
  · rw [eK i hi]
    refine vk_R.of (hts _ (st_sr i hi)) (hev i hi)
  · exact va_Zof (hts _ st_l1) (hts _ (List.mem_filter.mp q_105).1) (va_eqt (hs _ st_cs)) hA
  · exact va_Zqof (hts _ st_l2) (hts _ (List.mem_filter.mp q_107).1) (hs _ st_sf) hA
theorem st_K {args : Array Value} {s : State} (hts : ∀ w ∈ lw_tbl, w.before args s = true) : ∃ (dC : Nat → ClassId) (dI : Nat → Nat → Nat) (dA : Nat → ClassId), va_K (dC, dI) sw_cl (sw_tys dA) s := by
  have hws : ∀ w ∈ sw_WS, w.before args s = true := fun w hw => hts w (List.mem_filter.mp hw).1
  obtain ⟨c0, iS0, hKn0⟩ := u_known (C := RX0) (T := TX0) (N := 14) (n := 14) hws in_X0 (hws (.instantiable RX0 14) q_118)
  obtain ⟨c1, iS1, hKn1⟩ := u_known (C := RX1) (T := TX1) (N := 4) (n := 4) hws in_X1 (hws (.instantiable RX1 4) q_156)
  obtain ⟨c2, iS2, hKn2⟩ := u_known (C := RX2) (T := TX2) (N := 4) (n := 4) hws in_X2 (hws (.instantiable RX2 4) q_150)
  obtain ⟨c3, iS3, hKn3⟩ := u_known (C := RX3) (T := TX3) (N := 4) (n := 4) hws in_X3 (hws (.instantiable RX3 4) q_128)
  obtain ⟨c4, iS4, hKn4⟩ := u_known (C := RX4) (T := TX4) (N := 11) (n := 11) hws in_X4 (hws (.instantiable RX4 11) q_179)
  obtain ⟨c5, iS5, hKn5⟩ := u_known (C := RX5) (T := TX5) (N := 5) (n := 5) hws in_X5 (hws (.instantiable RX5 5) q_324)
  obtain ⟨c6, iS6, hKn6⟩ := u_known (C := RX6) (T := TX6) (N := 2) (n := 2) hws in_X6 (hws (.instantiable RX6 2) q_110)
  obtain ⟨c7, iS7, hKn7⟩ := u_known (C := RX7) (T := TX7) (N := 35) (n := 35) hws in_X7 (hws (.instantiable RX7 35) q_760)
  obtain ⟨a0, k0, p0, f0, g0, h0⟩ := Cond.arrayClass_spec (hws _ q_148)
  obtain ⟨a1, k1, p1, f1, g1, h1⟩ := Cond.arrayClass_spec (hws _ q_149)
  obtain ⟨p2, a2, k2, e2, -, g2, h2, f2⟩ := Cond.arrayOver_spec (hts _ st_o1)
  obtain ⟨p3, a3, k3, e3, -, g3, h3, f3⟩ := Cond.arrayOver_spec (hts _ st_o2)
  refine ⟨fun k => [c0, c1, c2, c3, c4, c5, c6, c7].getD k c0, fun k => [iS0, iS1, iS2, iS3, iS4, iS5, iS6, iS7].getD k iS0, fun k => [a0, a1, a2, a3].getD k a0, ?_, ?_⟩
  · intro k q hq
    match k, hq with
    | 0, hq => cases hq; exact hKn0
    | 1, hq => cases hq; exact hKn1
    | 2, hq => cases hq; exact hKn2
    | 3, hq => cases hq; exact hKn3
    | 4, hq => cases hq; exact hKn4
    | 5, hq => cases hq; exact hKn5
    | 6, hq => cases hq; exact hKn6
    | 7, hq => cases hq; exact hKn7
    | k + 8, hq => simp [sw_cl] at hq
  · intro k q hq
    match k, hq with
    | 0, hq => cases hq; exact ⟨fun N z => ⟨(fun k h => by cases h), k0, g0, p0, h0⟩, f0⟩
    | 1, hq => cases hq; exact ⟨fun N z => ⟨(fun k h => by cases h), k1, g1, p1, h1⟩, f1⟩
    | 2, hq => cases hq; exact ⟨fun N z => ⟨(fun k h => by cases h), k2, g2, p2, h2⟩, k2, p2, g2, h2, e2, f2⟩
    | 3, hq => cases hq; exact ⟨fun N z => ⟨(fun k h => by cases h), k3, g3, p3, h3⟩, k3, p3, g3, h3, e3, f3⟩
    | k + 4, hq => simp at hq
section ST
variable {p : Program} {l : Launch} {e : Env} {s : State} {m : MethodId} {args : Array Value} {below : List Frame} {meth : Method} {c : Code} {dC : Nat → ClassId} {dI : Nat → Nat → Nat} {dA : Nat → ClassId} {g : Nat → Nat}
/-- what holds all through the law's start -/
def st_C (p : Program) (s : State) (m : MethodId) (args : Array Value) (meth : Method) (c : Code) (dC : Nat → ClassId) (dI : Nat → Nat → Nat) (dA : Nat → ClassId) (g : Nat → Nat) : Prop :=
  p.tables.exec = Jvm.exec ∧ c.code = code ∧ c.maxLocals = 4 ∧ s.vm.findClass RL = some m.cls ∧ (∀ w ∈ sw_WS, w.before args s = true) ∧ va_K (dC, dI) sw_cl (sw_tys dA) s ∧ (va_AO RX2 s ∧ va_AO RX4 s) ∧ ∀ b : Nat, sw_Ex (sw_ab b g) (fun q => s.heap.size ≤ q) s s.heap
theorem st_ctor (C : st_C p s m args meth c dC dI dA g) {b idx nL fr mc ms lo cells slots pc : Nat} {y : MethodName} {cc : ByteArray} {Z Z' : sw_Z} {σ σ' : sw_St} {a : Nat} {H : Heap} {locs : List Loc} {ls : Array Slot} {rest : List Value} {Q : State → Prop} (hsz0 : ls.size = 4) (hi : decode code pc = .ok (.invokespecial idx, 3)) (hm : sw_ML RL idx y cc nL none 0) (hin : Cond.instanceMethod y ∈ sw_WS) (hy1 : y.name = "<init>") (hr : rest.length ≤ 4) (hR : fr + 1 ≤ 12 ∧ 8 + (nL + 11) + lo ≤ 448 ∧ cells + mc ≤ 600000 ∧ slots + ms ≤ 7302250) (hb : s.heap.size ≤ b) (hP : va_P (dC, dI) sw_cl (sw_ws (sw_ab b g) dA Z σ) H) (hsz : H.size = b + Z.1) (hS : va_S (fun q => s.heap.size ≤ q) s.heap H locs) (ha : sw_rv (sw_ab b g) 1 = .ref a)
    (hM : sw_MC l y cc nL fr mc ms lo b g dC dI dA Z σ [sw_rv (sw_ab b g) 1] Z' σ') (kk : ∀ (H' : Heap) (locs' : List Loc), va_P (dC, dI) sw_cl (sw_ws (sw_ab b g) dA Z' σ') H' → (∀ q, q < H.size → ¬ b ≤ q → H'[q]? = H[q]?) → va_S (fun q => s.heap.size ≤ q) s.heap H' locs' → W p l e room_1 s m args below meth c H' locs' (cells + mc) (slots + ms) Q (F0 m (pc + 3) ls rest)) : W p l e room_1 s m args below meth c H locs cells slots Q (F0 m pc ls (.ref a :: rest)) := by
  obtain ⟨hx, hbc, hml, hown, hws, hK, hAO, hE⟩ := C
  obtain ⟨hlk, hini, hcode, hy, hdesc, h21⟩ := hm
  rw [ha] at hM
  have hpay : ∀ w ∈ (Cond.code y cc nL none :: sw_WS), ∀ (a' : Array Value) (U : State), s.WarmedH U.vm → w.before a' U = true := by
    intro w hw a' U hWm
    rcases List.mem_cons.mp hw with rfl | h
    · exact sw_ok_warm (sw_WS_ok hcode) hWm (hws _ hcode)
    · exact sw_ok_warm (sw_WS_ok h) hWm (hws _ h)
  have hAb : ∀ q, b ≤ q → s.heap.size ≤ q := fun q h => Nat.le_trans hb h
  have hpre : PreS s H (sw_PC b g dC dI dA Z σ [.ref a]) [.ref a] :=
    ⟨sw_PC_blind _ _ _ _ _ _ _ _, fun U hU hWm => ⟨rfl, by rw [hU]; exact hP, by rw [hU]; exact hsz, va_K.moved hWm.alike hK, ⟨va_AO.moved hWm.alike hAO.1, va_AO.moved hWm.alike hAO.2⟩, by
      rw [hU]
      obtain ⟨x1, x2, x3, x4⟩ := ((hE b).warm hWm).kept hS.2.1
      exact ⟨x1.narrow hAb, x2, x3.narrow hAb, x4.narrow hAb⟩⟩⟩
  have hWs : 2 * (F0 m pc ls (([] : List Value).reverse ++ .ref a :: rest)).monitorRoom + (rest.map fun v => v.category).sum ≤ 8 := lv_room (by have := sw_cats rest; omega)
  have hpar : ∀ sig, parseMethodDescriptor y.desc = some sig → 0 = sig.parameters.length := fun sig h => by
    rw [h] at hdesc
    exact (Option.some.inj hdesc).symm
  have run : va_Run p l e room_1 s m args below meth c H locs cells slots mc ms (F0 m pc ls (.ref a :: rest)) rest (sw_QC b g dC dI dA Z' σ' #[Value.ref a]) (fun q => b ≤ q) := by
    rcases hlk with hlk | ⟨host, hlk⟩
    · exact va_runI (As := []) (nL := 4) (rest := rest) ⟨hx, hbc, hml, hown, hws⟩ hM ⟨⟨rfl, rfl, hR.1, hR.2.1, hpay, List.mem_cons_self, hws _ hcode, hws _ hini, hy, hpar, hws _ hlk⟩, hy1, hws _ hin⟩ hpre rfl rfl hsz0 rfl hWs hi hR.2.2
    · exact va_runIN (As := []) (nL := 4) (rest := rest) ⟨hx, hbc, hml, hown, hws⟩ hM ⟨⟨⟨rfl, rfl, hR.1, hR.2.1, hpay, List.mem_cons_self⟩, hws _ hcode, hws _ hini, hy, hpar, hws _ hlk⟩, hy1, hws _ hin⟩ hpre rfl rfl hsz0 rfl hWs hi hR.2.2
  intro T hT X
  obtain ⟨v, st₀, t, T', L', h0, X', hL', e1, e2, ⟨hv, hP', hz, hk⟩, stp⟩ := run T hT X
  have hv' : v = none := by injection hv
  rw [h0] at hz hk
  have hS' : va_S (fun q => s.heap.size ≤ q) s.heap T'.heap (locs ++ L') :=
    ⟨Nat.le_trans hS.1 (by rw [e1]; exact hz), fun q h1 h2 => by rw [e1, hk q (Nat.lt_of_lt_of_le h1 hS.1) (fun z => h2 (hAb q z))]; exact hS.2.1 q h1 h2, fun q hq => by
      rcases List.mem_append.mp hq with h | h
      · exact hS.2.2 q h
      · exact hAb _ (hL' q h)⟩
  obtain ⟨t2, a1, b1⟩ := kk T'.heap (locs ++ L') (by rw [e1]; exact hP') (fun q h1 h2 => by rw [e1]; exact hk q h1 h2) hS' T' rfl X'
  subst hv'
  exact ⟨t2, stp t2 a1, b1⟩
end ST
set_option maxHeartbeats 4000000 in
set_option maxRecDepth 100000 in
/-- the law, out of what the two programs do -/
theorem whole_from {p : Program} {e : Env} {s : State} {m : MethodId} {below : List Frame} {meth : Method} {c : Code} (l : Launch) {b L : Nat} {xs : Nat → Int32} (hL : L ≤ 2560) (C0 : lw_At p s m meth c b L xs) {R : Nat → sw_St → sw_St → Prop} (hst : sw_Step R) {σ1 : sw_St} (hb1 : f_X0_reset sw_σB 3 2 1 3 = some σ1) (hz1 : ∀ k, 43 < k → σ1 k = fun _ => 0) {r1 : Int32 × sw_St} (hb2 : f_X7_begin sw_σM 3 2 1 3 = some r1) (hR0 : R 0 σ1 r1.2) : W p l e room_1 s m #[Value.ref b] below meth c s.heap [] 0 0 (lw_Z below #[Value.ref b] s) (entryFrame m ([Value.ref b] : List Value).toArray 4) := by
  obtain ⟨hx, hb, hr, hml, hown, hts, hX, hbl, hlocks, hgv⟩ := id C0
  have hws : ∀ w ∈ sw_WS, w.before #[Value.ref b] s = true := fun w hw => hts w (List.mem_filter.mp hw).1
  obtain ⟨dC, dI, dA, hK⟩ := st_K hts
  obtain ⟨g, hE⟩ := st_Ex hts hgv
  have hAO : va_AO RX2 s ∧ va_AO RX4 s := ⟨va_AO.of (hts _ st_o1), va_AO.of (hts _ st_o2)⟩
  have C : st_C p s m #[Value.ref b] meth c dC dI dA g := ⟨hx, hb, hml, hown, hws, hK, hAO, hE⟩
  generalize hB : s.heap.size = B at *
  have hA : ∀ q : Nat, s.heap.size ≤ q → B ≤ q := fun q h => by rw [← hB]; exact h
  have hS : va_S (fun q => B ≤ q) s.heap s.heap [] := va_S.rf
  have hP0 : va_P (dC, dI) sw_cl [] s.heap := fun k q h => by simp at h
  have hD0 : va_D (fun q => B ≤ q) [] := ⟨fun i j p q h => by simp at h, fun k q h => by simp at h⟩
  have hl := lv_entry ([.ref b]) (n := 4) (Nat.le_of_ble_eq_true rfl)
  rw [lg_entry_eq]
  generalize (lg_sl ([.ref b]) ++ List.replicate (4 - (lg_sl ([.ref b])).length) Slot.unset).toArray = ls at hl ⊢
  have hl : lv_has ls 4 [(0, .ref b)] := hl
  refine va_new (ci := 6) (fs := [.null, .null]) (C := RX6) (T := TX6) (N := 2) hx hb hws in_X6 tyX6 tyX6_ok hown (hws _ q_109) (hws _ q_110) (hws _ q_96) hK hP0 hD0 hS hA rfl (fun j hj => by rcases (show j = 0 ∨ j = 1 by omega) with rfl | rfl <;> rfl) (Nat.le_of_ble_eq_true rfl) (Nat.le_of_ble_eq_true rfl) dL_0 (fun q H hP hD hS => ?_)
  refine fun T hT X => ?_
  have hq : q = B ∧ H.size = B + 1 := by
    have h1 : H.size ≤ s.heap.size + (0 + 1) := by have := X.same.2.2.1; rw [← hT]; exact this
    have h2 : q < H.size := (hP 0 (q, .inr (6, [.null, .null])) rfl).lt
    have h3 : B ≤ q := hD.2 0 (q, .inr (6, [.null, .null])) rfl
    omega
  obtain ⟨rfl, hH⟩ := hq
  revert T
  show W p l e room_1 s m #[Value.ref b] below meth c H [] (0 + 1) (0 + 2) _ _
  refine lv_dup hx hb dL_3 rfl ?_
  have e1 : sw_ab q g 1 = q := by unfold sw_ab; rw [if_pos (by omega)]; omega
  have hPx : va_P (dC, dI) sw_cl (sw_ws (sw_ab q g) dA sw_z1 sw_σ0) H := by
    show va_P (dC, dI) sw_cl [(sw_ab q g 1, .inr (6, [.null, .null]))] H
    rw [e1]
    exact hP
  refine st_ctor (b := q) C hl.1 dL_4 (show sw_ML RL 9 yX6_init cX6_init 1 none 0 from ⟨(Or.inl q_111), q_96, q_113, ⟨by decide, by decide⟩, by decide +kernel, by decide⟩) q_112 rfl (Nat.le_of_ble_eq_true rfl) ⟨by decide, by decide, by decide, by decide⟩ (by omega) hPx hH (by rw [hB]; exact hS) (by rw [sw_rv_pos (by decide), e1]) (c_X6_1 l q g dC dI dA σ1 hb1 hz1) (fun H2 locs2 hP2 hk2 hS2 => ?_)
  rw [hB] at hS2
  refine lv_astore_n (lv' := [(1, .ref q), (0, .ref b)]) hx hb dL_7 rfl hl (by decide) rfl (fun ls hl => ?_)
  have hIX : sw_inj sw_ZX (sw_ab q g) := sw_ab_inj (by decide)
  have hAX : ∀ a, sw_A sw_ZX (sw_ab q g) a → q ≤ a ∧ a < q + 46 := by
    rintro a ⟨i, hi, rfl⟩
    have hi : i < 46 := hi
    rw [sw_ab_at (by omega)]
    omega
  have hDX : va_D (fun a => q ≤ a) (sw_ws (sw_ab q g) dA sw_ZX σ1) := by
    have h := sw_ws_D (dA := dA) (σ := σ1) hIX
    exact ⟨h.1, fun k x hx => (hAX _ (h.2 k x hx)).1⟩
  refine va_new (ci := 7) (fs := sw_fv (sw_ab q g) [none, none, none, none, none, some 0, some 0, some 0, some 0, some 0, some 0, some 0, some 0, some 0, some 0, some 0, some 0, some 0, none, some 0, none, none, some 0, none, some 0, none, none, none, none, none, some 0, none, some 0, none, some 0] (fun _ => 0) 0) (C := RX7) (T := TX7) (N := 35) hx hb hws in_X7 tyX7 tyX7_ok hown (hws _ q_759) (hws _ q_760) (hws _ q_103) hK hP2 hDX hS2 hA rfl (df_X7 (sw_ab q g)) (Nat.le_of_ble_eq_true rfl) (Nat.le_of_ble_eq_true rfl) dL_8 (fun q2 H3 hP3 hD3 hS3 => ?_)
  refine fun T hT X => ?_
  have hlen : (sw_ws (sw_ab q g) dA sw_ZX σ1).length = 46 := by simp [sw_ws, sw_ZX]
  have hlast : (sw_ws (sw_ab q g) dA sw_ZX σ1 ++ [(q2, .inr (7, sw_fv (sw_ab q g) [none, none, none, none, none, some 0, some 0, some 0, some 0, some 0, some 0, some 0, some 0, some 0, some 0, some 0, some 0, some 0, none, some 0, none, none, some 0, none, some 0, none, none, none, none, none, some 0, none, some 0, none, some 0] (fun _ => 0) 0))])[46]? = some (q2, .inr (7, sw_fv (sw_ab q g) [none, none, none, none, none, some 0, some 0, some 0, some 0, some 0, some 0, some 0, some 0, some 0, some 0, some 0, some 0, some 0, none, some 0, none, none, some 0, none, some 0, none, none, none, none, none, some 0, none, some 0, none, some 0] (fun _ => 0) 0)) := by
    rw [List.getElem?_append_right (by omega), hlen]
    rfl
  have hq2 : q2 = q + 46 ∧ H3.size = q + 46 + 1 := by
    have h1 : H3.size ≤ s.heap.size + (0 + 1 + 45 + 1) := by have := X.same.2.2.1; rw [← hT]; exact this
    have h2 : q2 < H3.size := (hP3 46 _ hlast).lt
    have h3 : q ≤ q2 := hD3.2 46 _ hlast
    have h4 : ¬ q2 < q + 46 := by
      intro h
      obtain ⟨i, hi⟩ : ∃ i, q2 = q + i := ⟨q2 - q, by omega⟩
      have hi46 : i < 46 := by omega
      have hgi : (sw_ws (sw_ab q g) dA sw_ZX σ1 ++ [(q2, .inr (7, sw_fv (sw_ab q g) [none, none, none, none, none, some 0, some 0, some 0, some 0, some 0, some 0, some 0, some 0, some 0, some 0, some 0, some 0, some 0, none, some 0, none, none, some 0, none, some 0, none, none, none, none, none, some 0, none, some 0, none, some 0] (fun _ => 0) 0))])[i]? = some (sw_ab q g (i + 1), sw_ent (sw_ab q g) dA (sw_ZX.2 (i + 1)) (σ1 (i + 1))) := by
        rw [List.getElem?_append_left (by omega)]
        have hz : i < sw_ZX.1 := hi46
        simp [sw_ws, List.getElem?_map, hz]
      have := hD3.1 46 i _ _ hlast hgi (by
        show q2 = sw_ab q g (i + 1)
        rw [sw_ab_at (by omega), hi]
        omega)
      omega
    omega
  obtain ⟨rfl, hH3⟩ := hq2
  revert T
  show W p l e room_1 s m #[Value.ref b] below meth c H3 _ (0 + 1 + 45 + 1) (0 + 2 + 566 + 35) _ _
  refine lv_dup hx hb dL_11 rfl ?_
  have e2 : sw_ab (q + 46) g 1 = q + 46 := sw_ab_at (by omega)
  have hPm : va_P (dC, dI) sw_cl (sw_ws (sw_ab (q + 46) g) dA sw_zm sw_σ0) H3 := by
    show va_P (dC, dI) sw_cl [(sw_ab (q + 46) g 1, .inr (7, sw_fv (sw_ab (q + 46) g) [none, none, none, none, none, some 0, some 0, some 0, some 0, some 0, some 0, some 0, some 0, some 0, some 0, some 0, some 0, some 0, none, some 0, none, none, some 0, none, some 0, none, none, none, none, none, some 0, none, some 0, none, some 0] (fun _ => 0) 0))] H3
    rw [e2]
    exact hP3.sub [46] (by rw [List.filterMap_cons, hlast]; rfl)
  have hPx3 : va_P (dC, dI) sw_cl (sw_ws (sw_ab q g) dA sw_ZX σ1) H3 := fun k x hx => hP3 k x (by rw [List.getElem?_append_left (List.getElem?_eq_some_iff.mp hx).1]; exact hx)
  refine st_ctor (b := q + 46) C hl.1 dL_12 (show sw_ML RL 12 yX7_init cX7_init 1 none 0 from ⟨(Or.inl q_761), q_103, q_763, ⟨by decide, by decide⟩, by decide +kernel, by decide⟩) q_762 rfl (Nat.le_of_ble_eq_true rfl) ⟨by decide, by decide, by decide, by decide⟩ (by omega) hPm hH3 (by rw [hB]; exact hS3) (by rw [sw_rv_pos (by decide), e2]) (c_X7_1 l (q + 46) g dC dI dA r1 hb2) (fun H4 locs4 hP4 hk4 hS4 => ?_)
  have hPx4 : va_P (dC, dI) sw_cl (sw_ws (sw_ab q g) dA sw_ZX σ1) H4 := by
    refine hPx3.kept (fun k x hx => ?_)
    have h := hAX _ ((sw_ws_D (dA := dA) (σ := σ1) hIX).2 k x hx)
    exact hk4 x.1 ((hPx3 k x hx).lt) (by omega)
  refine lv_astore_n (lv' := [(2, .ref (q + 46)), (1, .ref q), (0, .ref b)]) hx hb dL_15 rfl hl (by decide) rfl (fun ls hl => ?_)
  refine lv_iconst (v := 0) hx hb dL_16 (by decide) ?_
  refine lv_istore_n (lv' := [(3, .int 0), (2, .ref (q + 46)), (1, .ref q), (0, .ref b)]) hx hb dL_17 rfl hl (by decide) rfl (fun ls hl => ?_)
  refine W.widen (k := 600000) (n := 7302250) (Nat.le_of_ble_eq_true rfl) (Nat.le_of_ble_eq_true rfl) ?_
  have hAM : ∀ a, sw_A sw_ZM (sw_ab (q + 46) g) a → q + 46 ≤ a := by
    rintro a ⟨i, hi, rfl⟩
    have hi : i < 20 := hi
    rw [sw_ab_at (by omega)]
    omega
  have CU : sw_Ux ((p, l, e, room_1), (s, m, #[Value.ref b], below, meth, c), (dC, dI, dA, sw_ab q g)) (sw_ab q g) (sw_ab (q + 46) g) b L xs :=
    ⟨hx, hb, hml, hr, hlocks, hown, hws, hK, ⟨hIX, sw_ab_inj (by decide)⟩, ⟨hB ▸ hE q, hB ▸ hE (q + 46)⟩, ⟨hX, by rw [hB]; exact hbl, rfl⟩, ⟨fun a h => by rw [hB]; exact (hAX a h).1, fun a h => by rw [hB]; have := hAM a h; omega, fun a h1 h2 => by have := (hAX a h1).2; have := hAM a h2; omega⟩, rfl⟩
  have hloop := law_loop hL CU hst 513 0 rfl σ1 r1.2 hR0
  have hLs : sw_L ((p, l, e, room_1), (s, m, #[Value.ref b], below, meth, c), (dC, dI, dA, sw_ab q g)) ls [some (.ref b), some (.ref (sw_ab q g 1)), some (.ref (sw_ab (q + 46) g 1)), some (.int (nI (5 * 0)))] := by
    refine ⟨⟨hl.1, hml.symm⟩, hl.2.1, fun j w hj => ?_⟩
    rw [e1, e2] at hj
    match j, hj with
    | 0, hj => cases hj; exact lv_at hl 3 rfl
    | 1, hj => cases hj; exact lv_at hl 2 rfl
    | 2, hj => cases hj; exact lv_at hl 1 rfl
    | 3, hj => cases hj; exact lv_at hl 0 rfl
    | j + 4, hj => simp at hj
  exact hloop H4 locs4 ls hLs hPx4 hP4 hS4
