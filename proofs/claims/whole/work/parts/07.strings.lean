/-! what contracts need of their arguments; the texts' constants: String.length, String.charAt -/
def sw_c1 : List Value → Prop
  | [] => True
  | v :: r => v.category = 1 ∧ sw_c1 r
theorem sw_c1_all : ∀ (av : List Value), sw_c1 av → ∀ v ∈ av, v.category = 1
  | [], _, v, h => by cases h
  | w :: r, hc, v, h => by
    rcases List.mem_cons.mp h with e | h
    · rw [e]; exact hc.1
    · exact sw_c1_all r hc.2 v h
def sw_sn (k : Nat) : Nat := sw_len.getD (k - 100) 0
def sw_sl (k : Nat) : Int32 := nI (sw_sn k)
def sw_sc (k : Nat) (i : Int32) : Int32 := (sw_byt.getD (k - 100) []).getD (sw_ix i) 0 &&& 255
section G2
variable {β : Type} {Z : sw_Z} {V : sw_V} {cc : ByteArray} {own : String} {nL : Nat} {ret : Option FieldType} {L : sw_Is} {d : Nat}
variable {ψ : β → Option Value × sw_St} {lv : List (Option Value)} {st : List Value} {pc q : Nat} {σ : sw_St} {o o1 o2 : Option β}
theorem g_callW {β₁ : Type} {ψ₁ : β₁ → Option Value × sw_St} {oc : Option β₁} {K : β₁ → Option β} {y : MethodName} {cc' : ByteArray} {nL' d' n idx : Nat} {a : Nat} {ret' : Option FieldType} (C : sw_Cx Z V cc own nL ret L d) (i : Nat) (hi : L[i]? = some (pc, .invokevirtual idx, 3, q)) (As rest : List Value)
    (hm : sw_MV own idx y cc' nL' ret' n) (hn : As.length = n) (hr : rest.length ≤ 4) (hd : d' + 1 ≤ d) (hrecv : ∀ (H : Heap) (locs : List Loc), sw_Wd Z V σ H locs → ∃ cell : Cell, H[a]? = some cell ∧ cell.vm.isStatics = false ∧ V.2.1.1.vm.findClass y.cls = some cell.cls) (hM : ∀ b, oc = some b → sw_M Z V.1.2.1 y cc' nL' ret' d' V.2.2.1 V.2.2.2.1 V.2.2.2.2.1 V.2.2.2.2.2 (.ref a :: As) σ (ψ₁ b))
    {st0 : List Value} (hst : st0 = As.reverse ++ .ref a :: rest) (kk : ∀ b, sw_S Z V ψ lv ((ψ₁ b).1.toList ++ rest) q (ψ₁ b).2 (K b)) : sw_S Z V ψ lv st0 pc σ (oc.bind K) := by
  have e := sw_dq C.dc hi
  subst e
  subst hst
  refine sw_run (rest := rest) C hM (fun b hob H locs ls hL hW => ?_) kk
  obtain ⟨⟨hlk, hini, hcode, hy, hdesc, h21⟩, hinst, hsel⟩ := hm
  obtain ⟨hf, hlo⟩ := C.room
  have hsz : ls.size = lv.length := hL.1.1
  have hmx : V.2.1.2.2.2.2.2.maxLocals = nL := C.2.2.1
  have hroom : 8 + (nL' + 11) + 40 * d' ≤ V.1.2.2.2.locals := by omega
  have hWs : 2 * (F0 V.2.1.2.1 pc ls (As.reverse ++ .ref a :: rest)).monitorRoom + (rest.map fun v => v.category).sum ≤ 8 := lv_room (by have := sw_cats rest; omega)
  have hpar : ∀ sig, parseMethodDescriptor y.desc = some sig → n = sig.parameters.length := fun sig h => by
    rw [h] at hdesc
    exact (Option.some.inj hdesc).symm
  have hp : PreV V.2.1.1 H y.cls a (sw_Pc Z V.2.2.1 V.2.2.2.1 V.2.2.2.2.1 V.2.2.2.2.2 (.ref a :: As) σ) As := ⟨(sw_preS C hW).1, hrecv H locs hW, (sw_preS (av := .ref a :: As) C hW).2⟩
  rcases hlk with hlk | ⟨host, hlk⟩
  · exact va_runV (nL := nL) (rest := rest) ⟨C.1, C.2.1, hmx, C.ow, C.ws⟩ (hM b hob) ⟨⟨rfl, rfl, by show d' + 1 ≤ _; omega, hroom, sw_pay C hcode, List.mem_cons_self, C.ws _ hcode, C.ws _ hini, hy, hpar, C.ws _ hlk⟩, C.ws _ hinst, C.ws _ hsel⟩ hp rfl hn (hsz.trans (hL.1.2.trans hmx)) rfl hWs (sw_dk C.dc hi) ⟨Nat.zero_le _, Nat.zero_le _⟩
  · exact va_runVN (nL := nL) (rest := rest) ⟨C.1, C.2.1, hmx, C.ow, C.ws⟩ (hM b hob) ⟨⟨⟨rfl, rfl, by show d' + 1 ≤ _; omega, hroom, sw_pay C hcode, List.mem_cons_self⟩, C.ws _ hcode, C.ws _ hini, hy, hpar, C.ws _ hlk⟩, C.ws _ hinst, C.ws _ hsel⟩ hp rfl hn (hsz.trans (hL.1.2.trans hmx)) rfl hWs (sw_dk C.dc hi) ⟨Nat.zero_le _, Nat.zero_le _⟩
theorem g_bindS {β₁ : Type} {oc : Option β₁} {x : β₁} {K : β₁ → Option β} (h : oc = some x) (k : sw_S Z V ψ lv st pc σ (oc.bind K)) : sw_S Z V ψ lv st pc σ (K x) := by
  rw [h] at k
  exact k
theorem g_gets (C : sw_Cx Z V cc own nL ret L d) (i : Nat) {idx : Nat} {Cn n ds : String} {v : Value} (hi : L[i]? = some (pc, .getstatic idx, 3, q)) (hl : Cond.fieldLink own idx Cn n ds ∈ sw_WS) (hZ : va_Z Cn n ds v (sw_A Z V.2.2.2.2.2) V.2.1.1 V.2.1.1.heap) (k : sw_S Z V ψ lv (v :: st) q σ o) : sw_S Z V ψ lv st pc σ o := by
  have e := sw_dq C.dc hi
  subst e
  exact fun H locs ls hL hW b hb => va_gets C.1 C.2.1 hZ hW.2 C.ow (C.ws _ hl) (fun _ h => h) (sw_dk C.dc hi) (k H locs ls hL hW b hb)
theorem g_sget (C : sw_Cx Z V cc own nL ret L d) (i : Nat) {idx : Nat} {n ds : String} {v : Value} {a : Nat} (hi : L[i]? = some (pc, .getfield idx, 3, q)) (hl : Cond.fieldLink own idx "java/lang/String" n ds ∈ sw_WS) (hE : va_OF "java/lang/String" n ds v a (sw_A Z V.2.2.2.2.2) V.2.1.1 V.2.1.1.heap) (k : sw_S Z V ψ lv (v :: st) q σ o) : sw_S Z V ψ lv (.ref a :: st) pc σ o := by
  have e := sw_dq C.dc hi
  subst e
  exact fun H locs ls hL hW b hb => vk_getf C.1 C.2.1 hE hW.2 C.ow (C.ws _ hl) (fun _ h => h) (sw_dk C.dc hi) (k H locs ls hL hW b hb)
theorem g_tlen (C : sw_Cx Z V cc own nL ret L d) (i : Nat) {t n : Nat} {f : Nat → Value} (hi : L[i]? = some (pc, .arraylength, 1, q)) (hT : va_T .byte t n f (sw_A Z V.2.2.2.2.2) V.2.1.1 V.2.1.1.heap) (k : sw_S Z V ψ lv (.int (nI n) :: st) q σ o) : sw_S Z V ψ lv (.ref t :: st) pc σ o := by
  have e := sw_dq C.dc hi
  subst e
  exact fun H locs ls hL hW b hb => va_tlen C.1 C.2.1 hT hW.2 rfl (sw_dk C.dc hi) (k H locs ls hL hW b hb)
theorem g_tb (C : sw_Cx Z V cc own nL ret L d) (i : Nat) {t n : Nat} {f : Nat → Value} {x y : Int32} (hi : L[i]? = some (pc, .baload, 1, q)) (hT : va_T .byte t n f (sw_A Z V.2.2.2.2.2) V.2.1.1 V.2.1.1.heap) (hin : vp_in x n) (hv : f x.toNatClampNeg = .int y) (k : sw_S Z V ψ lv (.int y :: st) q σ o) : sw_S Z V ψ lv (.int x :: .ref t :: st) pc σ o := by
  have e := sw_dq C.dc hi
  subst e
  exact fun H locs ls hL hW b hb => va_tb C.1 C.2.1 hT hW.2 hin hv (sw_dk C.dc hi) (k H locs ls hL hW b hb)
theorem g_ishr (C : sw_Cx Z V cc own nL ret L d) (i : Nat) {x y v : Int32} (hi : L[i]? = some (pc, .ishr, 1, q)) (hv : x >>> (y &&& 31) = v) (k : sw_S Z V ψ lv (.int v :: st) q σ o) : sw_S Z V ψ lv (.int y :: .int x :: st) pc σ o := by
  have e := sw_dq C.dc hi
  subst e
  subst hv
  exact fun H locs ls hL hW b hb => lv_ishr C.1 C.2.1 (sw_dk C.dc hi) (k H locs ls hL hW b hb)
theorem g_popV (C : sw_Cx Z V cc own nL ret L d) (i : Nat) (hi : L[i]? = some (pc, .pop, 1, q)) {v : Value} (hc : v.category = 1) (k : sw_S Z V ψ lv st q σ o) : sw_S Z V ψ lv (v :: st) pc σ o := by
  have e := sw_dq C.dc hi
  subst e
  exact fun H locs ls hL hW b hb => lv_pop C.1 C.2.1 (sw_dk C.dc hi) hc (k H locs ls hL hW b hb)
theorem g_aldV (C : sw_Cx Z V cc own nL ret L d) (i : Nat) {n : Fin 4} {a : Nat} (hi : L[i]? = some (pc, .aload_n n, 1, q)) (hl : lv[(n : Nat)]? = some (some (.ref a))) (k : sw_S Z V ψ lv (.ref a :: st) q σ o) : sw_S Z V ψ lv st pc σ o := by
  have e := sw_dq C.dc hi
  subst e
  exact fun H locs ls hL hW b hb => lv_aload_n C.1 C.2.1 (sw_dk C.dc hi) rfl (hL.at hl) (k H locs ls hL hW b hb)
end G2
-- Preconditions.checkIndex, String.checkIndex, StringLatin1.charAt, String.isLatin1, coder, charAt, length
def L_J3_checkIndex_8e157 : sw_Is := [(0, .iload_n 0, 1, 1), (1, .ifCond .lt 8, 3, 4), (4, .iload_n 0, 1, 5), (5, .iload_n 1, 1, 6), (6, .if_icmp .lt 10, 3, 9), (9, .aload_n 2, 1, 10), (10, .iload_n 0, 1, 11), (11, .iload_n 1, 1, 12), (12, .invokestatic 95, 3, 15), (15, .athrow, 1, 16), (16, .iload_n 0, 1, 17), (17, .ireturn, 1, 18)]
theorem dk_J3_checkIndex_8e157 : sw_dc cJ3_checkIndex_8e157 L_J3_checkIndex_8e157 = true := by decide +kernel
def L_J0_checkIndex_df160 : sw_Is := [(0, .iload_n 0, 1, 1), (1, .iload_n 1, 1, 2), (2, .getstatic 1053, 3, 5), (5, .invokestatic 1059, 3, 8), (8, .pop, 1, 9), (9, .return_, 1, 10)]
theorem dk_J0_checkIndex_df160 : sw_dc cJ0_checkIndex_df160 L_J0_checkIndex_df160 = true := by decide +kernel
def L_J1_charAt_3b067 : sw_Is := [(0, .iload_n 1, 1, 1), (1, .aload_n 0, 1, 2), (2, .arraylength, 1, 3), (3, .invokestatic 9, 3, 6), (6, .aload_n 0, 1, 7), (7, .iload_n 1, 1, 8), (8, .baload, 1, 9), (9, .sipush 255, 3, 12), (12, .iand, 1, 13), (13, .i2c, 1, 14), (14, .ireturn, 1, 15)]
theorem dk_J1_charAt_3b067 : sw_dc cJ1_charAt_3b067 L_J1_charAt_3b067 = true := by decide +kernel
def L_J0_isLatin1_aae02 : sw_Is := [(0, .getstatic 38, 3, 3), (3, .ifCond .eq 14, 3, 6), (6, .aload_n 0, 1, 7), (7, .getfield 15, 3, 10), (10, .ifCond .ne 7, 3, 13), (13, .iconst 1, 1, 14), (14, .goto 4, 3, 17), (17, .iconst 0, 1, 18), (18, .ireturn, 1, 19)]
theorem dk_J0_isLatin1_aae02 : sw_dc cJ0_isLatin1_aae02 L_J0_isLatin1_aae02 = true := by decide +kernel
def L_J0_coder_7d493 : sw_Is := [(0, .getstatic 38, 3, 3), (3, .ifCond .eq 10, 3, 6), (6, .aload_n 0, 1, 7), (7, .getfield 15, 3, 10), (10, .goto 4, 3, 13), (13, .iconst 1, 1, 14), (14, .ireturn, 1, 15)]
theorem dk_J0_coder_7d493 : sw_dc cJ0_coder_7d493 L_J0_coder_7d493 = true := by decide +kernel
def L_J0_charAt_5068e : sw_Is := [(0, .aload_n 0, 1, 1), (1, .invokevirtual 492, 3, 4), (4, .ifCond .eq 12, 3, 7), (7, .aload_n 0, 1, 8), (8, .getfield 9, 3, 11), (11, .iload_n 1, 1, 12), (12, .invokestatic 495, 3, 15), (15, .ireturn, 1, 16), (16, .aload_n 0, 1, 17), (17, .getfield 9, 3, 20), (20, .iload_n 1, 1, 21), (21, .invokestatic 498, 3, 24), (24, .ireturn, 1, 25)]
theorem dk_J0_charAt_5068e : sw_dc cJ0_charAt_5068e L_J0_charAt_5068e = true := by decide +kernel
def L_J0_length_8abf5 : sw_Is := [(0, .aload_n 0, 1, 1), (1, .getfield 9, 3, 4), (4, .arraylength, 1, 5), (5, .aload_n 0, 1, 6), (6, .invokevirtual 335, 3, 9), (9, .ishr, 1, 10), (10, .ireturn, 1, 11)]
theorem dk_J0_length_8abf5 : sw_dc cJ0_length_8abf5 L_J0_length_8abf5 = true := by decide +kernel
theorem q_106 : (Jvm.Cond.initialized "java/lang/StringLatin1") ∈ sw_WS := sw_mem 106 (by decide +kernel) rfl
theorem q_107 : (Jvm.Cond.initialized "jdk/internal/util/Preconditions") ∈ sw_WS := sw_mem 107 (by decide +kernel) rfl
theorem q_559 : (Jvm.Cond.methodLink "java/lang/String" (335 : Nat) ({ cls := "java/lang/String", name := "coder", desc := "()B" } : Jvm.MethodName)) ∈ sw_WS := sw_mem 559 (by decide +kernel) rfl
theorem q_560 : (Jvm.Cond.instanceMethod ({ cls := "java/lang/String", name := "coder", desc := "()B" } : Jvm.MethodName)) ∈ sw_WS := sw_mem 560 (by decide +kernel) rfl
theorem q_561 : (Jvm.Cond.selects "java/lang/String" ({ cls := "java/lang/String", name := "coder", desc := "()B" } : Jvm.MethodName) ({ cls := "java/lang/String", name := "coder", desc := "()B" } : Jvm.MethodName)) ∈ sw_WS := sw_mem 561 (by decide +kernel) rfl
theorem q_562 : (Jvm.Cond.code ({ cls := "java/lang/String", name := "coder", desc := "()B" } : Jvm.MethodName) prog_11_method_152_code (1 : Nat) (Option.some Jvm.ClassFile.FieldType.byte)) ∈ sw_WS := sw_mem 562 (by decide +kernel) rfl
theorem q_563 : (Jvm.Cond.fieldLink "java/lang/String" (38 : Nat) "java/lang/String" "COMPACT_STRINGS" "Z") ∈ sw_WS := sw_mem 563 (by decide +kernel) rfl
theorem q_569 : (Jvm.Cond.methodLink "java/lang/String" (492 : Nat) ({ cls := "java/lang/String", name := "isLatin1", desc := "()Z" } : Jvm.MethodName)) ∈ sw_WS := sw_mem 569 (by decide +kernel) rfl
theorem q_570 : (Jvm.Cond.instanceMethod ({ cls := "java/lang/String", name := "isLatin1", desc := "()Z" } : Jvm.MethodName)) ∈ sw_WS := sw_mem 570 (by decide +kernel) rfl
theorem q_571 : (Jvm.Cond.selects "java/lang/String" ({ cls := "java/lang/String", name := "isLatin1", desc := "()Z" } : Jvm.MethodName) ({ cls := "java/lang/String", name := "isLatin1", desc := "()Z" } : Jvm.MethodName)) ∈ sw_WS := sw_mem 571 (by decide +kernel) rfl
theorem q_572 : (Jvm.Cond.code ({ cls := "java/lang/String", name := "isLatin1", desc := "()Z" } : Jvm.MethodName) prog_11_method_154_code (1 : Nat) (Option.some Jvm.ClassFile.FieldType.boolean)) ∈ sw_WS := sw_mem 572 (by decide +kernel) rfl
theorem q_573 : (Jvm.Cond.methodLink "java/lang/String" (495 : Nat) ({ cls := "java/lang/StringLatin1", name := "charAt", desc := "([BI)C" } : Jvm.MethodName)) ∈ sw_WS := sw_mem 573 (by decide +kernel) rfl
theorem q_574 : (Jvm.Cond.static ({ cls := "java/lang/StringLatin1", name := "charAt", desc := "([BI)C" } : Jvm.MethodName)) ∈ sw_WS := sw_mem 574 (by decide +kernel) rfl
theorem q_575 : (Jvm.Cond.code ({ cls := "java/lang/StringLatin1", name := "charAt", desc := "([BI)C" } : Jvm.MethodName) prog_12_method_2_code (2 : Nat) (Option.some Jvm.ClassFile.FieldType.char)) ∈ sw_WS := sw_mem 575 (by decide +kernel) rfl
theorem q_576 : (Jvm.Cond.methodLink "java/lang/StringLatin1" (9 : Nat) ({ cls := "java/lang/String", name := "checkIndex", desc := "(II)V" } : Jvm.MethodName)) ∈ sw_WS := sw_mem 576 (by decide +kernel) rfl
theorem q_577 : (Jvm.Cond.static ({ cls := "java/lang/String", name := "checkIndex", desc := "(II)V" } : Jvm.MethodName)) ∈ sw_WS := sw_mem 577 (by decide +kernel) rfl
theorem q_578 : (Jvm.Cond.code ({ cls := "java/lang/String", name := "checkIndex", desc := "(II)V" } : Jvm.MethodName) prog_11_method_155_code (2 : Nat) (Option.none : Option Jvm.ClassFile.FieldType)) ∈ sw_WS := sw_mem 578 (by decide +kernel) rfl
theorem q_579 : (Jvm.Cond.fieldLink "java/lang/String" (1053 : Nat) "jdk/internal/util/Preconditions" "SIOOBE_FORMATTER" "Ljava/util/function/BiFunction;") ∈ sw_WS := sw_mem 579 (by decide +kernel) rfl
theorem q_581 : (Jvm.Cond.methodLink "java/lang/String" (1059 : Nat) ({ cls := "jdk/internal/util/Preconditions", name := "checkIndex", desc := "(IILjava/util/function/BiFunction;)I" } : Jvm.MethodName)) ∈ sw_WS := sw_mem 581 (by decide +kernel) rfl
theorem q_582 : (Jvm.Cond.static ({ cls := "jdk/internal/util/Preconditions", name := "checkIndex", desc := "(IILjava/util/function/BiFunction;)I" } : Jvm.MethodName)) ∈ sw_WS := sw_mem 582 (by decide +kernel) rfl
theorem q_583 : (Jvm.Cond.code ({ cls := "jdk/internal/util/Preconditions", name := "checkIndex", desc := "(IILjava/util/function/BiFunction;)I" } : Jvm.MethodName) prog_14_method_11_code (3 : Nat) (Option.some Jvm.ClassFile.FieldType.int)) ∈ sw_WS := sw_mem 583 (by decide +kernel) rfl
theorem q_1140 : (Jvm.Cond.fieldLink "java/lang/String" (9 : Nat) "java/lang/String" "value" "[B") ∈ sw_WS := sw_mem 1140 (by decide +kernel) rfl
theorem q_1141 : (Jvm.Cond.fieldLink "java/lang/String" (15 : Nat) "java/lang/String" "coder" "B") ∈ sw_WS := sw_mem 1141 (by decide +kernel) rfl
theorem ml_J0_335 : sw_MV RJ0 335 yJ0_coder_7d493 cJ0_coder_7d493 1 (some .byte) 0 := ⟨⟨(Or.inl q_559), q_105, q_562, ⟨by decide, by decide⟩, by decide +kernel, by decide⟩, q_560, q_561⟩
theorem ml_J0_492 : sw_MV RJ0 492 yJ0_isLatin1_aae02 cJ0_isLatin1_aae02 1 (some .boolean) 0 := ⟨⟨(Or.inl q_569), q_105, q_572, ⟨by decide, by decide⟩, by decide +kernel, by decide⟩, q_570, q_571⟩
theorem ml_J0_495 : sw_MS RJ0 495 yJ1_charAt_3b067 cJ1_charAt_3b067 2 (some .char) 2 := ⟨⟨(Or.inl q_573), q_106, q_575, ⟨by decide, by decide⟩, by decide +kernel, by decide⟩, q_574⟩
theorem ml_J1_9 : sw_MS RJ1 9 yJ0_checkIndex_df160 cJ0_checkIndex_df160 2 none 2 := ⟨⟨(Or.inl q_576), q_105, q_578, ⟨by decide, by decide⟩, by decide +kernel, by decide⟩, q_577⟩
theorem ml_J0_1059 : sw_MS RJ0 1059 yJ3_checkIndex_8e157 cJ3_checkIndex_8e157 3 (some .int) 3 := ⟨⟨(Or.inl q_581), q_107, q_583, ⟨by decide, by decide⟩, by decide +kernel, by decide⟩, q_582⟩
section G3
variable {β : Type} {Z : sw_Z} {V : sw_V} {cc : ByteArray} {own : String} {nL : Nat} {ret : Option FieldType} {L : sw_Is} {d : Nat}
variable {ψ : β → Option Value × sw_St} {lv : List (Option Value)} {st : List Value} {pc q : Nat} {σ : sw_St} {o o1 o2 : Option β}
theorem g_ng {c : Prop} {inst : Decidable c} (h : ¬ c) (k : sw_S Z V ψ lv st pc σ (@ite _ c inst o1 o)) : sw_S Z V ψ lv st pc σ o := by
  rw [if_neg h] at k
  exact k
theorem g_ps {c : Prop} {inst : Decidable c} (h : c) (k : sw_S Z V ψ lv st pc σ (@ite _ c inst o o1)) : sw_S Z V ψ lv st pc σ o := by
  rw [if_pos h] at k
  exact k
end G3
section SJ
variable {Z : sw_Z} {l : Launch} {dC : Nat → ClassId} {dI : Nat → Nat → Nat} {dA : Nat → ClassId} {ad : Nat → Nat} {σ : sw_St}
theorem m_J3ci (hZ : sw_Zok Z) (hI : sw_inj Z ad) (i n : Int32) (v : Value) (hv : v.category = 1) (h0 : ¬ i < 0) (h1 : i < n) : sw_M Z l yJ3_checkIndex_8e157 cJ3_checkIndex_8e157 3 (some .int) 0 dC dI dA ad [.int i, .int n, v] σ (sw_eP σ i) := by
  refine sw_mk1 (ψ := sw_eP σ) (o := some i) 0 (by decide) hZ hI dk_J3_checkIndex_8e157 rfl (sw_c1_all _ ⟨rfl, rfl, hv, trivial⟩) rfl (fun p e R M C => ?_)
  refine g_iload_n C 0 rfl rfl ?_
  refine g_ng h0 (g_if_lt C 1 rfl 9 (by decide) g_none ?_)
  refine g_iload_n C 2 rfl rfl ?_
  refine g_iload_n C 3 rfl rfl ?_
  refine g_ps h1 (g_icmp_lt C 4 rfl 16 (by decide) ?_ g_none)
  refine g_iload_n C 10 rfl rfl ?_
  exact g_iret C 11 rfl rfl
theorem m_J0ci (hZ : sw_Zok Z) (hI : sw_inj Z ad) (i n : Int32) (h0 : ¬ i < 0) (h1 : i < n) : sw_M Z l yJ0_checkIndex_df160 cJ0_checkIndex_df160 2 none 1 dC dI dA ad [.int i, .int n] σ (sw_eV σ) := by
  refine sw_mk1 (ψ := sw_eV) (o := some σ) 0 (by decide) hZ hI dk_J0_checkIndex_df160 rfl (sw_c1_all _ ⟨rfl, rfl, trivial⟩) rfl (fun p e R M C => ?_)
  refine g_iload_n C 0 rfl rfl ?_
  refine g_iload_n C 1 rfl rfl ?_
  rcases C.ex.2.2.2 with hz | ⟨t, hz⟩
  · refine g_gets C 2 rfl q_579 hz ?_
    refine g_bindS (oc := some i) (x := i) (K := fun _ => some σ) rfl (g_callS (d' := 0) (ψ₁ := sw_eP σ) C 3 rfl [.int i, .int n, .null] [] ml_J0_1059 rfl (by decide) (by decide) (fun b hb => ?_) rfl (g_cP fun r => ?_))
    · cases hb
      exact m_J3ci hZ hI i n .null rfl h0 h1
    · refine g_popI C 4 rfl ?_
      exact g_vret C 5 rfl rfl
  · refine g_gets C 2 rfl q_579 hz ?_
    refine g_bindS (oc := some i) (x := i) (K := fun _ => some σ) rfl (g_callS (d' := 0) (ψ₁ := sw_eP σ) C 3 rfl [.int i, .int n, .ref t] [] ml_J0_1059 rfl (by decide) (by decide) (fun b hb => ?_) rfl (g_cP fun r => ?_))
    · cases hb
      exact m_J3ci hZ hI i n (.ref t) rfl h0 h1
    · refine g_popI C 4 rfl ?_
      exact g_vret C 5 rfl rfl
theorem m_J1ca (hZ : sw_Zok Z) (hI : sw_inj Z ad) (t : Nat) (ht : t < sw_nS) (i : Int32) (h0 : ¬ i < 0) (h1 : i < nI (sw_len.getD t 0)) (hin : vp_in i (sw_len.getD t 0)) : sw_M Z l yJ1_charAt_3b067 cJ1_charAt_3b067 2 (some .char) 2 dC dI dA ad [.ref (ad (200 + t)), .int i] σ (sw_eP σ ((sw_byt.getD t []).getD (sw_ix i) 0 &&& 255)) := by
  refine sw_mk1 (ψ := sw_eI) (o := some ((sw_byt.getD t []).getD (sw_ix i) 0 &&& 255, σ)) (b := ((sw_byt.getD t []).getD (sw_ix i) 0 &&& 255, σ)) 0 (by decide) hZ hI dk_J1_charAt_3b067 rfl (sw_c1_all _ ⟨rfl, rfl, trivial⟩) rfl (fun p e R M C => ?_)
  obtain ⟨hO, hc, hv, hT⟩ := C.ex.1.1 t ht
  refine g_iload_n C 0 rfl rfl ?_
  refine g_aldV C 1 rfl rfl ?_
  refine g_tlen C 2 rfl hT ?_
  refine g_bindS (oc := some σ) (x := σ) (K := fun s1 => some ((sw_byt.getD t []).getD (sw_ix i) 0 &&& 255, s1)) rfl (g_callS (d' := 1) (ψ₁ := sw_eV) C 3 rfl [.int i, .int (nI (sw_len.getD t 0))] [] ml_J1_9 rfl (by decide) (by decide) (fun b hb => ?_) rfl (g_cV fun s1 => ?_))
  · cases hb
    exact m_J0ci hZ hI i _ h0 h1
  · refine g_aldV C 4 rfl rfl ?_
    refine g_iload_n C 5 rfl rfl ?_
    refine g_tb (y := (sw_byt.getD t []).getD (sw_ix i) 0) C 6 rfl hT hin rfl ?_
    refine g_sipush C 7 rfl 255 (by decide) ?_
    refine g_iand C 8 rfl ?_
    refine g_i2c C 9 rfl ?_
    rw [show sw_c16 ((sw_byt.getD t []).getD (sw_ix i) 0 &&& 255) = (sw_byt.getD t []).getD (sw_ix i) 0 &&& 255 from sc_c2 _]
    exact g_zret C 10 rfl (sc_nar _) rfl
theorem m_J0il (hZ : sw_Zok Z) (hI : sw_inj Z ad) (t : Nat) (ht : t < sw_nS) : sw_M Z l yJ0_isLatin1_aae02 cJ0_isLatin1_aae02 1 (some .boolean) 0 dC dI dA ad [.ref (ad (100 + t))] σ (sw_eP σ 1) := by
  refine sw_mk1 (ψ := sw_eP σ) (o := some 1) 0 (by decide) hZ hI dk_J0_isLatin1_aae02 rfl (sw_c1_all _ ⟨rfl, trivial⟩) rfl (fun p e R M C => ?_)
  obtain ⟨hO, hc, hv, hT⟩ := C.ex.1.1 t ht
  refine g_gets C 0 rfl q_563 C.ex.2.2.1 ?_
  refine g_ng (by decide) (g_if_eq C 1 rfl 17 (by decide) g_none ?_)
  refine g_aldV C 2 rfl rfl ?_
  refine g_sget C 3 rfl q_1141 hc ?_
  refine g_ps rfl (g_if_ne C 4 rfl 17 (by decide) g_none ?_)
  refine g_iconst C 5 rfl 1 (by decide) ?_
  refine g_goto C 6 rfl 18 (by decide) ?_
  exact g_zret C 8 rfl rfl rfl
theorem m_J0co (hZ : sw_Zok Z) (hI : sw_inj Z ad) (t : Nat) (ht : t < sw_nS) : sw_M Z l yJ0_coder_7d493 cJ0_coder_7d493 1 (some .byte) 0 dC dI dA ad [.ref (ad (100 + t))] σ (sw_eP σ 0) := by
  refine sw_mk1 (ψ := sw_eP σ) (o := some 0) 0 (by decide) hZ hI dk_J0_coder_7d493 rfl (sw_c1_all _ ⟨rfl, trivial⟩) rfl (fun p e R M C => ?_)
  obtain ⟨hO, hc, hv, hT⟩ := C.ex.1.1 t ht
  refine g_gets C 0 rfl q_563 C.ex.2.2.1 ?_
  refine g_ng (by decide) (g_if_eq C 1 rfl 13 (by decide) g_none ?_)
  refine g_aldV C 2 rfl rfl ?_
  refine g_sget C 3 rfl q_1141 hc ?_
  refine g_goto C 4 rfl 14 (by decide) ?_
  exact g_zret C 6 rfl rfl rfl
theorem sw_recvS {V : sw_V} {cc : ByteArray} {own : String} {nL d : Nat} {ret : Option FieldType} {L : sw_Is} (C : sw_Cx Z V cc own nL ret L d) {t : Nat} (ht : t < sw_nS) : ∀ (H : Heap) (locs : List Loc), sw_Wd Z V σ H locs → ∃ cell : Cell, H[V.2.2.2.2.2 (100 + t)]? = some cell ∧ cell.vm.isStatics = false ∧ V.2.1.1.vm.findClass "java/lang/String" = some cell.cls := fun H locs hW => vk_recv (i := t) (adK := fun i => V.2.2.2.2.2 (100 + i)) (adV := fun i => V.2.2.2.2.2 (200 + i)) C.ex.1 ht hW.2
theorem m_J0ch (hZ : sw_Zok Z) (hI : sw_inj Z ad) (t : Nat) (ht : t < sw_nS) (i : Int32) (h0 : ¬ i < 0) (h1 : i < nI (sw_len.getD t 0)) (hin : vp_in i (sw_len.getD t 0)) : sw_M Z l yJ0_charAt_5068e cJ0_charAt_5068e 2 (some .char) 3 dC dI dA ad [.ref (ad (100 + t)), .int i] σ (sw_eP σ ((sw_byt.getD t []).getD (sw_ix i) 0 &&& 255)) := by
  refine sw_mk1 (ψ := sw_eP σ) (o := some ((sw_byt.getD t []).getD (sw_ix i) 0 &&& 255)) 0 (by decide) hZ hI dk_J0_charAt_5068e rfl (sw_c1_all _ ⟨rfl, rfl, trivial⟩) rfl (fun p e R M C => ?_)
  obtain ⟨hO, hc, hv, hT⟩ := C.ex.1.1 t ht
  refine g_aldV C 0 rfl rfl ?_
  refine g_bindS (oc := some (1 : Int32)) (x := 1) (K := fun r => if r = 0 then none else some ((sw_byt.getD t []).getD (sw_ix i) 0 &&& 255)) rfl (g_callW (d' := 0) (ψ₁ := sw_eP σ) C 1 rfl [] [] ml_J0_492 rfl (by decide) (by decide) (sw_recvS C ht) (fun b hb => ?_) rfl (g_cP fun r => ?_))
  · cases hb
    exact m_J0il hZ hI t ht
  · refine g_if_eq C 2 rfl 16 (by decide) g_none ?_
    refine g_aldV C 3 rfl rfl ?_
    refine g_sget C 4 rfl q_1140 hv ?_
    refine g_iload_n C 5 rfl rfl ?_
    have hfz : ∀ b : Int32, sw_fz .char (b &&& 255) = true := fun b => by simp [sw_fz, vp_nar, sc_nar]
    have hck : some ((sw_byt.getD t []).getD (sw_ix i) 0 &&& 255) = sw_ck (sw_fz .char ((sw_byt.getD t []).getD (sw_ix i) 0 &&& 255)) (some ((sw_byt.getD t []).getD (sw_ix i) 0 &&& 255)) := by
      unfold sw_ck
      rw [if_pos (hfz _)]
    rw [hck]
    refine g_bindS (oc := some ((sw_byt.getD t []).getD (sw_ix i) 0 &&& 255)) (x := (sw_byt.getD t []).getD (sw_ix i) 0 &&& 255) (K := fun r => sw_ck (sw_fz .char r) (some r)) rfl (g_callS (d' := 2) (ψ₁ := sw_eP σ) C 6 rfl [.ref (ad (200 + t)), .int i] [] ml_J0_495 rfl (by decide) (by decide) (fun b hb => ?_) rfl (g_cP fun r => ?_))
    · cases hb
      exact m_J1ca hZ hI t ht i h0 h1 hin
    · refine g_ck fun h => ?_
      exact g_zret C 7 rfl (sw_fz_n h ⟨_, rfl⟩) rfl
theorem sw_len_small : ∀ t, t < sw_nS → sw_len.getD t 0 < 2 ^ 31 := by decide
theorem m_J0le (hZ : sw_Zok Z) (hI : sw_inj Z ad) (t : Nat) (ht : t < sw_nS) : sw_M Z l yJ0_length_8abf5 cJ0_length_8abf5 1 (some .int) 1 dC dI dA ad [.ref (ad (100 + t))] σ (sw_eP σ (nI (sw_len.getD t 0))) := by
  refine sw_mk1 (ψ := sw_eP σ) (o := some (nI (sw_len.getD t 0))) 0 (by decide) hZ hI dk_J0_length_8abf5 rfl (sw_c1_all _ ⟨rfl, trivial⟩) rfl (fun p e R M C => ?_)
  obtain ⟨hO, hc, hv, hT⟩ := C.ex.1.1 t ht
  refine g_aldV C 0 rfl rfl ?_
  refine g_sget C 1 rfl q_1140 hv ?_
  refine g_tlen C 2 rfl hT ?_
  refine g_aldV C 3 rfl rfl ?_
  rw [show (some (nI (sw_len.getD t 0)) : Option Int32) = (fun r : Int32 => some (nI (sw_len.getD t 0) >>> (r &&& 31))) 0 from congrArg some (sc_shr0 (sw_len_small t ht)).symm]
  refine g_bindS (oc := some (0 : Int32)) (x := 0) (K := fun r : Int32 => some (nI (sw_len.getD t 0) >>> (r &&& 31))) rfl (g_callW (d' := 0) (ψ₁ := sw_eP σ) C 4 rfl [] [.int (nI (sw_len.getD t 0))] ml_J0_335 rfl (Nat.le_of_ble_eq_true rfl) (by decide) (sw_recvS C ht) (fun b hb => ?_) rfl (g_cP fun r => ?_))
  · cases hb
    exact m_J0co hZ hI t ht
  · refine g_ishr C 5 rfl rfl ?_
    exact g_iret C 6 rfl rfl
end SJ
section G4
variable {β : Type} {Z : sw_Z} {V : sw_V} {cc : ByteArray} {own : String} {nL : Nat} {ret : Option FieldType} {L : sw_Is} {d : Nat}
variable {ψ : β → Option Value × sw_St} {lv : List (Option Value)} {st : List Value} {pc q : Nat} {σ : sw_St} {o o1 o2 : Option β}
theorem g_slen {k : Nat} (C : sw_Cx Z V cc own nL ret L d) (i : Nat) {idx : Nat} (hi : L[i]? = some (pc, .invokevirtual idx, 3, q)) (hm : sw_MV own idx yJ0_length_8abf5 cJ0_length_8abf5 1 (some .int) 0) (hS : sw_isS k = true) (hd : 2 ≤ d) (hr : st.length ≤ 4) (kk : sw_S Z V ψ lv (.int (sw_sl k) :: st) q σ o) : sw_S Z V ψ lv (sw_r V k :: st) pc σ o := by
  obtain ⟨h1, h2⟩ := sw_isS_i.mp hS
  obtain ⟨t, ht, rfl⟩ : ∃ t, t < 9 ∧ k = 100 + t := ⟨k - 100, by omega, by omega⟩
  have e1 : 100 + t - 100 = t := by omega
  rw [show sw_r V (100 + t) = .ref (V.2.2.2.2.2 (100 + t)) from sw_rv_pos (by omega)]
  have hk : sw_sl (100 + t) = nI (sw_len.getD t 0) := by unfold sw_sl sw_sn; rw [e1]
  rw [hk] at kk
  have key : sw_S Z V ψ lv (.ref (V.2.2.2.2.2 (100 + t)) :: st) pc σ ((some (nI (sw_len.getD t 0))).bind (fun r => if r = nI (sw_len.getD t 0) then o else none)) := by
    refine g_callW (d' := 1) (ψ₁ := sw_eP σ) C i hi [] st hm rfl hr (by omega) (sw_recvS C ht) (fun b hb => ?_) rfl (g_cP fun r => ?_)
    · cases hb
      exact m_J0le C.ok C.inj t ht
    · by_cases hrr : r = nI (sw_len.getD t 0)
      · rw [if_pos hrr, hrr]
        exact kk
      · rw [if_neg hrr]
        exact g_none
  have e2 : (some (nI (sw_len.getD t 0))).bind (fun r => if r = nI (sw_len.getD t 0) then o else none) = o := by
    show (if nI (sw_len.getD t 0) = nI (sw_len.getD t 0) then o else none) = o
    rw [if_pos rfl]
  rw [e2] at key
  exact key
theorem sw_in_lt {i : Int32} {n : Nat} (h : sw_in i n = true) (hn : n < 2 ^ 31) : ¬ i < 0 ∧ i < nI n ∧ vp_in i n := by
  have hv := sw_in_vp h
  obtain ⟨h1, h2⟩ := sw_in_i.mp h
  have h0 : ¬ i < 0 := Int32.not_lt.mpr h1
  refine ⟨h0, ?_, hv⟩
  obtain ⟨m, hm, e⟩ := nI_of h0
  rw [e] at h2 ⊢
  unfold sw_ix at h2
  rw [nI_clamp (by omega)] at h2
  exact nI_lt h2 hn
theorem g_schr {k : Nat} {x : Int32} (C : sw_Cx Z V cc own nL ret L d) (i : Nat) {idx : Nat} (hi : L[i]? = some (pc, .invokevirtual idx, 3, q)) (hm : sw_MV own idx yJ0_charAt_5068e cJ0_charAt_5068e 2 (some .char) 1) (hS : sw_isS k = true) (hin : sw_in x (sw_sn k) = true) (hd : 4 ≤ d) (hr : st.length ≤ 4) (kk : sw_S Z V ψ lv (.int (sw_sc k x) :: st) q σ o) : sw_S Z V ψ lv (.int x :: sw_r V k :: st) pc σ o := by
  obtain ⟨h1, h2⟩ := sw_isS_i.mp hS
  obtain ⟨t, ht, rfl⟩ : ∃ t, t < 9 ∧ k = 100 + t := ⟨k - 100, by omega, by omega⟩
  have e1 : 100 + t - 100 = t := by omega
  rw [show sw_r V (100 + t) = .ref (V.2.2.2.2.2 (100 + t)) from sw_rv_pos (by omega)]
  have hk : sw_sc (100 + t) x = (sw_byt.getD t []).getD (sw_ix x) 0 &&& 255 := by unfold sw_sc; rw [e1]
  have hn : sw_sn (100 + t) = sw_len.getD t 0 := by unfold sw_sn; rw [e1]
  rw [hn] at hin
  rw [hk] at kk
  obtain ⟨a1, a2, a3⟩ := sw_in_lt hin (sw_len_small t ht)
  have key : sw_S Z V ψ lv (.int x :: .ref (V.2.2.2.2.2 (100 + t)) :: st) pc σ ((some ((sw_byt.getD t []).getD (sw_ix x) 0 &&& 255)).bind (fun r => if r = (sw_byt.getD t []).getD (sw_ix x) 0 &&& 255 then o else none)) := by
    refine g_callW (d' := 3) (ψ₁ := sw_eP σ) C i hi [.int x] st hm rfl hr (by omega) (sw_recvS C ht) (fun b hb => ?_) rfl (g_cP fun r => ?_)
    · cases hb
      exact m_J0ch C.ok C.inj t ht x a1 a2 a3
    · by_cases hrr : r = (sw_byt.getD t []).getD (sw_ix x) 0 &&& 255
      · rw [if_pos hrr, hrr]
        exact kk
      · rw [if_neg hrr]
        exact g_none
  have e2 : (some ((sw_byt.getD t []).getD (sw_ix x) 0 &&& 255)).bind (fun r => if r = (sw_byt.getD t []).getD (sw_ix x) 0 &&& 255 then o else none) = o := by
    show (if _ = _ then o else none) = o
    rw [if_pos rfl]
  rw [e2] at key
  exact key
end G4
