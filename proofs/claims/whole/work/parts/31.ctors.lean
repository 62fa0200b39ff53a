theorem q_101 : (Jvm.Cond.initialized "SplitWatch$Request") ∈ sw_WS := sw_mem 101 (by decide +kernel) rfl
theorem q_114 : (Jvm.Cond.methodLink "SplitWatch" (1 : Nat) ({ cls := "java/lang/Object", name := "<init>", desc := "()V" } : Jvm.MethodName)) ∈ sw_WS := sw_mem 114 (by decide +kernel) rfl
theorem q_115 : (Jvm.Cond.instanceMethod ({ cls := "java/lang/Object", name := "<init>", desc := "()V" } : Jvm.MethodName)) ∈ sw_WS := sw_mem 115 (by decide +kernel) rfl
theorem q_116 : (Jvm.Cond.code ({ cls := "java/lang/Object", name := "<init>", desc := "()V" } : Jvm.MethodName) object_method_1_code (1 : Nat) (Option.none : Option Jvm.ClassFile.FieldType)) ∈ sw_WS := sw_mem 116 (by decide +kernel) rfl
theorem q_117 : (Jvm.Cond.classLink "SplitWatch" (7 : Nat) "SplitWatch$Bus") ∈ sw_WS := sw_mem 117 (by decide +kernel) rfl
theorem q_118 : (Jvm.Cond.instantiable "SplitWatch$Bus" (14 : Nat)) ∈ sw_WS := sw_mem 118 (by decide +kernel) rfl
theorem q_119 : (Jvm.Cond.methodLinkNest "SplitWatch" (9 : Nat) ({ cls := "SplitWatch$Bus", name := "<init>", desc := "()V" } : Jvm.MethodName) "SplitWatch") ∈ sw_WS := sw_mem 119 (by decide +kernel) rfl
theorem q_120 : (Jvm.Cond.instanceMethod ({ cls := "SplitWatch$Bus", name := "<init>", desc := "()V" } : Jvm.MethodName)) ∈ sw_WS := sw_mem 120 (by decide +kernel) rfl
theorem q_121 : (Jvm.Cond.code ({ cls := "SplitWatch$Bus", name := "<init>", desc := "()V" } : Jvm.MethodName) prog_2_method_1_code (3 : Nat) (Option.none : Option Jvm.ClassFile.FieldType)) ∈ sw_WS := sw_mem 121 (by decide +kernel) rfl
theorem q_122 : (Jvm.Cond.methodLink "SplitWatch$Bus" (5 : Nat) ({ cls := "java/lang/Object", name := "<init>", desc := "()V" } : Jvm.MethodName)) ∈ sw_WS := sw_mem 122 (by decide +kernel) rfl
theorem q_123 : (Jvm.Cond.classLink "SplitWatch$Bus" (1 : Nat) "SplitWatch$Core") ∈ sw_WS := sw_mem 123 (by decide +kernel) rfl
theorem q_125 : (Jvm.Cond.classLink "SplitWatch$Bus" (17 : Nat) "SplitWatch$Request") ∈ sw_WS := sw_mem 125 (by decide +kernel) rfl
theorem q_127 : (Jvm.Cond.classLink "SplitWatch$Bus" (27 : Nat) "SplitWatch$Log") ∈ sw_WS := sw_mem 127 (by decide +kernel) rfl
theorem q_128 : (Jvm.Cond.instantiable "SplitWatch$Log" (4 : Nat)) ∈ sw_WS := sw_mem 128 (by decide +kernel) rfl
theorem q_129 : (Jvm.Cond.methodLinkNest "SplitWatch$Bus" (29 : Nat) ({ cls := "SplitWatch$Log", name := "<init>", desc := "()V" } : Jvm.MethodName) "SplitWatch") ∈ sw_WS := sw_mem 129 (by decide +kernel) rfl
theorem q_130 : (Jvm.Cond.instanceMethod ({ cls := "SplitWatch$Log", name := "<init>", desc := "()V" } : Jvm.MethodName)) ∈ sw_WS := sw_mem 130 (by decide +kernel) rfl
theorem q_131 : (Jvm.Cond.code ({ cls := "SplitWatch$Log", name := "<init>", desc := "()V" } : Jvm.MethodName) prog_5_method_1_code (1 : Nat) (Option.none : Option Jvm.ClassFile.FieldType)) ∈ sw_WS := sw_mem 131 (by decide +kernel) rfl
theorem q_132 : (Jvm.Cond.methodLink "SplitWatch$Log" (5 : Nat) ({ cls := "java/lang/Object", name := "<init>", desc := "()V" } : Jvm.MethodName)) ∈ sw_WS := sw_mem 132 (by decide +kernel) rfl
theorem q_148 : (Jvm.Cond.arrayClass Jvm.ClassFile.FieldType.int) ∈ sw_WS := sw_mem 148 (by decide +kernel) rfl
theorem q_149 : (Jvm.Cond.arrayClass Jvm.ClassFile.FieldType.char) ∈ sw_WS := sw_mem 149 (by decide +kernel) rfl
theorem q_150 : (Jvm.Cond.instantiable "SplitWatch$Core" (4 : Nat)) ∈ sw_WS := sw_mem 150 (by decide +kernel) rfl
theorem q_151 : (Jvm.Cond.methodLinkNest "SplitWatch$Bus" (34 : Nat) ({ cls := "SplitWatch$Core", name := "<init>", desc := "(I)V" } : Jvm.MethodName) "SplitWatch") ∈ sw_WS := sw_mem 151 (by decide +kernel) rfl
theorem q_152 : (Jvm.Cond.instanceMethod ({ cls := "SplitWatch$Core", name := "<init>", desc := "(I)V" } : Jvm.MethodName)) ∈ sw_WS := sw_mem 152 (by decide +kernel) rfl
theorem q_153 : (Jvm.Cond.code ({ cls := "SplitWatch$Core", name := "<init>", desc := "(I)V" } : Jvm.MethodName) prog_4_method_1_code (3 : Nat) (Option.none : Option Jvm.ClassFile.FieldType)) ∈ sw_WS := sw_mem 153 (by decide +kernel) rfl
theorem q_154 : (Jvm.Cond.methodLink "SplitWatch$Core" (3 : Nat) ({ cls := "java/lang/Object", name := "<init>", desc := "()V" } : Jvm.MethodName)) ∈ sw_WS := sw_mem 154 (by decide +kernel) rfl
theorem q_155 : (Jvm.Cond.classLink "SplitWatch$Core" (9 : Nat) "SplitWatch$Cache") ∈ sw_WS := sw_mem 155 (by decide +kernel) rfl
theorem q_156 : (Jvm.Cond.instantiable "SplitWatch$Cache" (4 : Nat)) ∈ sw_WS := sw_mem 156 (by decide +kernel) rfl
theorem q_157 : (Jvm.Cond.methodLinkNest "SplitWatch$Core" (11 : Nat) ({ cls := "SplitWatch$Cache", name := "<init>", desc := "()V" } : Jvm.MethodName) "SplitWatch") ∈ sw_WS := sw_mem 157 (by decide +kernel) rfl
theorem q_158 : (Jvm.Cond.instanceMethod ({ cls := "SplitWatch$Cache", name := "<init>", desc := "()V" } : Jvm.MethodName)) ∈ sw_WS := sw_mem 158 (by decide +kernel) rfl
theorem q_159 : (Jvm.Cond.code ({ cls := "SplitWatch$Cache", name := "<init>", desc := "()V" } : Jvm.MethodName) prog_3_method_1_code (1 : Nat) (Option.none : Option Jvm.ClassFile.FieldType)) ∈ sw_WS := sw_mem 159 (by decide +kernel) rfl
theorem q_160 : (Jvm.Cond.methodLink "SplitWatch$Cache" (3 : Nat) ({ cls := "java/lang/Object", name := "<init>", desc := "()V" } : Jvm.MethodName)) ∈ sw_WS := sw_mem 160 (by decide +kernel) rfl
theorem q_178 : (Jvm.Cond.classLink "SplitWatch$Core" (18 : Nat) "SplitWatch$Request") ∈ sw_WS := sw_mem 178 (by decide +kernel) rfl
theorem q_179 : (Jvm.Cond.instantiable "SplitWatch$Request" (11 : Nat)) ∈ sw_WS := sw_mem 179 (by decide +kernel) rfl
theorem q_180 : (Jvm.Cond.methodLinkNest "SplitWatch$Core" (24 : Nat) ({ cls := "SplitWatch$Request", name := "<init>", desc := "(I)V" } : Jvm.MethodName) "SplitWatch") ∈ sw_WS := sw_mem 180 (by decide +kernel) rfl
theorem q_181 : (Jvm.Cond.instanceMethod ({ cls := "SplitWatch$Request", name := "<init>", desc := "(I)V" } : Jvm.MethodName)) ∈ sw_WS := sw_mem 181 (by decide +kernel) rfl
theorem q_182 : (Jvm.Cond.code ({ cls := "SplitWatch$Request", name := "<init>", desc := "(I)V" } : Jvm.MethodName) prog_6_method_1_code (2 : Nat) (Option.none : Option Jvm.ClassFile.FieldType)) ∈ sw_WS := sw_mem 182 (by decide +kernel) rfl
theorem q_183 : (Jvm.Cond.methodLink "SplitWatch$Request" (1 : Nat) ({ cls := "java/lang/Object", name := "<init>", desc := "()V" } : Jvm.MethodName)) ∈ sw_WS := sw_mem 183 (by decide +kernel) rfl
theorem q_184 : (Jvm.Cond.fieldLink "SplitWatch$Request" (7 : Nat) "SplitWatch$Request" "core" "I") ∈ sw_WS := sw_mem 184 (by decide +kernel) rfl
theorem q_239 : (Jvm.Cond.fieldLinkNest "SplitWatch$Bus" (41 : Nat) "SplitWatch$Core" "backs" "[LSplitWatch$Request;" "SplitWatch") ∈ sw_WS := sw_mem 239 (by decide +kernel) rfl
theorem q_323 : (Jvm.Cond.classLink "SplitWatch" (20 : Nat) "SplitWatch$Script") ∈ sw_WS := sw_mem 323 (by decide +kernel) rfl
theorem q_324 : (Jvm.Cond.instantiable "SplitWatch$Script" (5 : Nat)) ∈ sw_WS := sw_mem 324 (by decide +kernel) rfl
theorem q_325 : (Jvm.Cond.methodLinkNest "SplitWatch" (22 : Nat) ({ cls := "SplitWatch$Script", name := "<init>", desc := "()V" } : Jvm.MethodName) "SplitWatch") ∈ sw_WS := sw_mem 325 (by decide +kernel) rfl
theorem q_326 : (Jvm.Cond.instanceMethod ({ cls := "SplitWatch$Script", name := "<init>", desc := "()V" } : Jvm.MethodName)) ∈ sw_WS := sw_mem 326 (by decide +kernel) rfl
theorem q_327 : (Jvm.Cond.code ({ cls := "SplitWatch$Script", name := "<init>", desc := "()V" } : Jvm.MethodName) prog_7_method_1_code (1 : Nat) (Option.none : Option Jvm.ClassFile.FieldType)) ∈ sw_WS := sw_mem 327 (by decide +kernel) rfl
theorem q_328 : (Jvm.Cond.methodLink "SplitWatch$Script" (3 : Nat) ({ cls := "java/lang/Object", name := "<init>", desc := "()V" } : Jvm.MethodName)) ∈ sw_WS := sw_mem 328 (by decide +kernel) rfl
theorem q_764 : (Jvm.Cond.methodLink "SplitWatchModel" (1 : Nat) ({ cls := "java/lang/Object", name := "<init>", desc := "()V" } : Jvm.MethodName)) ∈ sw_WS := sw_mem 764 (by decide +kernel) rfl
theorem q_765 : (Jvm.Cond.methodLink "SplitWatchModel" (67 : Nat) ({ cls := "SplitWatchModel", name := "begin", desc := "(IIII)I" } : Jvm.MethodName)) ∈ sw_WS := sw_mem 765 (by decide +kernel) rfl
theorem q_766 : (Jvm.Cond.instanceMethod ({ cls := "SplitWatchModel", name := "begin", desc := "(IIII)I" } : Jvm.MethodName)) ∈ sw_WS := sw_mem 766 (by decide +kernel) rfl
theorem q_767 : (Jvm.Cond.selects "SplitWatchModel" ({ cls := "SplitWatchModel", name := "begin", desc := "(IIII)I" } : Jvm.MethodName) ({ cls := "SplitWatchModel", name := "begin", desc := "(IIII)I" } : Jvm.MethodName)) ∈ sw_WS := sw_mem 767 (by decide +kernel) rfl
theorem q_768 : (Jvm.Cond.code ({ cls := "SplitWatchModel", name := "begin", desc := "(IIII)I" } : Jvm.MethodName) prog_9_method_3_code (6 : Nat) (Option.some Jvm.ClassFile.FieldType.int)) ∈ sw_WS := sw_mem 768 (by decide +kernel) rfl
theorem ff_X1_9 : sw_FF RX1 9 1 0 (.array .int) := ⟨RX1, TX1, 4, tyX1, rfl, in_X1, by decide, rfl, q_161, tyX1_ok, nmX1, rfl, rfl, rfl⟩
theorem ff_X1_15 : sw_FF RX1 15 1 1 (.array .int) := ⟨RX1, TX1, 4, tyX1, rfl, in_X1, by decide, rfl, q_164, tyX1_ok, nmX1, rfl, rfl, rfl⟩
theorem ff_X1_18 : sw_FF RX1 18 1 2 (.array .int) := ⟨RX1, TX1, 4, tyX1, rfl, in_X1, by decide, rfl, q_167, tyX1_ok, nmX1, rfl, rfl, rfl⟩
theorem ff_X4_7 : sw_FF RX4 7 4 0 .int := ⟨RX4, TX4, 11, tyX4, rfl, in_X4, by decide, rfl, q_184, tyX4_ok, nmX4, rfl, rfl, rfl⟩
theorem ff_X2_12 : sw_FF RX2 12 2 0 (.object "SplitWatch$Cache") := ⟨RX2, TX2, 4, tyX2, rfl, in_X2, by decide, rfl, q_232, tyX2_ok, nmX2, rfl, rfl, rfl⟩
theorem ff_X2_20 : sw_FF RX2 20 2 2 (.array (.object "SplitWatch$Request")) := ⟨RX2, TX2, 4, tyX2, rfl, in_X2, by decide, rfl, q_238, tyX2_ok, nmX2, rfl, rfl, rfl⟩
theorem ff_X2_27 : sw_FF RX2 27 2 1 (.object "SplitWatch$Request") := ⟨RX2, TX2, 4, tyX2, rfl, in_X2, by decide, rfl, q_235, tyX2_ok, nmX2, rfl, rfl, rfl⟩
theorem ff_X3_11 : sw_FF RX3 11 3 0 (.array .char) := ⟨RX3, TX3, 4, tyX3, rfl, in_X3, by decide, rfl, q_133, tyX3_ok, nmX3, rfl, rfl, rfl⟩
theorem ff_X5_11 : sw_FF RX5 11 5 0 (.array .char) := ⟨RX5, TX5, 5, tyX5, rfl, in_X5, by decide, rfl, q_329, tyX5_ok, nmX5, rfl, rfl, rfl⟩
theorem ff_X5_15 : sw_FF RX5 15 5 1 (.array .int) := ⟨RX5, TX5, 5, tyX5, rfl, in_X5, by decide, rfl, q_330, tyX5_ok, nmX5, rfl, rfl, rfl⟩
theorem ff_X0_11 : sw_FF RX0 11 0 0 (.array (.object "SplitWatch$Core")) := ⟨RX0, TX0, 14, tyX0, rfl, in_X0, by decide, rfl, q_252, tyX0_ok, nmX0, rfl, rfl, rfl⟩
theorem ff_X0_19 : sw_FF RX0 19 0 1 (.array (.object "SplitWatch$Request")) := ⟨RX0, TX0, 14, tyX0, rfl, in_X0, by decide, rfl, q_254, tyX0_ok, nmX0, rfl, rfl, rfl⟩
theorem ff_X0_23 : sw_FF RX0 23 0 2 (.array .int) := ⟨RX0, TX0, 14, tyX0, rfl, in_X0, by decide, rfl, q_255, tyX0_ok, nmX0, rfl, rfl, rfl⟩
theorem ff_X0_30 : sw_FF RX0 30 0 3 (.object "SplitWatch$Log") := ⟨RX0, TX0, 14, tyX0, rfl, in_X0, by decide, rfl, q_257, tyX0_ok, nmX0, rfl, rfl, rfl⟩
theorem ff_X6_10 : sw_FF RX6 10 6 0 (.object "SplitWatch$Bus") := ⟨RX6, TX6, 2, tyX6, rfl, in_X6, by decide, rfl, q_349, tyX6_ok, nmX6, rfl, rfl, rfl⟩
theorem ff_X6_23 : sw_FF RX6 23 6 1 (.object "SplitWatch$Script") := ⟨RX6, TX6, 2, tyX6, rfl, in_X6, by decide, rfl, q_350, tyX6_ok, nmX6, rfl, rfl, rfl⟩
theorem ff_X7_7 : sw_FF RX7 7 7 5 (.array .int) := ⟨RX7, TX7, 35, tyX7, rfl, in_X7, by decide, rfl, q_780, tyX7_ok, nmX7, rfl, rfl, rfl⟩
theorem ff_X7_13 : sw_FF RX7 13 7 6 (.array .int) := ⟨RX7, TX7, 35, tyX7, rfl, in_X7, by decide, rfl, q_781, tyX7_ok, nmX7, rfl, rfl, rfl⟩
theorem ff_X7_16 : sw_FF RX7 16 7 7 (.array .int) := ⟨RX7, TX7, 35, tyX7, rfl, in_X7, by decide, rfl, q_782, tyX7_ok, nmX7, rfl, rfl, rfl⟩
theorem ff_X7_19 : sw_FF RX7 19 7 8 (.array .int) := ⟨RX7, TX7, 35, tyX7, rfl, in_X7, by decide, rfl, q_783, tyX7_ok, nmX7, rfl, rfl, rfl⟩
theorem ff_X7_22 : sw_FF RX7 22 7 9 (.array .int) := ⟨RX7, TX7, 35, tyX7, rfl, in_X7, by decide, rfl, q_784, tyX7_ok, nmX7, rfl, rfl, rfl⟩
theorem ff_X7_25 : sw_FF RX7 25 7 10 (.array .int) := ⟨RX7, TX7, 35, tyX7, rfl, in_X7, by decide, rfl, q_785, tyX7_ok, nmX7, rfl, rfl, rfl⟩
theorem ff_X7_28 : sw_FF RX7 28 7 11 (.array .int) := ⟨RX7, TX7, 35, tyX7, rfl, in_X7, by decide, rfl, q_786, tyX7_ok, nmX7, rfl, rfl, rfl⟩
theorem ff_X7_31 : sw_FF RX7 31 7 12 (.array .int) := ⟨RX7, TX7, 35, tyX7, rfl, in_X7, by decide, rfl, q_787, tyX7_ok, nmX7, rfl, rfl, rfl⟩
theorem ff_X7_34 : sw_FF RX7 34 7 13 (.array .int) := ⟨RX7, TX7, 35, tyX7, rfl, in_X7, by decide, rfl, q_788, tyX7_ok, nmX7, rfl, rfl, rfl⟩
theorem ff_X7_37 : sw_FF RX7 37 7 14 (.array .int) := ⟨RX7, TX7, 35, tyX7, rfl, in_X7, by decide, rfl, q_789, tyX7_ok, nmX7, rfl, rfl, rfl⟩
theorem ff_X7_40 : sw_FF RX7 40 7 15 (.array .int) := ⟨RX7, TX7, 35, tyX7, rfl, in_X7, by decide, rfl, q_790, tyX7_ok, nmX7, rfl, rfl, rfl⟩
theorem ff_X7_43 : sw_FF RX7 43 7 16 (.array .int) := ⟨RX7, TX7, 35, tyX7, rfl, in_X7, by decide, rfl, q_791, tyX7_ok, nmX7, rfl, rfl, rfl⟩
theorem ff_X7_46 : sw_FF RX7 46 7 17 (.array .int) := ⟨RX7, TX7, 35, tyX7, rfl, in_X7, by decide, rfl, q_792, tyX7_ok, nmX7, rfl, rfl, rfl⟩
theorem ff_X7_49 : sw_FF RX7 49 7 19 (.array .int) := ⟨RX7, TX7, 35, tyX7, rfl, in_X7, by decide, rfl, q_794, tyX7_ok, nmX7, rfl, rfl, rfl⟩
theorem ff_X7_52 : sw_FF RX7 52 7 22 (.array .int) := ⟨RX7, TX7, 35, tyX7, rfl, in_X7, by decide, rfl, q_797, tyX7_ok, nmX7, rfl, rfl, rfl⟩
theorem ff_X7_55 : sw_FF RX7 55 7 24 (.array .int) := ⟨RX7, TX7, 35, tyX7, rfl, in_X7, by decide, rfl, q_799, tyX7_ok, nmX7, rfl, rfl, rfl⟩
theorem ff_X7_58 : sw_FF RX7 58 7 30 (.array .int) := ⟨RX7, TX7, 35, tyX7, rfl, in_X7, by decide, rfl, q_805, tyX7_ok, nmX7, rfl, rfl, rfl⟩
theorem ff_X7_61 : sw_FF RX7 61 7 32 (.array .int) := ⟨RX7, TX7, 35, tyX7, rfl, in_X7, by decide, rfl, q_807, tyX7_ok, nmX7, rfl, rfl, rfl⟩
theorem ff_X7_64 : sw_FF RX7 64 7 34 (.array .int) := ⟨RX7, TX7, 35, tyX7, rfl, in_X7, by decide, rfl, q_809, tyX7_ok, nmX7, rfl, rfl, rfl⟩
theorem fl_X0_41 : sw_FL RX0 41 2 2 := ⟨RX2, TX2, 4, rfl, in_X2, by decide, rfl, (Or.inr ⟨"SplitWatch", q_239⟩)⟩
theorem mi_X2_11 : sw_ML RX2 11 yX1_init cX1_init 1 none 0 := ⟨(Or.inr ⟨"SplitWatch", q_157⟩), q_100, q_159, ⟨by decide, by decide⟩, by decide +kernel, by decide⟩
theorem mi_X2_24 : sw_ML RX2 24 yX4_init cX4_init 2 none 1 := ⟨(Or.inr ⟨"SplitWatch", q_180⟩), q_101, q_182, ⟨by decide, by decide⟩, by decide +kernel, by decide⟩
theorem mi_X0_29 : sw_ML RX0 29 yX3_init cX3_init 1 none 0 := ⟨(Or.inr ⟨"SplitWatch", q_129⟩), q_98, q_131, ⟨by decide, by decide⟩, by decide +kernel, by decide⟩
theorem mi_X0_34 : sw_ML RX0 34 yX2_init cX2_init 3 none 1 := ⟨(Or.inr ⟨"SplitWatch", q_151⟩), q_99, q_153, ⟨by decide, by decide⟩, by decide +kernel, by decide⟩
theorem mi_X6_9 : sw_ML RX6 9 yX0_init cX0_init 3 none 0 := ⟨(Or.inr ⟨"SplitWatch", q_119⟩), q_97, q_121, ⟨by decide, by decide⟩, by decide +kernel, by decide⟩
theorem mi_X6_22 : sw_ML RX6 22 yX5_init cX5_init 1 none 0 := ⟨(Or.inr ⟨"SplitWatch", q_325⟩), q_102, q_327, ⟨by decide, by decide⟩, by decide +kernel, by decide⟩
theorem ml_X7_67 : sw_MV RX7 67 yX7_begin cX7_begin 6 (some .int) 4 := ⟨⟨(Or.inl q_765), q_103, q_768, ⟨by decide, by decide⟩, by decide +kernel, by decide⟩, q_766, q_767⟩
def L_X4_init : sw_Is := [(0, .aload_n 0, 1, 1), (1, .invokespecial 1, 3, 4), (4, .aload_n 0, 1, 5), (5, .iload_n 1, 1, 6), (6, .putfield 7, 3, 9), (9, .return_, 1, 10)]
theorem dk_X4_init : sw_dc cX4_init L_X4_init = true := by decide +kernel
theorem df_X4 : sw_df [none, none, none, none, none, none, none, none, none, none, none] 11 tyX4 := by
  intro ad j hj
  match j, hj with
  | 0, _ => rfl
  | 1, _ => rfl
  | 2, _ => rfl
  | 3, _ => rfl
  | 4, _ => rfl
  | 5, _ => rfl
  | 6, _ => rfl
  | 7, _ => rfl
  | 8, _ => rfl
  | 9, _ => rfl
  | 10, _ => rfl
def L_X1_init : sw_Is := [(0, .aload_n 0, 1, 1), (1, .invokespecial 3, 3, 4), (4, .aload_n 0, 1, 5), (5, .bipush 8, 2, 7), (7, .newarray .int, 2, 9), (9, .putfield 9, 3, 12), (12, .aload_n 0, 1, 13), (13, .bipush 8, 2, 15), (15, .newarray .int, 2, 17), (17, .putfield 15, 3, 20), (20, .aload_n 0, 1, 21), (21, .bipush 8, 2, 23), (23, .newarray .int, 2, 25), (25, .putfield 18, 3, 28), (28, .return_, 1, 29)]
theorem dk_X1_init : sw_dc cX1_init L_X1_init = true := by decide +kernel
theorem df_X1 : sw_df [some 0, some 0, some 0, none] 4 tyX1 := by
  intro ad j hj
  match j, hj with
  | 0, _ => rfl
  | 1, _ => rfl
  | 2, _ => rfl
  | 3, _ => rfl
def L_X3_init : sw_Is := [(0, .aload_n 0, 1, 1), (1, .invokespecial 5, 3, 4), (4, .aload_n 0, 1, 5), (5, .bipush 48, 2, 7), (7, .newarray .char, 2, 9), (9, .putfield 11, 3, 12), (12, .return_, 1, 13)]
theorem dk_X3_init : sw_dc cX3_init L_X3_init = true := by decide +kernel
theorem df_X3 : sw_df [some 0, none, none, none] 4 tyX3 := by
  intro ad j hj
  match j, hj with
  | 0, _ => rfl
  | 1, _ => rfl
  | 2, _ => rfl
  | 3, _ => rfl
def L_X5_init : sw_Is := [(0, .aload_n 0, 1, 1), (1, .invokespecial 3, 3, 4), (4, .aload_n 0, 1, 5), (5, .sipush 200, 3, 8), (8, .newarray .char, 2, 10), (10, .putfield 11, 3, 13), (13, .aload_n 0, 1, 14), (14, .iconst 3, 1, 15), (15, .newarray .int, 2, 17), (17, .putfield 15, 3, 20), (20, .return_, 1, 21)]
theorem dk_X5_init : sw_dc cX5_init L_X5_init = true := by decide +kernel
theorem df_X5 : sw_df [some 0, some 0, none, none, none] 5 tyX5 := by
  intro ad j hj
  match j, hj with
  | 0, _ => rfl
  | 1, _ => rfl
  | 2, _ => rfl
  | 3, _ => rfl
  | 4, _ => rfl
def L_X2_init : sw_Is := [(0, .aload_n 0, 1, 1), (1, .invokespecial 3, 3, 4), (4, .aload_n 0, 1, 5), (5, .new 9, 3, 8), (8, .dup, 1, 9), (9, .invokespecial 11, 3, 12), (12, .putfield 12, 3, 15), (15, .aload_n 0, 1, 16), (16, .iconst 2, 1, 17), (17, .anewarray 18, 3, 20), (20, .putfield 20, 3, 23), (23, .aload_n 0, 1, 24), (24, .new 18, 3, 27), (27, .dup, 1, 28), (28, .iload_n 1, 1, 29), (29, .invokespecial 24, 3, 32), (32, .putfield 27, 3, 35), (35, .iconst 0, 1, 36), (36, .istore_n 2, 1, 37), (37, .iload_n 2, 1, 38), (38, .iconst 2, 1, 39), (39, .if_icmp .ge 23, 3, 42), (42, .aload_n 0, 1, 43), (43, .getfield 20, 3, 46), (46, .iload_n 2, 1, 47), (47, .new 18, 3, 50), (50, .dup, 1, 51), (51, .iload_n 1, 1, 52), (52, .invokespecial 24, 3, 55), (55, .aastore, 1, 56), (56, .iinc 2 1, 3, 59), (59, .goto (-22), 3, 62), (62, .return_, 1, 63)]
theorem dk_X2_init : sw_dc cX2_init L_X2_init = true := by decide +kernel
theorem df_X2 : sw_df [some 0, some 0, some 0, none] 4 tyX2 := by
  intro ad j hj
  match j, hj with
  | 0, _ => rfl
  | 1, _ => rfl
  | 2, _ => rfl
  | 3, _ => rfl
def L_X0_init : sw_Is := [(0, .aload_n 0, 1, 1), (1, .invokespecial 5, 3, 4), (4, .aload_n 0, 1, 5), (5, .iconst 4, 1, 6), (6, .anewarray 1, 3, 9), (9, .putfield 11, 3, 12), (12, .aload_n 0, 1, 13), (13, .bipush 12, 2, 15), (15, .anewarray 17, 3, 18), (18, .putfield 19, 3, 21), (21, .aload_n 0, 1, 22), (22, .bipush 8, 2, 24), (24, .newarray .int, 2, 26), (26, .putfield 23, 3, 29), (29, .aload_n 0, 1, 30), (30, .new 27, 3, 33), (33, .dup, 1, 34), (34, .invokespecial 29, 3, 37), (37, .putfield 30, 3, 40), (40, .iconst 0, 1, 41), (41, .istore_n 1, 1, 42), (42, .iload_n 1, 1, 43), (43, .iconst 4, 1, 44), (44, .if_icmp .ge 76, 3, 47), (47, .aload_n 0, 1, 48), (48, .getfield 11, 3, 51), (51, .iload_n 1, 1, 52), (52, .new 1, 3, 55), (55, .dup, 1, 56), (56, .iload_n 1, 1, 57), (57, .invokespecial 34, 3, 60), (60, .aastore, 1, 61), (61, .aload_n 0, 1, 62), (62, .getfield 19, 3, 65), (65, .iload_n 1, 1, 66), (66, .iconst 3, 1, 67), (67, .imul, 1, 68), (68, .aload_n 0, 1, 69), (69, .getfield 11, 3, 72), (72, .iload_n 1, 1, 73), (73, .aaload, 1, 74), (74, .getfield 37, 3, 77), (77, .aastore, 1, 78), (78, .iconst 0, 1, 79), (79, .istore_n 2, 1, 80), (80, .iload_n 2, 1, 81), (81, .iconst 2, 1, 82), (82, .if_icmp .ge 32, 3, 85), (85, .aload_n 0, 1, 86), (86, .getfield 19, 3, 89), (89, .iload_n 1, 1, 90), (90, .iconst 3, 1, 91), (91, .imul, 1, 92), (92, .iconst 1, 1, 93), (93, .iadd, 1, 94), (94, .iload_n 2, 1, 95), (95, .iadd, 1, 96), (96, .aload_n 0, 1, 97), (97, .getfield 11, 3, 100), (100, .iload_n 1, 1, 101), (101, .aaload, 1, 102), (102, .getfield 41, 3, 105), (105, .iload_n 2, 1, 106), (106, .aaload, 1, 107), (107, .aastore, 1, 108), (108, .iinc 2 1, 3, 111), (111, .goto (-31), 3, 114), (114, .iinc 1 1, 3, 117), (117, .goto (-75), 3, 120), (120, .return_, 1, 121)]
theorem dk_X0_init : sw_dc cX0_init L_X0_init = true := by decide +kernel
theorem df_X0 : sw_df [some 0, some 0, some 0, some 0, none, none, none, none, none, none, none, none, none, none] 14 tyX0 := by
  intro ad j hj
  match j, hj with
  | 0, _ => rfl
  | 1, _ => rfl
  | 2, _ => rfl
  | 3, _ => rfl
  | 4, _ => rfl
  | 5, _ => rfl
  | 6, _ => rfl
  | 7, _ => rfl
  | 8, _ => rfl
  | 9, _ => rfl
  | 10, _ => rfl
  | 11, _ => rfl
  | 12, _ => rfl
  | 13, _ => rfl
def L_X6_init : sw_Is := [(0, .aload_n 0, 1, 1), (1, .invokespecial 1, 3, 4), (4, .aload_n 0, 1, 5), (5, .new 7, 3, 8), (8, .dup, 1, 9), (9, .invokespecial 9, 3, 12), (12, .putfield 10, 3, 15), (15, .aload_n 0, 1, 16), (16, .getfield 10, 3, 19), (19, .iconst 3, 1, 20), (20, .iconst 2, 1, 21), (21, .iconst 1, 1, 22), (22, .iconst 3, 1, 23), (23, .invokevirtual 16, 3, 26), (26, .aload_n 0, 1, 27), (27, .new 20, 3, 30), (30, .dup, 1, 31), (31, .invokespecial 22, 3, 34), (34, .putfield 23, 3, 37), (37, .return_, 1, 38)]
theorem dk_X6_init : sw_dc cX6_init L_X6_init = true := by decide +kernel
theorem df_X6 : sw_df [some 0, some 0] 2 tyX6 := by
  intro ad j hj
  match j, hj with
  | 0, _ => rfl
  | 1, _ => rfl
def L_X7_init : sw_Is := [(0, .aload_n 0, 1, 1), (1, .invokespecial 1, 3, 4), (4, .aload_n 0, 1, 5), (5, .bipush 8, 2, 7), (7, .newarray .int, 2, 9), (9, .putfield 7, 3, 12), (12, .aload_n 0, 1, 13), (13, .iconst 4, 1, 14), (14, .newarray .int, 2, 16), (16, .putfield 13, 3, 19), (19, .aload_n 0, 1, 20), (20, .bipush 16, 2, 22), (22, .newarray .int, 2, 24), (24, .putfield 16, 3, 27), (27, .aload_n 0, 1, 28), (28, .bipush 16, 2, 30), (30, .newarray .int, 2, 32), (32, .putfield 19, 3, 35), (35, .aload_n 0, 1, 36), (36, .bipush 16, 2, 38), (38, .newarray .int, 2, 40), (40, .putfield 22, 3, 43), (43, .aload_n 0, 1, 44), (44, .iconst 4, 1, 45), (45, .newarray .int, 2, 47), (47, .putfield 25, 3, 50), (50, .aload_n 0, 1, 51), (51, .bipush 8, 2, 53), (53, .newarray .int, 2, 55), (55, .putfield 28, 3, 58), (58, .aload_n 0, 1, 59), (59, .bipush 8, 2, 61), (61, .newarray .int, 2, 63), (63, .putfield 31, 3, 66), (66, .aload_n 0, 1, 67), (67, .iconst 4, 1, 68), (68, .newarray .int, 2, 70), (70, .putfield 34, 3, 73), (73, .aload_n 0, 1, 74), (74, .iconst 4, 1, 75), (75, .newarray .int, 2, 77), (77, .putfield 37, 3, 80), (80, .aload_n 0, 1, 81), (81, .iconst 4, 1, 82), (82, .newarray .int, 2, 84), (84, .putfield 40, 3, 87), (87, .aload_n 0, 1, 88), (88, .iconst 4, 1, 89), (89, .newarray .int, 2, 91), (91, .putfield 43, 3, 94), (94, .aload_n 0, 1, 95), (95, .iconst 4, 1, 96), (96, .newarray .int, 2, 98), (98, .putfield 46, 3, 101), (101, .aload_n 0, 1, 102), (102, .bipush 80, 2, 104), (104, .newarray .int, 2, 106), (106, .putfield 49, 3, 109), (109, .aload_n 0, 1, 110), (110, .bipush 28, 2, 112), (112, .newarray .int, 2, 114), (114, .putfield 52, 3, 117), (117, .aload_n 0, 1, 118), (118, .bipush 48, 2, 120), (120, .newarray .int, 2, 122), (122, .putfield 55, 3, 125), (125, .aload_n 0, 1, 126), (126, .sipush 200, 3, 129), (129, .newarray .int, 2, 131), (131, .putfield 58, 3, 134), (134, .aload_n 0, 1, 135), (135, .iconst 3, 1, 136), (136, .newarray .int, 2, 138), (138, .putfield 61, 3, 141), (141, .aload_n 0, 1, 142), (142, .bipush 40, 2, 144), (144, .newarray .int, 2, 146), (146, .dup, 1, 147), (147, .iconst 0, 1, 148), (148, .bipush 109, 2, 150), (150, .iastore, 1, 151), (151, .dup, 1, 152), (152, .iconst 1, 1, 153), (153, .bipush 105, 2, 155), (155, .iastore, 1, 156), (156, .dup, 1, 157), (157, .iconst 2, 1, 158), (158, .bipush 115, 2, 160), (160, .iastore, 1, 161), (161, .dup, 1, 162), (162, .iconst 3, 1, 163), (163, .bipush 115, 2, 165), (165, .iastore, 1, 166), (166, .dup, 1, 167), (167, .iconst 4, 1, 168), (168, .bipush 105, 2, 170), (170, .iastore, 1, 171), (171, .dup, 1, 172), (172, .iconst 5, 1, 173), (173, .bipush 110, 2, 175), (175, .iastore, 1, 176), (176, .dup, 1, 177), (177, .bipush 6, 2, 179), (179, .bipush 103, 2, 181), (181, .iastore, 1, 182), (182, .dup, 1, 183), (183, .bipush 7, 2, 185), (185, .iconst 0, 1, 186), (186, .iastore, 1, 187), (187, .dup, 1, 188), (188, .bipush 8, 2, 190), (190, .bipush 115, 2, 192), (192, .iastore, 1, 193), (193, .dup, 1, 194), (194, .bipush 9, 2, 196), (196, .bipush 104, 2, 198), (198, .iastore, 1, 199), (199, .dup, 1, 200), (200, .bipush 10, 2, 202), (202, .bipush 97, 2, 204), (204, .iastore, 1, 205), (205, .dup, 1, 206), (206, .bipush 11, 2, 208), (208, .bipush 114, 2, 210), (210, .iastore, 1, 211), (211, .dup, 1, 212), (212, .bipush 12, 2, 214), (214, .bipush 101, 2, 216), (216, .iastore, 1, 217), (217, .dup, 1, 218), (218, .bipush 13, 2, 220), (220, .bipush 100, 2, 222), (222, .iastore, 1, 223), (223, .dup, 1, 224), (224, .bipush 14, 2, 226), (226, .iconst 0, 1, 227), (227, .iastore, 1, 228), (228, .dup, 1, 229), (229, .bipush 15, 2, 231), (231, .iconst 0, 1, 232), (232, .iastore, 1, 233), (233, .dup, 1, 234), (234, .bipush 16, 2, 236), (236, .bipush 97, 2, 238), (238, .iastore, 1, 239), (239, .dup, 1, 240), (240, .bipush 17, 2, 242), (242, .bipush 108, 2, 244), (244, .iastore, 1, 245), (245, .dup, 1, 246), (246, .bipush 18, 2, 248), (248, .bipush 111, 2, 250), (250, .iastore, 1, 251), (251, .dup, 1, 252), (252, .bipush 19, 2, 254), (254, .bipush 110, 2, 256), (256, .iastore, 1, 257), (257, .dup, 1, 258), (258, .bipush 20, 2, 260), (260, .bipush 101, 2, 262), (262, .iastore, 1, 263), (263, .dup, 1, 264), (264, .bipush 21, 2, 266), (266, .iconst 0, 1, 267), (267, .iastore, 1, 268), (268, .dup, 1, 269), (269, .bipush 22, 2, 271), (271, .iconst 0, 1, 272), (272, .iastore, 1, 273), (273, .dup, 1, 274), (274, .bipush 23, 2, 276), (276, .iconst 0, 1, 277), (277, .iastore, 1, 278), (278, .dup, 1, 279), (279, .bipush 24, 2, 281), (281, .bipush 99, 2, 283), (283, .iastore, 1, 284), (284, .dup, 1, 285), (285, .bipush 25, 2, 287), (287, .bipush 104, 2, 289), (289, .iastore, 1, 290), (290, .dup, 1, 291), (291, .bipush 26, 2, 293), (293, .bipush 97, 2, 295), (295, .iastore, 1, 296), (296, .dup, 1, 297), (297, .bipush 27, 2, 299), (299, .bipush 110, 2, 301), (301, .iastore, 1, 302), (302, .dup, 1, 303), (303, .bipush 28, 2, 305), (305, .bipush 103, 2, 307), (307, .iastore, 1, 308), (308, .dup, 1, 309), (309, .bipush 29, 2, 311), (311, .bipush 101, 2, 313), (313, .iastore, 1, 314), (314, .dup, 1, 315), (315, .bipush 30, 2, 317), (317, .bipush 100, 2, 319), (319, .iastore, 1, 320), (320, .dup, 1, 321), (321, .bipush 31, 2, 323), (323, .iconst 0, 1, 324), (324, .iastore, 1, 325), (325, .dup, 1, 326), (326, .bipush 32, 2, 328), (328, .bipush 98, 2, 330), (330, .iastore, 1, 331), (331, .dup, 1, 332), (332, .bipush 33, 2, 334), (334, .bipush 117, 2, 336), (336, .iastore, 1, 337), (337, .dup, 1, 338), (338, .bipush 34, 2, 340), (340, .bipush 102, 2, 342), (342, .iastore, 1, 343), (343, .dup, 1, 344), (344, .bipush 35, 2, 346), (346, .bipush 102, 2, 348), (348, .iastore, 1, 349), (349, .dup, 1, 350), (350, .bipush 36, 2, 352), (352, .bipush 101, 2, 354), (354, .iastore, 1, 355), (355, .dup, 1, 356), (356, .bipush 37, 2, 358), (358, .bipush 114, 2, 360), (360, .iastore, 1, 361), (361, .dup, 1, 362), (362, .bipush 38, 2, 364), (364, .bipush 101, 2, 366), (366, .iastore, 1, 367), (367, .dup, 1, 368), (368, .bipush 39, 2, 370), (370, .bipush 100, 2, 372), (372, .iastore, 1, 373), (373, .putfield 64, 3, 376), (376, .aload_n 0, 1, 377), (377, .iconst 3, 1, 378), (378, .iconst 2, 1, 379), (379, .iconst 1, 1, 380), (380, .iconst 3, 1, 381), (381, .invokevirtual 67, 3, 384), (384, .pop, 1, 385), (385, .return_, 1, 386)]
theorem dk_X7_init : sw_dc cX7_init L_X7_init = true := by decide +kernel
theorem df_X7 : sw_df [none, none, none, none, none, some 0, some 0, some 0, some 0, some 0, some 0, some 0, some 0, some 0, some 0, some 0, some 0, some 0, none, some 0, none, none, some 0, none, some 0, none, none, none, none, none, some 0, none, some 0, none, some 0] 35 tyX7 := by
  intro ad j hj
  by_cases h0 : j < 12
  · obtain ⟨i, rfl⟩ : ∃ i, j = 0 + i := ⟨j - 0, by omega⟩
    have hi : i < 12 := by omega
    clear hj h0
    match i, hi with
    | 0, _ => rfl
    | 1, _ => rfl
    | 2, _ => rfl
    | 3, _ => rfl
    | 4, _ => rfl
    | 5, _ => rfl
    | 6, _ => rfl
    | 7, _ => rfl
    | 8, _ => rfl
    | 9, _ => rfl
    | 10, _ => rfl
    | 11, _ => rfl
  by_cases h12 : j < 24
  · obtain ⟨i, rfl⟩ : ∃ i, j = 12 + i := ⟨j - 12, by omega⟩
    have hi : i < 12 := by omega
    clear hj h12 h0
    match i, hi with
    | 0, _ => rfl
    | 1, _ => rfl
    | 2, _ => rfl
    | 3, _ => rfl
    | 4, _ => rfl
    | 5, _ => rfl
    | 6, _ => rfl
    | 7, _ => rfl
    | 8, _ => rfl
    | 9, _ => rfl
    | 10, _ => rfl
    | 11, _ => rfl
  by_cases h24 : j < 35
  · obtain ⟨i, rfl⟩ : ∃ i, j = 24 + i := ⟨j - 24, by omega⟩
    have hi : i < 11 := by omega
    clear hj h24 h0 h12
    match i, hi with
    | 0, _ => rfl
    | 1, _ => rfl
    | 2, _ => rfl
    | 3, _ => rfl
    | 4, _ => rfl
    | 5, _ => rfl
    | 6, _ => rfl
    | 7, _ => rfl
    | 8, _ => rfl
    | 9, _ => rfl
    | 10, _ => rfl
  · omega
def z_X1_9 (sh : Nat → Option sw_Sh) : sw_Z := (sw_zu (sw_zn (sw_zu (sw_zn (sw_zu (sw_zn (9, sh) (.inr (0, 8, none))) 9 (.inl (1, [some 10, some 0, some 0, none]))) (.inr (0, 8, none))) 9 (.inl (1, [some 10, some 11, some 0, none]))) (.inr (0, 8, none))) 9 (.inl (1, [some 10, some 11, some 12, none])))
set_option maxHeartbeats 1000000 in
set_option maxRecDepth 100000 in
theorem c_X1_9 (l : Launch) (b : Nat) (g : Nat → Nat) (dC : Nat → ClassId) (dI : Nat → Nat → Nat) (dA : Nat → ClassId) (sh : Nat → Option sw_Sh) (σ : sw_St) (hs : sh 9 = some (.inl (1, [some 0, some 0, some 0, none]))) (hz : ∀ k, 9 < k → σ k = fun _ => 0) : sw_MC l yX1_init cX1_init 1 1 3 24 40 b g dC dI dA (9, sh) σ [sw_rv (sw_ab b g) 9] (z_X1_9 sh) σ := by
  refine sw_mkC 0 (by decide) rfl dk_X1_init rfl (sw_c1_all _ ⟨sw_rv_cat _ _, trivial⟩) (fun p e R M C => ?_)
  refine tc_aload_n C 0 rfl rfl ?_
  refine tc_objInit C 1 rfl (by decide) q_160 q_115 q_116 (by decide) (Nat.le_of_ble_eq_true rfl) ?_
  refine tc_aload_n C 2 rfl rfl ?_
  refine tc_bipush C 3 rfl 8 (by decide) ?_
  refine tc_newi C 4 rfl 8 q_148 ⟨by decide, by decide⟩ (by decide) rfl 10 rfl (by decide) (hz 10 (by decide)) (by decide) (by decide) ?_
  refine tc_cs (cs' := 1) (sl' := 8) rfl rfl ?_
  refine tc_putR C 5 rfl ff_X1_9 (fun _ => ⟨rfl, rfl⟩) (by decide) (Nat.le_of_ble_eq_true rfl) (Nat.le_of_ble_eq_true rfl) hs rfl (by decide) [some 10, some 0, some 0, none] rfl ?_
  refine tc_aload_n C 6 rfl rfl ?_
  refine tc_bipush C 7 rfl 8 (by decide) ?_
  refine tc_newi C 8 rfl 8 q_148 ⟨by decide, by decide⟩ (by decide) rfl 11 rfl (by decide) (hz 11 (by decide)) (by decide) (by decide) ?_
  refine tc_cs (cs' := 2) (sl' := 16) rfl rfl ?_
  refine tc_putR C 9 rfl ff_X1_15 (fun _ => ⟨rfl, rfl⟩) (by decide) (Nat.le_of_ble_eq_true rfl) (Nat.le_of_ble_eq_true rfl) rfl rfl (by decide) [some 10, some 11, some 0, none] rfl ?_
  refine tc_aload_n C 10 rfl rfl ?_
  refine tc_bipush C 11 rfl 8 (by decide) ?_
  refine tc_newi C 12 rfl 8 q_148 ⟨by decide, by decide⟩ (by decide) rfl 12 rfl (by decide) (hz 12 (by decide)) (by decide) (by decide) ?_
  refine tc_cs (cs' := 3) (sl' := 24) rfl rfl ?_
  refine tc_putR C 13 rfl ff_X1_18 (fun _ => ⟨rfl, rfl⟩) (by decide) (Nat.le_of_ble_eq_true rfl) (Nat.le_of_ble_eq_true rfl) rfl rfl (by decide) [some 10, some 11, some 12, none] rfl ?_
  exact tc_vret C 14 rfl
def z_X4_14 (sh : Nat → Option sw_Sh) : sw_Z := (14, sh)
def g_X4_14 (σ : sw_St) : sw_St := (sw_up σ 14 0 0)
set_option maxHeartbeats 1000000 in
set_option maxRecDepth 100000 in
theorem c_X4_14 (l : Launch) (b : Nat) (g : Nat → Nat) (dC : Nat → ClassId) (dI : Nat → Nat → Nat) (dA : Nat → ClassId) (sh : Nat → Option sw_Sh) (σ : sw_St) (hs : sh 14 = some (.inl (4, [none, none, none, none, none, none, none, none, none, none, none]))) : sw_MC l yX4_init cX4_init 2 1 0 0 40 b g dC dI dA (14, sh) σ [sw_rv (sw_ab b g) 14, .int 0] (z_X4_14 sh) (g_X4_14 σ) := by
  refine sw_mkC 0 (by decide) rfl dk_X4_init rfl (sw_c1_all _ ⟨sw_rv_cat _ _, rfl, trivial⟩) (fun p e R M C => ?_)
  refine tc_aload_n C 0 rfl rfl ?_
  refine tc_objInit C 1 rfl (by decide) q_183 q_115 q_116 (by decide) (Nat.le_of_ble_eq_true rfl) ?_
  refine tc_aload_n C 2 rfl rfl ?_
  refine tc_iload_n C 3 rfl rfl ?_
  refine tc_putI C 4 rfl ff_X4_7 (by decide) (Nat.le_of_ble_eq_true rfl) (Nat.le_of_ble_eq_true rfl) hs rfl ?_
  exact tc_vret C 5 rfl
def z_X4_15 (sh : Nat → Option sw_Sh) : sw_Z := (15, sh)
def g_X4_15 (σ : sw_St) : sw_St := (sw_up σ 15 0 0)
set_option maxHeartbeats 1000000 in
set_option maxRecDepth 100000 in
theorem c_X4_15 (l : Launch) (b : Nat) (g : Nat → Nat) (dC : Nat → ClassId) (dI : Nat → Nat → Nat) (dA : Nat → ClassId) (sh : Nat → Option sw_Sh) (σ : sw_St) (hs : sh 15 = some (.inl (4, [none, none, none, none, none, none, none, none, none, none, none]))) : sw_MC l yX4_init cX4_init 2 1 0 0 40 b g dC dI dA (15, sh) σ [sw_rv (sw_ab b g) 15, .int 0] (z_X4_15 sh) (g_X4_15 σ) := by
  refine sw_mkC 0 (by decide) rfl dk_X4_init rfl (sw_c1_all _ ⟨sw_rv_cat _ _, rfl, trivial⟩) (fun p e R M C => ?_)
  refine tc_aload_n C 0 rfl rfl ?_
  refine tc_objInit C 1 rfl (by decide) q_183 q_115 q_116 (by decide) (Nat.le_of_ble_eq_true rfl) ?_
  refine tc_aload_n C 2 rfl rfl ?_
  refine tc_iload_n C 3 rfl rfl ?_
  refine tc_putI C 4 rfl ff_X4_7 (by decide) (Nat.le_of_ble_eq_true rfl) (Nat.le_of_ble_eq_true rfl) hs rfl ?_
  exact tc_vret C 5 rfl
def z_X4_16 (sh : Nat → Option sw_Sh) : sw_Z := (16, sh)
def g_X4_16 (σ : sw_St) : sw_St := (sw_up σ 16 0 0)
set_option maxHeartbeats 1000000 in
set_option maxRecDepth 100000 in
theorem c_X4_16 (l : Launch) (b : Nat) (g : Nat → Nat) (dC : Nat → ClassId) (dI : Nat → Nat → Nat) (dA : Nat → ClassId) (sh : Nat → Option sw_Sh) (σ : sw_St) (hs : sh 16 = some (.inl (4, [none, none, none, none, none, none, none, none, none, none, none]))) : sw_MC l yX4_init cX4_init 2 1 0 0 40 b g dC dI dA (16, sh) σ [sw_rv (sw_ab b g) 16, .int 0] (z_X4_16 sh) (g_X4_16 σ) := by
  refine sw_mkC 0 (by decide) rfl dk_X4_init rfl (sw_c1_all _ ⟨sw_rv_cat _ _, rfl, trivial⟩) (fun p e R M C => ?_)
  refine tc_aload_n C 0 rfl rfl ?_
  refine tc_objInit C 1 rfl (by decide) q_183 q_115 q_116 (by decide) (Nat.le_of_ble_eq_true rfl) ?_
  refine tc_aload_n C 2 rfl rfl ?_
  refine tc_iload_n C 3 rfl rfl ?_
  refine tc_putI C 4 rfl ff_X4_7 (by decide) (Nat.le_of_ble_eq_true rfl) (Nat.le_of_ble_eq_true rfl) hs rfl ?_
  exact tc_vret C 5 rfl
def z_X2_8 (sh : Nat → Option sw_Sh) : sw_Z := (sw_zu (z_X4_16 (sw_zn (sw_zu (z_X4_15 (sw_zn (sw_zu (z_X4_14 (sw_zn (sw_zu (sw_zn (sw_zu (z_X1_9 (sw_zn (8, sh) (.inl (1, [some 0, some 0, some 0, none]))).2) 8 (.inl (2, [some 9, some 0, some 0, none]))) (.inr (3, 2, some [0, 0]))) 8 (.inl (2, [some 9, some 0, some 13, none]))) (.inl (4, [none, none, none, none, none, none, none, none, none, none, none]))).2) 8 (.inl (2, [some 9, some 14, some 13, none]))) (.inl (4, [none, none, none, none, none, none, none, none, none, none, none]))).2) 13 (.inr (3, 2, some [15, 0]))) (.inl (4, [none, none, none, none, none, none, none, none, none, none, none]))).2) 13 (.inr (3, 2, some [15, 16])))
def g_X2_8 (σ : sw_St) : sw_St := (g_X4_16 (g_X4_15 (g_X4_14 σ)))
set_option maxHeartbeats 1000000 in
set_option maxRecDepth 100000 in
theorem c_X2_8 (l : Launch) (b : Nat) (g : Nat → Nat) (dC : Nat → ClassId) (dI : Nat → Nat → Nat) (dA : Nat → ClassId) (sh : Nat → Option sw_Sh) (σ : sw_St) (hs : sh 8 = some (.inl (2, [some 0, some 0, some 0, none]))) (hz : ∀ k, 8 < k → σ k = fun _ => 0) : sw_MC l yX2_init cX2_init 3 2 8 63 80 b g dC dI dA (8, sh) σ [sw_rv (sw_ab b g) 8, .int 0] (z_X2_8 sh) (g_X2_8 σ) := by
  refine sw_mkC 1 (by decide) rfl dk_X2_init rfl (sw_c1_all _ ⟨sw_rv_cat _ _, rfl, trivial⟩) (fun p e R M C => ?_)
  refine tc_aload_n C 0 rfl rfl ?_
  refine tc_objInit C 1 rfl (by decide) q_154 q_115 q_116 (by decide) (Nat.le_of_ble_eq_true rfl) ?_
  refine tc_aload_n C 2 rfl rfl ?_
  refine tc_new (ci := 1) (ty := tyX1) C 3 rfl [some 0, some 0, some 0, none] rfl in_X1 tyX1_ok q_155 q_156 q_100 df_X1 rfl 9 rfl (by decide) (hz 9 (by decide)) (by decide) (by decide) ?_
  refine tc_cs (cs' := 1) (sl' := 4) rfl rfl ?_
  refine tc_dup C 4 rfl ?_
  refine tc_callI (k := 9) C 5 rfl [] [sw_r _ 9, sw_r _ 8] mi_X2_11 q_158 rfl rfl (Nat.le_of_ble_eq_true rfl) (by decide) rfl (Nat.le_of_ble_eq_true rfl) (Nat.le_of_ble_eq_true rfl) ⟨by decide, by decide, by decide, by decide⟩ (c_X1_9 _ b g _ _ _ _ _ rfl (fun k hk => hz k (by omega))) rfl ?_
  refine tc_cs (cs' := 4) (sl' := 28) rfl rfl ?_
  refine tc_putR C 6 rfl ff_X2_12 (fun _ => ⟨rfl, rfl⟩) (by decide) (Nat.le_of_ble_eq_true rfl) (Nat.le_of_ble_eq_true rfl) hs rfl (by decide) [some 9, some 0, some 0, none] rfl ?_
  refine tc_aload_n C 7 rfl rfl ?_
  refine tc_iconst C 8 rfl 2 (by decide) ?_
  refine tc_newq (ai := 3) C 9 rfl 2 [0, 0] rfl q_178 C.ao.2 rfl ⟨by decide, by decide⟩ (by decide) rfl 13 rfl (by decide) (by decide) (by decide) ?_
  refine tc_cs (cs' := 5) (sl' := 30) rfl rfl ?_
  refine tc_putR C 10 rfl ff_X2_20 (fun _ => ⟨rfl, rfl⟩) (by decide) (Nat.le_of_ble_eq_true rfl) (Nat.le_of_ble_eq_true rfl) rfl rfl (by decide) [some 9, some 0, some 13, none] rfl ?_
  refine tc_aload_n C 11 rfl rfl ?_
  refine tc_new (ci := 4) (ty := tyX4) C 12 rfl [none, none, none, none, none, none, none, none, none, none, none] rfl in_X4 tyX4_ok q_178 q_179 q_101 df_X4 rfl 14 rfl (by decide) (hz 14 (by decide)) (by decide) (by decide) ?_
  refine tc_cs (cs' := 6) (sl' := 41) rfl rfl ?_
  refine tc_dup C 13 rfl ?_
  refine tc_iload_n C 14 rfl rfl ?_
  refine tc_callI (k := 14) C 15 rfl [.int 0] [sw_r _ 14, sw_r _ 8] mi_X2_24 q_181 rfl rfl (Nat.le_of_ble_eq_true rfl) (by decide) rfl (Nat.le_of_ble_eq_true rfl) (Nat.le_of_ble_eq_true rfl) ⟨by decide, by decide, by decide, by decide⟩ (c_X4_14 _ b g _ _ _ _ _ rfl) rfl ?_
  refine tc_cs (cs' := 6) (sl' := 41) rfl rfl ?_
  refine tc_putR C 16 rfl ff_X2_27 (fun _ => ⟨rfl, rfl⟩) (by decide) (Nat.le_of_ble_eq_true rfl) (Nat.le_of_ble_eq_true rfl) rfl rfl (by decide) [some 9, some 14, some 13, none] rfl ?_
  refine tc_iconst C 17 rfl 0 (by decide) ?_
  refine tc_istore_n C 18 rfl (Nat.le_of_ble_eq_true rfl) (Or.inr (Or.inr (Or.inl ⟨_, rfl⟩))) ?_
  refine tc_iload_n C 19 rfl rfl ?_
  refine tc_iconst C 20 rfl 2 (by decide) ?_
  refine tc_geF C 21 rfl 62 (by decide) (by decide) ?_
  refine tc_aload_n C 22 rfl rfl ?_
  refine tc_getR C 23 rfl fl_X2_20 (by decide) (Nat.le_of_ble_eq_true rfl) rfl rfl ?_
  refine tc_iload_n C 24 rfl rfl ?_
  refine tc_new (ci := 4) (ty := tyX4) C 25 rfl [none, none, none, none, none, none, none, none, none, none, none] rfl in_X4 tyX4_ok q_178 q_179 q_101 df_X4 rfl 15 rfl (by decide) (hz 15 (by decide)) (by decide) (by decide) ?_
  refine tc_cs (cs' := 7) (sl' := 52) rfl rfl ?_
  refine tc_dup C 26 rfl ?_
  refine tc_iload_n C 27 rfl rfl ?_
  refine tc_callI (k := 15) C 28 rfl [.int 0] [sw_r _ 15, .int 0, sw_r _ 13] mi_X2_24 q_181 rfl rfl (Nat.le_of_ble_eq_true rfl) (by decide) rfl (Nat.le_of_ble_eq_true rfl) (Nat.le_of_ble_eq_true rfl) ⟨by decide, by decide, by decide, by decide⟩ (c_X4_15 _ b g _ _ _ _ _ rfl) rfl ?_
  refine tc_cs (cs' := 7) (sl' := 52) rfl rfl ?_
  refine tc_aast C 29 rfl (by decide) (Nat.le_of_ble_eq_true rfl) (Nat.le_of_ble_eq_true rfl) rfl rfl (by decide) (by decide) (Nat.le_of_ble_eq_true rfl) rfl rfl (by decide) [15, 0] rfl ?_
  refine tc_iinc C 30 rfl 1 (by decide) rfl (Nat.le_of_ble_eq_true rfl) (Or.inr (Or.inr (Or.inl ⟨_, rfl⟩))) ?_
  refine tc_goto C 31 rfl 37 (by decide) ?_
  refine tc_iload_n C 19 rfl rfl ?_
  refine tc_iconst C 20 rfl 2 (by decide) ?_
  refine tc_geF C 21 rfl 62 (by decide) (by decide) ?_
  refine tc_aload_n C 22 rfl rfl ?_
  refine tc_getR C 23 rfl fl_X2_20 (by decide) (Nat.le_of_ble_eq_true rfl) rfl rfl ?_
  refine tc_iload_n C 24 rfl rfl ?_
  refine tc_new (ci := 4) (ty := tyX4) C 25 rfl [none, none, none, none, none, none, none, none, none, none, none] rfl in_X4 tyX4_ok q_178 q_179 q_101 df_X4 rfl 16 rfl (by decide) (hz 16 (by decide)) (by decide) (by decide) ?_
  refine tc_cs (cs' := 8) (sl' := 63) rfl rfl ?_
  refine tc_dup C 26 rfl ?_
  refine tc_iload_n C 27 rfl rfl ?_
  refine tc_callI (k := 16) C 28 rfl [.int 0] [sw_r _ 16, .int 1, sw_r _ 13] mi_X2_24 q_181 rfl rfl (Nat.le_of_ble_eq_true rfl) (by decide) rfl (Nat.le_of_ble_eq_true rfl) (Nat.le_of_ble_eq_true rfl) ⟨by decide, by decide, by decide, by decide⟩ (c_X4_16 _ b g _ _ _ _ _ rfl) rfl ?_
  refine tc_cs (cs' := 8) (sl' := 63) rfl rfl ?_
  refine tc_aast C 29 rfl (by decide) (Nat.le_of_ble_eq_true rfl) (Nat.le_of_ble_eq_true rfl) rfl rfl (by decide) (by decide) (Nat.le_of_ble_eq_true rfl) rfl rfl (by decide) [15, 16] rfl ?_
  refine tc_iinc C 30 rfl 2 (by decide) rfl (Nat.le_of_ble_eq_true rfl) (Or.inr (Or.inr (Or.inl ⟨_, rfl⟩))) ?_
  refine tc_goto C 31 rfl 37 (by decide) ?_
  refine tc_iload_n C 19 rfl rfl ?_
  refine tc_iconst C 20 rfl 2 (by decide) ?_
  refine tc_geT C 21 rfl 62 (by decide) (by decide) ?_
  exact tc_vret C 32 rfl
theorem gz_X2_8 {σ : sw_St} (hz : ∀ k, 8 < k → σ k = fun _ => 0) : ∀ k, 16 < k → g_X2_8 σ k = fun _ => 0 := by
  intro k hk
  unfold g_X2_8 g_X4_14 g_X4_15 g_X4_16
  simp only [sw_up]
  rw [if_neg (by omega), if_neg (by omega), if_neg (by omega)]
  exact hz k (by omega)
def z_X1_18 (sh : Nat → Option sw_Sh) : sw_Z := (sw_zu (sw_zn (sw_zu (sw_zn (sw_zu (sw_zn (18, sh) (.inr (0, 8, none))) 18 (.inl (1, [some 19, some 0, some 0, none]))) (.inr (0, 8, none))) 18 (.inl (1, [some 19, some 20, some 0, none]))) (.inr (0, 8, none))) 18 (.inl (1, [some 19, some 20, some 21, none])))
set_option maxHeartbeats 1000000 in
set_option maxRecDepth 100000 in
theorem c_X1_18 (l : Launch) (b : Nat) (g : Nat → Nat) (dC : Nat → ClassId) (dI : Nat → Nat → Nat) (dA : Nat → ClassId) (sh : Nat → Option sw_Sh) (σ : sw_St) (hs : sh 18 = some (.inl (1, [some 0, some 0, some 0, none]))) (hz : ∀ k, 18 < k → σ k = fun _ => 0) : sw_MC l yX1_init cX1_init 1 1 3 24 40 b g dC dI dA (18, sh) σ [sw_rv (sw_ab b g) 18] (z_X1_18 sh) σ := by
  refine sw_mkC 0 (by decide) rfl dk_X1_init rfl (sw_c1_all _ ⟨sw_rv_cat _ _, trivial⟩) (fun p e R M C => ?_)
  refine tc_aload_n C 0 rfl rfl ?_
  refine tc_objInit C 1 rfl (by decide) q_160 q_115 q_116 (by decide) (Nat.le_of_ble_eq_true rfl) ?_
  refine tc_aload_n C 2 rfl rfl ?_
  refine tc_bipush C 3 rfl 8 (by decide) ?_
  refine tc_newi C 4 rfl 8 q_148 ⟨by decide, by decide⟩ (by decide) rfl 19 rfl (by decide) (hz 19 (by decide)) (by decide) (by decide) ?_
  refine tc_cs (cs' := 1) (sl' := 8) rfl rfl ?_
  refine tc_putR C 5 rfl ff_X1_9 (fun _ => ⟨rfl, rfl⟩) (by decide) (Nat.le_of_ble_eq_true rfl) (Nat.le_of_ble_eq_true rfl) hs rfl (by decide) [some 19, some 0, some 0, none] rfl ?_
  refine tc_aload_n C 6 rfl rfl ?_
  refine tc_bipush C 7 rfl 8 (by decide) ?_
  refine tc_newi C 8 rfl 8 q_148 ⟨by decide, by decide⟩ (by decide) rfl 20 rfl (by decide) (hz 20 (by decide)) (by decide) (by decide) ?_
  refine tc_cs (cs' := 2) (sl' := 16) rfl rfl ?_
  refine tc_putR C 9 rfl ff_X1_15 (fun _ => ⟨rfl, rfl⟩) (by decide) (Nat.le_of_ble_eq_true rfl) (Nat.le_of_ble_eq_true rfl) rfl rfl (by decide) [some 19, some 20, some 0, none] rfl ?_
  refine tc_aload_n C 10 rfl rfl ?_
  refine tc_bipush C 11 rfl 8 (by decide) ?_
  refine tc_newi C 12 rfl 8 q_148 ⟨by decide, by decide⟩ (by decide) rfl 21 rfl (by decide) (hz 21 (by decide)) (by decide) (by decide) ?_
  refine tc_cs (cs' := 3) (sl' := 24) rfl rfl ?_
  refine tc_putR C 13 rfl ff_X1_18 (fun _ => ⟨rfl, rfl⟩) (by decide) (Nat.le_of_ble_eq_true rfl) (Nat.le_of_ble_eq_true rfl) rfl rfl (by decide) [some 19, some 20, some 21, none] rfl ?_
  exact tc_vret C 14 rfl
def z_X4_23 (sh : Nat → Option sw_Sh) : sw_Z := (23, sh)
def g_X4_23 (σ : sw_St) : sw_St := (sw_up σ 23 0 1)
set_option maxHeartbeats 1000000 in
set_option maxRecDepth 100000 in
theorem c_X4_23 (l : Launch) (b : Nat) (g : Nat → Nat) (dC : Nat → ClassId) (dI : Nat → Nat → Nat) (dA : Nat → ClassId) (sh : Nat → Option sw_Sh) (σ : sw_St) (hs : sh 23 = some (.inl (4, [none, none, none, none, none, none, none, none, none, none, none]))) : sw_MC l yX4_init cX4_init 2 1 0 0 40 b g dC dI dA (23, sh) σ [sw_rv (sw_ab b g) 23, .int 1] (z_X4_23 sh) (g_X4_23 σ) := by
  refine sw_mkC 0 (by decide) rfl dk_X4_init rfl (sw_c1_all _ ⟨sw_rv_cat _ _, rfl, trivial⟩) (fun p e R M C => ?_)
  refine tc_aload_n C 0 rfl rfl ?_
  refine tc_objInit C 1 rfl (by decide) q_183 q_115 q_116 (by decide) (Nat.le_of_ble_eq_true rfl) ?_
  refine tc_aload_n C 2 rfl rfl ?_
  refine tc_iload_n C 3 rfl rfl ?_
  refine tc_putI C 4 rfl ff_X4_7 (by decide) (Nat.le_of_ble_eq_true rfl) (Nat.le_of_ble_eq_true rfl) hs rfl ?_
  exact tc_vret C 5 rfl
def z_X4_24 (sh : Nat → Option sw_Sh) : sw_Z := (24, sh)
def g_X4_24 (σ : sw_St) : sw_St := (sw_up σ 24 0 1)
set_option maxHeartbeats 1000000 in
set_option maxRecDepth 100000 in
theorem c_X4_24 (l : Launch) (b : Nat) (g : Nat → Nat) (dC : Nat → ClassId) (dI : Nat → Nat → Nat) (dA : Nat → ClassId) (sh : Nat → Option sw_Sh) (σ : sw_St) (hs : sh 24 = some (.inl (4, [none, none, none, none, none, none, none, none, none, none, none]))) : sw_MC l yX4_init cX4_init 2 1 0 0 40 b g dC dI dA (24, sh) σ [sw_rv (sw_ab b g) 24, .int 1] (z_X4_24 sh) (g_X4_24 σ) := by
  refine sw_mkC 0 (by decide) rfl dk_X4_init rfl (sw_c1_all _ ⟨sw_rv_cat _ _, rfl, trivial⟩) (fun p e R M C => ?_)
  refine tc_aload_n C 0 rfl rfl ?_
  refine tc_objInit C 1 rfl (by decide) q_183 q_115 q_116 (by decide) (Nat.le_of_ble_eq_true rfl) ?_
  refine tc_aload_n C 2 rfl rfl ?_
  refine tc_iload_n C 3 rfl rfl ?_
  refine tc_putI C 4 rfl ff_X4_7 (by decide) (Nat.le_of_ble_eq_true rfl) (Nat.le_of_ble_eq_true rfl) hs rfl ?_
  exact tc_vret C 5 rfl
def z_X4_25 (sh : Nat → Option sw_Sh) : sw_Z := (25, sh)
def g_X4_25 (σ : sw_St) : sw_St := (sw_up σ 25 0 1)
set_option maxHeartbeats 1000000 in
set_option maxRecDepth 100000 in
theorem c_X4_25 (l : Launch) (b : Nat) (g : Nat → Nat) (dC : Nat → ClassId) (dI : Nat → Nat → Nat) (dA : Nat → ClassId) (sh : Nat → Option sw_Sh) (σ : sw_St) (hs : sh 25 = some (.inl (4, [none, none, none, none, none, none, none, none, none, none, none]))) : sw_MC l yX4_init cX4_init 2 1 0 0 40 b g dC dI dA (25, sh) σ [sw_rv (sw_ab b g) 25, .int 1] (z_X4_25 sh) (g_X4_25 σ) := by
  refine sw_mkC 0 (by decide) rfl dk_X4_init rfl (sw_c1_all _ ⟨sw_rv_cat _ _, rfl, trivial⟩) (fun p e R M C => ?_)
  refine tc_aload_n C 0 rfl rfl ?_
  refine tc_objInit C 1 rfl (by decide) q_183 q_115 q_116 (by decide) (Nat.le_of_ble_eq_true rfl) ?_
  refine tc_aload_n C 2 rfl rfl ?_
  refine tc_iload_n C 3 rfl rfl ?_
  refine tc_putI C 4 rfl ff_X4_7 (by decide) (Nat.le_of_ble_eq_true rfl) (Nat.le_of_ble_eq_true rfl) hs rfl ?_
  exact tc_vret C 5 rfl
def z_X2_17 (sh : Nat → Option sw_Sh) : sw_Z := (sw_zu (z_X4_25 (sw_zn (sw_zu (z_X4_24 (sw_zn (sw_zu (z_X4_23 (sw_zn (sw_zu (sw_zn (sw_zu (z_X1_18 (sw_zn (17, sh) (.inl (1, [some 0, some 0, some 0, none]))).2) 17 (.inl (2, [some 18, some 0, some 0, none]))) (.inr (3, 2, some [0, 0]))) 17 (.inl (2, [some 18, some 0, some 22, none]))) (.inl (4, [none, none, none, none, none, none, none, none, none, none, none]))).2) 17 (.inl (2, [some 18, some 23, some 22, none]))) (.inl (4, [none, none, none, none, none, none, none, none, none, none, none]))).2) 22 (.inr (3, 2, some [24, 0]))) (.inl (4, [none, none, none, none, none, none, none, none, none, none, none]))).2) 22 (.inr (3, 2, some [24, 25])))
def g_X2_17 (σ : sw_St) : sw_St := (g_X4_25 (g_X4_24 (g_X4_23 σ)))
set_option maxHeartbeats 1000000 in
set_option maxRecDepth 100000 in
theorem c_X2_17 (l : Launch) (b : Nat) (g : Nat → Nat) (dC : Nat → ClassId) (dI : Nat → Nat → Nat) (dA : Nat → ClassId) (sh : Nat → Option sw_Sh) (σ : sw_St) (hs : sh 17 = some (.inl (2, [some 0, some 0, some 0, none]))) (hz : ∀ k, 17 < k → σ k = fun _ => 0) : sw_MC l yX2_init cX2_init 3 2 8 63 80 b g dC dI dA (17, sh) σ [sw_rv (sw_ab b g) 17, .int 1] (z_X2_17 sh) (g_X2_17 σ) := by
  refine sw_mkC 1 (by decide) rfl dk_X2_init rfl (sw_c1_all _ ⟨sw_rv_cat _ _, rfl, trivial⟩) (fun p e R M C => ?_)
  refine tc_aload_n C 0 rfl rfl ?_
  refine tc_objInit C 1 rfl (by decide) q_154 q_115 q_116 (by decide) (Nat.le_of_ble_eq_true rfl) ?_
  refine tc_aload_n C 2 rfl rfl ?_
  refine tc_new (ci := 1) (ty := tyX1) C 3 rfl [some 0, some 0, some 0, none] rfl in_X1 tyX1_ok q_155 q_156 q_100 df_X1 rfl 18 rfl (by decide) (hz 18 (by decide)) (by decide) (by decide) ?_
  refine tc_cs (cs' := 1) (sl' := 4) rfl rfl ?_
  refine tc_dup C 4 rfl ?_
  refine tc_callI (k := 18) C 5 rfl [] [sw_r _ 18, sw_r _ 17] mi_X2_11 q_158 rfl rfl (Nat.le_of_ble_eq_true rfl) (by decide) rfl (Nat.le_of_ble_eq_true rfl) (Nat.le_of_ble_eq_true rfl) ⟨by decide, by decide, by decide, by decide⟩ (c_X1_18 _ b g _ _ _ _ _ rfl (fun k hk => hz k (by omega))) rfl ?_
  refine tc_cs (cs' := 4) (sl' := 28) rfl rfl ?_
  refine tc_putR C 6 rfl ff_X2_12 (fun _ => ⟨rfl, rfl⟩) (by decide) (Nat.le_of_ble_eq_true rfl) (Nat.le_of_ble_eq_true rfl) hs rfl (by decide) [some 18, some 0, some 0, none] rfl ?_
  refine tc_aload_n C 7 rfl rfl ?_
  refine tc_iconst C 8 rfl 2 (by decide) ?_
  refine tc_newq (ai := 3) C 9 rfl 2 [0, 0] rfl q_178 C.ao.2 rfl ⟨by decide, by decide⟩ (by decide) rfl 22 rfl (by decide) (by decide) (by decide) ?_
  refine tc_cs (cs' := 5) (sl' := 30) rfl rfl ?_
  refine tc_putR C 10 rfl ff_X2_20 (fun _ => ⟨rfl, rfl⟩) (by decide) (Nat.le_of_ble_eq_true rfl) (Nat.le_of_ble_eq_true rfl) rfl rfl (by decide) [some 18, some 0, some 22, none] rfl ?_
  refine tc_aload_n C 11 rfl rfl ?_
  refine tc_new (ci := 4) (ty := tyX4) C 12 rfl [none, none, none, none, none, none, none, none, none, none, none] rfl in_X4 tyX4_ok q_178 q_179 q_101 df_X4 rfl 23 rfl (by decide) (hz 23 (by decide)) (by decide) (by decide) ?_
  refine tc_cs (cs' := 6) (sl' := 41) rfl rfl ?_
  refine tc_dup C 13 rfl ?_
  refine tc_iload_n C 14 rfl rfl ?_
  refine tc_callI (k := 23) C 15 rfl [.int 1] [sw_r _ 23, sw_r _ 17] mi_X2_24 q_181 rfl rfl (Nat.le_of_ble_eq_true rfl) (by decide) rfl (Nat.le_of_ble_eq_true rfl) (Nat.le_of_ble_eq_true rfl) ⟨by decide, by decide, by decide, by decide⟩ (c_X4_23 _ b g _ _ _ _ _ rfl) rfl ?_
  refine tc_cs (cs' := 6) (sl' := 41) rfl rfl ?_
  refine tc_putR C 16 rfl ff_X2_27 (fun _ => ⟨rfl, rfl⟩) (by decide) (Nat.le_of_ble_eq_true rfl) (Nat.le_of_ble_eq_true rfl) rfl rfl (by decide) [some 18, some 23, some 22, none] rfl ?_
  refine tc_iconst C 17 rfl 0 (by decide) ?_
  refine tc_istore_n C 18 rfl (Nat.le_of_ble_eq_true rfl) (Or.inr (Or.inr (Or.inl ⟨_, rfl⟩))) ?_
  refine tc_iload_n C 19 rfl rfl ?_
  refine tc_iconst C 20 rfl 2 (by decide) ?_
  refine tc_geF C 21 rfl 62 (by decide) (by decide) ?_
  refine tc_aload_n C 22 rfl rfl ?_
  refine tc_getR C 23 rfl fl_X2_20 (by decide) (Nat.le_of_ble_eq_true rfl) rfl rfl ?_
  refine tc_iload_n C 24 rfl rfl ?_
  refine tc_new (ci := 4) (ty := tyX4) C 25 rfl [none, none, none, none, none, none, none, none, none, none, none] rfl in_X4 tyX4_ok q_178 q_179 q_101 df_X4 rfl 24 rfl (by decide) (hz 24 (by decide)) (by decide) (by decide) ?_
  refine tc_cs (cs' := 7) (sl' := 52) rfl rfl ?_
  refine tc_dup C 26 rfl ?_
  refine tc_iload_n C 27 rfl rfl ?_
  refine tc_callI (k := 24) C 28 rfl [.int 1] [sw_r _ 24, .int 0, sw_r _ 22] mi_X2_24 q_181 rfl rfl (Nat.le_of_ble_eq_true rfl) (by decide) rfl (Nat.le_of_ble_eq_true rfl) (Nat.le_of_ble_eq_true rfl) ⟨by decide, by decide, by decide, by decide⟩ (c_X4_24 _ b g _ _ _ _ _ rfl) rfl ?_
  refine tc_cs (cs' := 7) (sl' := 52) rfl rfl ?_
  refine tc_aast C 29 rfl (by decide) (Nat.le_of_ble_eq_true rfl) (Nat.le_of_ble_eq_true rfl) rfl rfl (by decide) (by decide) (Nat.le_of_ble_eq_true rfl) rfl rfl (by decide) [24, 0] rfl ?_
  refine tc_iinc C 30 rfl 1 (by decide) rfl (Nat.le_of_ble_eq_true rfl) (Or.inr (Or.inr (Or.inl ⟨_, rfl⟩))) ?_
  refine tc_goto C 31 rfl 37 (by decide) ?_
  refine tc_iload_n C 19 rfl rfl ?_
  refine tc_iconst C 20 rfl 2 (by decide) ?_
  refine tc_geF C 21 rfl 62 (by decide) (by decide) ?_
  refine tc_aload_n C 22 rfl rfl ?_
  refine tc_getR C 23 rfl fl_X2_20 (by decide) (Nat.le_of_ble_eq_true rfl) rfl rfl ?_
  refine tc_iload_n C 24 rfl rfl ?_
  refine tc_new (ci := 4) (ty := tyX4) C 25 rfl [none, none, none, none, none, none, none, none, none, none, none] rfl in_X4 tyX4_ok q_178 q_179 q_101 df_X4 rfl 25 rfl (by decide) (hz 25 (by decide)) (by decide) (by decide) ?_
  refine tc_cs (cs' := 8) (sl' := 63) rfl rfl ?_
  refine tc_dup C 26 rfl ?_
  refine tc_iload_n C 27 rfl rfl ?_
  refine tc_callI (k := 25) C 28 rfl [.int 1] [sw_r _ 25, .int 1, sw_r _ 22] mi_X2_24 q_181 rfl rfl (Nat.le_of_ble_eq_true rfl) (by decide) rfl (Nat.le_of_ble_eq_true rfl) (Nat.le_of_ble_eq_true rfl) ⟨by decide, by decide, by decide, by decide⟩ (c_X4_25 _ b g _ _ _ _ _ rfl) rfl ?_
  refine tc_cs (cs' := 8) (sl' := 63) rfl rfl ?_
  refine tc_aast C 29 rfl (by decide) (Nat.le_of_ble_eq_true rfl) (Nat.le_of_ble_eq_true rfl) rfl rfl (by decide) (by decide) (Nat.le_of_ble_eq_true rfl) rfl rfl (by decide) [24, 25] rfl ?_
  refine tc_iinc C 30 rfl 2 (by decide) rfl (Nat.le_of_ble_eq_true rfl) (Or.inr (Or.inr (Or.inl ⟨_, rfl⟩))) ?_
  refine tc_goto C 31 rfl 37 (by decide) ?_
  refine tc_iload_n C 19 rfl rfl ?_
  refine tc_iconst C 20 rfl 2 (by decide) ?_
  refine tc_geT C 21 rfl 62 (by decide) (by decide) ?_
  exact tc_vret C 32 rfl
theorem gz_X2_17 {σ : sw_St} (hz : ∀ k, 17 < k → σ k = fun _ => 0) : ∀ k, 25 < k → g_X2_17 σ k = fun _ => 0 := by
  intro k hk
  unfold g_X2_17 g_X4_23 g_X4_24 g_X4_25
  simp only [sw_up]
  rw [if_neg (by omega), if_neg (by omega), if_neg (by omega)]
  exact hz k (by omega)
def z_X1_27 (sh : Nat → Option sw_Sh) : sw_Z := (sw_zu (sw_zn (sw_zu (sw_zn (sw_zu (sw_zn (27, sh) (.inr (0, 8, none))) 27 (.inl (1, [some 28, some 0, some 0, none]))) (.inr (0, 8, none))) 27 (.inl (1, [some 28, some 29, some 0, none]))) (.inr (0, 8, none))) 27 (.inl (1, [some 28, some 29, some 30, none])))
set_option maxHeartbeats 1000000 in
set_option maxRecDepth 100000 in
theorem c_X1_27 (l : Launch) (b : Nat) (g : Nat → Nat) (dC : Nat → ClassId) (dI : Nat → Nat → Nat) (dA : Nat → ClassId) (sh : Nat → Option sw_Sh) (σ : sw_St) (hs : sh 27 = some (.inl (1, [some 0, some 0, some 0, none]))) (hz : ∀ k, 27 < k → σ k = fun _ => 0) : sw_MC l yX1_init cX1_init 1 1 3 24 40 b g dC dI dA (27, sh) σ [sw_rv (sw_ab b g) 27] (z_X1_27 sh) σ := by
  refine sw_mkC 0 (by decide) rfl dk_X1_init rfl (sw_c1_all _ ⟨sw_rv_cat _ _, trivial⟩) (fun p e R M C => ?_)
  refine tc_aload_n C 0 rfl rfl ?_
  refine tc_objInit C 1 rfl (by decide) q_160 q_115 q_116 (by decide) (Nat.le_of_ble_eq_true rfl) ?_
  refine tc_aload_n C 2 rfl rfl ?_
  refine tc_bipush C 3 rfl 8 (by decide) ?_
  refine tc_newi C 4 rfl 8 q_148 ⟨by decide, by decide⟩ (by decide) rfl 28 rfl (by decide) (hz 28 (by decide)) (by decide) (by decide) ?_
  refine tc_cs (cs' := 1) (sl' := 8) rfl rfl ?_
  refine tc_putR C 5 rfl ff_X1_9 (fun _ => ⟨rfl, rfl⟩) (by decide) (Nat.le_of_ble_eq_true rfl) (Nat.le_of_ble_eq_true rfl) hs rfl (by decide) [some 28, some 0, some 0, none] rfl ?_
  refine tc_aload_n C 6 rfl rfl ?_
  refine tc_bipush C 7 rfl 8 (by decide) ?_
  refine tc_newi C 8 rfl 8 q_148 ⟨by decide, by decide⟩ (by decide) rfl 29 rfl (by decide) (hz 29 (by decide)) (by decide) (by decide) ?_
  refine tc_cs (cs' := 2) (sl' := 16) rfl rfl ?_
  refine tc_putR C 9 rfl ff_X1_15 (fun _ => ⟨rfl, rfl⟩) (by decide) (Nat.le_of_ble_eq_true rfl) (Nat.le_of_ble_eq_true rfl) rfl rfl (by decide) [some 28, some 29, some 0, none] rfl ?_
  refine tc_aload_n C 10 rfl rfl ?_
  refine tc_bipush C 11 rfl 8 (by decide) ?_
  refine tc_newi C 12 rfl 8 q_148 ⟨by decide, by decide⟩ (by decide) rfl 30 rfl (by decide) (hz 30 (by decide)) (by decide) (by decide) ?_
  refine tc_cs (cs' := 3) (sl' := 24) rfl rfl ?_
  refine tc_putR C 13 rfl ff_X1_18 (fun _ => ⟨rfl, rfl⟩) (by decide) (Nat.le_of_ble_eq_true rfl) (Nat.le_of_ble_eq_true rfl) rfl rfl (by decide) [some 28, some 29, some 30, none] rfl ?_
  exact tc_vret C 14 rfl
def z_X4_32 (sh : Nat → Option sw_Sh) : sw_Z := (32, sh)
def g_X4_32 (σ : sw_St) : sw_St := (sw_up σ 32 0 2)
set_option maxHeartbeats 1000000 in
set_option maxRecDepth 100000 in
theorem c_X4_32 (l : Launch) (b : Nat) (g : Nat → Nat) (dC : Nat → ClassId) (dI : Nat → Nat → Nat) (dA : Nat → ClassId) (sh : Nat → Option sw_Sh) (σ : sw_St) (hs : sh 32 = some (.inl (4, [none, none, none, none, none, none, none, none, none, none, none]))) : sw_MC l yX4_init cX4_init 2 1 0 0 40 b g dC dI dA (32, sh) σ [sw_rv (sw_ab b g) 32, .int 2] (z_X4_32 sh) (g_X4_32 σ) := by
  refine sw_mkC 0 (by decide) rfl dk_X4_init rfl (sw_c1_all _ ⟨sw_rv_cat _ _, rfl, trivial⟩) (fun p e R M C => ?_)
  refine tc_aload_n C 0 rfl rfl ?_
  refine tc_objInit C 1 rfl (by decide) q_183 q_115 q_116 (by decide) (Nat.le_of_ble_eq_true rfl) ?_
  refine tc_aload_n C 2 rfl rfl ?_
  refine tc_iload_n C 3 rfl rfl ?_
  refine tc_putI C 4 rfl ff_X4_7 (by decide) (Nat.le_of_ble_eq_true rfl) (Nat.le_of_ble_eq_true rfl) hs rfl ?_
  exact tc_vret C 5 rfl
def z_X4_33 (sh : Nat → Option sw_Sh) : sw_Z := (33, sh)
def g_X4_33 (σ : sw_St) : sw_St := (sw_up σ 33 0 2)
set_option maxHeartbeats 1000000 in
set_option maxRecDepth 100000 in
theorem c_X4_33 (l : Launch) (b : Nat) (g : Nat → Nat) (dC : Nat → ClassId) (dI : Nat → Nat → Nat) (dA : Nat → ClassId) (sh : Nat → Option sw_Sh) (σ : sw_St) (hs : sh 33 = some (.inl (4, [none, none, none, none, none, none, none, none, none, none, none]))) : sw_MC l yX4_init cX4_init 2 1 0 0 40 b g dC dI dA (33, sh) σ [sw_rv (sw_ab b g) 33, .int 2] (z_X4_33 sh) (g_X4_33 σ) := by
  refine sw_mkC 0 (by decide) rfl dk_X4_init rfl (sw_c1_all _ ⟨sw_rv_cat _ _, rfl, trivial⟩) (fun p e R M C => ?_)
  refine tc_aload_n C 0 rfl rfl ?_
  refine tc_objInit C 1 rfl (by decide) q_183 q_115 q_116 (by decide) (Nat.le_of_ble_eq_true rfl) ?_
  refine tc_aload_n C 2 rfl rfl ?_
  refine tc_iload_n C 3 rfl rfl ?_
  refine tc_putI C 4 rfl ff_X4_7 (by decide) (Nat.le_of_ble_eq_true rfl) (Nat.le_of_ble_eq_true rfl) hs rfl ?_
  exact tc_vret C 5 rfl
def z_X4_34 (sh : Nat → Option sw_Sh) : sw_Z := (34, sh)
def g_X4_34 (σ : sw_St) : sw_St := (sw_up σ 34 0 2)
set_option maxHeartbeats 1000000 in
set_option maxRecDepth 100000 in
theorem c_X4_34 (l : Launch) (b : Nat) (g : Nat → Nat) (dC : Nat → ClassId) (dI : Nat → Nat → Nat) (dA : Nat → ClassId) (sh : Nat → Option sw_Sh) (σ : sw_St) (hs : sh 34 = some (.inl (4, [none, none, none, none, none, none, none, none, none, none, none]))) : sw_MC l yX4_init cX4_init 2 1 0 0 40 b g dC dI dA (34, sh) σ [sw_rv (sw_ab b g) 34, .int 2] (z_X4_34 sh) (g_X4_34 σ) := by
  refine sw_mkC 0 (by decide) rfl dk_X4_init rfl (sw_c1_all _ ⟨sw_rv_cat _ _, rfl, trivial⟩) (fun p e R M C => ?_)
  refine tc_aload_n C 0 rfl rfl ?_
  refine tc_objInit C 1 rfl (by decide) q_183 q_115 q_116 (by decide) (Nat.le_of_ble_eq_true rfl) ?_
  refine tc_aload_n C 2 rfl rfl ?_
  refine tc_iload_n C 3 rfl rfl ?_
  refine tc_putI C 4 rfl ff_X4_7 (by decide) (Nat.le_of_ble_eq_true rfl) (Nat.le_of_ble_eq_true rfl) hs rfl ?_
  exact tc_vret C 5 rfl
def z_X2_26 (sh : Nat → Option sw_Sh) : sw_Z := (sw_zu (z_X4_34 (sw_zn (sw_zu (z_X4_33 (sw_zn (sw_zu (z_X4_32 (sw_zn (sw_zu (sw_zn (sw_zu (z_X1_27 (sw_zn (26, sh) (.inl (1, [some 0, some 0, some 0, none]))).2) 26 (.inl (2, [some 27, some 0, some 0, none]))) (.inr (3, 2, some [0, 0]))) 26 (.inl (2, [some 27, some 0, some 31, none]))) (.inl (4, [none, none, none, none, none, none, none, none, none, none, none]))).2) 26 (.inl (2, [some 27, some 32, some 31, none]))) (.inl (4, [none, none, none, none, none, none, none, none, none, none, none]))).2) 31 (.inr (3, 2, some [33, 0]))) (.inl (4, [none, none, none, none, none, none, none, none, none, none, none]))).2) 31 (.inr (3, 2, some [33, 34])))
def g_X2_26 (σ : sw_St) : sw_St := (g_X4_34 (g_X4_33 (g_X4_32 σ)))
set_option maxHeartbeats 1000000 in
set_option maxRecDepth 100000 in
theorem c_X2_26 (l : Launch) (b : Nat) (g : Nat → Nat) (dC : Nat → ClassId) (dI : Nat → Nat → Nat) (dA : Nat → ClassId) (sh : Nat → Option sw_Sh) (σ : sw_St) (hs : sh 26 = some (.inl (2, [some 0, some 0, some 0, none]))) (hz : ∀ k, 26 < k → σ k = fun _ => 0) : sw_MC l yX2_init cX2_init 3 2 8 63 80 b g dC dI dA (26, sh) σ [sw_rv (sw_ab b g) 26, .int 2] (z_X2_26 sh) (g_X2_26 σ) := by
  refine sw_mkC 1 (by decide) rfl dk_X2_init rfl (sw_c1_all _ ⟨sw_rv_cat _ _, rfl, trivial⟩) (fun p e R M C => ?_)
  refine tc_aload_n C 0 rfl rfl ?_
  refine tc_objInit C 1 rfl (by decide) q_154 q_115 q_116 (by decide) (Nat.le_of_ble_eq_true rfl) ?_
  refine tc_aload_n C 2 rfl rfl ?_
  refine tc_new (ci := 1) (ty := tyX1) C 3 rfl [some 0, some 0, some 0, none] rfl in_X1 tyX1_ok q_155 q_156 q_100 df_X1 rfl 27 rfl (by decide) (hz 27 (by decide)) (by decide) (by decide) ?_
  refine tc_cs (cs' := 1) (sl' := 4) rfl rfl ?_
  refine tc_dup C 4 rfl ?_
  refine tc_callI (k := 27) C 5 rfl [] [sw_r _ 27, sw_r _ 26] mi_X2_11 q_158 rfl rfl (Nat.le_of_ble_eq_true rfl) (by decide) rfl (Nat.le_of_ble_eq_true rfl) (Nat.le_of_ble_eq_true rfl) ⟨by decide, by decide, by decide, by decide⟩ (c_X1_27 _ b g _ _ _ _ _ rfl (fun k hk => hz k (by omega))) rfl ?_
  refine tc_cs (cs' := 4) (sl' := 28) rfl rfl ?_
  refine tc_putR C 6 rfl ff_X2_12 (fun _ => ⟨rfl, rfl⟩) (by decide) (Nat.le_of_ble_eq_true rfl) (Nat.le_of_ble_eq_true rfl) hs rfl (by decide) [some 27, some 0, some 0, none] rfl ?_
  refine tc_aload_n C 7 rfl rfl ?_
  refine tc_iconst C 8 rfl 2 (by decide) ?_
  refine tc_newq (ai := 3) C 9 rfl 2 [0, 0] rfl q_178 C.ao.2 rfl ⟨by decide, by decide⟩ (by decide) rfl 31 rfl (by decide) (by decide) (by decide) ?_
  refine tc_cs (cs' := 5) (sl' := 30) rfl rfl ?_
  refine tc_putR C 10 rfl ff_X2_20 (fun _ => ⟨rfl, rfl⟩) (by decide) (Nat.le_of_ble_eq_true rfl) (Nat.le_of_ble_eq_true rfl) rfl rfl (by decide) [some 27, some 0, some 31, none] rfl ?_
  refine tc_aload_n C 11 rfl rfl ?_
  refine tc_new (ci := 4) (ty := tyX4) C 12 rfl [none, none, none, none, none, none, none, none, none, none, none] rfl in_X4 tyX4_ok q_178 q_179 q_101 df_X4 rfl 32 rfl (by decide) (hz 32 (by decide)) (by decide) (by decide) ?_
  refine tc_cs (cs' := 6) (sl' := 41) rfl rfl ?_
  refine tc_dup C 13 rfl ?_
  refine tc_iload_n C 14 rfl rfl ?_
  refine tc_callI (k := 32) C 15 rfl [.int 2] [sw_r _ 32, sw_r _ 26] mi_X2_24 q_181 rfl rfl (Nat.le_of_ble_eq_true rfl) (by decide) rfl (Nat.le_of_ble_eq_true rfl) (Nat.le_of_ble_eq_true rfl) ⟨by decide, by decide, by decide, by decide⟩ (c_X4_32 _ b g _ _ _ _ _ rfl) rfl ?_
  refine tc_cs (cs' := 6) (sl' := 41) rfl rfl ?_
  refine tc_putR C 16 rfl ff_X2_27 (fun _ => ⟨rfl, rfl⟩) (by decide) (Nat.le_of_ble_eq_true rfl) (Nat.le_of_ble_eq_true rfl) rfl rfl (by decide) [some 27, some 32, some 31, none] rfl ?_
  refine tc_iconst C 17 rfl 0 (by decide) ?_
  refine tc_istore_n C 18 rfl (Nat.le_of_ble_eq_true rfl) (Or.inr (Or.inr (Or.inl ⟨_, rfl⟩))) ?_
  refine tc_iload_n C 19 rfl rfl ?_
  refine tc_iconst C 20 rfl 2 (by decide) ?_
  refine tc_geF C 21 rfl 62 (by decide) (by decide) ?_
  refine tc_aload_n C 22 rfl rfl ?_
  refine tc_getR C 23 rfl fl_X2_20 (by decide) (Nat.le_of_ble_eq_true rfl) rfl rfl ?_
  refine tc_iload_n C 24 rfl rfl ?_
  refine tc_new (ci := 4) (ty := tyX4) C 25 rfl [none, none, none, none, none, none, none, none, none, none, none] rfl in_X4 tyX4_ok q_178 q_179 q_101 df_X4 rfl 33 rfl (by decide) (hz 33 (by decide)) (by decide) (by decide) ?_
  refine tc_cs (cs' := 7) (sl' := 52) rfl rfl ?_
  refine tc_dup C 26 rfl ?_
  refine tc_iload_n C 27 rfl rfl ?_
  refine tc_callI (k := 33) C 28 rfl [.int 2] [sw_r _ 33, .int 0, sw_r _ 31] mi_X2_24 q_181 rfl rfl (Nat.le_of_ble_eq_true rfl) (by decide) rfl (Nat.le_of_ble_eq_true rfl) (Nat.le_of_ble_eq_true rfl) ⟨by decide, by decide, by decide, by decide⟩ (c_X4_33 _ b g _ _ _ _ _ rfl) rfl ?_
  refine tc_cs (cs' := 7) (sl' := 52) rfl rfl ?_
  refine tc_aast C 29 rfl (by decide) (Nat.le_of_ble_eq_true rfl) (Nat.le_of_ble_eq_true rfl) rfl rfl (by decide) (by decide) (Nat.le_of_ble_eq_true rfl) rfl rfl (by decide) [33, 0] rfl ?_
  refine tc_iinc C 30 rfl 1 (by decide) rfl (Nat.le_of_ble_eq_true rfl) (Or.inr (Or.inr (Or.inl ⟨_, rfl⟩))) ?_
  refine tc_goto C 31 rfl 37 (by decide) ?_
  refine tc_iload_n C 19 rfl rfl ?_
  refine tc_iconst C 20 rfl 2 (by decide) ?_
  refine tc_geF C 21 rfl 62 (by decide) (by decide) ?_
  refine tc_aload_n C 22 rfl rfl ?_
  refine tc_getR C 23 rfl fl_X2_20 (by decide) (Nat.le_of_ble_eq_true rfl) rfl rfl ?_
  refine tc_iload_n C 24 rfl rfl ?_
  refine tc_new (ci := 4) (ty := tyX4) C 25 rfl [none, none, none, none, none, none, none, none, none, none, none] rfl in_X4 tyX4_ok q_178 q_179 q_101 df_X4 rfl 34 rfl (by decide) (hz 34 (by decide)) (by decide) (by decide) ?_
  refine tc_cs (cs' := 8) (sl' := 63) rfl rfl ?_
  refine tc_dup C 26 rfl ?_
  refine tc_iload_n C 27 rfl rfl ?_
  refine tc_callI (k := 34) C 28 rfl [.int 2] [sw_r _ 34, .int 1, sw_r _ 31] mi_X2_24 q_181 rfl rfl (Nat.le_of_ble_eq_true rfl) (by decide) rfl (Nat.le_of_ble_eq_true rfl) (Nat.le_of_ble_eq_true rfl) ⟨by decide, by decide, by decide, by decide⟩ (c_X4_34 _ b g _ _ _ _ _ rfl) rfl ?_
  refine tc_cs (cs' := 8) (sl' := 63) rfl rfl ?_
  refine tc_aast C 29 rfl (by decide) (Nat.le_of_ble_eq_true rfl) (Nat.le_of_ble_eq_true rfl) rfl rfl (by decide) (by decide) (Nat.le_of_ble_eq_true rfl) rfl rfl (by decide) [33, 34] rfl ?_
  refine tc_iinc C 30 rfl 2 (by decide) rfl (Nat.le_of_ble_eq_true rfl) (Or.inr (Or.inr (Or.inl ⟨_, rfl⟩))) ?_
  refine tc_goto C 31 rfl 37 (by decide) ?_
  refine tc_iload_n C 19 rfl rfl ?_
  refine tc_iconst C 20 rfl 2 (by decide) ?_
  refine tc_geT C 21 rfl 62 (by decide) (by decide) ?_
  exact tc_vret C 32 rfl
theorem gz_X2_26 {σ : sw_St} (hz : ∀ k, 26 < k → σ k = fun _ => 0) : ∀ k, 34 < k → g_X2_26 σ k = fun _ => 0 := by
  intro k hk
  unfold g_X2_26 g_X4_32 g_X4_33 g_X4_34
  simp only [sw_up]
  rw [if_neg (by omega), if_neg (by omega), if_neg (by omega)]
  exact hz k (by omega)
def z_X1_36 (sh : Nat → Option sw_Sh) : sw_Z := (sw_zu (sw_zn (sw_zu (sw_zn (sw_zu (sw_zn (36, sh) (.inr (0, 8, none))) 36 (.inl (1, [some 37, some 0, some 0, none]))) (.inr (0, 8, none))) 36 (.inl (1, [some 37, some 38, some 0, none]))) (.inr (0, 8, none))) 36 (.inl (1, [some 37, some 38, some 39, none])))
set_option maxHeartbeats 1000000 in
set_option maxRecDepth 100000 in
theorem c_X1_36 (l : Launch) (b : Nat) (g : Nat → Nat) (dC : Nat → ClassId) (dI : Nat → Nat → Nat) (dA : Nat → ClassId) (sh : Nat → Option sw_Sh) (σ : sw_St) (hs : sh 36 = some (.inl (1, [some 0, some 0, some 0, none]))) (hz : ∀ k, 36 < k → σ k = fun _ => 0) : sw_MC l yX1_init cX1_init 1 1 3 24 40 b g dC dI dA (36, sh) σ [sw_rv (sw_ab b g) 36] (z_X1_36 sh) σ := by
  refine sw_mkC 0 (by decide) rfl dk_X1_init rfl (sw_c1_all _ ⟨sw_rv_cat _ _, trivial⟩) (fun p e R M C => ?_)
  refine tc_aload_n C 0 rfl rfl ?_
  refine tc_objInit C 1 rfl (by decide) q_160 q_115 q_116 (by decide) (Nat.le_of_ble_eq_true rfl) ?_
  refine tc_aload_n C 2 rfl rfl ?_
  refine tc_bipush C 3 rfl 8 (by decide) ?_
  refine tc_newi C 4 rfl 8 q_148 ⟨by decide, by decide⟩ (by decide) rfl 37 rfl (by decide) (hz 37 (by decide)) (by decide) (by decide) ?_
  refine tc_cs (cs' := 1) (sl' := 8) rfl rfl ?_
  refine tc_putR C 5 rfl ff_X1_9 (fun _ => ⟨rfl, rfl⟩) (by decide) (Nat.le_of_ble_eq_true rfl) (Nat.le_of_ble_eq_true rfl) hs rfl (by decide) [some 37, some 0, some 0, none] rfl ?_
  refine tc_aload_n C 6 rfl rfl ?_
  refine tc_bipush C 7 rfl 8 (by decide) ?_
  refine tc_newi C 8 rfl 8 q_148 ⟨by decide, by decide⟩ (by decide) rfl 38 rfl (by decide) (hz 38 (by decide)) (by decide) (by decide) ?_
  refine tc_cs (cs' := 2) (sl' := 16) rfl rfl ?_
  refine tc_putR C 9 rfl ff_X1_15 (fun _ => ⟨rfl, rfl⟩) (by decide) (Nat.le_of_ble_eq_true rfl) (Nat.le_of_ble_eq_true rfl) rfl rfl (by decide) [some 37, some 38, some 0, none] rfl ?_
  refine tc_aload_n C 10 rfl rfl ?_
  refine tc_bipush C 11 rfl 8 (by decide) ?_
  refine tc_newi C 12 rfl 8 q_148 ⟨by decide, by decide⟩ (by decide) rfl 39 rfl (by decide) (hz 39 (by decide)) (by decide) (by decide) ?_
  refine tc_cs (cs' := 3) (sl' := 24) rfl rfl ?_
  refine tc_putR C 13 rfl ff_X1_18 (fun _ => ⟨rfl, rfl⟩) (by decide) (Nat.le_of_ble_eq_true rfl) (Nat.le_of_ble_eq_true rfl) rfl rfl (by decide) [some 37, some 38, some 39, none] rfl ?_
  exact tc_vret C 14 rfl
def z_X4_41 (sh : Nat → Option sw_Sh) : sw_Z := (41, sh)
def g_X4_41 (σ : sw_St) : sw_St := (sw_up σ 41 0 3)
set_option maxHeartbeats 1000000 in
set_option maxRecDepth 100000 in
theorem c_X4_41 (l : Launch) (b : Nat) (g : Nat → Nat) (dC : Nat → ClassId) (dI : Nat → Nat → Nat) (dA : Nat → ClassId) (sh : Nat → Option sw_Sh) (σ : sw_St) (hs : sh 41 = some (.inl (4, [none, none, none, none, none, none, none, none, none, none, none]))) : sw_MC l yX4_init cX4_init 2 1 0 0 40 b g dC dI dA (41, sh) σ [sw_rv (sw_ab b g) 41, .int 3] (z_X4_41 sh) (g_X4_41 σ) := by
  refine sw_mkC 0 (by decide) rfl dk_X4_init rfl (sw_c1_all _ ⟨sw_rv_cat _ _, rfl, trivial⟩) (fun p e R M C => ?_)
  refine tc_aload_n C 0 rfl rfl ?_
  refine tc_objInit C 1 rfl (by decide) q_183 q_115 q_116 (by decide) (Nat.le_of_ble_eq_true rfl) ?_
  refine tc_aload_n C 2 rfl rfl ?_
  refine tc_iload_n C 3 rfl rfl ?_
  refine tc_putI C 4 rfl ff_X4_7 (by decide) (Nat.le_of_ble_eq_true rfl) (Nat.le_of_ble_eq_true rfl) hs rfl ?_
  exact tc_vret C 5 rfl
def z_X4_42 (sh : Nat → Option sw_Sh) : sw_Z := (42, sh)
def g_X4_42 (σ : sw_St) : sw_St := (sw_up σ 42 0 3)
set_option maxHeartbeats 1000000 in
set_option maxRecDepth 100000 in
theorem c_X4_42 (l : Launch) (b : Nat) (g : Nat → Nat) (dC : Nat → ClassId) (dI : Nat → Nat → Nat) (dA : Nat → ClassId) (sh : Nat → Option sw_Sh) (σ : sw_St) (hs : sh 42 = some (.inl (4, [none, none, none, none, none, none, none, none, none, none, none]))) : sw_MC l yX4_init cX4_init 2 1 0 0 40 b g dC dI dA (42, sh) σ [sw_rv (sw_ab b g) 42, .int 3] (z_X4_42 sh) (g_X4_42 σ) := by
  refine sw_mkC 0 (by decide) rfl dk_X4_init rfl (sw_c1_all _ ⟨sw_rv_cat _ _, rfl, trivial⟩) (fun p e R M C => ?_)
  refine tc_aload_n C 0 rfl rfl ?_
  refine tc_objInit C 1 rfl (by decide) q_183 q_115 q_116 (by decide) (Nat.le_of_ble_eq_true rfl) ?_
  refine tc_aload_n C 2 rfl rfl ?_
  refine tc_iload_n C 3 rfl rfl ?_
  refine tc_putI C 4 rfl ff_X4_7 (by decide) (Nat.le_of_ble_eq_true rfl) (Nat.le_of_ble_eq_true rfl) hs rfl ?_
  exact tc_vret C 5 rfl
def z_X4_43 (sh : Nat → Option sw_Sh) : sw_Z := (43, sh)
def g_X4_43 (σ : sw_St) : sw_St := (sw_up σ 43 0 3)
set_option maxHeartbeats 1000000 in
set_option maxRecDepth 100000 in
theorem c_X4_43 (l : Launch) (b : Nat) (g : Nat → Nat) (dC : Nat → ClassId) (dI : Nat → Nat → Nat) (dA : Nat → ClassId) (sh : Nat → Option sw_Sh) (σ : sw_St) (hs : sh 43 = some (.inl (4, [none, none, none, none, none, none, none, none, none, none, none]))) : sw_MC l yX4_init cX4_init 2 1 0 0 40 b g dC dI dA (43, sh) σ [sw_rv (sw_ab b g) 43, .int 3] (z_X4_43 sh) (g_X4_43 σ) := by
  refine sw_mkC 0 (by decide) rfl dk_X4_init rfl (sw_c1_all _ ⟨sw_rv_cat _ _, rfl, trivial⟩) (fun p e R M C => ?_)
  refine tc_aload_n C 0 rfl rfl ?_
  refine tc_objInit C 1 rfl (by decide) q_183 q_115 q_116 (by decide) (Nat.le_of_ble_eq_true rfl) ?_
  refine tc_aload_n C 2 rfl rfl ?_
  refine tc_iload_n C 3 rfl rfl ?_
  refine tc_putI C 4 rfl ff_X4_7 (by decide) (Nat.le_of_ble_eq_true rfl) (Nat.le_of_ble_eq_true rfl) hs rfl ?_
  exact tc_vret C 5 rfl
def z_X2_35 (sh : Nat → Option sw_Sh) : sw_Z := (sw_zu (z_X4_43 (sw_zn (sw_zu (z_X4_42 (sw_zn (sw_zu (z_X4_41 (sw_zn (sw_zu (sw_zn (sw_zu (z_X1_36 (sw_zn (35, sh) (.inl (1, [some 0, some 0, some 0, none]))).2) 35 (.inl (2, [some 36, some 0, some 0, none]))) (.inr (3, 2, some [0, 0]))) 35 (.inl (2, [some 36, some 0, some 40, none]))) (.inl (4, [none, none, none, none, none, none, none, none, none, none, none]))).2) 35 (.inl (2, [some 36, some 41, some 40, none]))) (.inl (4, [none, none, none, none, none, none, none, none, none, none, none]))).2) 40 (.inr (3, 2, some [42, 0]))) (.inl (4, [none, none, none, none, none, none, none, none, none, none, none]))).2) 40 (.inr (3, 2, some [42, 43])))
def g_X2_35 (σ : sw_St) : sw_St := (g_X4_43 (g_X4_42 (g_X4_41 σ)))
set_option maxHeartbeats 1000000 in
set_option maxRecDepth 100000 in
theorem c_X2_35 (l : Launch) (b : Nat) (g : Nat → Nat) (dC : Nat → ClassId) (dI : Nat → Nat → Nat) (dA : Nat → ClassId) (sh : Nat → Option sw_Sh) (σ : sw_St) (hs : sh 35 = some (.inl (2, [some 0, some 0, some 0, none]))) (hz : ∀ k, 35 < k → σ k = fun _ => 0) : sw_MC l yX2_init cX2_init 3 2 8 63 80 b g dC dI dA (35, sh) σ [sw_rv (sw_ab b g) 35, .int 3] (z_X2_35 sh) (g_X2_35 σ) := by
  refine sw_mkC 1 (by decide) rfl dk_X2_init rfl (sw_c1_all _ ⟨sw_rv_cat _ _, rfl, trivial⟩) (fun p e R M C => ?_)
  refine tc_aload_n C 0 rfl rfl ?_
  refine tc_objInit C 1 rfl (by decide) q_154 q_115 q_116 (by decide) (Nat.le_of_ble_eq_true rfl) ?_
  refine tc_aload_n C 2 rfl rfl ?_
  refine tc_new (ci := 1) (ty := tyX1) C 3 rfl [some 0, some 0, some 0, none] rfl in_X1 tyX1_ok q_155 q_156 q_100 df_X1 rfl 36 rfl (by decide) (hz 36 (by decide)) (by decide) (by decide) ?_
  refine tc_cs (cs' := 1) (sl' := 4) rfl rfl ?_
  refine tc_dup C 4 rfl ?_
  refine tc_callI (k := 36) C 5 rfl [] [sw_r _ 36, sw_r _ 35] mi_X2_11 q_158 rfl rfl (Nat.le_of_ble_eq_true rfl) (by decide) rfl (Nat.le_of_ble_eq_true rfl) (Nat.le_of_ble_eq_true rfl) ⟨by decide, by decide, by decide, by decide⟩ (c_X1_36 _ b g _ _ _ _ _ rfl (fun k hk => hz k (by omega))) rfl ?_
  refine tc_cs (cs' := 4) (sl' := 28) rfl rfl ?_
  refine tc_putR C 6 rfl ff_X2_12 (fun _ => ⟨rfl, rfl⟩) (by decide) (Nat.le_of_ble_eq_true rfl) (Nat.le_of_ble_eq_true rfl) hs rfl (by decide) [some 36, some 0, some 0, none] rfl ?_
  refine tc_aload_n C 7 rfl rfl ?_
  refine tc_iconst C 8 rfl 2 (by decide) ?_
  refine tc_newq (ai := 3) C 9 rfl 2 [0, 0] rfl q_178 C.ao.2 rfl ⟨by decide, by decide⟩ (by decide) rfl 40 rfl (by decide) (by decide) (by decide) ?_
  refine tc_cs (cs' := 5) (sl' := 30) rfl rfl ?_
  refine tc_putR C 10 rfl ff_X2_20 (fun _ => ⟨rfl, rfl⟩) (by decide) (Nat.le_of_ble_eq_true rfl) (Nat.le_of_ble_eq_true rfl) rfl rfl (by decide) [some 36, some 0, some 40, none] rfl ?_
  refine tc_aload_n C 11 rfl rfl ?_
  refine tc_new (ci := 4) (ty := tyX4) C 12 rfl [none, none, none, none, none, none, none, none, none, none, none] rfl in_X4 tyX4_ok q_178 q_179 q_101 df_X4 rfl 41 rfl (by decide) (hz 41 (by decide)) (by decide) (by decide) ?_
  refine tc_cs (cs' := 6) (sl' := 41) rfl rfl ?_
  refine tc_dup C 13 rfl ?_
  refine tc_iload_n C 14 rfl rfl ?_
  refine tc_callI (k := 41) C 15 rfl [.int 3] [sw_r _ 41, sw_r _ 35] mi_X2_24 q_181 rfl rfl (Nat.le_of_ble_eq_true rfl) (by decide) rfl (Nat.le_of_ble_eq_true rfl) (Nat.le_of_ble_eq_true rfl) ⟨by decide, by decide, by decide, by decide⟩ (c_X4_41 _ b g _ _ _ _ _ rfl) rfl ?_
  refine tc_cs (cs' := 6) (sl' := 41) rfl rfl ?_
  refine tc_putR C 16 rfl ff_X2_27 (fun _ => ⟨rfl, rfl⟩) (by decide) (Nat.le_of_ble_eq_true rfl) (Nat.le_of_ble_eq_true rfl) rfl rfl (by decide) [some 36, some 41, some 40, none] rfl ?_
  refine tc_iconst C 17 rfl 0 (by decide) ?_
  refine tc_istore_n C 18 rfl (Nat.le_of_ble_eq_true rfl) (Or.inr (Or.inr (Or.inl ⟨_, rfl⟩))) ?_
  refine tc_iload_n C 19 rfl rfl ?_
  refine tc_iconst C 20 rfl 2 (by decide) ?_
  refine tc_geF C 21 rfl 62 (by decide) (by decide) ?_
  refine tc_aload_n C 22 rfl rfl ?_
  refine tc_getR C 23 rfl fl_X2_20 (by decide) (Nat.le_of_ble_eq_true rfl) rfl rfl ?_
  refine tc_iload_n C 24 rfl rfl ?_
  refine tc_new (ci := 4) (ty := tyX4) C 25 rfl [none, none, none, none, none, none, none, none, none, none, none] rfl in_X4 tyX4_ok q_178 q_179 q_101 df_X4 rfl 42 rfl (by decide) (hz 42 (by decide)) (by decide) (by decide) ?_
  refine tc_cs (cs' := 7) (sl' := 52) rfl rfl ?_
  refine tc_dup C 26 rfl ?_
  refine tc_iload_n C 27 rfl rfl ?_
  refine tc_callI (k := 42) C 28 rfl [.int 3] [sw_r _ 42, .int 0, sw_r _ 40] mi_X2_24 q_181 rfl rfl (Nat.le_of_ble_eq_true rfl) (by decide) rfl (Nat.le_of_ble_eq_true rfl) (Nat.le_of_ble_eq_true rfl) ⟨by decide, by decide, by decide, by decide⟩ (c_X4_42 _ b g _ _ _ _ _ rfl) rfl ?_
  refine tc_cs (cs' := 7) (sl' := 52) rfl rfl ?_
  refine tc_aast C 29 rfl (by decide) (Nat.le_of_ble_eq_true rfl) (Nat.le_of_ble_eq_true rfl) rfl rfl (by decide) (by decide) (Nat.le_of_ble_eq_true rfl) rfl rfl (by decide) [42, 0] rfl ?_
  refine tc_iinc C 30 rfl 1 (by decide) rfl (Nat.le_of_ble_eq_true rfl) (Or.inr (Or.inr (Or.inl ⟨_, rfl⟩))) ?_
  refine tc_goto C 31 rfl 37 (by decide) ?_
  refine tc_iload_n C 19 rfl rfl ?_
  refine tc_iconst C 20 rfl 2 (by decide) ?_
  refine tc_geF C 21 rfl 62 (by decide) (by decide) ?_
  refine tc_aload_n C 22 rfl rfl ?_
  refine tc_getR C 23 rfl fl_X2_20 (by decide) (Nat.le_of_ble_eq_true rfl) rfl rfl ?_
  refine tc_iload_n C 24 rfl rfl ?_
  refine tc_new (ci := 4) (ty := tyX4) C 25 rfl [none, none, none, none, none, none, none, none, none, none, none] rfl in_X4 tyX4_ok q_178 q_179 q_101 df_X4 rfl 43 rfl (by decide) (hz 43 (by decide)) (by decide) (by decide) ?_
  refine tc_cs (cs' := 8) (sl' := 63) rfl rfl ?_
  refine tc_dup C 26 rfl ?_
  refine tc_iload_n C 27 rfl rfl ?_
  refine tc_callI (k := 43) C 28 rfl [.int 3] [sw_r _ 43, .int 1, sw_r _ 40] mi_X2_24 q_181 rfl rfl (Nat.le_of_ble_eq_true rfl) (by decide) rfl (Nat.le_of_ble_eq_true rfl) (Nat.le_of_ble_eq_true rfl) ⟨by decide, by decide, by decide, by decide⟩ (c_X4_43 _ b g _ _ _ _ _ rfl) rfl ?_
  refine tc_cs (cs' := 8) (sl' := 63) rfl rfl ?_
  refine tc_aast C 29 rfl (by decide) (Nat.le_of_ble_eq_true rfl) (Nat.le_of_ble_eq_true rfl) rfl rfl (by decide) (by decide) (Nat.le_of_ble_eq_true rfl) rfl rfl (by decide) [42, 43] rfl ?_
  refine tc_iinc C 30 rfl 2 (by decide) rfl (Nat.le_of_ble_eq_true rfl) (Or.inr (Or.inr (Or.inl ⟨_, rfl⟩))) ?_
  refine tc_goto C 31 rfl 37 (by decide) ?_
  refine tc_iload_n C 19 rfl rfl ?_
  refine tc_iconst C 20 rfl 2 (by decide) ?_
  refine tc_geT C 21 rfl 62 (by decide) (by decide) ?_
  exact tc_vret C 32 rfl
theorem gz_X2_35 {σ : sw_St} (hz : ∀ k, 35 < k → σ k = fun _ => 0) : ∀ k, 43 < k → g_X2_35 σ k = fun _ => 0 := by
  intro k hk
  unfold g_X2_35 g_X4_41 g_X4_42 g_X4_43
  simp only [sw_up]
  rw [if_neg (by omega), if_neg (by omega), if_neg (by omega)]
  exact hz k (by omega)
def z_X3_6 (sh : Nat → Option sw_Sh) : sw_Z := (sw_zu (sw_zn (6, sh) (.inr (1, 48, none))) 6 (.inl (3, [some 7, none, none, none])))
set_option maxHeartbeats 1000000 in
set_option maxRecDepth 100000 in
theorem c_X3_6 (l : Launch) (b : Nat) (g : Nat → Nat) (dC : Nat → ClassId) (dI : Nat → Nat → Nat) (dA : Nat → ClassId) (sh : Nat → Option sw_Sh) (σ : sw_St) (hs : sh 6 = some (.inl (3, [some 0, none, none, none]))) (hz : ∀ k, 6 < k → σ k = fun _ => 0) : sw_MC l yX3_init cX3_init 1 1 1 48 40 b g dC dI dA (6, sh) σ [sw_rv (sw_ab b g) 6] (z_X3_6 sh) σ := by
  refine sw_mkC 0 (by decide) rfl dk_X3_init rfl (sw_c1_all _ ⟨sw_rv_cat _ _, trivial⟩) (fun p e R M C => ?_)
  refine tc_aload_n C 0 rfl rfl ?_
  refine tc_objInit C 1 rfl (by decide) q_132 q_115 q_116 (by decide) (Nat.le_of_ble_eq_true rfl) ?_
  refine tc_aload_n C 2 rfl rfl ?_
  refine tc_bipush C 3 rfl 48 (by decide) ?_
  refine tc_newc C 4 rfl 48 q_149 ⟨by decide, by decide⟩ (by decide) rfl 7 rfl (by decide) (hz 7 (by decide)) (by decide) (by decide) ?_
  refine tc_cs (cs' := 1) (sl' := 48) rfl rfl ?_
  refine tc_putR C 5 rfl ff_X3_11 (fun _ => ⟨rfl, rfl⟩) (by decide) (Nat.le_of_ble_eq_true rfl) (Nat.le_of_ble_eq_true rfl) hs rfl (by decide) [some 7, none, none, none] rfl ?_
  exact tc_vret C 6 rfl
def z_X5_44 (sh : Nat → Option sw_Sh) : sw_Z := (sw_zu (sw_zn (sw_zu (sw_zn (44, sh) (.inr (1, 200, none))) 44 (.inl (5, [some 45, some 0, none, none, none]))) (.inr (0, 3, none))) 44 (.inl (5, [some 45, some 46, none, none, none])))
set_option maxHeartbeats 1000000 in
set_option maxRecDepth 100000 in
theorem c_X5_44 (l : Launch) (b : Nat) (g : Nat → Nat) (dC : Nat → ClassId) (dI : Nat → Nat → Nat) (dA : Nat → ClassId) (sh : Nat → Option sw_Sh) (σ : sw_St) (hs : sh 44 = some (.inl (5, [some 0, some 0, none, none, none]))) (hz : ∀ k, 44 < k → σ k = fun _ => 0) : sw_MC l yX5_init cX5_init 1 1 2 203 40 b g dC dI dA (44, sh) σ [sw_rv (sw_ab b g) 44] (z_X5_44 sh) σ := by
  refine sw_mkC 0 (by decide) rfl dk_X5_init rfl (sw_c1_all _ ⟨sw_rv_cat _ _, trivial⟩) (fun p e R M C => ?_)
  refine tc_aload_n C 0 rfl rfl ?_
  refine tc_objInit C 1 rfl (by decide) q_328 q_115 q_116 (by decide) (Nat.le_of_ble_eq_true rfl) ?_
  refine tc_aload_n C 2 rfl rfl ?_
  refine tc_sipush C 3 rfl 200 (by decide) ?_
  refine tc_newc C 4 rfl 200 q_149 ⟨by decide, by decide⟩ (by decide) rfl 45 rfl (by decide) (hz 45 (by decide)) (by decide) (by decide) ?_
  refine tc_cs (cs' := 1) (sl' := 200) rfl rfl ?_
  refine tc_putR C 5 rfl ff_X5_11 (fun _ => ⟨rfl, rfl⟩) (by decide) (Nat.le_of_ble_eq_true rfl) (Nat.le_of_ble_eq_true rfl) hs rfl (by decide) [some 45, some 0, none, none, none] rfl ?_
  refine tc_aload_n C 6 rfl rfl ?_
  refine tc_iconst C 7 rfl 3 (by decide) ?_
  refine tc_newi C 8 rfl 3 q_148 ⟨by decide, by decide⟩ (by decide) rfl 46 rfl (by decide) (hz 46 (by decide)) (by decide) (by decide) ?_
  refine tc_cs (cs' := 2) (sl' := 203) rfl rfl ?_
  refine tc_putR C 9 rfl ff_X5_15 (fun _ => ⟨rfl, rfl⟩) (by decide) (Nat.le_of_ble_eq_true rfl) (Nat.le_of_ble_eq_true rfl) rfl rfl (by decide) [some 45, some 46, none, none, none] rfl ?_
  exact tc_vret C 10 rfl
def sw_σ0 : sw_St := fun _ _ => 0
def sw_z1 : sw_Z := sw_zn (0, fun _ => none) (.inl (6, [some 0, some 0]))
def sw_z2 : sw_Z := sw_zn sw_z1 (.inl (0, [some 0, some 0, some 0, some 0, none, none, none, none, none, none, none, none, none, none]))
def sw_shB0 (k : Nat) : Option sw_Sh := if k = 1 then some (.inl (6, [some 0, some 0])) else if 43 < k then none else sw_shX k
def sw_ZB0 : sw_Z := (43, sw_shB0)
def sw_σB : sw_St := g_X2_35 (g_X2_26 (g_X2_17 (g_X2_8 sw_σ0)))
set_option maxHeartbeats 20000000 in
set_option maxRecDepth 100000 in
theorem c_X0_2 (l : Launch) (b : Nat) (g : Nat → Nat) (dC : Nat → ClassId) (dI : Nat → Nat → Nat) (dA : Nat → ClassId) : sw_MC l yX0_init cX0_init 3 3 41 344 120 b g dC dI dA sw_z2 sw_σ0 [sw_rv (sw_ab b g) 2] sw_ZB0 sw_σB := by
  refine sw_mkC 2 (by decide) rfl dk_X0_init rfl (sw_c1_all _ ⟨sw_rv_cat _ _, trivial⟩) (fun p e R M C => ?_)
  refine tc_aload_n C 0 rfl rfl ?_
  refine tc_objInit C 1 rfl (by decide) q_122 q_115 q_116 (by decide) (Nat.le_of_ble_eq_true rfl) ?_
  refine tc_aload_n C 2 rfl rfl ?_
  refine tc_iconst C 3 rfl 4 (by decide) ?_
  refine tc_newq (ai := 2) C 4 rfl 4 [0, 0, 0, 0] rfl q_123 C.ao.1 rfl ⟨by decide, by decide⟩ (by decide) rfl 3 rfl (by decide) (by decide) (by decide) ?_
  refine tc_cs (cs' := 1) (sl' := 4) rfl rfl ?_
  refine tc_putR C 5 rfl ff_X0_11 (fun _ => ⟨rfl, rfl⟩) (by decide) (Nat.le_of_ble_eq_true rfl) (Nat.le_of_ble_eq_true rfl) rfl rfl (by decide) [some 3, some 0, some 0, some 0, none, none, none, none, none, none, none, none, none, none] rfl ?_
  refine tc_aload_n C 6 rfl rfl ?_
  refine tc_bipush C 7 rfl 12 (by decide) ?_
  refine tc_newq (ai := 3) C 8 rfl 12 [0, 0, 0, 0, 0, 0, 0, 0, 0, 0, 0, 0] rfl q_125 C.ao.2 rfl ⟨by decide, by decide⟩ (by decide) rfl 4 rfl (by decide) (by decide) (by decide) ?_
  refine tc_cs (cs' := 2) (sl' := 16) rfl rfl ?_
  refine tc_putR C 9 rfl ff_X0_19 (fun _ => ⟨rfl, rfl⟩) (by decide) (Nat.le_of_ble_eq_true rfl) (Nat.le_of_ble_eq_true rfl) rfl rfl (by decide) [some 3, some 4, some 0, some 0, none, none, none, none, none, none, none, none, none, none] rfl ?_
  refine tc_aload_n C 10 rfl rfl ?_
  refine tc_bipush C 11 rfl 8 (by decide) ?_
  refine tc_newi C 12 rfl 8 q_148 ⟨by decide, by decide⟩ (by decide) rfl 5 rfl (by decide) rfl (by decide) (by decide) ?_
  refine tc_cs (cs' := 3) (sl' := 24) rfl rfl ?_
  refine tc_putR C 13 rfl ff_X0_23 (fun _ => ⟨rfl, rfl⟩) (by decide) (Nat.le_of_ble_eq_true rfl) (Nat.le_of_ble_eq_true rfl) rfl rfl (by decide) [some 3, some 4, some 5, some 0, none, none, none, none, none, none, none, none, none, none] rfl ?_
  refine tc_aload_n C 14 rfl rfl ?_
  refine tc_new (ci := 3) (ty := tyX3) C 15 rfl [some 0, none, none, none] rfl in_X3 tyX3_ok q_127 q_128 q_98 df_X3 rfl 6 rfl (by decide) rfl (by decide) (by decide) ?_
  refine tc_cs (cs' := 4) (sl' := 28) rfl rfl ?_
  refine tc_dup C 16 rfl ?_
  refine tc_callI (k := 6) C 17 rfl [] [sw_r _ 6, sw_r _ 2] mi_X0_29 q_130 rfl rfl (Nat.le_of_ble_eq_true rfl) (by decide) rfl (Nat.le_of_ble_eq_true rfl) (Nat.le_of_ble_eq_true rfl) ⟨by decide, by decide, by decide, by decide⟩ (c_X3_6 _ b g _ _ _ _ _ rfl (fun _ _ => rfl)) rfl ?_
  refine tc_cs (cs' := 5) (sl' := 76) rfl rfl ?_
  refine tc_cv (Z' := (sw_zl [.inl (6, [some 0, some 0]), .inl (0, [some 3, some 4, some 5, some 0, none, none, none, none, none, none, none, none, none, none]), .inr (2, 4, some [0, 0, 0, 0]), .inr (3, 12, some [0, 0, 0, 0, 0, 0, 0, 0, 0, 0, 0, 0]), .inr (0, 8, none), .inl (3, [some 7, none, none, none]), .inr (1, 48, none)])) (by decide +kernel) ?_
  refine tc_putR C 18 rfl ff_X0_30 (fun _ => ⟨rfl, rfl⟩) (by decide) (Nat.le_of_ble_eq_true rfl) (Nat.le_of_ble_eq_true rfl) rfl rfl (by decide) [some 3, some 4, some 5, some 6, none, none, none, none, none, none, none, none, none, none] rfl ?_
  refine tc_iconst C 19 rfl 0 (by decide) ?_
  refine tc_istore_n C 20 rfl (Nat.le_of_ble_eq_true rfl) (Or.inr (Or.inr (Or.inr ⟨_, rfl⟩))) ?_
  refine tc_iload_n C 21 rfl rfl ?_
  refine tc_iconst C 22 rfl 4 (by decide) ?_
  refine tc_geF C 23 rfl 120 (by decide) (by decide) ?_
  refine tc_aload_n C 24 rfl rfl ?_
  refine tc_getR C 25 rfl fl_X0_11 (by decide) (Nat.le_of_ble_eq_true rfl) rfl rfl ?_
  refine tc_iload_n C 26 rfl rfl ?_
  refine tc_new (ci := 2) (ty := tyX2) C 27 rfl [some 0, some 0, some 0, none] rfl in_X2 tyX2_ok q_123 q_150 q_99 df_X2 rfl 8 rfl (by decide) rfl (by decide) (by decide) ?_
  refine tc_cs (cs' := 6) (sl' := 80) rfl rfl ?_
  refine tc_dup C 28 rfl ?_
  refine tc_iload_n C 29 rfl rfl ?_
  refine tc_callI (k := 8) C 30 rfl [.int 0] [sw_r _ 8, .int 0, sw_r _ 3] mi_X0_34 q_152 rfl rfl (Nat.le_of_ble_eq_true rfl) (by decide) rfl (Nat.le_of_ble_eq_true rfl) (Nat.le_of_ble_eq_true rfl) ⟨by decide, by decide, by decide, by decide⟩ (c_X2_8 _ b g _ _ _ _ _ rfl (fun _ _ => rfl)) rfl ?_
  refine tc_cs (cs' := 14) (sl' := 143) rfl rfl ?_
  refine tc_cv (Z' := (sw_zl [.inl (6, [some 0, some 0]), .inl (0, [some 3, some 4, some 5, some 6, none, none, none, none, none, none, none, none, none, none]), .inr (2, 4, some [0, 0, 0, 0]), .inr (3, 12, some [0, 0, 0, 0, 0, 0, 0, 0, 0, 0, 0, 0]), .inr (0, 8, none), .inl (3, [some 7, none, none, none]), .inr (1, 48, none), .inl (2, [some 9, some 14, some 13, none]), .inl (1, [some 10, some 11, some 12, none]), .inr (0, 8, none), .inr (0, 8, none), .inr (0, 8, none), .inr (3, 2, some [15, 16]), .inl (4, [none, none, none, none, none, none, none, none, none, none, none]), .inl (4, [none, none, none, none, none, none, none, none, none, none, none]), .inl (4, [none, none, none, none, none, none, none, none, none, none, none])])) (by decide +kernel) ?_
  refine tc_aast C 31 rfl (by decide) (Nat.le_of_ble_eq_true rfl) (Nat.le_of_ble_eq_true rfl) rfl rfl (by decide) (by decide) (Nat.le_of_ble_eq_true rfl) rfl rfl (by decide) [8, 0, 0, 0] rfl ?_
  refine tc_aload_n C 32 rfl rfl ?_
  refine tc_getR C 33 rfl fl_X0_19 (by decide) (Nat.le_of_ble_eq_true rfl) rfl rfl ?_
  refine tc_iload_n C 34 rfl rfl ?_
  refine tc_iconst C 35 rfl 3 (by decide) ?_
  refine tc_imul C 36 rfl 0 (by decide) ?_
  refine tc_aload_n C 37 rfl rfl ?_
  refine tc_getR C 38 rfl fl_X0_11 (by decide) (Nat.le_of_ble_eq_true rfl) rfl rfl ?_
  refine tc_iload_n C 39 rfl rfl ?_
  refine tc_aald C 40 rfl (by decide) (Nat.le_of_ble_eq_true rfl) rfl rfl (by decide) (t := 8) rfl ?_
  refine tc_getR C 41 rfl fl_X0_37 (by decide) (Nat.le_of_ble_eq_true rfl) rfl rfl ?_
  refine tc_aast C 42 rfl (by decide) (Nat.le_of_ble_eq_true rfl) (Nat.le_of_ble_eq_true rfl) rfl rfl (by decide) (by decide) (Nat.le_of_ble_eq_true rfl) rfl rfl (by decide) [14, 0, 0, 0, 0, 0, 0, 0, 0, 0, 0, 0] rfl ?_
  refine tc_iconst C 43 rfl 0 (by decide) ?_
  refine tc_istore_n C 44 rfl (Nat.le_of_ble_eq_true rfl) (Or.inr (Or.inr (Or.inl ⟨_, rfl⟩))) ?_
  refine tc_iload_n C 45 rfl rfl ?_
  refine tc_iconst C 46 rfl 2 (by decide) ?_
  refine tc_geF C 47 rfl 114 (by decide) (by decide) ?_
  refine tc_aload_n C 48 rfl rfl ?_
  refine tc_getR C 49 rfl fl_X0_19 (by decide) (Nat.le_of_ble_eq_true rfl) rfl rfl ?_
  refine tc_iload_n C 50 rfl rfl ?_
  refine tc_iconst C 51 rfl 3 (by decide) ?_
  refine tc_imul C 52 rfl 0 (by decide) ?_
  refine tc_iconst C 53 rfl 1 (by decide) ?_
  refine tc_iadd C 54 rfl 1 (by decide) ?_
  refine tc_iload_n C 55 rfl rfl ?_
  refine tc_iadd C 56 rfl 1 (by decide) ?_
  refine tc_aload_n C 57 rfl rfl ?_
  refine tc_getR C 58 rfl fl_X0_11 (by decide) (Nat.le_of_ble_eq_true rfl) rfl rfl ?_
  refine tc_iload_n C 59 rfl rfl ?_
  refine tc_aald C 60 rfl (by decide) (Nat.le_of_ble_eq_true rfl) rfl rfl (by decide) (t := 8) rfl ?_
  refine tc_getR C 61 rfl fl_X0_41 (by decide) (Nat.le_of_ble_eq_true rfl) rfl rfl ?_
  refine tc_iload_n C 62 rfl rfl ?_
  refine tc_aald C 63 rfl (by decide) (Nat.le_of_ble_eq_true rfl) rfl rfl (by decide) (t := 15) rfl ?_
  refine tc_aast C 64 rfl (by decide) (Nat.le_of_ble_eq_true rfl) (Nat.le_of_ble_eq_true rfl) rfl rfl (by decide) (by decide) (Nat.le_of_ble_eq_true rfl) rfl rfl (by decide) [14, 15, 0, 0, 0, 0, 0, 0, 0, 0, 0, 0] rfl ?_
  refine tc_iinc C 65 rfl 1 (by decide) rfl (Nat.le_of_ble_eq_true rfl) (Or.inr (Or.inr (Or.inl ⟨_, rfl⟩))) ?_
  refine tc_goto C 66 rfl 80 (by decide) ?_
  refine tc_iload_n C 45 rfl rfl ?_
  refine tc_iconst C 46 rfl 2 (by decide) ?_
  refine tc_geF C 47 rfl 114 (by decide) (by decide) ?_
  refine tc_aload_n C 48 rfl rfl ?_
  refine tc_getR C 49 rfl fl_X0_19 (by decide) (Nat.le_of_ble_eq_true rfl) rfl rfl ?_
  refine tc_iload_n C 50 rfl rfl ?_
  refine tc_iconst C 51 rfl 3 (by decide) ?_
  refine tc_imul C 52 rfl 0 (by decide) ?_
  refine tc_iconst C 53 rfl 1 (by decide) ?_
  refine tc_iadd C 54 rfl 1 (by decide) ?_
  refine tc_iload_n C 55 rfl rfl ?_
  refine tc_iadd C 56 rfl 2 (by decide) ?_
  refine tc_aload_n C 57 rfl rfl ?_
  refine tc_getR C 58 rfl fl_X0_11 (by decide) (Nat.le_of_ble_eq_true rfl) rfl rfl ?_
  refine tc_iload_n C 59 rfl rfl ?_
  refine tc_aald C 60 rfl (by decide) (Nat.le_of_ble_eq_true rfl) rfl rfl (by decide) (t := 8) rfl ?_
  refine tc_getR C 61 rfl fl_X0_41 (by decide) (Nat.le_of_ble_eq_true rfl) rfl rfl ?_
  refine tc_iload_n C 62 rfl rfl ?_
  refine tc_aald C 63 rfl (by decide) (Nat.le_of_ble_eq_true rfl) rfl rfl (by decide) (t := 16) rfl ?_
  refine tc_aast C 64 rfl (by decide) (Nat.le_of_ble_eq_true rfl) (Nat.le_of_ble_eq_true rfl) rfl rfl (by decide) (by decide) (Nat.le_of_ble_eq_true rfl) rfl rfl (by decide) [14, 15, 16, 0, 0, 0, 0, 0, 0, 0, 0, 0] rfl ?_
  refine tc_iinc C 65 rfl 2 (by decide) rfl (Nat.le_of_ble_eq_true rfl) (Or.inr (Or.inr (Or.inl ⟨_, rfl⟩))) ?_
  refine tc_goto C 66 rfl 80 (by decide) ?_
  refine tc_iload_n C 45 rfl rfl ?_
  refine tc_iconst C 46 rfl 2 (by decide) ?_
  refine tc_geT C 47 rfl 114 (by decide) (by decide) ?_
  refine tc_iinc C 67 rfl 1 (by decide) rfl (Nat.le_of_ble_eq_true rfl) (Or.inr (Or.inr (Or.inr ⟨_, rfl⟩))) ?_
  refine tc_goto C 68 rfl 42 (by decide) ?_
  refine tc_iload_n C 21 rfl rfl ?_
  refine tc_iconst C 22 rfl 4 (by decide) ?_
  refine tc_geF C 23 rfl 120 (by decide) (by decide) ?_
  refine tc_aload_n C 24 rfl rfl ?_
  refine tc_getR C 25 rfl fl_X0_11 (by decide) (Nat.le_of_ble_eq_true rfl) rfl rfl ?_
  refine tc_iload_n C 26 rfl rfl ?_
  refine tc_new (ci := 2) (ty := tyX2) C 27 rfl [some 0, some 0, some 0, none] rfl in_X2 tyX2_ok q_123 q_150 q_99 df_X2 rfl 17 rfl (by decide) rfl (by decide) (by decide) ?_
  refine tc_cs (cs' := 15) (sl' := 147) rfl rfl ?_
  refine tc_dup C 28 rfl ?_
  refine tc_iload_n C 29 rfl rfl ?_
  refine tc_callI (k := 17) C 30 rfl [.int 1] [sw_r _ 17, .int 1, sw_r _ 3] mi_X0_34 q_152 rfl rfl (Nat.le_of_ble_eq_true rfl) (by decide) rfl (Nat.le_of_ble_eq_true rfl) (Nat.le_of_ble_eq_true rfl) ⟨by decide, by decide, by decide, by decide⟩ (c_X2_17 _ b g _ _ _ _ _ rfl (fun k hk => (gz_X2_8 (fun _ _ => rfl)) k (by omega))) rfl ?_
  refine tc_cs (cs' := 23) (sl' := 210) rfl rfl ?_
  refine tc_cv (Z' := (sw_zl [.inl (6, [some 0, some 0]), .inl (0, [some 3, some 4, some 5, some 6, none, none, none, none, none, none, none, none, none, none]), .inr (2, 4, some [8, 0, 0, 0]), .inr (3, 12, some [14, 15, 16, 0, 0, 0, 0, 0, 0, 0, 0, 0]), .inr (0, 8, none), .inl (3, [some 7, none, none, none]), .inr (1, 48, none), .inl (2, [some 9, some 14, some 13, none]), .inl (1, [some 10, some 11, some 12, none]), .inr (0, 8, none), .inr (0, 8, none), .inr (0, 8, none), .inr (3, 2, some [15, 16]), .inl (4, [none, none, none, none, none, none, none, none, none, none, none]), .inl (4, [none, none, none, none, none, none, none, none, none, none, none]), .inl (4, [none, none, none, none, none, none, none, none, none, none, none]), .inl (2, [some 18, some 23, some 22, none]), .inl (1, [some 19, some 20, some 21, none]), .inr (0, 8, none), .inr (0, 8, none), .inr (0, 8, none), .inr (3, 2, some [24, 25]), .inl (4, [none, none, none, none, none, none, none, none, none, none, none]), .inl (4, [none, none, none, none, none, none, none, none, none, none, none]), .inl (4, [none, none, none, none, none, none, none, none, none, none, none])])) (by decide +kernel) ?_
  refine tc_aast C 31 rfl (by decide) (Nat.le_of_ble_eq_true rfl) (Nat.le_of_ble_eq_true rfl) rfl rfl (by decide) (by decide) (Nat.le_of_ble_eq_true rfl) rfl rfl (by decide) [8, 17, 0, 0] rfl ?_
  refine tc_aload_n C 32 rfl rfl ?_
  refine tc_getR C 33 rfl fl_X0_19 (by decide) (Nat.le_of_ble_eq_true rfl) rfl rfl ?_
  refine tc_iload_n C 34 rfl rfl ?_
  refine tc_iconst C 35 rfl 3 (by decide) ?_
  refine tc_imul C 36 rfl 3 (by decide) ?_
  refine tc_aload_n C 37 rfl rfl ?_
  refine tc_getR C 38 rfl fl_X0_11 (by decide) (Nat.le_of_ble_eq_true rfl) rfl rfl ?_
  refine tc_iload_n C 39 rfl rfl ?_
  refine tc_aald C 40 rfl (by decide) (Nat.le_of_ble_eq_true rfl) rfl rfl (by decide) (t := 17) rfl ?_
  refine tc_getR C 41 rfl fl_X0_37 (by decide) (Nat.le_of_ble_eq_true rfl) rfl rfl ?_
  refine tc_aast C 42 rfl (by decide) (Nat.le_of_ble_eq_true rfl) (Nat.le_of_ble_eq_true rfl) rfl rfl (by decide) (by decide) (Nat.le_of_ble_eq_true rfl) rfl rfl (by decide) [14, 15, 16, 23, 0, 0, 0, 0, 0, 0, 0, 0] rfl ?_
  refine tc_iconst C 43 rfl 0 (by decide) ?_
  refine tc_istore_n C 44 rfl (Nat.le_of_ble_eq_true rfl) (Or.inr (Or.inr (Or.inl ⟨_, rfl⟩))) ?_
  refine tc_iload_n C 45 rfl rfl ?_
  refine tc_iconst C 46 rfl 2 (by decide) ?_
  refine tc_geF C 47 rfl 114 (by decide) (by decide) ?_
  refine tc_aload_n C 48 rfl rfl ?_
  refine tc_getR C 49 rfl fl_X0_19 (by decide) (Nat.le_of_ble_eq_true rfl) rfl rfl ?_
  refine tc_iload_n C 50 rfl rfl ?_
  refine tc_iconst C 51 rfl 3 (by decide) ?_
  refine tc_imul C 52 rfl 3 (by decide) ?_
  refine tc_iconst C 53 rfl 1 (by decide) ?_
  refine tc_iadd C 54 rfl 4 (by decide) ?_
  refine tc_iload_n C 55 rfl rfl ?_
  refine tc_iadd C 56 rfl 4 (by decide) ?_
  refine tc_aload_n C 57 rfl rfl ?_
  refine tc_getR C 58 rfl fl_X0_11 (by decide) (Nat.le_of_ble_eq_true rfl) rfl rfl ?_
  refine tc_iload_n C 59 rfl rfl ?_
  refine tc_aald C 60 rfl (by decide) (Nat.le_of_ble_eq_true rfl) rfl rfl (by decide) (t := 17) rfl ?_
  refine tc_getR C 61 rfl fl_X0_41 (by decide) (Nat.le_of_ble_eq_true rfl) rfl rfl ?_
  refine tc_iload_n C 62 rfl rfl ?_
  refine tc_aald C 63 rfl (by decide) (Nat.le_of_ble_eq_true rfl) rfl rfl (by decide) (t := 24) rfl ?_
  refine tc_aast C 64 rfl (by decide) (Nat.le_of_ble_eq_true rfl) (Nat.le_of_ble_eq_true rfl) rfl rfl (by decide) (by decide) (Nat.le_of_ble_eq_true rfl) rfl rfl (by decide) [14, 15, 16, 23, 24, 0, 0, 0, 0, 0, 0, 0] rfl ?_
  refine tc_iinc C 65 rfl 1 (by decide) rfl (Nat.le_of_ble_eq_true rfl) (Or.inr (Or.inr (Or.inl ⟨_, rfl⟩))) ?_
  refine tc_goto C 66 rfl 80 (by decide) ?_
  refine tc_iload_n C 45 rfl rfl ?_
  refine tc_iconst C 46 rfl 2 (by decide) ?_
  refine tc_geF C 47 rfl 114 (by decide) (by decide) ?_
  refine tc_aload_n C 48 rfl rfl ?_
  refine tc_getR C 49 rfl fl_X0_19 (by decide) (Nat.le_of_ble_eq_true rfl) rfl rfl ?_
  refine tc_iload_n C 50 rfl rfl ?_
  refine tc_iconst C 51 rfl 3 (by decide) ?_
  refine tc_imul C 52 rfl 3 (by decide) ?_
  refine tc_iconst C 53 rfl 1 (by decide) ?_
  refine tc_iadd C 54 rfl 4 (by decide) ?_
  refine tc_iload_n C 55 rfl rfl ?_
  refine tc_iadd C 56 rfl 5 (by decide) ?_
  refine tc_aload_n C 57 rfl rfl ?_
  refine tc_getR C 58 rfl fl_X0_11 (by decide) (Nat.le_of_ble_eq_true rfl) rfl rfl ?_
  refine tc_iload_n C 59 rfl rfl ?_
  refine tc_aald C 60 rfl (by decide) (Nat.le_of_ble_eq_true rfl) rfl rfl (by decide) (t := 17) rfl ?_
  refine tc_getR C 61 rfl fl_X0_41 (by decide) (Nat.le_of_ble_eq_true rfl) rfl rfl ?_
  refine tc_iload_n C 62 rfl rfl ?_
  refine tc_aald C 63 rfl (by decide) (Nat.le_of_ble_eq_true rfl) rfl rfl (by decide) (t := 25) rfl ?_
  refine tc_aast C 64 rfl (by decide) (Nat.le_of_ble_eq_true rfl) (Nat.le_of_ble_eq_true rfl) rfl rfl (by decide) (by decide) (Nat.le_of_ble_eq_true rfl) rfl rfl (by decide) [14, 15, 16, 23, 24, 25, 0, 0, 0, 0, 0, 0] rfl ?_
  refine tc_iinc C 65 rfl 2 (by decide) rfl (Nat.le_of_ble_eq_true rfl) (Or.inr (Or.inr (Or.inl ⟨_, rfl⟩))) ?_
  refine tc_goto C 66 rfl 80 (by decide) ?_
  refine tc_iload_n C 45 rfl rfl ?_
  refine tc_iconst C 46 rfl 2 (by decide) ?_
  refine tc_geT C 47 rfl 114 (by decide) (by decide) ?_
  refine tc_iinc C 67 rfl 2 (by decide) rfl (Nat.le_of_ble_eq_true rfl) (Or.inr (Or.inr (Or.inr ⟨_, rfl⟩))) ?_
  refine tc_goto C 68 rfl 42 (by decide) ?_
  refine tc_iload_n C 21 rfl rfl ?_
  refine tc_iconst C 22 rfl 4 (by decide) ?_
  refine tc_geF C 23 rfl 120 (by decide) (by decide) ?_
  refine tc_aload_n C 24 rfl rfl ?_
  refine tc_getR C 25 rfl fl_X0_11 (by decide) (Nat.le_of_ble_eq_true rfl) rfl rfl ?_
  refine tc_iload_n C 26 rfl rfl ?_
  refine tc_new (ci := 2) (ty := tyX2) C 27 rfl [some 0, some 0, some 0, none] rfl in_X2 tyX2_ok q_123 q_150 q_99 df_X2 rfl 26 rfl (by decide) rfl (by decide) (by decide) ?_
  refine tc_cs (cs' := 24) (sl' := 214) rfl rfl ?_
  refine tc_dup C 28 rfl ?_
  refine tc_iload_n C 29 rfl rfl ?_
  refine tc_callI (k := 26) C 30 rfl [.int 2] [sw_r _ 26, .int 2, sw_r _ 3] mi_X0_34 q_152 rfl rfl (Nat.le_of_ble_eq_true rfl) (by decide) rfl (Nat.le_of_ble_eq_true rfl) (Nat.le_of_ble_eq_true rfl) ⟨by decide, by decide, by decide, by decide⟩ (c_X2_26 _ b g _ _ _ _ _ rfl (fun k hk => (gz_X2_17 (fun k hk => (gz_X2_8 (fun _ _ => rfl)) k (by omega))) k (by omega))) rfl ?_
  refine tc_cs (cs' := 32) (sl' := 277) rfl rfl ?_
  refine tc_cv (Z' := (sw_zl [.inl (6, [some 0, some 0]), .inl (0, [some 3, some 4, some 5, some 6, none, none, none, none, none, none, none, none, none, none]), .inr (2, 4, some [8, 17, 0, 0]), .inr (3, 12, some [14, 15, 16, 23, 24, 25, 0, 0, 0, 0, 0, 0]), .inr (0, 8, none), .inl (3, [some 7, none, none, none]), .inr (1, 48, none), .inl (2, [some 9, some 14, some 13, none]), .inl (1, [some 10, some 11, some 12, none]), .inr (0, 8, none), .inr (0, 8, none), .inr (0, 8, none), .inr (3, 2, some [15, 16]), .inl (4, [none, none, none, none, none, none, none, none, none, none, none]), .inl (4, [none, none, none, none, none, none, none, none, none, none, none]), .inl (4, [none, none, none, none, none, none, none, none, none, none, none]), .inl (2, [some 18, some 23, some 22, none]), .inl (1, [some 19, some 20, some 21, none]), .inr (0, 8, none), .inr (0, 8, none), .inr (0, 8, none), .inr (3, 2, some [24, 25]), .inl (4, [none, none, none, none, none, none, none, none, none, none, none]), .inl (4, [none, none, none, none, none, none, none, none, none, none, none]), .inl (4, [none, none, none, none, none, none, none, none, none, none, none]), .inl (2, [some 27, some 32, some 31, none]), .inl (1, [some 28, some 29, some 30, none]), .inr (0, 8, none), .inr (0, 8, none), .inr (0, 8, none), .inr (3, 2, some [33, 34]), .inl (4, [none, none, none, none, none, none, none, none, none, none, none]), .inl (4, [none, none, none, none, none, none, none, none, none, none, none]), .inl (4, [none, none, none, none, none, none, none, none, none, none, none])])) (by decide +kernel) ?_
  refine tc_aast C 31 rfl (by decide) (Nat.le_of_ble_eq_true rfl) (Nat.le_of_ble_eq_true rfl) rfl rfl (by decide) (by decide) (Nat.le_of_ble_eq_true rfl) rfl rfl (by decide) [8, 17, 26, 0] rfl ?_
  refine tc_aload_n C 32 rfl rfl ?_
  refine tc_getR C 33 rfl fl_X0_19 (by decide) (Nat.le_of_ble_eq_true rfl) rfl rfl ?_
  refine tc_iload_n C 34 rfl rfl ?_
  refine tc_iconst C 35 rfl 3 (by decide) ?_
  refine tc_imul C 36 rfl 6 (by decide) ?_
  refine tc_aload_n C 37 rfl rfl ?_
  refine tc_getR C 38 rfl fl_X0_11 (by decide) (Nat.le_of_ble_eq_true rfl) rfl rfl ?_
  refine tc_iload_n C 39 rfl rfl ?_
  refine tc_aald C 40 rfl (by decide) (Nat.le_of_ble_eq_true rfl) rfl rfl (by decide) (t := 26) rfl ?_
  refine tc_getR C 41 rfl fl_X0_37 (by decide) (Nat.le_of_ble_eq_true rfl) rfl rfl ?_
  refine tc_aast C 42 rfl (by decide) (Nat.le_of_ble_eq_true rfl) (Nat.le_of_ble_eq_true rfl) rfl rfl (by decide) (by decide) (Nat.le_of_ble_eq_true rfl) rfl rfl (by decide) [14, 15, 16, 23, 24, 25, 32, 0, 0, 0, 0, 0] rfl ?_
  refine tc_iconst C 43 rfl 0 (by decide) ?_
  refine tc_istore_n C 44 rfl (Nat.le_of_ble_eq_true rfl) (Or.inr (Or.inr (Or.inl ⟨_, rfl⟩))) ?_
  refine tc_iload_n C 45 rfl rfl ?_
  refine tc_iconst C 46 rfl 2 (by decide) ?_
  refine tc_geF C 47 rfl 114 (by decide) (by decide) ?_
  refine tc_aload_n C 48 rfl rfl ?_
  refine tc_getR C 49 rfl fl_X0_19 (by decide) (Nat.le_of_ble_eq_true rfl) rfl rfl ?_
  refine tc_iload_n C 50 rfl rfl ?_
  refine tc_iconst C 51 rfl 3 (by decide) ?_
  refine tc_imul C 52 rfl 6 (by decide) ?_
  refine tc_iconst C 53 rfl 1 (by decide) ?_
  refine tc_iadd C 54 rfl 7 (by decide) ?_
  refine tc_iload_n C 55 rfl rfl ?_
  refine tc_iadd C 56 rfl 7 (by decide) ?_
  refine tc_aload_n C 57 rfl rfl ?_
  refine tc_getR C 58 rfl fl_X0_11 (by decide) (Nat.le_of_ble_eq_true rfl) rfl rfl ?_
  refine tc_iload_n C 59 rfl rfl ?_
  refine tc_aald C 60 rfl (by decide) (Nat.le_of_ble_eq_true rfl) rfl rfl (by decide) (t := 26) rfl ?_
  refine tc_getR C 61 rfl fl_X0_41 (by decide) (Nat.le_of_ble_eq_true rfl) rfl rfl ?_
  refine tc_iload_n C 62 rfl rfl ?_
  refine tc_aald C 63 rfl (by decide) (Nat.le_of_ble_eq_true rfl) rfl rfl (by decide) (t := 33) rfl ?_
  refine tc_aast C 64 rfl (by decide) (Nat.le_of_ble_eq_true rfl) (Nat.le_of_ble_eq_true rfl) rfl rfl (by decide) (by decide) (Nat.le_of_ble_eq_true rfl) rfl rfl (by decide) [14, 15, 16, 23, 24, 25, 32, 33, 0, 0, 0, 0] rfl ?_
  refine tc_iinc C 65 rfl 1 (by decide) rfl (Nat.le_of_ble_eq_true rfl) (Or.inr (Or.inr (Or.inl ⟨_, rfl⟩))) ?_
  refine tc_goto C 66 rfl 80 (by decide) ?_
  refine tc_iload_n C 45 rfl rfl ?_
  refine tc_iconst C 46 rfl 2 (by decide) ?_
  refine tc_geF C 47 rfl 114 (by decide) (by decide) ?_
  refine tc_aload_n C 48 rfl rfl ?_
  refine tc_getR C 49 rfl fl_X0_19 (by decide) (Nat.le_of_ble_eq_true rfl) rfl rfl ?_
  refine tc_iload_n C 50 rfl rfl ?_
  refine tc_iconst C 51 rfl 3 (by decide) ?_
  refine tc_imul C 52 rfl 6 (by decide) ?_
  refine tc_iconst C 53 rfl 1 (by decide) ?_
  refine tc_iadd C 54 rfl 7 (by decide) ?_
  refine tc_iload_n C 55 rfl rfl ?_
  refine tc_iadd C 56 rfl 8 (by decide) ?_
  refine tc_aload_n C 57 rfl rfl ?_
  refine tc_getR C 58 rfl fl_X0_11 (by decide) (Nat.le_of_ble_eq_true rfl) rfl rfl ?_
  refine tc_iload_n C 59 rfl rfl ?_
  refine tc_aald C 60 rfl (by decide) (Nat.le_of_ble_eq_true rfl) rfl rfl (by decide) (t := 26) rfl ?_
  refine tc_getR C 61 rfl fl_X0_41 (by decide) (Nat.le_of_ble_eq_true rfl) rfl rfl ?_
  refine tc_iload_n C 62 rfl rfl ?_
  refine tc_aald C 63 rfl (by decide) (Nat.le_of_ble_eq_true rfl) rfl rfl (by decide) (t := 34) rfl ?_
  refine tc_aast C 64 rfl (by decide) (Nat.le_of_ble_eq_true rfl) (Nat.le_of_ble_eq_true rfl) rfl rfl (by decide) (by decide) (Nat.le_of_ble_eq_true rfl) rfl rfl (by decide) [14, 15, 16, 23, 24, 25, 32, 33, 34, 0, 0, 0] rfl ?_
  refine tc_iinc C 65 rfl 2 (by decide) rfl (Nat.le_of_ble_eq_true rfl) (Or.inr (Or.inr (Or.inl ⟨_, rfl⟩))) ?_
  refine tc_goto C 66 rfl 80 (by decide) ?_
  refine tc_iload_n C 45 rfl rfl ?_
  refine tc_iconst C 46 rfl 2 (by decide) ?_
  refine tc_geT C 47 rfl 114 (by decide) (by decide) ?_
  refine tc_iinc C 67 rfl 3 (by decide) rfl (Nat.le_of_ble_eq_true rfl) (Or.inr (Or.inr (Or.inr ⟨_, rfl⟩))) ?_
  refine tc_goto C 68 rfl 42 (by decide) ?_
  refine tc_iload_n C 21 rfl rfl ?_
  refine tc_iconst C 22 rfl 4 (by decide) ?_
  refine tc_geF C 23 rfl 120 (by decide) (by decide) ?_
  refine tc_aload_n C 24 rfl rfl ?_
  refine tc_getR C 25 rfl fl_X0_11 (by decide) (Nat.le_of_ble_eq_true rfl) rfl rfl ?_
  refine tc_iload_n C 26 rfl rfl ?_
  refine tc_new (ci := 2) (ty := tyX2) C 27 rfl [some 0, some 0, some 0, none] rfl in_X2 tyX2_ok q_123 q_150 q_99 df_X2 rfl 35 rfl (by decide) rfl (by decide) (by decide) ?_
  refine tc_cs (cs' := 33) (sl' := 281) rfl rfl ?_
  refine tc_dup C 28 rfl ?_
  refine tc_iload_n C 29 rfl rfl ?_
  refine tc_callI (k := 35) C 30 rfl [.int 3] [sw_r _ 35, .int 3, sw_r _ 3] mi_X0_34 q_152 rfl rfl (Nat.le_of_ble_eq_true rfl) (by decide) rfl (Nat.le_of_ble_eq_true rfl) (Nat.le_of_ble_eq_true rfl) ⟨by decide, by decide, by decide, by decide⟩ (c_X2_35 _ b g _ _ _ _ _ rfl (fun k hk => (gz_X2_26 (fun k hk => (gz_X2_17 (fun k hk => (gz_X2_8 (fun _ _ => rfl)) k (by omega))) k (by omega))) k (by omega))) rfl ?_
  refine tc_cs (cs' := 41) (sl' := 344) rfl rfl ?_
  refine tc_cv (Z' := (sw_zl [.inl (6, [some 0, some 0]), .inl (0, [some 3, some 4, some 5, some 6, none, none, none, none, none, none, none, none, none, none]), .inr (2, 4, some [8, 17, 26, 0]), .inr (3, 12, some [14, 15, 16, 23, 24, 25, 32, 33, 34, 0, 0, 0]), .inr (0, 8, none), .inl (3, [some 7, none, none, none]), .inr (1, 48, none), .inl (2, [some 9, some 14, some 13, none]), .inl (1, [some 10, some 11, some 12, none]), .inr (0, 8, none), .inr (0, 8, none), .inr (0, 8, none), .inr (3, 2, some [15, 16]), .inl (4, [none, none, none, none, none, none, none, none, none, none, none]), .inl (4, [none, none, none, none, none, none, none, none, none, none, none]), .inl (4, [none, none, none, none, none, none, none, none, none, none, none]), .inl (2, [some 18, some 23, some 22, none]), .inl (1, [some 19, some 20, some 21, none]), .inr (0, 8, none), .inr (0, 8, none), .inr (0, 8, none), .inr (3, 2, some [24, 25]), .inl (4, [none, none, none, none, none, none, none, none, none, none, none]), .inl (4, [none, none, none, none, none, none, none, none, none, none, none]), .inl (4, [none, none, none, none, none, none, none, none, none, none, none]), .inl (2, [some 27, some 32, some 31, none]), .inl (1, [some 28, some 29, some 30, none]), .inr (0, 8, none), .inr (0, 8, none), .inr (0, 8, none), .inr (3, 2, some [33, 34]), .inl (4, [none, none, none, none, none, none, none, none, none, none, none]), .inl (4, [none, none, none, none, none, none, none, none, none, none, none]), .inl (4, [none, none, none, none, none, none, none, none, none, none, none]), .inl (2, [some 36, some 41, some 40, none]), .inl (1, [some 37, some 38, some 39, none]), .inr (0, 8, none), .inr (0, 8, none), .inr (0, 8, none), .inr (3, 2, some [42, 43]), .inl (4, [none, none, none, none, none, none, none, none, none, none, none]), .inl (4, [none, none, none, none, none, none, none, none, none, none, none]), .inl (4, [none, none, none, none, none, none, none, none, none, none, none])])) (by decide +kernel) ?_
  refine tc_aast C 31 rfl (by decide) (Nat.le_of_ble_eq_true rfl) (Nat.le_of_ble_eq_true rfl) rfl rfl (by decide) (by decide) (Nat.le_of_ble_eq_true rfl) rfl rfl (by decide) [8, 17, 26, 35] rfl ?_
  refine tc_aload_n C 32 rfl rfl ?_
  refine tc_getR C 33 rfl fl_X0_19 (by decide) (Nat.le_of_ble_eq_true rfl) rfl rfl ?_
  refine tc_iload_n C 34 rfl rfl ?_
  refine tc_iconst C 35 rfl 3 (by decide) ?_
  refine tc_imul C 36 rfl 9 (by decide) ?_
  refine tc_aload_n C 37 rfl rfl ?_
  refine tc_getR C 38 rfl fl_X0_11 (by decide) (Nat.le_of_ble_eq_true rfl) rfl rfl ?_
  refine tc_iload_n C 39 rfl rfl ?_
  refine tc_aald C 40 rfl (by decide) (Nat.le_of_ble_eq_true rfl) rfl rfl (by decide) (t := 35) rfl ?_
  refine tc_getR C 41 rfl fl_X0_37 (by decide) (Nat.le_of_ble_eq_true rfl) rfl rfl ?_
  refine tc_aast C 42 rfl (by decide) (Nat.le_of_ble_eq_true rfl) (Nat.le_of_ble_eq_true rfl) rfl rfl (by decide) (by decide) (Nat.le_of_ble_eq_true rfl) rfl rfl (by decide) [14, 15, 16, 23, 24, 25, 32, 33, 34, 41, 0, 0] rfl ?_
  refine tc_iconst C 43 rfl 0 (by decide) ?_
  refine tc_istore_n C 44 rfl (Nat.le_of_ble_eq_true rfl) (Or.inr (Or.inr (Or.inl ⟨_, rfl⟩))) ?_
  refine tc_iload_n C 45 rfl rfl ?_
  refine tc_iconst C 46 rfl 2 (by decide) ?_
  refine tc_geF C 47 rfl 114 (by decide) (by decide) ?_
  refine tc_aload_n C 48 rfl rfl ?_
  refine tc_getR C 49 rfl fl_X0_19 (by decide) (Nat.le_of_ble_eq_true rfl) rfl rfl ?_
  refine tc_iload_n C 50 rfl rfl ?_
  refine tc_iconst C 51 rfl 3 (by decide) ?_
  refine tc_imul C 52 rfl 9 (by decide) ?_
  refine tc_iconst C 53 rfl 1 (by decide) ?_
  refine tc_iadd C 54 rfl 10 (by decide) ?_
  refine tc_iload_n C 55 rfl rfl ?_
  refine tc_iadd C 56 rfl 10 (by decide) ?_
  refine tc_aload_n C 57 rfl rfl ?_
  refine tc_getR C 58 rfl fl_X0_11 (by decide) (Nat.le_of_ble_eq_true rfl) rfl rfl ?_
  refine tc_iload_n C 59 rfl rfl ?_
  refine tc_aald C 60 rfl (by decide) (Nat.le_of_ble_eq_true rfl) rfl rfl (by decide) (t := 35) rfl ?_
  refine tc_getR C 61 rfl fl_X0_41 (by decide) (Nat.le_of_ble_eq_true rfl) rfl rfl ?_
  refine tc_iload_n C 62 rfl rfl ?_
  refine tc_aald C 63 rfl (by decide) (Nat.le_of_ble_eq_true rfl) rfl rfl (by decide) (t := 42) rfl ?_
  refine tc_aast C 64 rfl (by decide) (Nat.le_of_ble_eq_true rfl) (Nat.le_of_ble_eq_true rfl) rfl rfl (by decide) (by decide) (Nat.le_of_ble_eq_true rfl) rfl rfl (by decide) [14, 15, 16, 23, 24, 25, 32, 33, 34, 41, 42, 0] rfl ?_
  refine tc_iinc C 65 rfl 1 (by decide) rfl (Nat.le_of_ble_eq_true rfl) (Or.inr (Or.inr (Or.inl ⟨_, rfl⟩))) ?_
  refine tc_goto C 66 rfl 80 (by decide) ?_
  refine tc_iload_n C 45 rfl rfl ?_
  refine tc_iconst C 46 rfl 2 (by decide) ?_
  refine tc_geF C 47 rfl 114 (by decide) (by decide) ?_
  refine tc_aload_n C 48 rfl rfl ?_
  refine tc_getR C 49 rfl fl_X0_19 (by decide) (Nat.le_of_ble_eq_true rfl) rfl rfl ?_
  refine tc_iload_n C 50 rfl rfl ?_
  refine tc_iconst C 51 rfl 3 (by decide) ?_
  refine tc_imul C 52 rfl 9 (by decide) ?_
  refine tc_iconst C 53 rfl 1 (by decide) ?_
  refine tc_iadd C 54 rfl 10 (by decide) ?_
  refine tc_iload_n C 55 rfl rfl ?_
  refine tc_iadd C 56 rfl 11 (by decide) ?_
  refine tc_aload_n C 57 rfl rfl ?_
  refine tc_getR C 58 rfl fl_X0_11 (by decide) (Nat.le_of_ble_eq_true rfl) rfl rfl ?_
  refine tc_iload_n C 59 rfl rfl ?_
  refine tc_aald C 60 rfl (by decide) (Nat.le_of_ble_eq_true rfl) rfl rfl (by decide) (t := 35) rfl ?_
  refine tc_getR C 61 rfl fl_X0_41 (by decide) (Nat.le_of_ble_eq_true rfl) rfl rfl ?_
  refine tc_iload_n C 62 rfl rfl ?_
  refine tc_aald C 63 rfl (by decide) (Nat.le_of_ble_eq_true rfl) rfl rfl (by decide) (t := 43) rfl ?_
  refine tc_aast C 64 rfl (by decide) (Nat.le_of_ble_eq_true rfl) (Nat.le_of_ble_eq_true rfl) rfl rfl (by decide) (by decide) (Nat.le_of_ble_eq_true rfl) rfl rfl (by decide) [14, 15, 16, 23, 24, 25, 32, 33, 34, 41, 42, 43] rfl ?_
  refine tc_iinc C 65 rfl 2 (by decide) rfl (Nat.le_of_ble_eq_true rfl) (Or.inr (Or.inr (Or.inl ⟨_, rfl⟩))) ?_
  refine tc_goto C 66 rfl 80 (by decide) ?_
  refine tc_iload_n C 45 rfl rfl ?_
  refine tc_iconst C 46 rfl 2 (by decide) ?_
  refine tc_geT C 47 rfl 114 (by decide) (by decide) ?_
  refine tc_iinc C 67 rfl 4 (by decide) rfl (Nat.le_of_ble_eq_true rfl) (Or.inr (Or.inr (Or.inr ⟨_, rfl⟩))) ?_
  refine tc_goto C 68 rfl 42 (by decide) ?_
  refine tc_iload_n C 21 rfl rfl ?_
  refine tc_iconst C 22 rfl 4 (by decide) ?_
  refine tc_geT C 23 rfl 120 (by decide) (by decide) ?_
  refine tc_cv (Z' := sw_ZB0) (by decide +kernel) ?_
  exact tc_vret C 69 rfl
set_option maxHeartbeats 20000000 in
set_option maxRecDepth 100000 in
theorem c_X6_1 (l : Launch) (b : Nat) (g : Nat → Nat) (dC : Nat → ClassId) (dI : Nat → Nat → Nat) (dA : Nat → ClassId) (σ1 : sw_St) (hb : f_X0_reset sw_σB 3 2 1 3 = some σ1) (hz : ∀ k, 43 < k → σ1 k = fun _ => 0) : sw_MC l yX6_init cX6_init 1 4 45 566 160 b g dC dI dA sw_z1 sw_σ0 [sw_rv (sw_ab b g) 1] sw_ZX σ1 := by
  refine sw_mkC 0 (by decide) rfl dk_X6_init rfl (sw_c1_all _ ⟨sw_rv_cat _ _, trivial⟩) (fun p e R M C => ?_)
  refine tc_aload_n C 0 rfl rfl ?_
  refine tc_objInit C 1 rfl (by decide) q_114 q_115 q_116 (by decide) (Nat.le_of_ble_eq_true rfl) ?_
  refine tc_aload_n C 2 rfl rfl ?_
  refine tc_new (ci := 0) (ty := tyX0) C 3 rfl [some 0, some 0, some 0, some 0, none, none, none, none, none, none, none, none, none, none] rfl in_X0 tyX0_ok q_117 q_118 q_97 df_X0 rfl 2 rfl (by decide) rfl (by decide) (by decide) ?_
  refine tc_cs (cs' := 1) (sl' := 14) rfl rfl ?_
  refine tc_dup C 4 rfl ?_
  refine tc_callI (k := 2) C 5 rfl [] [sw_r _ 2, sw_r _ 1] mi_X6_9 q_120 rfl rfl (Nat.le_of_ble_eq_true rfl) (by decide) rfl (Nat.le_of_ble_eq_true rfl) (Nat.le_of_ble_eq_true rfl) ⟨by decide, by decide, by decide, by decide⟩ (c_X0_2 _ b g _ _ _) rfl ?_
  refine tc_cs (cs' := 42) (sl' := 358) rfl rfl ?_
  refine tc_putR C 6 rfl ff_X6_10 (fun _ => ⟨rfl, rfl⟩) (by decide) (Nat.le_of_ble_eq_true rfl) (Nat.le_of_ble_eq_true rfl) rfl rfl (by decide) [some 2, some 0] rfl ?_
  refine tc_aload_n C 7 rfl rfl ?_
  refine tc_getR C 8 rfl fl_X6_10 (by decide) (Nat.le_of_ble_eq_true rfl) rfl rfl ?_
  refine tc_iconst C 9 rfl 3 (by decide) ?_
  refine tc_iconst C 10 rfl 2 (by decide) ?_
  refine tc_iconst C 11 rfl 1 (by decide) ?_
  refine tc_iconst C 12 rfl 3 (by decide) ?_
  refine tc_cv (Z' := sw_ZB) (by decide +kernel) ?_
  refine tc_callV (k := 2) (x := sw_eV σ1) C 13 rfl [.int 3, .int 2, .int 1, .int 3] [] ml_X6_16 rfl (by decide) (by decide) (by decide) (by decide) rfl rfl ⟨by decide, by decide, by decide, by decide⟩ (mB_X0_reset _ _ _ _ _ (sw_ab_inj (by decide)) _ _ _ _ _ _ hb) rfl ?_
  refine tc_aload_n C 14 rfl rfl ?_
  refine tc_new (ci := 5) (ty := tyX5) C 15 rfl [some 0, some 0, none, none, none] rfl in_X5 tyX5_ok q_323 q_324 q_102 df_X5 rfl 44 rfl (by decide) (hz 44 (by decide)) (by decide) (by decide) ?_
  refine tc_cs (cs' := 43) (sl' := 363) rfl rfl ?_
  refine tc_dup C 16 rfl ?_
  refine tc_callI (k := 44) C 17 rfl [] [sw_r _ 44, sw_r _ 1] mi_X6_22 q_326 rfl rfl (Nat.le_of_ble_eq_true rfl) (by decide) rfl (Nat.le_of_ble_eq_true rfl) (Nat.le_of_ble_eq_true rfl) ⟨by decide, by decide, by decide, by decide⟩ (c_X5_44 _ b g _ _ _ _ _ rfl (fun k hk => hz k (by omega))) rfl ?_
  refine tc_cs (cs' := 45) (sl' := 566) rfl rfl ?_
  refine tc_putR C 18 rfl ff_X6_23 (fun _ => ⟨rfl, rfl⟩) (by decide) (Nat.le_of_ble_eq_true rfl) (Nat.le_of_ble_eq_true rfl) rfl rfl (by decide) [some 2, some 44] rfl ?_
  refine tc_cv (Z' := sw_ZX) (by decide +kernel) ?_
  exact tc_vret C 19 rfl
def sw_σM : sw_St := (sw_up (sw_up (sw_up (sw_up (sw_up (sw_up (sw_up (sw_up (sw_up (sw_up (sw_up (sw_up (sw_up (sw_up (sw_up (sw_up (sw_up (sw_up (sw_up (sw_up (sw_up (sw_up (sw_up (sw_up (sw_up (sw_up (sw_up (sw_up (sw_up (sw_up (sw_up (sw_up (sw_up (sw_up (sw_up (sw_up (sw_up (sw_up (sw_up (sw_up sw_σ0 20 0 109) 20 1 105) 20 2 115) 20 3 115) 20 4 105) 20 5 110) 20 6 103) 20 7 0) 20 8 115) 20 9 104) 20 10 97) 20 11 114) 20 12 101) 20 13 100) 20 14 0) 20 15 0) 20 16 97) 20 17 108) 20 18 111) 20 19 110) 20 20 101) 20 21 0) 20 22 0) 20 23 0) 20 24 99) 20 25 104) 20 26 97) 20 27 110) 20 28 103) 20 29 101) 20 30 100) 20 31 0) 20 32 98) 20 33 117) 20 34 102) 20 35 102) 20 36 101) 20 37 114) 20 38 101) 20 39 100)
def sw_zm : sw_Z := sw_zn (0, fun _ => none) (.inl (7, [none, none, none, none, none, some 0, some 0, some 0, some 0, some 0, some 0, some 0, some 0, some 0, some 0, some 0, some 0, some 0, none, some 0, none, none, some 0, none, some 0, none, none, none, none, none, some 0, none, some 0, none, some 0]))
set_option maxHeartbeats 20000000 in
set_option maxRecDepth 100000 in
theorem c_X7_1 (l : Launch) (b : Nat) (g : Nat → Nat) (dC : Nat → ClassId) (dI : Nat → Nat → Nat) (dA : Nat → ClassId) (r1 : Int32 × sw_St) (hb : f_X7_begin sw_σM 3 2 1 3 = some r1) : sw_MC l yX7_init cX7_init 1 2 19 499 80 b g dC dI dA sw_zm sw_σ0 [sw_rv (sw_ab b g) 1] sw_ZM r1.2 := by
  refine sw_mkC 0 (by decide) rfl dk_X7_init rfl (sw_c1_all _ ⟨sw_rv_cat _ _, trivial⟩) (fun p e R M C => ?_)
  refine tc_aload_n C 0 rfl rfl ?_
  refine tc_objInit C 1 rfl (by decide) q_764 q_115 q_116 (by decide) (Nat.le_of_ble_eq_true rfl) ?_
  refine tc_aload_n C 2 rfl rfl ?_
  refine tc_bipush C 3 rfl 8 (by decide) ?_
  refine tc_newi C 4 rfl 8 q_148 ⟨by decide, by decide⟩ (by decide) rfl 2 rfl (by decide) rfl (by decide) (by decide) ?_
  refine tc_cs (cs' := 1) (sl' := 8) rfl rfl ?_
  refine tc_putR C 5 rfl ff_X7_7 (fun _ => ⟨rfl, rfl⟩) (by decide) (Nat.le_of_ble_eq_true rfl) (Nat.le_of_ble_eq_true rfl) rfl rfl (by decide) [none, none, none, none, none, some 2, some 0, some 0, some 0, some 0, some 0, some 0, some 0, some 0, some 0, some 0, some 0, some 0, none, some 0, none, none, some 0, none, some 0, none, none, none, none, none, some 0, none, some 0, none, some 0] rfl ?_
  refine tc_aload_n C 6 rfl rfl ?_
  refine tc_iconst C 7 rfl 4 (by decide) ?_
  refine tc_newi C 8 rfl 4 q_148 ⟨by decide, by decide⟩ (by decide) rfl 3 rfl (by decide) rfl (by decide) (by decide) ?_
  refine tc_cs (cs' := 2) (sl' := 12) rfl rfl ?_
  refine tc_putR C 9 rfl ff_X7_13 (fun _ => ⟨rfl, rfl⟩) (by decide) (Nat.le_of_ble_eq_true rfl) (Nat.le_of_ble_eq_true rfl) rfl rfl (by decide) [none, none, none, none, none, some 2, some 3, some 0, some 0, some 0, some 0, some 0, some 0, some 0, some 0, some 0, some 0, some 0, none, some 0, none, none, some 0, none, some 0, none, none, none, none, none, some 0, none, some 0, none, some 0] rfl ?_
  refine tc_aload_n C 10 rfl rfl ?_
  refine tc_bipush C 11 rfl 16 (by decide) ?_
  refine tc_newi C 12 rfl 16 q_148 ⟨by decide, by decide⟩ (by decide) rfl 4 rfl (by decide) rfl (by decide) (by decide) ?_
  refine tc_cs (cs' := 3) (sl' := 28) rfl rfl ?_
  refine tc_putR C 13 rfl ff_X7_16 (fun _ => ⟨rfl, rfl⟩) (by decide) (Nat.le_of_ble_eq_true rfl) (Nat.le_of_ble_eq_true rfl) rfl rfl (by decide) [none, none, none, none, none, some 2, some 3, some 4, some 0, some 0, some 0, some 0, some 0, some 0, some 0, some 0, some 0, some 0, none, some 0, none, none, some 0, none, some 0, none, none, none, none, none, some 0, none, some 0, none, some 0] rfl ?_
  refine tc_aload_n C 14 rfl rfl ?_
  refine tc_bipush C 15 rfl 16 (by decide) ?_
  refine tc_newi C 16 rfl 16 q_148 ⟨by decide, by decide⟩ (by decide) rfl 5 rfl (by decide) rfl (by decide) (by decide) ?_
  refine tc_cs (cs' := 4) (sl' := 44) rfl rfl ?_
  refine tc_putR C 17 rfl ff_X7_19 (fun _ => ⟨rfl, rfl⟩) (by decide) (Nat.le_of_ble_eq_true rfl) (Nat.le_of_ble_eq_true rfl) rfl rfl (by decide) [none, none, none, none, none, some 2, some 3, some 4, some 5, some 0, some 0, some 0, some 0, some 0, some 0, some 0, some 0, some 0, none, some 0, none, none, some 0, none, some 0, none, none, none, none, none, some 0, none, some 0, none, some 0] rfl ?_
  refine tc_aload_n C 18 rfl rfl ?_
  refine tc_bipush C 19 rfl 16 (by decide) ?_
  refine tc_newi C 20 rfl 16 q_148 ⟨by decide, by decide⟩ (by decide) rfl 6 rfl (by decide) rfl (by decide) (by decide) ?_
  refine tc_cs (cs' := 5) (sl' := 60) rfl rfl ?_
  refine tc_putR C 21 rfl ff_X7_22 (fun _ => ⟨rfl, rfl⟩) (by decide) (Nat.le_of_ble_eq_true rfl) (Nat.le_of_ble_eq_true rfl) rfl rfl (by decide) [none, none, none, none, none, some 2, some 3, some 4, some 5, some 6, some 0, some 0, some 0, some 0, some 0, some 0, some 0, some 0, none, some 0, none, none, some 0, none, some 0, none, none, none, none, none, some 0, none, some 0, none, some 0] rfl ?_
  refine tc_aload_n C 22 rfl rfl ?_
  refine tc_iconst C 23 rfl 4 (by decide) ?_
  refine tc_newi C 24 rfl 4 q_148 ⟨by decide, by decide⟩ (by decide) rfl 7 rfl (by decide) rfl (by decide) (by decide) ?_
  refine tc_cs (cs' := 6) (sl' := 64) rfl rfl ?_
  refine tc_putR C 25 rfl ff_X7_25 (fun _ => ⟨rfl, rfl⟩) (by decide) (Nat.le_of_ble_eq_true rfl) (Nat.le_of_ble_eq_true rfl) rfl rfl (by decide) [none, none, none, none, none, some 2, some 3, some 4, some 5, some 6, some 7, some 0, some 0, some 0, some 0, some 0, some 0, some 0, none, some 0, none, none, some 0, none, some 0, none, none, none, none, none, some 0, none, some 0, none, some 0] rfl ?_
  refine tc_aload_n C 26 rfl rfl ?_
  refine tc_bipush C 27 rfl 8 (by decide) ?_
  refine tc_newi C 28 rfl 8 q_148 ⟨by decide, by decide⟩ (by decide) rfl 8 rfl (by decide) rfl (by decide) (by decide) ?_
  refine tc_cs (cs' := 7) (sl' := 72) rfl rfl ?_
  refine tc_putR C 29 rfl ff_X7_28 (fun _ => ⟨rfl, rfl⟩) (by decide) (Nat.le_of_ble_eq_true rfl) (Nat.le_of_ble_eq_true rfl) rfl rfl (by decide) [none, none, none, none, none, some 2, some 3, some 4, some 5, some 6, some 7, some 8, some 0, some 0, some 0, some 0, some 0, some 0, none, some 0, none, none, some 0, none, some 0, none, none, none, none, none, some 0, none, some 0, none, some 0] rfl ?_
  refine tc_aload_n C 30 rfl rfl ?_
  refine tc_bipush C 31 rfl 8 (by decide) ?_
  refine tc_newi C 32 rfl 8 q_148 ⟨by decide, by decide⟩ (by decide) rfl 9 rfl (by decide) rfl (by decide) (by decide) ?_
  refine tc_cs (cs' := 8) (sl' := 80) rfl rfl ?_
  refine tc_putR C 33 rfl ff_X7_31 (fun _ => ⟨rfl, rfl⟩) (by decide) (Nat.le_of_ble_eq_true rfl) (Nat.le_of_ble_eq_true rfl) rfl rfl (by decide) [none, none, none, none, none, some 2, some 3, some 4, some 5, some 6, some 7, some 8, some 9, some 0, some 0, some 0, some 0, some 0, none, some 0, none, none, some 0, none, some 0, none, none, none, none, none, some 0, none, some 0, none, some 0] rfl ?_
  refine tc_aload_n C 34 rfl rfl ?_
  refine tc_iconst C 35 rfl 4 (by decide) ?_
  refine tc_newi C 36 rfl 4 q_148 ⟨by decide, by decide⟩ (by decide) rfl 10 rfl (by decide) rfl (by decide) (by decide) ?_
  refine tc_cs (cs' := 9) (sl' := 84) rfl rfl ?_
  refine tc_putR C 37 rfl ff_X7_34 (fun _ => ⟨rfl, rfl⟩) (by decide) (Nat.le_of_ble_eq_true rfl) (Nat.le_of_ble_eq_true rfl) rfl rfl (by decide) [none, none, none, none, none, some 2, some 3, some 4, some 5, some 6, some 7, some 8, some 9, some 10, some 0, some 0, some 0, some 0, none, some 0, none, none, some 0, none, some 0, none, none, none, none, none, some 0, none, some 0, none, some 0] rfl ?_
  refine tc_aload_n C 38 rfl rfl ?_
  refine tc_iconst C 39 rfl 4 (by decide) ?_
  refine tc_newi C 40 rfl 4 q_148 ⟨by decide, by decide⟩ (by decide) rfl 11 rfl (by decide) rfl (by decide) (by decide) ?_
  refine tc_cs (cs' := 10) (sl' := 88) rfl rfl ?_
  refine tc_putR C 41 rfl ff_X7_37 (fun _ => ⟨rfl, rfl⟩) (by decide) (Nat.le_of_ble_eq_true rfl) (Nat.le_of_ble_eq_true rfl) rfl rfl (by decide) [none, none, none, none, none, some 2, some 3, some 4, some 5, some 6, some 7, some 8, some 9, some 10, some 11, some 0, some 0, some 0, none, some 0, none, none, some 0, none, some 0, none, none, none, none, none, some 0, none, some 0, none, some 0] rfl ?_
  refine tc_aload_n C 42 rfl rfl ?_
  refine tc_iconst C 43 rfl 4 (by decide) ?_
  refine tc_newi C 44 rfl 4 q_148 ⟨by decide, by decide⟩ (by decide) rfl 12 rfl (by decide) rfl (by decide) (by decide) ?_
  refine tc_cs (cs' := 11) (sl' := 92) rfl rfl ?_
  refine tc_putR C 45 rfl ff_X7_40 (fun _ => ⟨rfl, rfl⟩) (by decide) (Nat.le_of_ble_eq_true rfl) (Nat.le_of_ble_eq_true rfl) rfl rfl (by decide) [none, none, none, none, none, some 2, some 3, some 4, some 5, some 6, some 7, some 8, some 9, some 10, some 11, some 12, some 0, some 0, none, some 0, none, none, some 0, none, some 0, none, none, none, none, none, some 0, none, some 0, none, some 0] rfl ?_
  refine tc_aload_n C 46 rfl rfl ?_
  refine tc_iconst C 47 rfl 4 (by decide) ?_
  refine tc_newi C 48 rfl 4 q_148 ⟨by decide, by decide⟩ (by decide) rfl 13 rfl (by decide) rfl (by decide) (by decide) ?_
  refine tc_cs (cs' := 12) (sl' := 96) rfl rfl ?_
  refine tc_putR C 49 rfl ff_X7_43 (fun _ => ⟨rfl, rfl⟩) (by decide) (Nat.le_of_ble_eq_true rfl) (Nat.le_of_ble_eq_true rfl) rfl rfl (by decide) [none, none, none, none, none, some 2, some 3, some 4, some 5, some 6, some 7, some 8, some 9, some 10, some 11, some 12, some 13, some 0, none, some 0, none, none, some 0, none, some 0, none, none, none, none, none, some 0, none, some 0, none, some 0] rfl ?_
  refine tc_aload_n C 50 rfl rfl ?_
  refine tc_iconst C 51 rfl 4 (by decide) ?_
  refine tc_newi C 52 rfl 4 q_148 ⟨by decide, by decide⟩ (by decide) rfl 14 rfl (by decide) rfl (by decide) (by decide) ?_
  refine tc_cs (cs' := 13) (sl' := 100) rfl rfl ?_
  refine tc_putR C 53 rfl ff_X7_46 (fun _ => ⟨rfl, rfl⟩) (by decide) (Nat.le_of_ble_eq_true rfl) (Nat.le_of_ble_eq_true rfl) rfl rfl (by decide) [none, none, none, none, none, some 2, some 3, some 4, some 5, some 6, some 7, some 8, some 9, some 10, some 11, some 12, some 13, some 14, none, some 0, none, none, some 0, none, some 0, none, none, none, none, none, some 0, none, some 0, none, some 0] rfl ?_
  refine tc_aload_n C 54 rfl rfl ?_
  refine tc_bipush C 55 rfl 80 (by decide) ?_
  refine tc_newi C 56 rfl 80 q_148 ⟨by decide, by decide⟩ (by decide) rfl 15 rfl (by decide) rfl (by decide) (by decide) ?_
  refine tc_cs (cs' := 14) (sl' := 180) rfl rfl ?_
  refine tc_putR C 57 rfl ff_X7_49 (fun _ => ⟨rfl, rfl⟩) (by decide) (Nat.le_of_ble_eq_true rfl) (Nat.le_of_ble_eq_true rfl) rfl rfl (by decide) [none, none, none, none, none, some 2, some 3, some 4, some 5, some 6, some 7, some 8, some 9, some 10, some 11, some 12, some 13, some 14, none, some 15, none, none, some 0, none, some 0, none, none, none, none, none, some 0, none, some 0, none, some 0] rfl ?_
  refine tc_aload_n C 58 rfl rfl ?_
  refine tc_bipush C 59 rfl 28 (by decide) ?_
  refine tc_newi C 60 rfl 28 q_148 ⟨by decide, by decide⟩ (by decide) rfl 16 rfl (by decide) rfl (by decide) (by decide) ?_
  refine tc_cs (cs' := 15) (sl' := 208) rfl rfl ?_
  refine tc_putR C 61 rfl ff_X7_52 (fun _ => ⟨rfl, rfl⟩) (by decide) (Nat.le_of_ble_eq_true rfl) (Nat.le_of_ble_eq_true rfl) rfl rfl (by decide) [none, none, none, none, none, some 2, some 3, some 4, some 5, some 6, some 7, some 8, some 9, some 10, some 11, some 12, some 13, some 14, none, some 15, none, none, some 16, none, some 0, none, none, none, none, none, some 0, none, some 0, none, some 0] rfl ?_
  refine tc_aload_n C 62 rfl rfl ?_
  refine tc_bipush C 63 rfl 48 (by decide) ?_
  refine tc_newi C 64 rfl 48 q_148 ⟨by decide, by decide⟩ (by decide) rfl 17 rfl (by decide) rfl (by decide) (by decide) ?_
  refine tc_cs (cs' := 16) (sl' := 256) rfl rfl ?_
  refine tc_putR C 65 rfl ff_X7_55 (fun _ => ⟨rfl, rfl⟩) (by decide) (Nat.le_of_ble_eq_true rfl) (Nat.le_of_ble_eq_true rfl) rfl rfl (by decide) [none, none, none, none, none, some 2, some 3, some 4, some 5, some 6, some 7, some 8, some 9, some 10, some 11, some 12, some 13, some 14, none, some 15, none, none, some 16, none, some 17, none, none, none, none, none, some 0, none, some 0, none, some 0] rfl ?_
  refine tc_aload_n C 66 rfl rfl ?_
  refine tc_sipush C 67 rfl 200 (by decide) ?_
  refine tc_newi C 68 rfl 200 q_148 ⟨by decide, by decide⟩ (by decide) rfl 18 rfl (by decide) rfl (by decide) (by decide) ?_
  refine tc_cs (cs' := 17) (sl' := 456) rfl rfl ?_
  refine tc_putR C 69 rfl ff_X7_58 (fun _ => ⟨rfl, rfl⟩) (by decide) (Nat.le_of_ble_eq_true rfl) (Nat.le_of_ble_eq_true rfl) rfl rfl (by decide) [none, none, none, none, none, some 2, some 3, some 4, some 5, some 6, some 7, some 8, some 9, some 10, some 11, some 12, some 13, some 14, none, some 15, none, none, some 16, none, some 17, none, none, none, none, none, some 18, none, some 0, none, some 0] rfl ?_
  refine tc_aload_n C 70 rfl rfl ?_
  refine tc_iconst C 71 rfl 3 (by decide) ?_
  refine tc_newi C 72 rfl 3 q_148 ⟨by decide, by decide⟩ (by decide) rfl 19 rfl (by decide) rfl (by decide) (by decide) ?_
  refine tc_cs (cs' := 18) (sl' := 459) rfl rfl ?_
  refine tc_putR C 73 rfl ff_X7_61 (fun _ => ⟨rfl, rfl⟩) (by decide) (Nat.le_of_ble_eq_true rfl) (Nat.le_of_ble_eq_true rfl) rfl rfl (by decide) [none, none, none, none, none, some 2, some 3, some 4, some 5, some 6, some 7, some 8, some 9, some 10, some 11, some 12, some 13, some 14, none, some 15, none, none, some 16, none, some 17, none, none, none, none, none, some 18, none, some 19, none, some 0] rfl ?_
  refine tc_aload_n C 74 rfl rfl ?_
  refine tc_bipush C 75 rfl 40 (by decide) ?_
  refine tc_newi C 76 rfl 40 q_148 ⟨by decide, by decide⟩ (by decide) rfl 20 rfl (by decide) rfl (by decide) (by decide) ?_
  refine tc_cs (cs' := 19) (sl' := 499) rfl rfl ?_
  refine tc_dup C 77 rfl ?_
  refine tc_iconst C 78 rfl 0 (by decide) ?_
  refine tc_bipush C 79 rfl 109 (by decide) ?_
  refine tc_iast C 80 rfl (by decide) (Nat.le_of_ble_eq_true rfl) (Nat.le_of_ble_eq_true rfl) rfl (by decide) ?_
  refine tc_dup C 81 rfl ?_
  refine tc_iconst C 82 rfl 1 (by decide) ?_
  refine tc_bipush C 83 rfl 105 (by decide) ?_
  refine tc_iast C 84 rfl (by decide) (Nat.le_of_ble_eq_true rfl) (Nat.le_of_ble_eq_true rfl) rfl (by decide) ?_
  refine tc_dup C 85 rfl ?_
  refine tc_iconst C 86 rfl 2 (by decide) ?_
  refine tc_bipush C 87 rfl 115 (by decide) ?_
  refine tc_iast C 88 rfl (by decide) (Nat.le_of_ble_eq_true rfl) (Nat.le_of_ble_eq_true rfl) rfl (by decide) ?_
  refine tc_dup C 89 rfl ?_
  refine tc_iconst C 90 rfl 3 (by decide) ?_
  refine tc_bipush C 91 rfl 115 (by decide) ?_
  refine tc_iast C 92 rfl (by decide) (Nat.le_of_ble_eq_true rfl) (Nat.le_of_ble_eq_true rfl) rfl (by decide) ?_
  refine tc_dup C 93 rfl ?_
  refine tc_iconst C 94 rfl 4 (by decide) ?_
  refine tc_bipush C 95 rfl 105 (by decide) ?_
  refine tc_iast C 96 rfl (by decide) (Nat.le_of_ble_eq_true rfl) (Nat.le_of_ble_eq_true rfl) rfl (by decide) ?_
  refine tc_dup C 97 rfl ?_
  refine tc_iconst C 98 rfl 5 (by decide) ?_
  refine tc_bipush C 99 rfl 110 (by decide) ?_
  refine tc_iast C 100 rfl (by decide) (Nat.le_of_ble_eq_true rfl) (Nat.le_of_ble_eq_true rfl) rfl (by decide) ?_
  refine tc_dup C 101 rfl ?_
  refine tc_bipush C 102 rfl 6 (by decide) ?_
  refine tc_bipush C 103 rfl 103 (by decide) ?_
  refine tc_iast C 104 rfl (by decide) (Nat.le_of_ble_eq_true rfl) (Nat.le_of_ble_eq_true rfl) rfl (by decide) ?_
  refine tc_dup C 105 rfl ?_
  refine tc_bipush C 106 rfl 7 (by decide) ?_
  refine tc_iconst C 107 rfl 0 (by decide) ?_
  refine tc_iast C 108 rfl (by decide) (Nat.le_of_ble_eq_true rfl) (Nat.le_of_ble_eq_true rfl) rfl (by decide) ?_
  refine tc_dup C 109 rfl ?_
  refine tc_bipush C 110 rfl 8 (by decide) ?_
  refine tc_bipush C 111 rfl 115 (by decide) ?_
  refine tc_iast C 112 rfl (by decide) (Nat.le_of_ble_eq_true rfl) (Nat.le_of_ble_eq_true rfl) rfl (by decide) ?_
  refine tc_dup C 113 rfl ?_
  refine tc_bipush C 114 rfl 9 (by decide) ?_
  refine tc_bipush C 115 rfl 104 (by decide) ?_
  refine tc_iast C 116 rfl (by decide) (Nat.le_of_ble_eq_true rfl) (Nat.le_of_ble_eq_true rfl) rfl (by decide) ?_
  refine tc_dup C 117 rfl ?_
  refine tc_bipush C 118 rfl 10 (by decide) ?_
  refine tc_bipush C 119 rfl 97 (by decide) ?_
  refine tc_iast C 120 rfl (by decide) (Nat.le_of_ble_eq_true rfl) (Nat.le_of_ble_eq_true rfl) rfl (by decide) ?_
  refine tc_dup C 121 rfl ?_
  refine tc_bipush C 122 rfl 11 (by decide) ?_
  refine tc_bipush C 123 rfl 114 (by decide) ?_
  refine tc_iast C 124 rfl (by decide) (Nat.le_of_ble_eq_true rfl) (Nat.le_of_ble_eq_true rfl) rfl (by decide) ?_
  refine tc_dup C 125 rfl ?_
  refine tc_bipush C 126 rfl 12 (by decide) ?_
  refine tc_bipush C 127 rfl 101 (by decide) ?_
  refine tc_iast C 128 rfl (by decide) (Nat.le_of_ble_eq_true rfl) (Nat.le_of_ble_eq_true rfl) rfl (by decide) ?_
  refine tc_dup C 129 rfl ?_
  refine tc_bipush C 130 rfl 13 (by decide) ?_
  refine tc_bipush C 131 rfl 100 (by decide) ?_
  refine tc_iast C 132 rfl (by decide) (Nat.le_of_ble_eq_true rfl) (Nat.le_of_ble_eq_true rfl) rfl (by decide) ?_
  refine tc_dup C 133 rfl ?_
  refine tc_bipush C 134 rfl 14 (by decide) ?_
  refine tc_iconst C 135 rfl 0 (by decide) ?_
  refine tc_iast C 136 rfl (by decide) (Nat.le_of_ble_eq_true rfl) (Nat.le_of_ble_eq_true rfl) rfl (by decide) ?_
  refine tc_dup C 137 rfl ?_
  refine tc_bipush C 138 rfl 15 (by decide) ?_
  refine tc_iconst C 139 rfl 0 (by decide) ?_
  refine tc_iast C 140 rfl (by decide) (Nat.le_of_ble_eq_true rfl) (Nat.le_of_ble_eq_true rfl) rfl (by decide) ?_
  refine tc_dup C 141 rfl ?_
  refine tc_bipush C 142 rfl 16 (by decide) ?_
  refine tc_bipush C 143 rfl 97 (by decide) ?_
  refine tc_iast C 144 rfl (by decide) (Nat.le_of_ble_eq_true rfl) (Nat.le_of_ble_eq_true rfl) rfl (by decide) ?_
  refine tc_dup C 145 rfl ?_
  refine tc_bipush C 146 rfl 17 (by decide) ?_
  refine tc_bipush C 147 rfl 108 (by decide) ?_
  refine tc_iast C 148 rfl (by decide) (Nat.le_of_ble_eq_true rfl) (Nat.le_of_ble_eq_true rfl) rfl (by decide) ?_
  refine tc_dup C 149 rfl ?_
  refine tc_bipush C 150 rfl 18 (by decide) ?_
  refine tc_bipush C 151 rfl 111 (by decide) ?_
  refine tc_iast C 152 rfl (by decide) (Nat.le_of_ble_eq_true rfl) (Nat.le_of_ble_eq_true rfl) rfl (by decide) ?_
  refine tc_dup C 153 rfl ?_
  refine tc_bipush C 154 rfl 19 (by decide) ?_
  refine tc_bipush C 155 rfl 110 (by decide) ?_
  refine tc_iast C 156 rfl (by decide) (Nat.le_of_ble_eq_true rfl) (Nat.le_of_ble_eq_true rfl) rfl (by decide) ?_
  refine tc_dup C 157 rfl ?_
  refine tc_bipush C 158 rfl 20 (by decide) ?_
  refine tc_bipush C 159 rfl 101 (by decide) ?_
  refine tc_iast C 160 rfl (by decide) (Nat.le_of_ble_eq_true rfl) (Nat.le_of_ble_eq_true rfl) rfl (by decide) ?_
  refine tc_dup C 161 rfl ?_
  refine tc_bipush C 162 rfl 21 (by decide) ?_
  refine tc_iconst C 163 rfl 0 (by decide) ?_
  refine tc_iast C 164 rfl (by decide) (Nat.le_of_ble_eq_true rfl) (Nat.le_of_ble_eq_true rfl) rfl (by decide) ?_
  refine tc_dup C 165 rfl ?_
  refine tc_bipush C 166 rfl 22 (by decide) ?_
  refine tc_iconst C 167 rfl 0 (by decide) ?_
  refine tc_iast C 168 rfl (by decide) (Nat.le_of_ble_eq_true rfl) (Nat.le_of_ble_eq_true rfl) rfl (by decide) ?_
  refine tc_dup C 169 rfl ?_
  refine tc_bipush C 170 rfl 23 (by decide) ?_
  refine tc_iconst C 171 rfl 0 (by decide) ?_
  refine tc_iast C 172 rfl (by decide) (Nat.le_of_ble_eq_true rfl) (Nat.le_of_ble_eq_true rfl) rfl (by decide) ?_
  refine tc_dup C 173 rfl ?_
  refine tc_bipush C 174 rfl 24 (by decide) ?_
  refine tc_bipush C 175 rfl 99 (by decide) ?_
  refine tc_iast C 176 rfl (by decide) (Nat.le_of_ble_eq_true rfl) (Nat.le_of_ble_eq_true rfl) rfl (by decide) ?_
  refine tc_dup C 177 rfl ?_
  refine tc_bipush C 178 rfl 25 (by decide) ?_
  refine tc_bipush C 179 rfl 104 (by decide) ?_
  refine tc_iast C 180 rfl (by decide) (Nat.le_of_ble_eq_true rfl) (Nat.le_of_ble_eq_true rfl) rfl (by decide) ?_
  refine tc_dup C 181 rfl ?_
  refine tc_bipush C 182 rfl 26 (by decide) ?_
  refine tc_bipush C 183 rfl 97 (by decide) ?_
  refine tc_iast C 184 rfl (by decide) (Nat.le_of_ble_eq_true rfl) (Nat.le_of_ble_eq_true rfl) rfl (by decide) ?_
  refine tc_dup C 185 rfl ?_
  refine tc_bipush C 186 rfl 27 (by decide) ?_
  refine tc_bipush C 187 rfl 110 (by decide) ?_
  refine tc_iast C 188 rfl (by decide) (Nat.le_of_ble_eq_true rfl) (Nat.le_of_ble_eq_true rfl) rfl (by decide) ?_
  refine tc_dup C 189 rfl ?_
  refine tc_bipush C 190 rfl 28 (by decide) ?_
  refine tc_bipush C 191 rfl 103 (by decide) ?_
  refine tc_iast C 192 rfl (by decide) (Nat.le_of_ble_eq_true rfl) (Nat.le_of_ble_eq_true rfl) rfl (by decide) ?_
  refine tc_dup C 193 rfl ?_
  refine tc_bipush C 194 rfl 29 (by decide) ?_
  refine tc_bipush C 195 rfl 101 (by decide) ?_
  refine tc_iast C 196 rfl (by decide) (Nat.le_of_ble_eq_true rfl) (Nat.le_of_ble_eq_true rfl) rfl (by decide) ?_
  refine tc_dup C 197 rfl ?_
  refine tc_bipush C 198 rfl 30 (by decide) ?_
  refine tc_bipush C 199 rfl 100 (by decide) ?_
  refine tc_iast C 200 rfl (by decide) (Nat.le_of_ble_eq_true rfl) (Nat.le_of_ble_eq_true rfl) rfl (by decide) ?_
  refine tc_dup C 201 rfl ?_
  refine tc_bipush C 202 rfl 31 (by decide) ?_
  refine tc_iconst C 203 rfl 0 (by decide) ?_
  refine tc_iast C 204 rfl (by decide) (Nat.le_of_ble_eq_true rfl) (Nat.le_of_ble_eq_true rfl) rfl (by decide) ?_
  refine tc_dup C 205 rfl ?_
  refine tc_bipush C 206 rfl 32 (by decide) ?_
  refine tc_bipush C 207 rfl 98 (by decide) ?_
  refine tc_iast C 208 rfl (by decide) (Nat.le_of_ble_eq_true rfl) (Nat.le_of_ble_eq_true rfl) rfl (by decide) ?_
  refine tc_dup C 209 rfl ?_
  refine tc_bipush C 210 rfl 33 (by decide) ?_
  refine tc_bipush C 211 rfl 117 (by decide) ?_
  refine tc_iast C 212 rfl (by decide) (Nat.le_of_ble_eq_true rfl) (Nat.le_of_ble_eq_true rfl) rfl (by decide) ?_
  refine tc_dup C 213 rfl ?_
  refine tc_bipush C 214 rfl 34 (by decide) ?_
  refine tc_bipush C 215 rfl 102 (by decide) ?_
  refine tc_iast C 216 rfl (by decide) (Nat.le_of_ble_eq_true rfl) (Nat.le_of_ble_eq_true rfl) rfl (by decide) ?_
  refine tc_dup C 217 rfl ?_
  refine tc_bipush C 218 rfl 35 (by decide) ?_
  refine tc_bipush C 219 rfl 102 (by decide) ?_
  refine tc_iast C 220 rfl (by decide) (Nat.le_of_ble_eq_true rfl) (Nat.le_of_ble_eq_true rfl) rfl (by decide) ?_
  refine tc_dup C 221 rfl ?_
  refine tc_bipush C 222 rfl 36 (by decide) ?_
  refine tc_bipush C 223 rfl 101 (by decide) ?_
  refine tc_iast C 224 rfl (by decide) (Nat.le_of_ble_eq_true rfl) (Nat.le_of_ble_eq_true rfl) rfl (by decide) ?_
  refine tc_dup C 225 rfl ?_
  refine tc_bipush C 226 rfl 37 (by decide) ?_
  refine tc_bipush C 227 rfl 114 (by decide) ?_
  refine tc_iast C 228 rfl (by decide) (Nat.le_of_ble_eq_true rfl) (Nat.le_of_ble_eq_true rfl) rfl (by decide) ?_
  refine tc_dup C 229 rfl ?_
  refine tc_bipush C 230 rfl 38 (by decide) ?_
  refine tc_bipush C 231 rfl 101 (by decide) ?_
  refine tc_iast C 232 rfl (by decide) (Nat.le_of_ble_eq_true rfl) (Nat.le_of_ble_eq_true rfl) rfl (by decide) ?_
  refine tc_dup C 233 rfl ?_
  refine tc_bipush C 234 rfl 39 (by decide) ?_
  refine tc_bipush C 235 rfl 100 (by decide) ?_
  refine tc_iast C 236 rfl (by decide) (Nat.le_of_ble_eq_true rfl) (Nat.le_of_ble_eq_true rfl) rfl (by decide) ?_
  refine tc_putR C 237 rfl ff_X7_64 (fun _ => ⟨rfl, rfl⟩) (by decide) (Nat.le_of_ble_eq_true rfl) (Nat.le_of_ble_eq_true rfl) rfl rfl (by decide) [none, none, none, none, none, some 2, some 3, some 4, some 5, some 6, some 7, some 8, some 9, some 10, some 11, some 12, some 13, some 14, none, some 15, none, none, some 16, none, some 17, none, none, none, none, none, some 18, none, some 19, none, some 20] rfl ?_
  refine tc_aload_n C 238 rfl rfl ?_
  refine tc_iconst C 239 rfl 3 (by decide) ?_
  refine tc_iconst C 240 rfl 2 (by decide) ?_
  refine tc_iconst C 241 rfl 1 (by decide) ?_
  refine tc_iconst C 242 rfl 3 (by decide) ?_
  refine tc_cv (Z' := sw_ZM) (by decide +kernel) ?_
  refine tc_callV (k := 1) (x := sw_eI r1) C 243 rfl [.int 3, .int 2, .int 1, .int 3] [] ml_X7_67 rfl (by decide) (by decide) (by decide) (by decide) rfl rfl ⟨by decide, by decide, by decide, by decide⟩ (m_X7_begin _ _ _ _ _ (sw_ab_inj (by decide)) _ _ _ _ _ _ hb) rfl ?_
  show sw_T _ _ _ _ _ _ _ _ _ [.int r1.1] _ _
  refine tc_pop C 244 rfl ?_
  skip
  exact tc_vret C 245 rfl
