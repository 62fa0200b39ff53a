section
-- ===== PART A: goes FIRST, ahead of the names: the tables' words, and 'selects' of the private methods out of them =====
/-- a private method of a class that the tables say can be made, by its rows of tables_1 -/
def lw_okq (q : MethodName × Nat) : Prop := (q.1.cls ≠ "java/lang/invoke/MethodHandle" ∧ q.1.cls ≠ "java/lang/invoke/VarHandle") ∧ Cond.instantiable q.1.cls q.2 ∈ tables_1 ∧ Cond.privateMethod q.1 ∈ tables_1 ∧ Cond.instanceMethod q.1 ∈ tables_1
theorem lw_p0 : lw_okq (⟨"SplitWatch$Bus", "reset", "(IIII)V"⟩, 14) := ⟨⟨by decide +kernel, by decide +kernel⟩, List.mem_of_getElem? (i := 23) (by decide +kernel), List.mem_of_getElem? (i := 207) (by decide +kernel), List.mem_of_getElem? (i := 208) (by decide +kernel)⟩
theorem lw_p1 : lw_okq (⟨"SplitWatch$Core", "clear", "()V"⟩, 4) := ⟨⟨by decide +kernel, by decide +kernel⟩, List.mem_of_getElem? (i := 49) (by decide +kernel), List.mem_of_getElem? (i := 211) (by decide +kernel), List.mem_of_getElem? (i := 212) (by decide +kernel)⟩
theorem lw_p2 : lw_okq (⟨"SplitWatch$Cache", "clear", "()V"⟩, 4) := ⟨⟨by decide +kernel, by decide +kernel⟩, List.mem_of_getElem? (i := 55) (by decide +kernel), List.mem_of_getElem? (i := 215) (by decide +kernel), List.mem_of_getElem? (i := 216) (by decide +kernel)⟩
theorem lw_p3 : lw_okq (⟨"SplitWatch$Bus", "hasCore", "(I)Z"⟩, 14) := ⟨⟨by decide +kernel, by decide +kernel⟩, List.mem_of_getElem? (i := 23) (by decide +kernel), List.mem_of_getElem? (i := 263) (by decide +kernel), List.mem_of_getElem? (i := 264) (by decide +kernel)⟩
theorem lw_p4 : lw_okq (⟨"SplitWatch$Bus", "startRead", "(II)I"⟩, 14) := ⟨⟨by decide +kernel, by decide +kernel⟩, List.mem_of_getElem? (i := 23) (by decide +kernel), List.mem_of_getElem? (i := 271) (by decide +kernel), List.mem_of_getElem? (i := 272) (by decide +kernel)⟩
theorem lw_p5 : lw_okq (⟨"SplitWatch$Bus", "takeBack", "(LSplitWatch$Core;I)V"⟩, 14) := ⟨⟨by decide +kernel, by decide +kernel⟩, List.mem_of_getElem? (i := 23) (by decide +kernel), List.mem_of_getElem? (i := 275) (by decide +kernel), List.mem_of_getElem? (i := 276) (by decide +kernel)⟩
theorem lw_p6 : lw_okq (⟨"SplitWatch$Core", "backOf", "(I)LSplitWatch$Request;"⟩, 4) := ⟨⟨by decide +kernel, by decide +kernel⟩, List.mem_of_getElem? (i := 49) (by decide +kernel), List.mem_of_getElem? (i := 279) (by decide +kernel), List.mem_of_getElem? (i := 280) (by decide +kernel)⟩
theorem lw_p7 : lw_okq (⟨"SplitWatch$Bus", "fill", "(LSplitWatch$Core;III)V"⟩, 14) := ⟨⟨by decide +kernel, by decide +kernel⟩, List.mem_of_getElem? (i := 23) (by decide +kernel), List.mem_of_getElem? (i := 283) (by decide +kernel), List.mem_of_getElem? (i := 284) (by decide +kernel)⟩
theorem lw_p8 : lw_okq (⟨"SplitWatch$Cache", "held", "()I"⟩, 4) := ⟨⟨by decide +kernel, by decide +kernel⟩, List.mem_of_getElem? (i := 55) (by decide +kernel), List.mem_of_getElem? (i := 287) (by decide +kernel), List.mem_of_getElem? (i := 288) (by decide +kernel)⟩
theorem lw_p9 : lw_okq (⟨"SplitWatch$Cache", "oldest", "()I"⟩, 4) := ⟨⟨by decide +kernel, by decide +kernel⟩, List.mem_of_getElem? (i := 55) (by decide +kernel), List.mem_of_getElem? (i := 291) (by decide +kernel), List.mem_of_getElem? (i := 292) (by decide +kernel)⟩
theorem lw_p10 : lw_okq (⟨"SplitWatch$Bus", "giveUp", "(LSplitWatch$Core;I)V"⟩, 14) := ⟨⟨by decide +kernel, by decide +kernel⟩, List.mem_of_getElem? (i := 23) (by decide +kernel), List.mem_of_getElem? (i := 295) (by decide +kernel), List.mem_of_getElem? (i := 296) (by decide +kernel)⟩
theorem lw_p11 : lw_okq (⟨"SplitWatch$Core", "freeBack", "()LSplitWatch$Request;"⟩, 4) := ⟨⟨by decide +kernel, by decide +kernel⟩, List.mem_of_getElem? (i := 49) (by decide +kernel), List.mem_of_getElem? (i := 299) (by decide +kernel), List.mem_of_getElem? (i := 300) (by decide +kernel)⟩
theorem lw_p12 : lw_okq (⟨"SplitWatch$Bus", "ask", "(LSplitWatch$Request;III)V"⟩, 14) := ⟨⟨by decide +kernel, by decide +kernel⟩, List.mem_of_getElem? (i := 23) (by decide +kernel), List.mem_of_getElem? (i := 303) (by decide +kernel), List.mem_of_getElem? (i := 304) (by decide +kernel)⟩
theorem lw_p13 : lw_okq (⟨"SplitWatch$Cache", "put", "(III)V"⟩, 4) := ⟨⟨by decide +kernel, by decide +kernel⟩, List.mem_of_getElem? (i := 55) (by decide +kernel), List.mem_of_getElem? (i := 307) (by decide +kernel), List.mem_of_getElem? (i := 308) (by decide +kernel)⟩
theorem lw_p14 : lw_okq (⟨"SplitWatch$Cache", "use", "(I)V"⟩, 4) := ⟨⟨by decide +kernel, by decide +kernel⟩, List.mem_of_getElem? (i := 55) (by decide +kernel), List.mem_of_getElem? (i := 311) (by decide +kernel), List.mem_of_getElem? (i := 312) (by decide +kernel)⟩
theorem lw_p15 : lw_okq (⟨"SplitWatch$Bus", "startStore", "(III)I"⟩, 14) := ⟨⟨by decide +kernel, by decide +kernel⟩, List.mem_of_getElem? (i := 23) (by decide +kernel), List.mem_of_getElem? (i := 320) (by decide +kernel), List.mem_of_getElem? (i := 321) (by decide +kernel)⟩
def lw_privs_1 : List (MethodName × Nat) := [(⟨"SplitWatch$Bus", "reset", "(IIII)V"⟩, 14), (⟨"SplitWatch$Core", "clear", "()V"⟩, 4), (⟨"SplitWatch$Cache", "clear", "()V"⟩, 4), (⟨"SplitWatch$Bus", "hasCore", "(I)Z"⟩, 14), (⟨"SplitWatch$Bus", "startRead", "(II)I"⟩, 14), (⟨"SplitWatch$Bus", "takeBack", "(LSplitWatch$Core;I)V"⟩, 14), (⟨"SplitWatch$Core", "backOf", "(I)LSplitWatch$Request;"⟩, 4), (⟨"SplitWatch$Bus", "fill", "(LSplitWatch$Core;III)V"⟩, 14), (⟨"SplitWatch$Cache", "held", "()I"⟩, 4), (⟨"SplitWatch$Cache", "oldest", "()I"⟩, 4), (⟨"SplitWatch$Bus", "giveUp", "(LSplitWatch$Core;I)V"⟩, 14), (⟨"SplitWatch$Core", "freeBack", "()LSplitWatch$Request;"⟩, 4), (⟨"SplitWatch$Bus", "ask", "(LSplitWatch$Request;III)V"⟩, 14), (⟨"SplitWatch$Cache", "put", "(III)V"⟩, 4), (⟨"SplitWatch$Cache", "use", "(I)V"⟩, 4), (⟨"SplitWatch$Bus", "startStore", "(III)I"⟩, 14)]
theorem lw_r1 : ∀ q ∈ lw_privs_1, lw_okq q := List.forall_mem_cons.mpr ⟨lw_p0, List.forall_mem_cons.mpr ⟨lw_p1, List.forall_mem_cons.mpr ⟨lw_p2, List.forall_mem_cons.mpr ⟨lw_p3, List.forall_mem_cons.mpr ⟨lw_p4, List.forall_mem_cons.mpr ⟨lw_p5, List.forall_mem_cons.mpr ⟨lw_p6, List.forall_mem_cons.mpr ⟨lw_p7, List.forall_mem_cons.mpr ⟨lw_p8, List.forall_mem_cons.mpr ⟨lw_p9, List.forall_mem_cons.mpr ⟨lw_p10, List.forall_mem_cons.mpr ⟨lw_p11, List.forall_mem_cons.mpr ⟨lw_p12, List.forall_mem_cons.mpr ⟨lw_p13, List.forall_mem_cons.mpr ⟨lw_p14, List.forall_mem_cons.mpr ⟨lw_p15, fun _ h => absurd h List.not_mem_nil⟩⟩⟩⟩⟩⟩⟩⟩⟩⟩⟩⟩⟩⟩⟩⟩
theorem lw_p16 : lw_okq (⟨"SplitWatch$Cache", "isSole", "(I)Z"⟩, 4) := ⟨⟨by decide +kernel, by decide +kernel⟩, List.mem_of_getElem? (i := 55) (by decide +kernel), List.mem_of_getElem? (i := 324) (by decide +kernel), List.mem_of_getElem? (i := 325) (by decide +kernel)⟩
theorem lw_p17 : lw_okq (⟨"SplitWatch$Bus", "dropLine", "(II)I"⟩, 14) := ⟨⟨by decide +kernel, by decide +kernel⟩, List.mem_of_getElem? (i := 23) (by decide +kernel), List.mem_of_getElem? (i := 332) (by decide +kernel), List.mem_of_getElem? (i := 333) (by decide +kernel)⟩
theorem lw_p18 : lw_okq (⟨"SplitWatch$Bus", "runTurns", "(I)I"⟩, 14) := ⟨⟨by decide +kernel, by decide +kernel⟩, List.mem_of_getElem? (i := 23) (by decide +kernel), List.mem_of_getElem? (i := 340) (by decide +kernel), List.mem_of_getElem? (i := 341) (by decide +kernel)⟩
theorem lw_p19 : lw_okq (⟨"SplitWatch$Bus", "answerTurn", "()V"⟩, 14) := ⟨⟨by decide +kernel, by decide +kernel⟩, List.mem_of_getElem? (i := 23) (by decide +kernel), List.mem_of_getElem? (i := 344) (by decide +kernel), List.mem_of_getElem? (i := 345) (by decide +kernel)⟩
theorem lw_p20 : lw_okq (⟨"SplitWatch$Bus", "canFill", "(LSplitWatch$Core;)Z"⟩, 14) := ⟨⟨by decide +kernel, by decide +kernel⟩, List.mem_of_getElem? (i := 23) (by decide +kernel), List.mem_of_getElem? (i := 348) (by decide +kernel), List.mem_of_getElem? (i := 349) (by decide +kernel)⟩
theorem lw_p21 : lw_okq (⟨"SplitWatch$Bus", "addressTurn", "()V"⟩, 14) := ⟨⟨by decide +kernel, by decide +kernel⟩, List.mem_of_getElem? (i := 23) (by decide +kernel), List.mem_of_getElem? (i := 352) (by decide +kernel), List.mem_of_getElem? (i := 353) (by decide +kernel)⟩
theorem lw_p22 : lw_okq (⟨"SplitWatch$Bus", "nextWaiting", "()LSplitWatch$Request;"⟩, 14) := ⟨⟨by decide +kernel, by decide +kernel⟩, List.mem_of_getElem? (i := 23) (by decide +kernel), List.mem_of_getElem? (i := 356) (by decide +kernel), List.mem_of_getElem? (i := 357) (by decide +kernel)⟩
theorem lw_p23 : lw_okq (⟨"SplitWatch$Bus", "keyOf", "(LSplitWatch$Request;)I"⟩, 14) := ⟨⟨by decide +kernel, by decide +kernel⟩, List.mem_of_getElem? (i := 23) (by decide +kernel), List.mem_of_getElem? (i := 360) (by decide +kernel), List.mem_of_getElem? (i := 361) (by decide +kernel)⟩
theorem lw_p24 : lw_okq (⟨"SplitWatch$Bus", "openOf", "(I)LSplitWatch$Request;"⟩, 14) := ⟨⟨by decide +kernel, by decide +kernel⟩, List.mem_of_getElem? (i := 23) (by decide +kernel), List.mem_of_getElem? (i := 364) (by decide +kernel), List.mem_of_getElem? (i := 365) (by decide +kernel)⟩
theorem lw_p25 : lw_okq (⟨"SplitWatch$Bus", "sendAway", "(LSplitWatch$Request;)V"⟩, 14) := ⟨⟨by decide +kernel, by decide +kernel⟩, List.mem_of_getElem? (i := 23) (by decide +kernel), List.mem_of_getElem? (i := 369) (by decide +kernel), List.mem_of_getElem? (i := 370) (by decide +kernel)⟩
theorem lw_p26 : lw_okq (⟨"SplitWatch$Bus", "orderBack", "(LSplitWatch$Request;)V"⟩, 14) := ⟨⟨by decide +kernel, by decide +kernel⟩, List.mem_of_getElem? (i := 23) (by decide +kernel), List.mem_of_getElem? (i := 373) (by decide +kernel), List.mem_of_getElem? (i := 374) (by decide +kernel)⟩
theorem lw_p27 : lw_okq (⟨"SplitWatch$Log", "add", "(ICI)V"⟩, 2) := ⟨⟨by decide +kernel, by decide +kernel⟩, List.mem_of_getElem? (i := 33) (by decide +kernel), List.mem_of_getElem? (i := 377) (by decide +kernel), List.mem_of_getElem? (i := 378) (by decide +kernel)⟩
theorem lw_p28 : lw_okq (⟨"SplitWatch$Bus", "orderRead", "(LSplitWatch$Request;)V"⟩, 14) := ⟨⟨by decide +kernel, by decide +kernel⟩, List.mem_of_getElem? (i := 23) (by decide +kernel), List.mem_of_getElem? (i := 381) (by decide +kernel), List.mem_of_getElem? (i := 382) (by decide +kernel)⟩
theorem lw_p29 : lw_okq (⟨"SplitWatch$Bus", "answerTime", "(II)I"⟩, 14) := ⟨⟨by decide +kernel, by decide +kernel⟩, List.mem_of_getElem? (i := 23) (by decide +kernel), List.mem_of_getElem? (i := 385) (by decide +kernel), List.mem_of_getElem? (i := 386) (by decide +kernel)⟩
theorem lw_p30 : lw_okq (⟨"SplitWatch$Bus", "bringToMemory", "(LSplitWatch$Core;I)V"⟩, 14) := ⟨⟨by decide +kernel, by decide +kernel⟩, List.mem_of_getElem? (i := 23) (by decide +kernel), List.mem_of_getElem? (i := 389) (by decide +kernel), List.mem_of_getElem? (i := 390) (by decide +kernel)⟩
theorem lw_p31 : lw_okq (⟨"SplitWatch$Bus", "orderOwn", "(LSplitWatch$Request;C)V"⟩, 14) := ⟨⟨by decide +kernel, by decide +kernel⟩, List.mem_of_getElem? (i := 23) (by decide +kernel), List.mem_of_getElem? (i := 393) (by decide +kernel), List.mem_of_getElem? (i := 394) (by decide +kernel)⟩
def lw_privs_2 : List (MethodName × Nat) := [(⟨"SplitWatch$Cache", "isSole", "(I)Z"⟩, 4), (⟨"SplitWatch$Bus", "dropLine", "(II)I"⟩, 14), (⟨"SplitWatch$Bus", "runTurns", "(I)I"⟩, 14), (⟨"SplitWatch$Bus", "answerTurn", "()V"⟩, 14), (⟨"SplitWatch$Bus", "canFill", "(LSplitWatch$Core;)Z"⟩, 14), (⟨"SplitWatch$Bus", "addressTurn", "()V"⟩, 14), (⟨"SplitWatch$Bus", "nextWaiting", "()LSplitWatch$Request;"⟩, 14), (⟨"SplitWatch$Bus", "keyOf", "(LSplitWatch$Request;)I"⟩, 14), (⟨"SplitWatch$Bus", "openOf", "(I)LSplitWatch$Request;"⟩, 14), (⟨"SplitWatch$Bus", "sendAway", "(LSplitWatch$Request;)V"⟩, 14), (⟨"SplitWatch$Bus", "orderBack", "(LSplitWatch$Request;)V"⟩, 14), (⟨"SplitWatch$Log", "add", "(ICI)V"⟩, 2), (⟨"SplitWatch$Bus", "orderRead", "(LSplitWatch$Request;)V"⟩, 14), (⟨"SplitWatch$Bus", "answerTime", "(II)I"⟩, 14), (⟨"SplitWatch$Bus", "bringToMemory", "(LSplitWatch$Core;I)V"⟩, 14), (⟨"SplitWatch$Bus", "orderOwn", "(LSplitWatch$Request;C)V"⟩, 14)]
theorem lw_r2 : ∀ q ∈ lw_privs_2, lw_okq q := List.forall_mem_cons.mpr ⟨lw_p16, List.forall_mem_cons.mpr ⟨lw_p17, List.forall_mem_cons.mpr ⟨lw_p18, List.forall_mem_cons.mpr ⟨lw_p19, List.forall_mem_cons.mpr ⟨lw_p20, List.forall_mem_cons.mpr ⟨lw_p21, List.forall_mem_cons.mpr ⟨lw_p22, List.forall_mem_cons.mpr ⟨lw_p23, List.forall_mem_cons.mpr ⟨lw_p24, List.forall_mem_cons.mpr ⟨lw_p25, List.forall_mem_cons.mpr ⟨lw_p26, List.forall_mem_cons.mpr ⟨lw_p27, List.forall_mem_cons.mpr ⟨lw_p28, List.forall_mem_cons.mpr ⟨lw_p29, List.forall_mem_cons.mpr ⟨lw_p30, List.forall_mem_cons.mpr ⟨lw_p31, fun _ h => absurd h List.not_mem_nil⟩⟩⟩⟩⟩⟩⟩⟩⟩⟩⟩⟩⟩⟩⟩⟩
theorem lw_p32 : lw_okq (⟨"SplitWatch$Bus", "takeFromOthers", "(II)V"⟩, 14) := ⟨⟨by decide +kernel, by decide +kernel⟩, List.mem_of_getElem? (i := 23) (by decide +kernel), List.mem_of_getElem? (i := 397) (by decide +kernel), List.mem_of_getElem? (i := 398) (by decide +kernel)⟩
theorem lw_p33 : lw_okq (⟨"SplitWatch$Bus", "orderRise", "(LSplitWatch$Request;)V"⟩, 14) := ⟨⟨by decide +kernel, by decide +kernel⟩, List.mem_of_getElem? (i := 23) (by decide +kernel), List.mem_of_getElem? (i := 401) (by decide +kernel), List.mem_of_getElem? (i := 402) (by decide +kernel)⟩
theorem lw_p34 : lw_okq (⟨"SplitWatch$Script", "append", "(C)I"⟩, 5) := ⟨⟨by decide +kernel, by decide +kernel⟩, List.mem_of_getElem? (i := 219) (by decide +kernel), List.mem_of_getElem? (i := 412) (by decide +kernel), List.mem_of_getElem? (i := 413) (by decide +kernel)⟩
theorem lw_p35 : lw_okq (⟨"SplitWatch$Script", "findFault", "(I)I"⟩, 5) := ⟨⟨by decide +kernel, by decide +kernel⟩, List.mem_of_getElem? (i := 219) (by decide +kernel), List.mem_of_getElem? (i := 424) (by decide +kernel), List.mem_of_getElem? (i := 425) (by decide +kernel)⟩
theorem lw_p36 : lw_okq (⟨"SplitWatch$Script", "understand", "(II)Z"⟩, 5) := ⟨⟨by decide +kernel, by decide +kernel⟩, List.mem_of_getElem? (i := 219) (by decide +kernel), List.mem_of_getElem? (i := 428) (by decide +kernel), List.mem_of_getElem? (i := 429) (by decide +kernel)⟩
theorem lw_p37 : lw_okq (⟨"SplitWatch$Script", "letterAt", "(I)C"⟩, 5) := ⟨⟨by decide +kernel, by decide +kernel⟩, List.mem_of_getElem? (i := 219) (by decide +kernel), List.mem_of_getElem? (i := 432) (by decide +kernel), List.mem_of_getElem? (i := 433) (by decide +kernel)⟩
theorem lw_p38 : lw_okq (⟨"SplitWatch$Script", "verbOf", "(II)I"⟩, 5) := ⟨⟨by decide +kernel, by decide +kernel⟩, List.mem_of_getElem? (i := 219) (by decide +kernel), List.mem_of_getElem? (i := 439) (by decide +kernel), List.mem_of_getElem? (i := 440) (by decide +kernel)⟩
theorem lw_p39 : lw_okq (⟨"SplitWatch$Script", "spells", "(IILjava/lang/String;)Z"⟩, 5) := ⟨⟨by decide +kernel, by decide +kernel⟩, List.mem_of_getElem? (i := 219) (by decide +kernel), List.mem_of_getElem? (i := 444) (by decide +kernel), List.mem_of_getElem? (i := 445) (by decide +kernel)⟩
theorem lw_p40 : lw_okq (⟨"SplitWatch$Script", "takeNumber", "(II)I"⟩, 5) := ⟨⟨by decide +kernel, by decide +kernel⟩, List.mem_of_getElem? (i := 219) (by decide +kernel), List.mem_of_getElem? (i := 502) (by decide +kernel), List.mem_of_getElem? (i := 503) (by decide +kernel)⟩
theorem lw_p41 : lw_okq (⟨"SplitWatch$Script", "areTold", "(I)Z"⟩, 5) := ⟨⟨by decide +kernel, by decide +kernel⟩, List.mem_of_getElem? (i := 219) (by decide +kernel), List.mem_of_getElem? (i := 509) (by decide +kernel), List.mem_of_getElem? (i := 510) (by decide +kernel)⟩
theorem lw_p42 : lw_okq (⟨"SplitWatch$Bus", "perform", "(IIII)I"⟩, 14) := ⟨⟨by decide +kernel, by decide +kernel⟩, List.mem_of_getElem? (i := 23) (by decide +kernel), List.mem_of_getElem? (i := 521) (by decide +kernel), List.mem_of_getElem? (i := 522) (by decide +kernel)⟩
theorem lw_p43 : lw_okq (⟨"SplitWatch$Log", "lineLength", "()I"⟩, 2) := ⟨⟨by decide +kernel, by decide +kernel⟩, List.mem_of_getElem? (i := 33) (by decide +kernel), List.mem_of_getElem? (i := 536) (by decide +kernel), List.mem_of_getElem? (i := 537) (by decide +kernel)⟩
theorem lw_p44 : lw_okq (⟨"SplitWatch$Log", "size", "()I"⟩, 2) := ⟨⟨by decide +kernel, by decide +kernel⟩, List.mem_of_getElem? (i := 33) (by decide +kernel), List.mem_of_getElem? (i := 540) (by decide +kernel), List.mem_of_getElem? (i := 541) (by decide +kernel)⟩
theorem lw_p45 : lw_okq (⟨"SplitWatch$Log", "letterAt", "(I)I"⟩, 2) := ⟨⟨by decide +kernel, by decide +kernel⟩, List.mem_of_getElem? (i := 33) (by decide +kernel), List.mem_of_getElem? (i := 547) (by decide +kernel), List.mem_of_getElem? (i := 548) (by decide +kernel)⟩
theorem lw_p46 : lw_okq (⟨"SplitWatch$Log", "matches", "(III)I"⟩, 2) := ⟨⟨by decide +kernel, by decide +kernel⟩, List.mem_of_getElem? (i := 33) (by decide +kernel), List.mem_of_getElem? (i := 555) (by decide +kernel), List.mem_of_getElem? (i := 556) (by decide +kernel)⟩
theorem lw_p47 : lw_okq (⟨"SplitWatch$Bus", "nameOf", "(II)Ljava/lang/String;"⟩, 14) := ⟨⟨by decide +kernel, by decide +kernel⟩, List.mem_of_getElem? (i := 23) (by decide +kernel), List.mem_of_getElem? (i := 566) (by decide +kernel), List.mem_of_getElem? (i := 567) (by decide +kernel)⟩
def lw_privs_3 : List (MethodName × Nat) := [(⟨"SplitWatch$Bus", "takeFromOthers", "(II)V"⟩, 14), (⟨"SplitWatch$Bus", "orderRise", "(LSplitWatch$Request;)V"⟩, 14), (⟨"SplitWatch$Script", "append", "(C)I"⟩, 5), (⟨"SplitWatch$Script", "findFault", "(I)I"⟩, 5), (⟨"SplitWatch$Script", "understand", "(II)Z"⟩, 5), (⟨"SplitWatch$Script", "letterAt", "(I)C"⟩, 5), (⟨"SplitWatch$Script", "verbOf", "(II)I"⟩, 5), (⟨"SplitWatch$Script", "spells", "(IILjava/lang/String;)Z"⟩, 5), (⟨"SplitWatch$Script", "takeNumber", "(II)I"⟩, 5), (⟨"SplitWatch$Script", "areTold", "(I)Z"⟩, 5), (⟨"SplitWatch$Bus", "perform", "(IIII)I"⟩, 14), (⟨"SplitWatch$Log", "lineLength", "()I"⟩, 2), (⟨"SplitWatch$Log", "size", "()I"⟩, 2), (⟨"SplitWatch$Log", "letterAt", "(I)I"⟩, 2), (⟨"SplitWatch$Log", "matches", "(III)I"⟩, 2), (⟨"SplitWatch$Bus", "nameOf", "(II)Ljava/lang/String;"⟩, 14)]
theorem lw_r3 : ∀ q ∈ lw_privs_3, lw_okq q := List.forall_mem_cons.mpr ⟨lw_p32, List.forall_mem_cons.mpr ⟨lw_p33, List.forall_mem_cons.mpr ⟨lw_p34, List.forall_mem_cons.mpr ⟨lw_p35, List.forall_mem_cons.mpr ⟨lw_p36, List.forall_mem_cons.mpr ⟨lw_p37, List.forall_mem_cons.mpr ⟨lw_p38, List.forall_mem_cons.mpr ⟨lw_p39, List.forall_mem_cons.mpr ⟨lw_p40, List.forall_mem_cons.mpr ⟨lw_p41, List.forall_mem_cons.mpr ⟨lw_p42, List.forall_mem_cons.mpr ⟨lw_p43, List.forall_mem_cons.mpr ⟨lw_p44, List.forall_mem_cons.mpr ⟨lw_p45, List.forall_mem_cons.mpr ⟨lw_p46, List.forall_mem_cons.mpr ⟨lw_p47, fun _ h => absurd h List.not_mem_nil⟩⟩⟩⟩⟩⟩⟩⟩⟩⟩⟩⟩⟩⟩⟩⟩
theorem lw_p48 : lw_okq (⟨"SplitWatch$Cache", "usedLater", "(I)I"⟩, 4) := ⟨⟨by decide +kernel, by decide +kernel⟩, List.mem_of_getElem? (i := 55) (by decide +kernel), List.mem_of_getElem? (i := 581) (by decide +kernel), List.mem_of_getElem? (i := 582) (by decide +kernel)⟩
theorem lw_p49 : lw_okq (⟨"SplitWatch$Core", "bufferSize", "()I"⟩, 4) := ⟨⟨by decide +kernel, by decide +kernel⟩, List.mem_of_getElem? (i := 49) (by decide +kernel), List.mem_of_getElem? (i := 589) (by decide +kernel), List.mem_of_getElem? (i := 590) (by decide +kernel)⟩
theorem lw_p50 : lw_okq (⟨"SplitWatch$Core", "backAt", "(I)LSplitWatch$Request;"⟩, 4) := ⟨⟨by decide +kernel, by decide +kernel⟩, List.mem_of_getElem? (i := 49) (by decide +kernel), List.mem_of_getElem? (i := 593) (by decide +kernel), List.mem_of_getElem? (i := 594) (by decide +kernel)⟩
theorem lw_p51 : lw_okq (⟨"SplitWatch$Core", "earlierBacks", "(I)I"⟩, 4) := ⟨⟨by decide +kernel, by decide +kernel⟩, List.mem_of_getElem? (i := 49) (by decide +kernel), List.mem_of_getElem? (i := 597) (by decide +kernel), List.mem_of_getElem? (i := 598) (by decide +kernel)⟩
theorem lw_p52 : lw_okq (⟨"SplitWatch$Bus", "trueValue", "(I)I"⟩, 14) := ⟨⟨by decide +kernel, by decide +kernel⟩, List.mem_of_getElem? (i := 23) (by decide +kernel), List.mem_of_getElem? (i := 609) (by decide +kernel), List.mem_of_getElem? (i := 610) (by decide +kernel)⟩
theorem lw_p53 : lw_okq (⟨"SplitWatch$Bus", "countAt", "(I)I"⟩, 14) := ⟨⟨by decide +kernel, by decide +kernel⟩, List.mem_of_getElem? (i := 23) (by decide +kernel), List.mem_of_getElem? (i := 621) (by decide +kernel), List.mem_of_getElem? (i := 622) (by decide +kernel)⟩
theorem lw_p54 : lw_okq (⟨"SplitWatch$Bus", "waitingAt", "(I)LSplitWatch$Request;"⟩, 14) := ⟨⟨by decide +kernel, by decide +kernel⟩, List.mem_of_getElem? (i := 23) (by decide +kernel), List.mem_of_getElem? (i := 625) (by decide +kernel), List.mem_of_getElem? (i := 626) (by decide +kernel)⟩
theorem lw_p55 : lw_okq (⟨"SplitWatch$Bus", "waitingAheadOf", "(LSplitWatch$Request;)I"⟩, 14) := ⟨⟨by decide +kernel, by decide +kernel⟩, List.mem_of_getElem? (i := 23) (by decide +kernel), List.mem_of_getElem? (i := 629) (by decide +kernel), List.mem_of_getElem? (i := 630) (by decide +kernel)⟩
theorem lw_p56 : lw_okq (⟨"SplitWatch$Bus", "openAt", "(I)LSplitWatch$Request;"⟩, 14) := ⟨⟨by decide +kernel, by decide +kernel⟩, List.mem_of_getElem? (i := 23) (by decide +kernel), List.mem_of_getElem? (i := 637) (by decide +kernel), List.mem_of_getElem? (i := 638) (by decide +kernel)⟩
theorem lw_p57 : lw_okq (⟨"SplitWatch$Bus", "openAheadOf", "(LSplitWatch$Request;)I"⟩, 14) := ⟨⟨by decide +kernel, by decide +kernel⟩, List.mem_of_getElem? (i := 23) (by decide +kernel), List.mem_of_getElem? (i := 641) (by decide +kernel), List.mem_of_getElem? (i := 642) (by decide +kernel)⟩
theorem lw_p58 : lw_okq (⟨"SplitWatchModel", "isCore", "(I)Z"⟩, 35) := ⟨⟨by decide +kernel, by decide +kernel⟩, List.mem_of_getElem? (i := 659) (by decide +kernel), List.mem_of_getElem? (i := 786) (by decide +kernel), List.mem_of_getElem? (i := 787) (by decide +kernel)⟩
theorem lw_p59 : lw_okq (⟨"SplitWatchModel", "isHere", "(II)Z"⟩, 35) := ⟨⟨by decide +kernel, by decide +kernel⟩, List.mem_of_getElem? (i := 659) (by decide +kernel), List.mem_of_getElem? (i := 794) (by decide +kernel), List.mem_of_getElem? (i := 795) (by decide +kernel)⟩
theorem lw_p60 : lw_okq (⟨"SplitWatchModel", "at", "(II)I"⟩, 35) := ⟨⟨by decide +kernel, by decide +kernel⟩, List.mem_of_getElem? (i := 659) (by decide +kernel), List.mem_of_getElem? (i := 798) (by decide +kernel), List.mem_of_getElem? (i := 799) (by decide +kernel)⟩
theorem lw_p61 : lw_okq (⟨"SplitWatchModel", "backAt", "(II)I"⟩, 35) := ⟨⟨by decide +kernel, by decide +kernel⟩, List.mem_of_getElem? (i := 659) (by decide +kernel), List.mem_of_getElem? (i := 802) (by decide +kernel), List.mem_of_getElem? (i := 803) (by decide +kernel)⟩
theorem lw_p62 : lw_okq (⟨"SplitWatchModel", "outOfBuffer", "(II)I"⟩, 35) := ⟨⟨by decide +kernel, by decide +kernel⟩, List.mem_of_getElem? (i := 659) (by decide +kernel), List.mem_of_getElem? (i := 806) (by decide +kernel), List.mem_of_getElem? (i := 807) (by decide +kernel)⟩
theorem lw_p63 : lw_okq (⟨"SplitWatchModel", "noBack", "(II)V"⟩, 35) := ⟨⟨by decide +kernel, by decide +kernel⟩, List.mem_of_getElem? (i := 659) (by decide +kernel), List.mem_of_getElem? (i := 810) (by decide +kernel), List.mem_of_getElem? (i := 811) (by decide +kernel)⟩
def lw_privs_4 : List (MethodName × Nat) := [(⟨"SplitWatch$Cache", "usedLater", "(I)I"⟩, 4), (⟨"SplitWatch$Core", "bufferSize", "()I"⟩, 4), (⟨"SplitWatch$Core", "backAt", "(I)LSplitWatch$Request;"⟩, 4), (⟨"SplitWatch$Core", "earlierBacks", "(I)I"⟩, 4), (⟨"SplitWatch$Bus", "trueValue", "(I)I"⟩, 14), (⟨"SplitWatch$Bus", "countAt", "(I)I"⟩, 14), (⟨"SplitWatch$Bus", "waitingAt", "(I)LSplitWatch$Request;"⟩, 14), (⟨"SplitWatch$Bus", "waitingAheadOf", "(LSplitWatch$Request;)I"⟩, 14), (⟨"SplitWatch$Bus", "openAt", "(I)LSplitWatch$Request;"⟩, 14), (⟨"SplitWatch$Bus", "openAheadOf", "(LSplitWatch$Request;)I"⟩, 14), (⟨"SplitWatchModel", "isCore", "(I)Z"⟩, 35), (⟨"SplitWatchModel", "isHere", "(II)Z"⟩, 35), (⟨"SplitWatchModel", "at", "(II)I"⟩, 35), (⟨"SplitWatchModel", "backAt", "(II)I"⟩, 35), (⟨"SplitWatchModel", "outOfBuffer", "(II)I"⟩, 35), (⟨"SplitWatchModel", "noBack", "(II)V"⟩, 35)]
theorem lw_r4 : ∀ q ∈ lw_privs_4, lw_okq q := List.forall_mem_cons.mpr ⟨lw_p48, List.forall_mem_cons.mpr ⟨lw_p49, List.forall_mem_cons.mpr ⟨lw_p50, List.forall_mem_cons.mpr ⟨lw_p51, List.forall_mem_cons.mpr ⟨lw_p52, List.forall_mem_cons.mpr ⟨lw_p53, List.forall_mem_cons.mpr ⟨lw_p54, List.forall_mem_cons.mpr ⟨lw_p55, List.forall_mem_cons.mpr ⟨lw_p56, List.forall_mem_cons.mpr ⟨lw_p57, List.forall_mem_cons.mpr ⟨lw_p58, List.forall_mem_cons.mpr ⟨lw_p59, List.forall_mem_cons.mpr ⟨lw_p60, List.forall_mem_cons.mpr ⟨lw_p61, List.forall_mem_cons.mpr ⟨lw_p62, List.forall_mem_cons.mpr ⟨lw_p63, fun _ h => absurd h List.not_mem_nil⟩⟩⟩⟩⟩⟩⟩⟩⟩⟩⟩⟩⟩⟩⟩⟩
theorem lw_p64 : lw_okq (⟨"SplitWatchModel", "noMore", "(I)V"⟩, 35) := ⟨⟨by decide +kernel, by decide +kernel⟩, List.mem_of_getElem? (i := 659) (by decide +kernel), List.mem_of_getElem? (i := 814) (by decide +kernel), List.mem_of_getElem? (i := 815) (by decide +kernel)⟩
theorem lw_p65 : lw_okq (⟨"SplitWatchModel", "fill", "(IIII)V"⟩, 35) := ⟨⟨by decide +kernel, by decide +kernel⟩, List.mem_of_getElem? (i := 659) (by decide +kernel), List.mem_of_getElem? (i := 818) (by decide +kernel), List.mem_of_getElem? (i := 819) (by decide +kernel)⟩
theorem lw_p66 : lw_okq (⟨"SplitWatchModel", "giveUp", "(II)V"⟩, 35) := ⟨⟨by decide +kernel, by decide +kernel⟩, List.mem_of_getElem? (i := 659) (by decide +kernel), List.mem_of_getElem? (i := 822) (by decide +kernel), List.mem_of_getElem? (i := 823) (by decide +kernel)⟩
theorem lw_p67 : lw_okq (⟨"SplitWatchModel", "asks", "(III)V"⟩, 35) := ⟨⟨by decide +kernel, by decide +kernel⟩, List.mem_of_getElem? (i := 659) (by decide +kernel), List.mem_of_getElem? (i := 826) (by decide +kernel), List.mem_of_getElem? (i := 827) (by decide +kernel)⟩
theorem lw_p68 : lw_okq (⟨"SplitWatchModel", "takeOut", "(II)V"⟩, 35) := ⟨⟨by decide +kernel, by decide +kernel⟩, List.mem_of_getElem? (i := 659) (by decide +kernel), List.mem_of_getElem? (i := 830) (by decide +kernel), List.mem_of_getElem? (i := 831) (by decide +kernel)⟩
theorem lw_p69 : lw_okq (⟨"SplitWatchModel", "putIn", "(IIII)V"⟩, 35) := ⟨⟨by decide +kernel, by decide +kernel⟩, List.mem_of_getElem? (i := 659) (by decide +kernel), List.mem_of_getElem? (i := 834) (by decide +kernel), List.mem_of_getElem? (i := 835) (by decide +kernel)⟩
theorem lw_p70 : lw_okq (⟨"SplitWatchModel", "begins", "(IIII)V"⟩, 35) := ⟨⟨by decide +kernel, by decide +kernel⟩, List.mem_of_getElem? (i := 659) (by decide +kernel), List.mem_of_getElem? (i := 838) (by decide +kernel), List.mem_of_getElem? (i := 839) (by decide +kernel)⟩
theorem lw_p71 : lw_okq (⟨"SplitWatchModel", "use", "(IIII)V"⟩, 35) := ⟨⟨by decide +kernel, by decide +kernel⟩, List.mem_of_getElem? (i := 659) (by decide +kernel), List.mem_of_getElem? (i := 842) (by decide +kernel), List.mem_of_getElem? (i := 843) (by decide +kernel)⟩
theorem lw_p72 : lw_okq (⟨"SplitWatchModel", "howOf", "(II)I"⟩, 35) := ⟨⟨by decide +kernel, by decide +kernel⟩, List.mem_of_getElem? (i := 659) (by decide +kernel), List.mem_of_getElem? (i := 851) (by decide +kernel), List.mem_of_getElem? (i := 852) (by decide +kernel)⟩
theorem lw_p73 : lw_okq (⟨"SplitWatchModel", "oneTurn", "()I"⟩, 35) := ⟨⟨by decide +kernel, by decide +kernel⟩, List.mem_of_getElem? (i := 659) (by decide +kernel), List.mem_of_getElem? (i := 864) (by decide +kernel), List.mem_of_getElem? (i := 865) (by decide +kernel)⟩
theorem lw_p74 : lw_okq (⟨"SplitWatchModel", "answer", "()Z"⟩, 35) := ⟨⟨by decide +kernel, by decide +kernel⟩, List.mem_of_getElem? (i := 659) (by decide +kernel), List.mem_of_getElem? (i := 868) (by decide +kernel), List.mem_of_getElem? (i := 869) (by decide +kernel)⟩
theorem lw_p75 : lw_okq (⟨"SplitWatchModel", "canFill", "(I)Z"⟩, 35) := ⟨⟨by decide +kernel, by decide +kernel⟩, List.mem_of_getElem? (i := 659) (by decide +kernel), List.mem_of_getElem? (i := 872) (by decide +kernel), List.mem_of_getElem? (i := 873) (by decide +kernel)⟩
theorem lw_p76 : lw_okq (⟨"SplitWatchModel", "ends", "(I)V"⟩, 35) := ⟨⟨by decide +kernel, by decide +kernel⟩, List.mem_of_getElem? (i := 659) (by decide +kernel), List.mem_of_getElem? (i := 876) (by decide +kernel), List.mem_of_getElem? (i := 877) (by decide +kernel)⟩
theorem lw_p77 : lw_okq (⟨"SplitWatchModel", "address", "()I"⟩, 35) := ⟨⟨by decide +kernel, by decide +kernel⟩, List.mem_of_getElem? (i := 659) (by decide +kernel), List.mem_of_getElem? (i := 880) (by decide +kernel), List.mem_of_getElem? (i := 881) (by decide +kernel)⟩
theorem lw_p78 : lw_okq (⟨"SplitWatchModel", "waitingAt", "(I)I"⟩, 35) := ⟨⟨by decide +kernel, by decide +kernel⟩, List.mem_of_getElem? (i := 659) (by decide +kernel), List.mem_of_getElem? (i := 884) (by decide +kernel), List.mem_of_getElem? (i := 885) (by decide +kernel)⟩
theorem lw_p79 : lw_okq (⟨"SplitWatchModel", "isAhead", "(II)Z"⟩, 35) := ⟨⟨by decide +kernel, by decide +kernel⟩, List.mem_of_getElem? (i := 659) (by decide +kernel), List.mem_of_getElem? (i := 888) (by decide +kernel), List.mem_of_getElem? (i := 889) (by decide +kernel)⟩
def lw_privs_5 : List (MethodName × Nat) := [(⟨"SplitWatchModel", "noMore", "(I)V"⟩, 35), (⟨"SplitWatchModel", "fill", "(IIII)V"⟩, 35), (⟨"SplitWatchModel", "giveUp", "(II)V"⟩, 35), (⟨"SplitWatchModel", "asks", "(III)V"⟩, 35), (⟨"SplitWatchModel", "takeOut", "(II)V"⟩, 35), (⟨"SplitWatchModel", "putIn", "(IIII)V"⟩, 35), (⟨"SplitWatchModel", "begins", "(IIII)V"⟩, 35), (⟨"SplitWatchModel", "use", "(IIII)V"⟩, 35), (⟨"SplitWatchModel", "howOf", "(II)I"⟩, 35), (⟨"SplitWatchModel", "oneTurn", "()I"⟩, 35), (⟨"SplitWatchModel", "answer", "()Z"⟩, 35), (⟨"SplitWatchModel", "canFill", "(I)Z"⟩, 35), (⟨"SplitWatchModel", "ends", "(I)V"⟩, 35), (⟨"SplitWatchModel", "address", "()I"⟩, 35), (⟨"SplitWatchModel", "waitingAt", "(I)I"⟩, 35), (⟨"SplitWatchModel", "isAhead", "(II)Z"⟩, 35)]
theorem lw_r5 : ∀ q ∈ lw_privs_5, lw_okq q := List.forall_mem_cons.mpr ⟨lw_p64, List.forall_mem_cons.mpr ⟨lw_p65, List.forall_mem_cons.mpr ⟨lw_p66, List.forall_mem_cons.mpr ⟨lw_p67, List.forall_mem_cons.mpr ⟨lw_p68, List.forall_mem_cons.mpr ⟨lw_p69, List.forall_mem_cons.mpr ⟨lw_p70, List.forall_mem_cons.mpr ⟨lw_p71, List.forall_mem_cons.mpr ⟨lw_p72, List.forall_mem_cons.mpr ⟨lw_p73, List.forall_mem_cons.mpr ⟨lw_p74, List.forall_mem_cons.mpr ⟨lw_p75, List.forall_mem_cons.mpr ⟨lw_p76, List.forall_mem_cons.mpr ⟨lw_p77, List.forall_mem_cons.mpr ⟨lw_p78, List.forall_mem_cons.mpr ⟨lw_p79, fun _ h => absurd h List.not_mem_nil⟩⟩⟩⟩⟩⟩⟩⟩⟩⟩⟩⟩⟩⟩⟩⟩
theorem lw_p80 : lw_okq (⟨"SplitWatchModel", "isUrgent", "(I)Z"⟩, 35) := ⟨⟨by decide +kernel, by decide +kernel⟩, List.mem_of_getElem? (i := 659) (by decide +kernel), List.mem_of_getElem? (i := 892) (by decide +kernel), List.mem_of_getElem? (i := 893) (by decide +kernel)⟩
theorem lw_p81 : lw_okq (⟨"SplitWatchModel", "isOpen", "(I)Z"⟩, 35) := ⟨⟨by decide +kernel, by decide +kernel⟩, List.mem_of_getElem? (i := 659) (by decide +kernel), List.mem_of_getElem? (i := 896) (by decide +kernel), List.mem_of_getElem? (i := 897) (by decide +kernel)⟩
theorem lw_p82 : lw_okq (⟨"SplitWatchModel", "orders", "(III)V"⟩, 35) := ⟨⟨by decide +kernel, by decide +kernel⟩, List.mem_of_getElem? (i := 659) (by decide +kernel), List.mem_of_getElem? (i := 900) (by decide +kernel), List.mem_of_getElem? (i := 901) (by decide +kernel)⟩
theorem lw_p83 : lw_okq (⟨"SplitWatchModel", "noOther", "(II)V"⟩, 35) := ⟨⟨by decide +kernel, by decide +kernel⟩, List.mem_of_getElem? (i := 659) (by decide +kernel), List.mem_of_getElem? (i := 904) (by decide +kernel), List.mem_of_getElem? (i := 905) (by decide +kernel)⟩
theorem lw_p84 : lw_okq (⟨"SplitWatchModel", "opens", "(IIII)V"⟩, 35) := ⟨⟨by decide +kernel, by decide +kernel⟩, List.mem_of_getElem? (i := 659) (by decide +kernel), List.mem_of_getElem? (i := 908) (by decide +kernel), List.mem_of_getElem? (i := 909) (by decide +kernel)⟩
theorem lw_p85 : lw_okq (⟨"SplitWatchModel", "otherThat", "(III)I"⟩, 35) := ⟨⟨by decide +kernel, by decide +kernel⟩, List.mem_of_getElem? (i := 659) (by decide +kernel), List.mem_of_getElem? (i := 912) (by decide +kernel), List.mem_of_getElem? (i := 913) (by decide +kernel)⟩
theorem lw_p86 : lw_okq (⟨"SplitWatchModel", "bufferThat", "(I)I"⟩, 35) := ⟨⟨by decide +kernel, by decide +kernel⟩, List.mem_of_getElem? (i := 659) (by decide +kernel), List.mem_of_getElem? (i := 916) (by decide +kernel), List.mem_of_getElem? (i := 917) (by decide +kernel)⟩
theorem lw_p87 : lw_okq (⟨"SplitWatchModel", "reads", "()Z"⟩, 35) := ⟨⟨by decide +kernel, by decide +kernel⟩, List.mem_of_getElem? (i := 659) (by decide +kernel), List.mem_of_getElem? (i := 934) (by decide +kernel), List.mem_of_getElem? (i := 935) (by decide +kernel)⟩
theorem lw_p88 : lw_okq (⟨"SplitWatchModel", "word", "()J"⟩, 35) := ⟨⟨by decide +kernel, by decide +kernel⟩, List.mem_of_getElem? (i := 659) (by decide +kernel), List.mem_of_getElem? (i := 938) (by decide +kernel), List.mem_of_getElem? (i := 939) (by decide +kernel)⟩
theorem lw_p89 : lw_okq (⟨"SplitWatchModel", "letterAt", "(I)I"⟩, 35) := ⟨⟨by decide +kernel, by decide +kernel⟩, List.mem_of_getElem? (i := 659) (by decide +kernel), List.mem_of_getElem? (i := 942) (by decide +kernel), List.mem_of_getElem? (i := 943) (by decide +kernel)⟩
theorem lw_p90 : lw_okq (⟨"SplitWatchModel", "number", "(II)I"⟩, 35) := ⟨⟨by decide +kernel, by decide +kernel⟩, List.mem_of_getElem? (i := 659) (by decide +kernel), List.mem_of_getElem? (i := 954) (by decide +kernel), List.mem_of_getElem? (i := 955) (by decide +kernel)⟩
theorem lw_p91 : lw_okq (⟨"SplitWatchModel", "does", "()I"⟩, 35) := ⟨⟨by decide +kernel, by decide +kernel⟩, List.mem_of_getElem? (i := 659) (by decide +kernel), List.mem_of_getElem? (i := 965) (by decide +kernel), List.mem_of_getElem? (i := 966) (by decide +kernel)⟩
theorem lw_p92 : lw_okq (⟨"SplitWatchModel", "lastMany", "()I"⟩, 35) := ⟨⟨by decide +kernel, by decide +kernel⟩, List.mem_of_getElem? (i := 659) (by decide +kernel), List.mem_of_getElem? (i := 977) (by decide +kernel), List.mem_of_getElem? (i := 978) (by decide +kernel)⟩
theorem lw_p93 : lw_okq (⟨"SplitWatchModel", "askOf", "(I)I"⟩, 35) := ⟨⟨by decide +kernel, by decide +kernel⟩, List.mem_of_getElem? (i := 659) (by decide +kernel), List.mem_of_getElem? (i := 1012) (by decide +kernel), List.mem_of_getElem? (i := 1013) (by decide +kernel)⟩
theorem lw_p94 : lw_okq (⟨"SplitWatchModel", "openOf", "(I)I"⟩, 35) := ⟨⟨by decide +kernel, by decide +kernel⟩, List.mem_of_getElem? (i := 659) (by decide +kernel), List.mem_of_getElem? (i := 1016) (by decide +kernel), List.mem_of_getElem? (i := 1017) (by decide +kernel)⟩
def lw_privs_6 : List (MethodName × Nat) := [(⟨"SplitWatchModel", "isUrgent", "(I)Z"⟩, 35), (⟨"SplitWatchModel", "isOpen", "(I)Z"⟩, 35), (⟨"SplitWatchModel", "orders", "(III)V"⟩, 35), (⟨"SplitWatchModel", "noOther", "(II)V"⟩, 35), (⟨"SplitWatchModel", "opens", "(IIII)V"⟩, 35), (⟨"SplitWatchModel", "otherThat", "(III)I"⟩, 35), (⟨"SplitWatchModel", "bufferThat", "(I)I"⟩, 35), (⟨"SplitWatchModel", "reads", "()Z"⟩, 35), (⟨"SplitWatchModel", "word", "()J"⟩, 35), (⟨"SplitWatchModel", "letterAt", "(I)I"⟩, 35), (⟨"SplitWatchModel", "number", "(II)I"⟩, 35), (⟨"SplitWatchModel", "does", "()I"⟩, 35), (⟨"SplitWatchModel", "lastMany", "()I"⟩, 35), (⟨"SplitWatchModel", "askOf", "(I)I"⟩, 35), (⟨"SplitWatchModel", "openOf", "(I)I"⟩, 35)]
theorem lw_r6 : ∀ q ∈ lw_privs_6, lw_okq q := List.forall_mem_cons.mpr ⟨lw_p80, List.forall_mem_cons.mpr ⟨lw_p81, List.forall_mem_cons.mpr ⟨lw_p82, List.forall_mem_cons.mpr ⟨lw_p83, List.forall_mem_cons.mpr ⟨lw_p84, List.forall_mem_cons.mpr ⟨lw_p85, List.forall_mem_cons.mpr ⟨lw_p86, List.forall_mem_cons.mpr ⟨lw_p87, List.forall_mem_cons.mpr ⟨lw_p88, List.forall_mem_cons.mpr ⟨lw_p89, List.forall_mem_cons.mpr ⟨lw_p90, List.forall_mem_cons.mpr ⟨lw_p91, List.forall_mem_cons.mpr ⟨lw_p92, List.forall_mem_cons.mpr ⟨lw_p93, List.forall_mem_cons.mpr ⟨lw_p94, fun _ h => absurd h List.not_mem_nil⟩⟩⟩⟩⟩⟩⟩⟩⟩⟩⟩⟩⟩⟩⟩
def lw_privs : List (MethodName × Nat) := lw_privs_1 ++ (lw_privs_2 ++ (lw_privs_3 ++ (lw_privs_4 ++ (lw_privs_5 ++ (lw_privs_6)))))
def lw_tbl : List Cond := k2_sels lw_privs ++ tables_1
theorem lw_privs_ok : ∀ q ∈ lw_privs, lw_okq q := by
  show ∀ q ∈ lw_privs_1 ++ (lw_privs_2 ++ (lw_privs_3 ++ (lw_privs_4 ++ (lw_privs_5 ++ (lw_privs_6))))), lw_okq q
  exact List.forall_mem_append.mpr ⟨lw_r1, List.forall_mem_append.mpr ⟨lw_r2, List.forall_mem_append.mpr ⟨lw_r3, List.forall_mem_append.mpr ⟨lw_r4, List.forall_mem_append.mpr ⟨lw_r5, lw_r6⟩⟩⟩⟩⟩
end
section
def RX0 : String := "SplitWatch$Bus"
def TX0 : u_T := fun k => match k with
  | 0 => ("SplitWatch$Bus", "cores", "[LSplitWatch$Core;", true)
  | 1 => ("SplitWatch$Bus", "requests", "[LSplitWatch$Request;", true)
  | 2 => ("SplitWatch$Bus", "kept", "[I", true)
  | 3 => ("SplitWatch$Bus", "log", "LSplitWatch$Log;", true)
  | 4 => ("SplitWatch$Bus", "coreCount", "I", false)
  | 5 => ("SplitWatch$Bus", "capacity", "I", false)
  | 6 => ("SplitWatch$Bus", "fast", "I", false)
  | 7 => ("SplitWatch$Bus", "slow", "I", false)
  | 8 => ("SplitWatch$Bus", "now", "I", false)
  | 9 => ("SplitWatch$Bus", "places", "I", false)
  | 10 => ("SplitWatch$Bus", "sentAway", "I", false)
  | 11 => ("SplitWatch$Bus", "beaten", "I", false)
  | 12 => ("SplitWatch$Bus", "ended", "I", false)
  | _ => ("SplitWatch$Bus", "answers", "I", false)
def tyX0 : Nat → FieldType := fun k => match k with
  | 0 => .array (.object "SplitWatch$Core")
  | 1 => .array (.object "SplitWatch$Request")
  | 2 => .array .int
  | 3 => .object "SplitWatch$Log"
  | 4 => .int
  | 5 => .int
  | 6 => .int
  | 7 => .int
  | 8 => .int
  | 9 => .int
  | 10 => .int
  | 11 => .int
  | 12 => .int
  | _ => .int
abbrev wsX00 : List Cond := u_ws RX0 TX0 14
theorem nmX0 : ∀ a, a < 14 → ∀ b, b < 14 → a ≠ b → (TX0 a).2.1 ≠ (TX0 b).2.1 := by decide +kernel
theorem tyX0_ok : ∀ k, k < 14 → parseFieldDescriptor (TX0 k).2.2.1 = some (tyX0 k) := by decide +kernel
abbrev cX0_init : ByteArray := prog_2_method_1_code
def yX0_init : MethodName := ⟨RX0, "<init>", "()V"⟩
abbrev cX0_reset : ByteArray := prog_2_method_2_code
def yX0_reset : MethodName := ⟨RX0, "reset", "(IIII)V"⟩
abbrev cX0_hasCore : ByteArray := prog_2_method_3_code
def yX0_hasCore : MethodName := ⟨RX0, "hasCore", "(I)Z"⟩
abbrev cX0_perform : ByteArray := prog_2_method_4_code
def yX0_perform : MethodName := ⟨RX0, "perform", "(IIII)I"⟩
abbrev cX0_startRead : ByteArray := prog_2_method_5_code
def yX0_startRead : MethodName := ⟨RX0, "startRead", "(II)I"⟩
abbrev cX0_startStore : ByteArray := prog_2_method_6_code
def yX0_startStore : MethodName := ⟨RX0, "startStore", "(III)I"⟩
abbrev cX0_dropLine : ByteArray := prog_2_method_7_code
def yX0_dropLine : MethodName := ⟨RX0, "dropLine", "(II)I"⟩
abbrev cX0_runTurns : ByteArray := prog_2_method_8_code
def yX0_runTurns : MethodName := ⟨RX0, "runTurns", "(I)I"⟩
abbrev cX0_ask : ByteArray := prog_2_method_9_code
def yX0_ask : MethodName := ⟨RX0, "ask", "(LSplitWatch$Request;III)V"⟩
abbrev cX0_takeBack : ByteArray := prog_2_method_10_code
def yX0_takeBack : MethodName := ⟨RX0, "takeBack", "(LSplitWatch$Core;I)V"⟩
abbrev cX0_canFill : ByteArray := prog_2_method_11_code
def yX0_canFill : MethodName := ⟨RX0, "canFill", "(LSplitWatch$Core;)Z"⟩
abbrev cX0_fill : ByteArray := prog_2_method_12_code
def yX0_fill : MethodName := ⟨RX0, "fill", "(LSplitWatch$Core;III)V"⟩
abbrev cX0_giveUp : ByteArray := prog_2_method_13_code
def yX0_giveUp : MethodName := ⟨RX0, "giveUp", "(LSplitWatch$Core;I)V"⟩
abbrev cX0_answerTurn : ByteArray := prog_2_method_14_code
def yX0_answerTurn : MethodName := ⟨RX0, "answerTurn", "()V"⟩
abbrev cX0_addressTurn : ByteArray := prog_2_method_15_code
def yX0_addressTurn : MethodName := ⟨RX0, "addressTurn", "()V"⟩
abbrev cX0_sendAway : ByteArray := prog_2_method_16_code
def yX0_sendAway : MethodName := ⟨RX0, "sendAway", "(LSplitWatch$Request;)V"⟩
abbrev cX0_orderBack : ByteArray := prog_2_method_17_code
def yX0_orderBack : MethodName := ⟨RX0, "orderBack", "(LSplitWatch$Request;)V"⟩
abbrev cX0_orderRise : ByteArray := prog_2_method_18_code
def yX0_orderRise : MethodName := ⟨RX0, "orderRise", "(LSplitWatch$Request;)V"⟩
abbrev cX0_orderRead : ByteArray := prog_2_method_19_code
def yX0_orderRead : MethodName := ⟨RX0, "orderRead", "(LSplitWatch$Request;)V"⟩
abbrev cX0_orderOwn : ByteArray := prog_2_method_20_code
def yX0_orderOwn : MethodName := ⟨RX0, "orderOwn", "(LSplitWatch$Request;C)V"⟩
abbrev cX0_answerTime : ByteArray := prog_2_method_21_code
def yX0_answerTime : MethodName := ⟨RX0, "answerTime", "(II)I"⟩
abbrev cX0_bringToMemory : ByteArray := prog_2_method_22_code
def yX0_bringToMemory : MethodName := ⟨RX0, "bringToMemory", "(LSplitWatch$Core;I)V"⟩
abbrev cX0_takeFromOthers : ByteArray := prog_2_method_23_code
def yX0_takeFromOthers : MethodName := ⟨RX0, "takeFromOthers", "(II)V"⟩
abbrev cX0_openOf : ByteArray := prog_2_method_24_code
def yX0_openOf : MethodName := ⟨RX0, "openOf", "(I)LSplitWatch$Request;"⟩
abbrev cX0_keyOf : ByteArray := prog_2_method_25_code
def yX0_keyOf : MethodName := ⟨RX0, "keyOf", "(LSplitWatch$Request;)I"⟩
abbrev cX0_nextWaiting : ByteArray := prog_2_method_26_code
def yX0_nextWaiting : MethodName := ⟨RX0, "nextWaiting", "()LSplitWatch$Request;"⟩
abbrev cX0_waitingAt : ByteArray := prog_2_method_27_code
def yX0_waitingAt : MethodName := ⟨RX0, "waitingAt", "(I)LSplitWatch$Request;"⟩
abbrev cX0_waitingAheadOf : ByteArray := prog_2_method_28_code
def yX0_waitingAheadOf : MethodName := ⟨RX0, "waitingAheadOf", "(LSplitWatch$Request;)I"⟩
abbrev cX0_openAt : ByteArray := prog_2_method_29_code
def yX0_openAt : MethodName := ⟨RX0, "openAt", "(I)LSplitWatch$Request;"⟩
abbrev cX0_openAheadOf : ByteArray := prog_2_method_30_code
def yX0_openAheadOf : MethodName := ⟨RX0, "openAheadOf", "(LSplitWatch$Request;)I"⟩
abbrev cX0_countAt : ByteArray := prog_2_method_31_code
def yX0_countAt : MethodName := ⟨RX0, "countAt", "(I)I"⟩
abbrev cX0_trueValue : ByteArray := prog_2_method_32_code
def yX0_trueValue : MethodName := ⟨RX0, "trueValue", "(I)I"⟩
abbrev cX0_nameOf : ByteArray := prog_2_method_33_code
def yX0_nameOf : MethodName := ⟨RX0, "nameOf", "(II)Ljava/lang/String;"⟩
def RX1 : String := "SplitWatch$Cache"
def TX1 : u_T := fun k => match k with
  | 0 => ("SplitWatch$Cache", "state", "[I", true)
  | 1 => ("SplitWatch$Cache", "value", "[I", true)
  | 2 => ("SplitWatch$Cache", "usedAt", "[I", true)
  | _ => ("SplitWatch$Cache", "uses", "I", false)
def tyX1 : Nat → FieldType := fun k => match k with
  | 0 => .array .int
  | 1 => .array .int
  | 2 => .array .int
  | _ => .int
abbrev wsX10 : List Cond := u_ws RX1 TX1 4
theorem nmX1 : ∀ a, a < 4 → ∀ b, b < 4 → a ≠ b → (TX1 a).2.1 ≠ (TX1 b).2.1 := by decide +kernel
theorem tyX1_ok : ∀ k, k < 4 → parseFieldDescriptor (TX1 k).2.2.1 = some (tyX1 k) := by decide +kernel
abbrev cX1_init : ByteArray := prog_3_method_1_code
def yX1_init : MethodName := ⟨RX1, "<init>", "()V"⟩
abbrev cX1_clear : ByteArray := prog_3_method_2_code
def yX1_clear : MethodName := ⟨RX1, "clear", "()V"⟩
abbrev cX1_isSole : ByteArray := prog_3_method_3_code
def yX1_isSole : MethodName := ⟨RX1, "isSole", "(I)Z"⟩
abbrev cX1_use : ByteArray := prog_3_method_4_code
def yX1_use : MethodName := ⟨RX1, "use", "(I)V"⟩
abbrev cX1_put : ByteArray := prog_3_method_5_code
def yX1_put : MethodName := ⟨RX1, "put", "(III)V"⟩
abbrev cX1_held : ByteArray := prog_3_method_6_code
def yX1_held : MethodName := ⟨RX1, "held", "()I"⟩
abbrev cX1_oldest : ByteArray := prog_3_method_7_code
def yX1_oldest : MethodName := ⟨RX1, "oldest", "()I"⟩
abbrev cX1_usedLater : ByteArray := prog_3_method_8_code
def yX1_usedLater : MethodName := ⟨RX1, "usedLater", "(I)I"⟩
def RX2 : String := "SplitWatch$Core"
def TX2 : u_T := fun k => match k with
  | 0 => ("SplitWatch$Core", "cache", "LSplitWatch$Cache;", true)
  | 1 => ("SplitWatch$Core", "op", "LSplitWatch$Request;", true)
  | 2 => ("SplitWatch$Core", "backs", "[LSplitWatch$Request;", true)
  | _ => ("SplitWatch$Core", "last", "I", false)
def tyX2 : Nat → FieldType := fun k => match k with
  | 0 => .object "SplitWatch$Cache"
  | 1 => .object "SplitWatch$Request"
  | 2 => .array (.object "SplitWatch$Request")
  | _ => .int
abbrev wsX20 : List Cond := u_ws RX2 TX2 4
theorem nmX2 : ∀ a, a < 4 → ∀ b, b < 4 → a ≠ b → (TX2 a).2.1 ≠ (TX2 b).2.1 := by decide +kernel
theorem tyX2_ok : ∀ k, k < 4 → parseFieldDescriptor (TX2 k).2.2.1 = some (tyX2 k) := by decide +kernel
abbrev cX2_init : ByteArray := prog_4_method_1_code
def yX2_init : MethodName := ⟨RX2, "<init>", "(I)V"⟩
abbrev cX2_clear : ByteArray := prog_4_method_2_code
def yX2_clear : MethodName := ⟨RX2, "clear", "()V"⟩
abbrev cX2_bufferSize : ByteArray := prog_4_method_3_code
def yX2_bufferSize : MethodName := ⟨RX2, "bufferSize", "()I"⟩
abbrev cX2_backOf : ByteArray := prog_4_method_4_code
def yX2_backOf : MethodName := ⟨RX2, "backOf", "(I)LSplitWatch$Request;"⟩
abbrev cX2_backAt : ByteArray := prog_4_method_5_code
def yX2_backAt : MethodName := ⟨RX2, "backAt", "(I)LSplitWatch$Request;"⟩
abbrev cX2_earlierBacks : ByteArray := prog_4_method_6_code
def yX2_earlierBacks : MethodName := ⟨RX2, "earlierBacks", "(I)I"⟩
abbrev cX2_freeBack : ByteArray := prog_4_method_7_code
def yX2_freeBack : MethodName := ⟨RX2, "freeBack", "()LSplitWatch$Request;"⟩
def RX3 : String := "SplitWatch$Log"
def TX3 : u_T := fun k => match k with
  | 0 => ("SplitWatch$Log", "letters", "[C", true)
  | _ => ("SplitWatch$Log", "total", "I", false)
def tyX3 : Nat → FieldType := fun k => match k with
  | 0 => .array .char
  | _ => .int
abbrev wsX30 : List Cond := u_ws RX3 TX3 2
theorem nmX3 : ∀ a, a < 2 → ∀ b, b < 2 → a ≠ b → (TX3 a).2.1 ≠ (TX3 b).2.1 := by decide +kernel
theorem tyX3_ok : ∀ k, k < 2 → parseFieldDescriptor (TX3 k).2.2.1 = some (tyX3 k) := by decide +kernel
abbrev cX3_init : ByteArray := prog_5_method_1_code
def yX3_init : MethodName := ⟨RX3, "<init>", "()V"⟩
abbrev cX3_add : ByteArray := prog_5_method_2_code
def yX3_add : MethodName := ⟨RX3, "add", "(ICI)V"⟩
abbrev cX3_size : ByteArray := prog_5_method_3_code
def yX3_size : MethodName := ⟨RX3, "size", "()I"⟩
abbrev cX3_lineLength : ByteArray := prog_5_method_4_code
def yX3_lineLength : MethodName := ⟨RX3, "lineLength", "()I"⟩
abbrev cX3_letterAt : ByteArray := prog_5_method_5_code
def yX3_letterAt : MethodName := ⟨RX3, "letterAt", "(I)I"⟩
abbrev cX3_matches : ByteArray := prog_5_method_6_code
def yX3_matches : MethodName := ⟨RX3, "matches", "(III)I"⟩
abbrev cX3_fits : ByteArray := prog_5_method_7_code
def yX3_fits : MethodName := ⟨RX3, "fits", "(IC)Z"⟩
def RX4 : String := "SplitWatch$Request"
def TX4 : u_T := fun k => match k with
  | 0 => ("SplitWatch$Request", "core", "I", true)
  | 1 => ("SplitWatch$Request", "stage", "I", false)
  | 2 => ("SplitWatch$Request", "kind", "I", false)
  | 3 => ("SplitWatch$Request", "line", "I", false)
  | 4 => ("SplitWatch$Request", "value", "I", false)
  | 5 => ("SplitWatch$Request", "since", "I", false)
  | 6 => ("SplitWatch$Request", "place", "I", false)
  | 7 => ("SplitWatch$Request", "sent", "I", false)
  | 8 => ("SplitWatch$Request", "orderedAs", "I", false)
  | 9 => ("SplitWatch$Request", "due", "I", false)
  | _ => ("SplitWatch$Request", "toBe", "I", false)
def tyX4 : Nat → FieldType := fun k => match k with
  | 0 => .int
  | 1 => .int
  | 2 => .int
  | 3 => .int
  | 4 => .int
  | 5 => .int
  | 6 => .int
  | 7 => .int
  | 8 => .int
  | 9 => .int
  | _ => .int
abbrev wsX40 : List Cond := u_ws RX4 TX4 11
theorem nmX4 : ∀ a, a < 11 → ∀ b, b < 11 → a ≠ b → (TX4 a).2.1 ≠ (TX4 b).2.1 := by decide +kernel
theorem tyX4_ok : ∀ k, k < 11 → parseFieldDescriptor (TX4 k).2.2.1 = some (tyX4 k) := by decide +kernel
abbrev cX4_init : ByteArray := prog_6_method_1_code
def yX4_init : MethodName := ⟨RX4, "<init>", "(I)V"⟩
def RX5 : String := "SplitWatch$Script"
def TX5 : u_T := fun k => match k with
  | 0 => ("SplitWatch$Script", "letters", "[C", true)
  | 1 => ("SplitWatch$Script", "numbers", "[I", true)
  | 2 => ("SplitWatch$Script", "length", "I", false)
  | 3 => ("SplitWatch$Script", "verb", "I", false)
  | _ => ("SplitWatch$Script", "end", "I", false)
def tyX5 : Nat → FieldType := fun k => match k with
  | 0 => .array .char
  | 1 => .array .int
  | 2 => .int
  | 3 => .int
  | _ => .int
abbrev wsX50 : List Cond := u_ws RX5 TX5 5
theorem nmX5 : ∀ a, a < 5 → ∀ b, b < 5 → a ≠ b → (TX5 a).2.1 ≠ (TX5 b).2.1 := by decide +kernel
theorem tyX5_ok : ∀ k, k < 5 → parseFieldDescriptor (TX5 k).2.2.1 = some (tyX5 k) := by decide +kernel
abbrev cX5_init : ByteArray := prog_7_method_1_code
def yX5_init : MethodName := ⟨RX5, "<init>", "()V"⟩
abbrev cX5_append : ByteArray := prog_7_method_2_code
def yX5_append : MethodName := ⟨RX5, "append", "(C)I"⟩
abbrev cX5_findFault : ByteArray := prog_7_method_3_code
def yX5_findFault : MethodName := ⟨RX5, "findFault", "(I)I"⟩
abbrev cX5_understand : ByteArray := prog_7_method_4_code
def yX5_understand : MethodName := ⟨RX5, "understand", "(II)Z"⟩
abbrev cX5_takeNumber : ByteArray := prog_7_method_5_code
def yX5_takeNumber : MethodName := ⟨RX5, "takeNumber", "(II)I"⟩
abbrev cX5_areTold : ByteArray := prog_7_method_6_code
def yX5_areTold : MethodName := ⟨RX5, "areTold", "(I)Z"⟩
abbrev cX5_verbOf : ByteArray := prog_7_method_7_code
def yX5_verbOf : MethodName := ⟨RX5, "verbOf", "(II)I"⟩
abbrev cX5_spells : ByteArray := prog_7_method_8_code
def yX5_spells : MethodName := ⟨RX5, "spells", "(IILjava/lang/String;)Z"⟩
abbrev cX5_letterAt : ByteArray := prog_7_method_9_code
def yX5_letterAt : MethodName := ⟨RX5, "letterAt", "(I)C"⟩
abbrev cX5_numbersOf : ByteArray := prog_7_method_10_code
def yX5_numbersOf : MethodName := ⟨RX5, "numbersOf", "(I)I"⟩
abbrev cX5_isSmall : ByteArray := prog_7_method_11_code
def yX5_isSmall : MethodName := ⟨RX5, "isSmall", "(C)Z"⟩
abbrev cX5_isFigure : ByteArray := prog_7_method_12_code
def yX5_isFigure : MethodName := ⟨RX5, "isFigure", "(C)Z"⟩
def RX6 : String := "SplitWatch"
def TX6 : u_T := fun k => match k with
  | 0 => ("SplitWatch", "bus", "LSplitWatch$Bus;", true)
  | _ => ("SplitWatch", "script", "LSplitWatch$Script;", true)
def tyX6 : Nat → FieldType := fun k => match k with
  | 0 => .object "SplitWatch$Bus"
  | _ => .object "SplitWatch$Script"
abbrev wsX60 : List Cond := u_ws RX6 TX6 2
theorem nmX6 : ∀ a, a < 2 → ∀ b, b < 2 → a ≠ b → (TX6 a).2.1 ≠ (TX6 b).2.1 := by decide +kernel
theorem tyX6_ok : ∀ k, k < 2 → parseFieldDescriptor (TX6 k).2.2.1 = some (tyX6 k) := by decide +kernel
abbrev cX6_init : ByteArray := prog_1_method_1_code
def yX6_init : MethodName := ⟨RX6, "<init>", "()V"⟩
abbrev cX6_begin : ByteArray := prog_1_method_2_code
def yX6_begin : MethodName := ⟨RX6, "begin", "(IIII)I"⟩
abbrev cX6_read : ByteArray := prog_1_method_3_code
def yX6_read : MethodName := ⟨RX6, "read", "(II)I"⟩
abbrev cX6_store : ByteArray := prog_1_method_4_code
def yX6_store : MethodName := ⟨RX6, "store", "(III)I"⟩
abbrev cX6_drop : ByteArray := prog_1_method_5_code
def yX6_drop : MethodName := ⟨RX6, "drop", "(II)I"⟩
abbrev cX6_turn : ByteArray := prog_1_method_6_code
def yX6_turn : MethodName := ⟨RX6, "turn", "(I)I"⟩
abbrev cX6_write : ByteArray := prog_1_method_7_code
def yX6_write : MethodName := ⟨RX6, "write", "(I)I"⟩
abbrev cX6_wipe : ByteArray := prog_1_method_8_code
def yX6_wipe : MethodName := ⟨RX6, "wipe", "()I"⟩
abbrev cX6_fault : ByteArray := prog_1_method_9_code
def yX6_fault : MethodName := ⟨RX6, "fault", "()I"⟩
abbrev cX6_play : ByteArray := prog_1_method_10_code
def yX6_play : MethodName := ⟨RX6, "play", "()I"⟩
abbrev cX6_order : ByteArray := prog_1_method_11_code
def yX6_order : MethodName := ⟨RX6, "order", "(I)I"⟩
abbrev cX6_told : ByteArray := prog_1_method_12_code
def yX6_told : MethodName := ⟨RX6, "told", "(III)I"⟩
abbrev cX6_word : ByteArray := prog_1_method_13_code
def yX6_word : MethodName := ⟨RX6, "word", "(III)I"⟩
abbrev cX6_cached : ByteArray := prog_1_method_14_code
def yX6_cached : MethodName := ⟨RX6, "cached", "(III)I"⟩
abbrev cX6_buffered : ByteArray := prog_1_method_15_code
def yX6_buffered : MethodName := ⟨RX6, "buffered", "(III)I"⟩
abbrev cX6_memory : ByteArray := prog_1_method_16_code
def yX6_memory : MethodName := ⟨RX6, "memory", "(I)I"⟩
abbrev cX6_truth : ByteArray := prog_1_method_17_code
def yX6_truth : MethodName := ⟨RX6, "truth", "(I)I"⟩
abbrev cX6_core : ByteArray := prog_1_method_18_code
def yX6_core : MethodName := ⟨RX6, "core", "(II)I"⟩
abbrev cX6_waiting : ByteArray := prog_1_method_19_code
def yX6_waiting : MethodName := ⟨RX6, "waiting", "(II)I"⟩
abbrev cX6_open : ByteArray := prog_1_method_20_code
def yX6_open : MethodName := ⟨RX6, "open", "(II)I"⟩
abbrev cX6_day : ByteArray := prog_1_method_21_code
def yX6_day : MethodName := ⟨RX6, "day", "(II)I"⟩
abbrev cX6_count : ByteArray := prog_1_method_22_code
def yX6_count : MethodName := ⟨RX6, "count", "(I)I"⟩
abbrev cX6_isWithin : ByteArray := prog_1_method_23_code
def yX6_isWithin : MethodName := ⟨RX6, "isWithin", "(III)Z"⟩
abbrev cX6_isLine : ByteArray := prog_1_method_24_code
def yX6_isLine : MethodName := ⟨RX6, "isLine", "(I)Z"⟩
abbrev cX6_isLetter : ByteArray := prog_1_method_25_code
def yX6_isLetter : MethodName := ⟨RX6, "isLetter", "(I)Z"⟩
abbrev cX6_isRefusal : ByteArray := prog_1_method_26_code
def yX6_isRefusal : MethodName := ⟨RX6, "isRefusal", "(I)Z"⟩
def RX7 : String := "SplitWatchModel"
def TX7 : u_T := fun k => match k with
  | 0 => ("SplitWatchModel", "cores", "I", false)
  | 1 => ("SplitWatchModel", "size", "I", false)
  | 2 => ("SplitWatchModel", "fast", "I", false)
  | 3 => ("SplitWatchModel", "slow", "I", false)
  | 4 => ("SplitWatchModel", "now", "I", false)
  | 5 => ("SplitWatchModel", "memory", "[I", true)
  | 6 => ("SplitWatchModel", "many", "[I", true)
  | 7 => ("SplitWatchModel", "line", "[I", true)
  | 8 => ("SplitWatchModel", "value", "[I", true)
  | 9 => ("SplitWatchModel", "how", "[I", true)
  | 10 => ("SplitWatchModel", "backs", "[I", true)
  | 11 => ("SplitWatchModel", "backLine", "[I", true)
  | 12 => ("SplitWatchModel", "backValue", "[I", true)
  | 13 => ("SplitWatchModel", "last", "[I", true)
  | 14 => ("SplitWatchModel", "op", "[I", true)
  | 15 => ("SplitWatchModel", "opLine", "[I", true)
  | 16 => ("SplitWatchModel", "opValue", "[I", true)
  | 17 => ("SplitWatchModel", "opSince", "[I", true)
  | 18 => ("SplitWatchModel", "waits", "I", false)
  | 19 => ("SplitWatchModel", "ask", "[I", true)
  | 20 => ("SplitWatchModel", "places", "I", false)
  | 21 => ("SplitWatchModel", "opens", "I", false)
  | 22 => ("SplitWatchModel", "opened", "[I", true)
  | 23 => ("SplitWatchModel", "ordered", "I", false)
  | 24 => ("SplitWatchModel", "order", "[I", true)
  | 25 => ("SplitWatchModel", "away", "I", false)
  | 26 => ("SplitWatchModel", "beaten", "I", false)
  | 27 => ("SplitWatchModel", "ended", "I", false)
  | 28 => ("SplitWatchModel", "answers", "I", false)
  | 29 => ("SplitWatchModel", "length", "I", false)
  | 30 => ("SplitWatchModel", "text", "[I", true)
  | 31 => ("SplitWatchModel", "spot", "I", false)
  | 32 => ("SplitWatchModel", "numbers", "[I", true)
  | 33 => ("SplitWatchModel", "command", "I", false)
  | _ => ("SplitWatchModel", "wordLetters", "[I", true)
def tyX7 : Nat → FieldType := fun k => match k with
  | 0 => .int
  | 1 => .int
  | 2 => .int
  | 3 => .int
  | 4 => .int
  | 5 => .array .int
  | 6 => .array .int
  | 7 => .array .int
  | 8 => .array .int
  | 9 => .array .int
  | 10 => .array .int
  | 11 => .array .int
  | 12 => .array .int
  | 13 => .array .int
  | 14 => .array .int
  | 15 => .array .int
  | 16 => .array .int
  | 17 => .array .int
  | 18 => .int
  | 19 => .array .int
  | 20 => .int
  | 21 => .int
  | 22 => .array .int
  | 23 => .int
  | 24 => .array .int
  | 25 => .int
  | 26 => .int
  | 27 => .int
  | 28 => .int
  | 29 => .int
  | 30 => .array .int
  | 31 => .int
  | 32 => .array .int
  | 33 => .int
  | _ => .array .int
abbrev wsX70 : List Cond := u_ws RX7 TX7 35
theorem nmX7 : ∀ a, a < 35 → ∀ b, b < 35 → a ≠ b → (TX7 a).2.1 ≠ (TX7 b).2.1 := by decide +kernel
theorem tyX7_ok : ∀ k, k < 35 → parseFieldDescriptor (TX7 k).2.2.1 = some (tyX7 k) := by decide +kernel
abbrev cX7_init : ByteArray := prog_9_method_1_code
def yX7_init : MethodName := ⟨RX7, "<init>", "()V"⟩
abbrev cX7_in : ByteArray := prog_9_method_2_code
def yX7_in : MethodName := ⟨RX7, "in", "(JJJ)Z"⟩
abbrev cX7_begin : ByteArray := prog_9_method_3_code
def yX7_begin : MethodName := ⟨RX7, "begin", "(IIII)I"⟩
abbrev cX7_isCore : ByteArray := prog_9_method_4_code
def yX7_isCore : MethodName := ⟨RX7, "isCore", "(I)Z"⟩
abbrev cX7_isLine : ByteArray := prog_9_method_5_code
def yX7_isLine : MethodName := ⟨RX7, "isLine", "(I)Z"⟩
abbrev cX7_at : ByteArray := prog_9_method_6_code
def yX7_at : MethodName := ⟨RX7, "at", "(II)I"⟩
abbrev cX7_howOf : ByteArray := prog_9_method_7_code
def yX7_howOf : MethodName := ⟨RX7, "howOf", "(II)I"⟩
abbrev cX7_takeOut : ByteArray := prog_9_method_8_code
def yX7_takeOut : MethodName := ⟨RX7, "takeOut", "(II)V"⟩
abbrev cX7_putIn : ByteArray := prog_9_method_9_code
def yX7_putIn : MethodName := ⟨RX7, "putIn", "(IIII)V"⟩
abbrev cX7_use : ByteArray := prog_9_method_10_code
def yX7_use : MethodName := ⟨RX7, "use", "(IIII)V"⟩
abbrev cX7_canFill : ByteArray := prog_9_method_11_code
def yX7_canFill : MethodName := ⟨RX7, "canFill", "(I)Z"⟩
abbrev cX7_fill : ByteArray := prog_9_method_12_code
def yX7_fill : MethodName := ⟨RX7, "fill", "(IIII)V"⟩
abbrev cX7_giveUp : ByteArray := prog_9_method_13_code
def yX7_giveUp : MethodName := ⟨RX7, "giveUp", "(II)V"⟩
abbrev cX7_backAt : ByteArray := prog_9_method_14_code
def yX7_backAt : MethodName := ⟨RX7, "backAt", "(II)I"⟩
abbrev cX7_outOfBuffer : ByteArray := prog_9_method_15_code
def yX7_outOfBuffer : MethodName := ⟨RX7, "outOfBuffer", "(II)I"⟩
abbrev cX7_asks : ByteArray := prog_9_method_16_code
def yX7_asks : MethodName := ⟨RX7, "asks", "(III)V"⟩
abbrev cX7_noMore : ByteArray := prog_9_method_17_code
def yX7_noMore : MethodName := ⟨RX7, "noMore", "(I)V"⟩
abbrev cX7_noBack : ByteArray := prog_9_method_18_code
def yX7_noBack : MethodName := ⟨RX7, "noBack", "(II)V"⟩
abbrev cX7_isOpen : ByteArray := prog_9_method_19_code
def yX7_isOpen : MethodName := ⟨RX7, "isOpen", "(I)Z"⟩
abbrev cX7_isUrgent : ByteArray := prog_9_method_20_code
def yX7_isUrgent : MethodName := ⟨RX7, "isUrgent", "(I)Z"⟩
abbrev cX7_isAhead : ByteArray := prog_9_method_21_code
def yX7_isAhead : MethodName := ⟨RX7, "isAhead", "(II)Z"⟩
abbrev cX7_waitingAt : ByteArray := prog_9_method_22_code
def yX7_waitingAt : MethodName := ⟨RX7, "waitingAt", "(I)I"⟩
abbrev cX7_begins : ByteArray := prog_9_method_23_code
def yX7_begins : MethodName := ⟨RX7, "begins", "(IIII)V"⟩
abbrev cX7_read : ByteArray := prog_9_method_24_code
def yX7_read : MethodName := ⟨RX7, "read", "(II)I"⟩
abbrev cX7_isHere : ByteArray := prog_9_method_25_code
def yX7_isHere : MethodName := ⟨RX7, "isHere", "(II)Z"⟩
abbrev cX7_store : ByteArray := prog_9_method_26_code
def yX7_store : MethodName := ⟨RX7, "store", "(III)I"⟩
abbrev cX7_drop : ByteArray := prog_9_method_27_code
def yX7_drop : MethodName := ⟨RX7, "drop", "(II)I"⟩
abbrev cX7_ends : ByteArray := prog_9_method_28_code
def yX7_ends : MethodName := ⟨RX7, "ends", "(I)V"⟩
abbrev cX7_answer : ByteArray := prog_9_method_29_code
def yX7_answer : MethodName := ⟨RX7, "answer", "()Z"⟩
abbrev cX7_orders : ByteArray := prog_9_method_30_code
def yX7_orders : MethodName := ⟨RX7, "orders", "(III)V"⟩
abbrev cX7_otherThat : ByteArray := prog_9_method_31_code
def yX7_otherThat : MethodName := ⟨RX7, "otherThat", "(III)I"⟩
abbrev cX7_bufferThat : ByteArray := prog_9_method_32_code
def yX7_bufferThat : MethodName := ⟨RX7, "bufferThat", "(I)I"⟩
abbrev cX7_noOther : ByteArray := prog_9_method_33_code
def yX7_noOther : MethodName := ⟨RX7, "noOther", "(II)V"⟩
abbrev cX7_opens : ByteArray := prog_9_method_34_code
def yX7_opens : MethodName := ⟨RX7, "opens", "(IIII)V"⟩
abbrev cX7_address : ByteArray := prog_9_method_35_code
def yX7_address : MethodName := ⟨RX7, "address", "()I"⟩
abbrev cX7_oneTurn : ByteArray := prog_9_method_36_code
def yX7_oneTurn : MethodName := ⟨RX7, "oneTurn", "()I"⟩
abbrev cX7_turn : ByteArray := prog_9_method_37_code
def yX7_turn : MethodName := ⟨RX7, "turn", "(I)I"⟩
abbrev cX7_write : ByteArray := prog_9_method_38_code
def yX7_write : MethodName := ⟨RX7, "write", "(I)I"⟩
abbrev cX7_wipe : ByteArray := prog_9_method_39_code
def yX7_wipe : MethodName := ⟨RX7, "wipe", "()I"⟩
abbrev cX7_letterAt : ByteArray := prog_9_method_40_code
def yX7_letterAt : MethodName := ⟨RX7, "letterAt", "(I)I"⟩
abbrev cX7_word : ByteArray := prog_9_method_41_code
def yX7_word : MethodName := ⟨RX7, "word", "()J"⟩
abbrev cX7_wordOf : ByteArray := prog_9_method_42_code
def yX7_wordOf : MethodName := ⟨RX7, "wordOf", "(IIII)J"⟩
abbrev cX7_number : ByteArray := prog_9_method_43_code
def yX7_number : MethodName := ⟨RX7, "number", "(II)I"⟩
abbrev cX7_reads : ByteArray := prog_9_method_44_code
def yX7_reads : MethodName := ⟨RX7, "reads", "()Z"⟩
abbrev cX7_fault : ByteArray := prog_9_method_45_code
def yX7_fault : MethodName := ⟨RX7, "fault", "()I"⟩
abbrev cX7_does : ByteArray := prog_9_method_46_code
def yX7_does : MethodName := ⟨RX7, "does", "()I"⟩
abbrev cX7_play : ByteArray := prog_9_method_47_code
def yX7_play : MethodName := ⟨RX7, "play", "()I"⟩
abbrev cX7_lastMany : ByteArray := prog_9_method_48_code
def yX7_lastMany : MethodName := ⟨RX7, "lastMany", "()I"⟩
abbrev cX7_order : ByteArray := prog_9_method_49_code
def yX7_order : MethodName := ⟨RX7, "order", "(I)I"⟩
abbrev cX7_fits : ByteArray := prog_9_method_50_code
def yX7_fits : MethodName := ⟨RX7, "fits", "(II)Z"⟩
abbrev cX7_told : ByteArray := prog_9_method_51_code
def yX7_told : MethodName := ⟨RX7, "told", "(III)I"⟩
abbrev cX7_word_ : ByteArray := prog_9_method_52_code
def yX7_word_ : MethodName := ⟨RX7, "word", "(III)I"⟩
abbrev cX7_cached : ByteArray := prog_9_method_53_code
def yX7_cached : MethodName := ⟨RX7, "cached", "(III)I"⟩
abbrev cX7_buffered : ByteArray := prog_9_method_54_code
def yX7_buffered : MethodName := ⟨RX7, "buffered", "(III)I"⟩
abbrev cX7_memory : ByteArray := prog_9_method_55_code
def yX7_memory : MethodName := ⟨RX7, "memory", "(I)I"⟩
abbrev cX7_truth : ByteArray := prog_9_method_56_code
def yX7_truth : MethodName := ⟨RX7, "truth", "(I)I"⟩
abbrev cX7_askOf : ByteArray := prog_9_method_57_code
def yX7_askOf : MethodName := ⟨RX7, "askOf", "(I)I"⟩
abbrev cX7_openOf : ByteArray := prog_9_method_58_code
def yX7_openOf : MethodName := ⟨RX7, "openOf", "(I)I"⟩
abbrev cX7_core : ByteArray := prog_9_method_59_code
def yX7_core : MethodName := ⟨RX7, "core", "(II)I"⟩
abbrev cX7_waiting : ByteArray := prog_9_method_60_code
def yX7_waiting : MethodName := ⟨RX7, "waiting", "(II)I"⟩
abbrev cX7_open : ByteArray := prog_9_method_61_code
def yX7_open : MethodName := ⟨RX7, "open", "(II)I"⟩
abbrev cX7_day : ByteArray := prog_9_method_62_code
def yX7_day : MethodName := ⟨RX7, "day", "(II)I"⟩
abbrev cX7_count : ByteArray := prog_9_method_63_code
def yX7_count : MethodName := ⟨RX7, "count", "(I)I"⟩
def RJ9 : String := "java/lang/Math"
def TJ9 : u_T := fun k => match k with
  | _ => ("", "", "", false)
def tyJ9 : Nat → FieldType := fun k => match k with
  | _ => .int
abbrev wsJ90 : List Cond := u_ws RJ9 TJ9 0
theorem nmJ9 : ∀ a, a < 0 → ∀ b, b < 0 → a ≠ b → (TJ9 a).2.1 ≠ (TJ9 b).2.1 := by decide +kernel
theorem tyJ9_ok : ∀ k, k < 0 → parseFieldDescriptor (TJ9 k).2.2.1 = some (tyJ9 k) := by decide +kernel
abbrev cJ9_max_7cf53 : ByteArray := prog_10_method_65_code
def yJ9_max_7cf53 : MethodName := ⟨RJ9, "max", "(II)I"⟩
abbrev cJ9_min_7cf53 : ByteArray := prog_10_method_69_code
def yJ9_min_7cf53 : MethodName := ⟨RJ9, "min", "(II)I"⟩
def RJ0 : String := "java/lang/String"
def TJ0 : u_T := fun k => match k with
  | _ => ("", "", "", false)
def tyJ0 : Nat → FieldType := fun k => match k with
  | _ => .int
abbrev wsJ00 : List Cond := u_ws RJ0 TJ0 0
theorem nmJ0 : ∀ a, a < 0 → ∀ b, b < 0 → a ≠ b → (TJ0 a).2.1 ≠ (TJ0 b).2.1 := by decide +kernel
theorem tyJ0_ok : ∀ k, k < 0 → parseFieldDescriptor (TJ0 k).2.2.1 = some (tyJ0 k) := by decide +kernel
abbrev cJ0_length_8abf5 : ByteArray := prog_11_method_54_code
def yJ0_length_8abf5 : MethodName := ⟨RJ0, "length", "()I"⟩
abbrev cJ0_charAt_5068e : ByteArray := prog_11_method_56_code
def yJ0_charAt_5068e : MethodName := ⟨RJ0, "charAt", "(I)C"⟩
abbrev cJ0_coder_7d493 : ByteArray := prog_11_method_152_code
def yJ0_coder_7d493 : MethodName := ⟨RJ0, "coder", "()B"⟩
abbrev cJ0_isLatin1_aae02 : ByteArray := prog_11_method_154_code
def yJ0_isLatin1_aae02 : MethodName := ⟨RJ0, "isLatin1", "()Z"⟩
abbrev cJ0_checkIndex_df160 : ByteArray := prog_11_method_155_code
def yJ0_checkIndex_df160 : MethodName := ⟨RJ0, "checkIndex", "(II)V"⟩
def RJ1 : String := "java/lang/StringLatin1"
def TJ1 : u_T := fun k => match k with
  | _ => ("", "", "", false)
def tyJ1 : Nat → FieldType := fun k => match k with
  | _ => .int
abbrev wsJ10 : List Cond := u_ws RJ1 TJ1 0
theorem nmJ1 : ∀ a, a < 0 → ∀ b, b < 0 → a ≠ b → (TJ1 a).2.1 ≠ (TJ1 b).2.1 := by decide +kernel
theorem tyJ1_ok : ∀ k, k < 0 → parseFieldDescriptor (TJ1 k).2.2.1 = some (tyJ1 k) := by decide +kernel
abbrev cJ1_charAt_3b067 : ByteArray := prog_12_method_2_code
def yJ1_charAt_3b067 : MethodName := ⟨RJ1, "charAt", "([BI)C"⟩
def RJ2 : String := "java/lang/StringUTF16"
def TJ2 : u_T := fun k => match k with
  | _ => ("", "", "", false)
def tyJ2 : Nat → FieldType := fun k => match k with
  | _ => .int
abbrev wsJ20 : List Cond := u_ws RJ2 TJ2 0
theorem nmJ2 : ∀ a, a < 0 → ∀ b, b < 0 → a ≠ b → (TJ2 a).2.1 ≠ (TJ2 b).2.1 := by decide +kernel
theorem tyJ2_ok : ∀ k, k < 0 → parseFieldDescriptor (TJ2 k).2.2.1 = some (tyJ2 k) := by decide +kernel
abbrev cJ2_getChar_3b067 : ByteArray := prog_13_method_5_code
def yJ2_getChar_3b067 : MethodName := ⟨RJ2, "getChar", "([BI)C"⟩
abbrev cJ2_length_9d52b : ByteArray := prog_13_method_6_code
def yJ2_length_9d52b : MethodName := ⟨RJ2, "length", "([B)I"⟩
abbrev cJ2_charAt_3b067 : ByteArray := prog_13_method_83_code
def yJ2_charAt_3b067 : MethodName := ⟨RJ2, "charAt", "([BI)C"⟩
abbrev cJ2_checkIndex_2214a : ByteArray := prog_13_method_91_code
def yJ2_checkIndex_2214a : MethodName := ⟨RJ2, "checkIndex", "(I[B)V"⟩
def RJ3 : String := "jdk/internal/util/Preconditions"
def TJ3 : u_T := fun k => match k with
  | _ => ("", "", "", false)
def tyJ3 : Nat → FieldType := fun k => match k with
  | _ => .int
abbrev wsJ30 : List Cond := u_ws RJ3 TJ3 0
theorem nmJ3 : ∀ a, a < 0 → ∀ b, b < 0 → a ≠ b → (TJ3 a).2.1 ≠ (TJ3 b).2.1 := by decide +kernel
theorem tyJ3_ok : ∀ k, k < 0 → parseFieldDescriptor (TJ3 k).2.2.1 = some (tyJ3 k) := by decide +kernel
abbrev cJ3_checkIndex_8e157 : ByteArray := prog_14_method_11_code
def yJ3_checkIndex_8e157 : MethodName := ⟨RJ3, "checkIndex", "(IILjava/util/function/BiFunction;)I"⟩
def RL : String := "SplitWatchLaw"
abbrev cL_law : ByteArray := code
def yL_law : MethodName := ⟨RL, "law", "([I)Z"⟩
end
section
/-! THE FRAME: a memory of ints over a fixed shape of cells (sw_), what the machine does over it, a row an instruction (g_) -/
-- the words that every method gets: those of the tables that stay true
def sw_nest : Cond → Bool
  | .fieldLinkNest .. => true
  | .methodLinkNest .. => true
  | _ => false
def sw_ok (w : Cond) : Bool := goodWord w || sw_nest w
theorem sw_ok_warm {w : Cond} (h : sw_ok w = true) {args a' : Array Value} {s U : State} (hW : s.WarmedH U.vm) (hb : w.before args s = true) : w.before a' U = true := by
  unfold sw_ok at h
  rw [Bool.or_eq_true] at h
  rcases h with h | h
  · exact word_at hW (good_of_word h) hb
  · cases w with
    | fieldLinkNest a i b n d h => exact va_Nw.use rfl (va_Nw.warmF hW (va_Nw.of rfl hb))
    | methodLinkNest a i x h => exact va_Nw.use rfl (va_Nw.warmM hW (va_Nw.of rfl hb))
    | _ => cases h
def sw_WS : List Cond := lw_tbl.filter sw_ok
theorem sw_mem {w : Cond} (i : Nat) (h : lw_tbl[i]? = some w) (h2 : sw_ok w = true) : w ∈ sw_WS := List.mem_filter.mpr ⟨List.mem_of_getElem? h, h2⟩
theorem sw_WS_ok {w : Cond} (h : w ∈ sw_WS) : sw_ok w = true := (List.mem_filter.mp h).2
-- the memory: a number for each slot of each cell; cells are numbered from 1, 0 is null
abbrev sw_St : Type := Nat → Nat → Int32
def sw_up (σ : sw_St) (k j : Nat) (v : Int32) : sw_St := fun a => if a = k then (fun b => if b = j then v else σ k b) else σ a
-- a cell: an object (its class's number, for each field: an int, or the cell that it refers to), or an array (its kind, its length, of ints or of what it refers to)
abbrev sw_Sh : Type := (Nat × List (Option Nat)) ⊕ (Nat × Nat × Option (Nat → Nat))
abbrev sw_Z : Type := Nat × (Nat → Option sw_Sh)
def sw_Zok (Z : sw_Z) : Prop := ∀ (k : Nat) (x : sw_Sh), Z.2 k = some x → 1 ≤ k ∧ k ≤ Z.1
def sw_rv (ad : Nat → Nat) (k : Nat) : Value := if k = 0 then .null else .ref (ad k)
theorem sw_rv_pos {ad : Nat → Nat} {k : Nat} (h : k ≠ 0) : sw_rv ad k = .ref (ad k) := if_neg h
theorem sw_rv_cat (ad : Nat → Nat) (k : Nat) : (sw_rv ad k).category = 1 := by
  unfold sw_rv
  split <;> rfl
def sw_fv (ad : Nat → Nat) : List (Option Nat) → (Nat → Int32) → Nat → List Value
  | [], _, _ => []
  | none :: fs, f, j => .int (f j) :: sw_fv ad fs f (j + 1)
  | some t :: fs, f, j => .ref (ad t) :: sw_fv ad fs f (j + 1)
theorem sw_fv_int {ad : Nat → Nat} {f : Nat → Int32} : ∀ (fs : List (Option Nat)) (i j : Nat), fs[j]? = some none → (sw_fv ad fs f i)[j]? = some (.int (f (i + j)))
  | [], i, j, h => by simp at h
  | o :: fs, i, 0, h => by
    simp at h; subst h; rfl
  | o :: fs, i, j + 1, h => by
    have h' : fs[j]? = some none := by simpa using h
    have := sw_fv_int (ad := ad) (f := f) fs (i + 1) j h'
    cases o <;> (simp only [sw_fv, List.getElem?_cons_succ]; rw [this]; congr 3; omega)
theorem sw_fv_ref {ad : Nat → Nat} {f : Nat → Int32} {t : Nat} : ∀ (fs : List (Option Nat)) (i j : Nat), fs[j]? = some (some t) → (sw_fv ad fs f i)[j]? = some (.ref (ad t))
  | [], i, j, h => by simp at h
  | o :: fs, i, 0, h => by
    simp at h; subst h; rfl
  | o :: fs, i, j + 1, h => by
    have h' : fs[j]? = some (some t) := by simpa using h
    have := sw_fv_ref (ad := ad) (f := f) fs (i + 1) j h'
    cases o <;> (simp only [sw_fv, List.getElem?_cons_succ]; exact this)
theorem sw_fv_len {ad : Nat → Nat} {f : Nat → Int32} : ∀ (fs : List (Option Nat)) (i : Nat), (sw_fv ad fs f i).length = fs.length
  | [], i => rfl
  | o :: fs, i => by cases o <;> simp [sw_fv, sw_fv_len fs]
theorem sw_fv_congr {ad : Nat → Nat} {f g : Nat → Int32} : ∀ (fs : List (Option Nat)) (i : Nat), (∀ j, i ≤ j → f j = g j) → sw_fv ad fs f i = sw_fv ad fs g i
  | [], i, h => rfl
  | o :: fs, i, h => by
    have := sw_fv_congr (ad := ad) fs (i + 1) (fun j hj => h j (by omega))
    cases o <;> simp [sw_fv, this, h i (Nat.le_refl i)]
theorem sw_fv_set {ad : Nat → Nat} {f : Nat → Int32} {v : Int32} : ∀ (fs : List (Option Nat)) (i j : Nat), fs[j]? = some none → (sw_fv ad fs f i).set j (.int v) = sw_fv ad fs (fun b => if b = i + j then v else f b) i
  | [], i, j, h => by simp at h
  | o :: fs, i, 0, h => by
    simp at h; subst h
    simp only [sw_fv, List.set_cons_zero, Nat.add_zero, if_true]
    congr 1
    exact sw_fv_congr fs (i + 1) (fun j hj => by rw [if_neg (by omega)])
  | o :: fs, i, j + 1, h => by
    have h' : fs[j]? = some none := by simpa using h
    have := sw_fv_set (ad := ad) (f := f) (v := v) fs (i + 1) j h'
    have e : i + 1 + j = i + (j + 1) := by omega
    rw [e] at this
    cases o <;> simp [sw_fv, this]
def sw_ent (ad : Nat → Nat) (dA : Nat → ClassId) (x : Option sw_Sh) (f : Nat → Int32) : va_E := match x with
  | some (.inl o) => .inr (o.1, sw_fv ad o.2 f 0)
  | some (.inr (ai, n, none)) => .inl (dA ai, n, .inl f)
  | some (.inr (ai, n, some t)) => .inl (dA ai, n, .inr (.inr (.inr (.inr (fun i => some (ad (t i)))))))
  | none => .inr (0, [])
def sw_ws (ad : Nat → Nat) (dA : Nat → ClassId) (Z : sw_Z) (σ : sw_St) : va_W := (List.range Z.1).map fun i => (ad (i + 1), sw_ent ad dA (Z.2 (i + 1)) (σ (i + 1)))
theorem sw_ws_get {ad : Nat → Nat} {dA : Nat → ClassId} {Z : sw_Z} {σ : sw_St} {k : Nat} {x : sw_Sh} (hZ : sw_Zok Z) (h : Z.2 k = some x) : (sw_ws ad dA Z σ)[k - 1]? = some (ad k, sw_ent ad dA (some x) (σ k)) := by
  obtain ⟨h1, h2⟩ := hZ k x h
  have e : k - 1 + 1 = k := by omega
  have hlt : k - 1 < Z.1 := by omega
  simp [sw_ws, List.getElem?_map, hlt, e, h]
theorem sw_ws_set {ad : Nat → Nat} {dA : Nat → ClassId} {Z : sw_Z} {σ : sw_St} {k j : Nat} {x : sw_Sh} {v : Int32} (hZ : sw_Zok Z) (h : Z.2 k = some x) : (sw_ws ad dA Z σ).set (k - 1) (ad k, sw_ent ad dA (some x) (sw_up σ k j v k)) = sw_ws ad dA Z (sw_up σ k j v) := by
  obtain ⟨h1, h2⟩ := hZ k x h
  apply List.ext_getElem?
  intro i
  by_cases hi : i = k - 1
  · subst hi
    rw [sw_ws_get hZ h, List.getElem?_set_self (by simp [sw_ws]; omega)]
  · rw [List.getElem?_set_ne (Ne.symm hi)]
    by_cases hl : i < Z.1
    · have hne : ¬ i + 1 = k := by omega
      simp [sw_ws, List.getElem?_map, hl, sw_up, hne]
    · simp [sw_ws, List.getElem?_map, hl]
-- classes and kinds of array
abbrev sw_cl : List vw_C := [(RX0, TX0, 14), (RX1, TX1, 4), (RX2, TX2, 4), (RX3, TX3, 2), (RX4, TX4, 11), (RX5, TX5, 5), (RX6, TX6, 2), (RX7, TX7, 35)]
abbrev sw_tys (dA : Nat → ClassId) : List (ClassId × FieldType) := [(dA 0, .int), (dA 1, .char), (dA 2, .object RX2), (dA 3, .object RX4)]
def sw_A (Z : sw_Z) (ad : Nat → Nat) : Nat → Prop := fun q => ∃ i : Nat, i < Z.1 ∧ q = ad (i + 1)
def sw_inj (Z : sw_Z) (ad : Nat → Nat) : Prop := ∀ i j : Nat, i < Z.1 → j < Z.1 → ad (i + 1) = ad (j + 1) → i = j
theorem sw_ws_D {Z : sw_Z} {ad : Nat → Nat} {dA : Nat → ClassId} {σ : sw_St} (h : sw_inj Z ad) : va_D (sw_A Z ad) (sw_ws ad dA Z σ) := by
  have key : ∀ (i : Nat) (q : Nat × va_E), (sw_ws ad dA Z σ)[i]? = some q → i < Z.1 ∧ q.1 = ad (i + 1) := by
    intro i q hq
    by_cases hl : i < Z.1
    · simp [sw_ws, List.getElem?_map, hl] at hq
      subst hq
      exact ⟨hl, rfl⟩
    · simp [sw_ws, List.getElem?_map, hl] at hq
  refine ⟨fun i j p q hi hj e => ?_, fun i q hi => ?_⟩
  · obtain ⟨a1, a2⟩ := key i p hi
    obtain ⟨b1, b2⟩ := key j q hj
    exact h i j a1 b1 (by rw [← a2, ← b2]; exact e)
  · obtain ⟨a1, a2⟩ := key i q hi
    exact ⟨i, a1, a2⟩
-- what stands outside the cells: the texts' constants (cells 100 + i, their bytes 200 + i), two statics of the JDK
abbrev sw_nS : Nat := 9
def sw_len : List Nat := [6, 5, 7, 8, 7, 4, 4, 5, 4]
def sw_byt : List (List Int32) := [[115, 104, 97, 114, 101, 100], [97, 108, 111, 110, 101], [99, 104, 97, 110, 103, 101, 100], [98, 117, 102, 102, 101, 114, 101, 100], [109, 105, 115, 115, 105, 110, 103], [116, 117, 114, 110], [114, 101, 97, 100], [115, 116, 111, 114, 101], [100, 114, 111, 112]]
def sw_sown : Nat → String × Nat × String := fun i => match i with
  | 0 => (RX0, 246, "shared")
  | 1 => (RX0, 248, "alone")
  | 2 => (RX0, 250, "changed")
  | 3 => (RX0, 252, "buffered")
  | 4 => (RX0, 254, "missing")
  | 5 => (RX5, 66, "turn")
  | 6 => (RX5, 72, "read")
  | 7 => (RX5, 74, "store")
  | _ => (RX5, 76, "drop")
def sw_Ex (ad : Nat → Nat) (A : Nat → Prop) (U : State) (H : Heap) : Prop :=
  vk_S sw_nS sw_len sw_byt (fun i => ad (100 + i)) (fun i => ad (200 + i)) A U H ∧ (∀ i, i < sw_nS → vk_R (sw_sown i).1 (sw_sown i).2.1 (sw_sown i).2.2 (ad (100 + i)) U) ∧ va_Z "java/lang/String" "COMPACT_STRINGS" "Z" (.int 1) A U H ∧ va_Zq "jdk/internal/util/Preconditions" "SIOOBE_FORMATTER" "Ljava/util/function/BiFunction;" A U H
end
section
/-! the walk: sw_S says that the machine, at this place of the code with these locals, this stack and this memory, comes to the end that the program text 'o' tells (if it tells one) -/
theorem sw_Ex.warm {ad : Nat → Nat} {A : Nat → Prop} {s U : State} {H : Heap} (hW : s.WarmedH U.vm) (h : sw_Ex ad A s H) : sw_Ex ad A U H := by
  obtain ⟨h1, h2, h3, h4⟩ := h
  exact ⟨h1.moved hW.alike, fun i hi => (h2 i hi).warm hW, h3.moved hW.alike, h4.moved hW.alike⟩
theorem sw_Ex.same {ad : Nat → Nat} {A : Nat → Prop} {s U : State} {H : Heap} (hv : U.vm = s.vm) (h : sw_Ex ad A s H) : sw_Ex ad A U H := by
  obtain ⟨h1, h2, h3, h4⟩ := h
  have hal : s.vm.Alike U.vm := by rw [hv]; exact Vm.Alike.refl _
  exact ⟨h1.moved hal, fun i hi => (h2 i hi).same hv, h3.moved hal, h4.moved hal⟩
theorem sw_Ex.kept {ad : Nat → Nat} {A : Nat → Prop} {U : State} {H H1 : Heap} (h : sw_Ex ad A U H) (hq : ∀ a : Nat, a < H.size → ¬ A a → H1[a]? = H[a]?) : sw_Ex ad A U H1 := by
  obtain ⟨h1, h2, h3, h4⟩ := h
  exact ⟨h1.kept hq, h2, h3.kept hq, h4.kept hq⟩
abbrev sw_V : Type := (Program × Launch × Env × Room) × (State × MethodId × Array Value × List Frame × Method × Code) × ((Nat → ClassId) × (Nat → Nat → Nat) × (Nat → ClassId) × (Nat → Nat))
def sw_r (V : sw_V) (k : Nat) : Value := sw_rv V.2.2.2.2.2 k
-- locals
def sw_L (V : sw_V) (ls : Array Slot) (lv : List (Option Value)) : Prop := (ls.size = lv.length ∧ lv.length = V.2.1.2.2.2.2.2.maxLocals) ∧ lv_wf ls ∧ ∀ (j : Nat) (w : Value), lv[j]? = some (some w) → ls[j]? = some (.val w)
def sw_as (lv : List (Option Value)) : List (Nat × Value) := lv.zipIdx.filterMap fun q => q.1.map fun w => (q.2, w)
theorem sw_as_mem {lv : List (Option Value)} {q : Nat × Value} : q ∈ sw_as lv ↔ lv[q.1]? = some (some q.2) := by
  unfold sw_as
  rw [List.mem_filterMap]
  constructor
  · rintro ⟨⟨o, i⟩, h1, h2⟩
    have h3 := List.mem_zipIdx_iff_getElem?.mp h1
    cases o with
    | none => cases h2
    | some w =>
      simp at h2
      subst h2
      exact h3
  · intro h
    exact ⟨(some q.2, q.1), List.mem_zipIdx_iff_getElem?.mpr h, rfl⟩
theorem sw_L.has {V : sw_V} {ls : Array Slot} {lv : List (Option Value)} (h : sw_L V ls lv) : lv_has ls lv.length (sw_as lv) := ⟨h.1.1, h.2.1, fun q hq => h.2.2 _ _ (sw_as_mem.mp hq)⟩
/-- no local of two slots ends where this one begins -/
def sw_pv (V : sw_V) (lv : List (Option Value)) (i : Nat) : Prop := i = 0 ∨ lv[i - 1]? = some none ∨ (∃ x : Int32, lv[i - 1]? = some (some (.int x))) ∨ ∃ k : Nat, lv[i - 1]? = some (some (sw_r V k))
def sw_sub : List (Option Value) → List (Option Value) → Prop
  | [], [] => True
  | none :: a, _ :: b => sw_sub a b
  | some v :: a, some w :: b => v = w ∧ sw_sub a b
  | _, _ => False
theorem sw_sub_get : ∀ (a b : List (Option Value)), sw_sub a b → a.length = b.length ∧ ∀ (j : Nat) (w : Value), a[j]? = some (some w) → b[j]? = some (some w)
  | [], [], _ => ⟨rfl, fun j w h => by simp at h⟩
  | [], _ :: _, h => h.elim
  | none :: a, [], h => h.elim
  | some _ :: a, [], h => h.elim
  | none :: a, o :: b, h => by
    obtain ⟨h1, h2⟩ := sw_sub_get a b h
    refine ⟨by simp [h1], fun j w hj => ?_⟩
    cases j with
    | zero => simp at hj
    | succ j => simpa using h2 j w (by simpa using hj)
  | some v :: a, none :: b, h => h.elim
  | some v :: a, some w :: b, h => by
    obtain ⟨h1, h2⟩ := sw_sub_get a b h.2
    refine ⟨by simp [h1], fun j x hj => ?_⟩
    cases j with
    | zero =>
      have e : v = x := by simpa using hj
      rw [← e, h.1]; rfl
    | succ j => simpa using h2 j x (by simpa using hj)
-- the code of a method, decoded
abbrev sw_Is : Type := List (Nat × Instr × Nat × Nat)
def sw_dc (b : ByteArray) (L : sw_Is) : Bool := L.all fun q => decide (decode b q.1 = .ok (q.2.1, q.2.2.1)) && decide (q.1 + q.2.2.1 = q.2.2.2)
theorem sw_dk {b : ByteArray} {L : sw_Is} (h : sw_dc b L = true) {i pc n q : Nat} {ins : Instr} (hi : L[i]? = some (pc, ins, n, q)) : decode b pc = .ok (ins, n) := by
  have h1 := List.all_eq_true.mp h _ (List.mem_of_getElem? hi)
  rw [Bool.and_eq_true] at h1
  exact of_decide_eq_true h1.1
theorem sw_dq {b : ByteArray} {L : sw_Is} (h : sw_dc b L = true) {i pc n q : Nat} {ins : Instr} (hi : L[i]? = some (pc, ins, n, q)) : pc + n = q := by
  have h1 := List.all_eq_true.mp h _ (List.mem_of_getElem? hi)
  rw [Bool.and_eq_true] at h1
  exact of_decide_eq_true h1.2
/-- what holds all through a method's body -/
def sw_Cx (Z : sw_Z) (V : sw_V) (cc : ByteArray) (own : String) (nL : Nat) (ret : Option FieldType) (L : sw_Is) (d : Nat) : Prop :=
  V.1.1.tables.exec = Jvm.exec ∧ V.2.1.2.2.2.2.2.code = cc ∧ V.2.1.2.2.2.2.2.maxLocals = nL ∧ V.2.1.2.2.2.2.1.sig.returnType = ret ∧ V.2.1.2.2.2.2.1.locks = false ∧ V.2.1.1.vm.findClass own = some V.2.1.2.1.cls ∧ (∀ w ∈ sw_WS, w.before V.2.1.2.2.1 V.2.1.1 = true) ∧ va_K (V.2.2.1, V.2.2.2.1) sw_cl (sw_tys V.2.2.2.2.1) V.2.1.1 ∧ sw_inj Z V.2.2.2.2.2 ∧ sw_Zok Z ∧ (d ≤ V.1.2.2.2.frames ∧ 40 * d ≤ V.1.2.2.2.locals) ∧ sw_Ex V.2.2.2.2.2 (sw_A Z V.2.2.2.2.2) V.2.1.1 V.2.1.1.heap ∧ sw_dc cc L = true
def sw_Wd (Z : sw_Z) (V : sw_V) (σ : sw_St) (H : Heap) (locs : List Loc) : Prop := va_P (V.2.2.1, V.2.2.2.1) sw_cl (sw_ws V.2.2.2.2.2 V.2.2.2.2.1 Z σ) H ∧ va_S (sw_A Z V.2.2.2.2.2) V.2.1.1.heap H locs
def sw_Q (Z : sw_Z) (dC : Nat → ClassId) (dI : Nat → Nat → Nat) (dA : Nat → ClassId) (ad : Nat → Nat) (x : Option Value × sw_St) : Array Value → State → Outcome → State → Prop := fun _ st oc t => oc = .returned x.1 ∧ va_P (dC, dI) sw_cl (sw_ws ad dA Z x.2) t.heap ∧ va_F (sw_A Z ad) st t
def sw_S {β : Type} (Z : sw_Z) (V : sw_V) (ψ : β → Option Value × sw_St) (lv : List (Option Value)) (st : List Value) (pc : Nat) (σ : sw_St) (o : Option β) : Prop :=
  ∀ (H : Heap) (locs : List Loc) (ls : Array Slot), sw_L V ls lv → sw_Wd Z V σ H locs → ∀ b, o = some b →
    W V.1.1 V.1.2.1 V.1.2.2.1 V.1.2.2.2 V.2.1.1 V.2.1.2.1 V.2.1.2.2.1 V.2.1.2.2.2.1 V.2.1.2.2.2.2.1 V.2.1.2.2.2.2.2 H locs 0 0 (MQ V.2.1.2.2.2.1 (sw_Q Z V.2.2.1 V.2.2.2.1 V.2.2.2.2.1 V.2.2.2.2.2 (ψ b)) V.2.1.2.2.1 V.2.1.1 0 0 (sw_A Z V.2.2.2.2.2)) (F0 V.2.1.2.1 pc ls st)

-- the words of a program text
def sw_ck {β : Type} (p : Bool) (o : Option β) : Option β := if p = true then o else none
def sw_pt {β : Type} (σ : sw_St) (k j : Nat) (v : Int32) (K : sw_St → Option β) : Option β := K (sw_up σ k j v)
def sw_in (i : Int32) (n : Nat) : Bool := decide (0 ≤ i) && decide (i.toNatClampNeg < n)
def sw_n0 (v : Int32) : Bool := decide (¬ v = 0)
def sw_nl (v : Int64) : Bool := decide (¬ v = 0)
def sw_fz (ty : FieldType) (v : Int32) : Bool := decide (vp_nar ty v = v)
def sw_ix (i : Int32) : Nat := i.toNatClampNeg
def sw_rem (x y : Int32) : Int32 := x - x / y * y
def sw_lrem (x y : Int64) : Int64 := x - x / y * y
def sw_c16 (x : Int32) : Int32 := (x.toUInt32 % 65536).toInt32
def sw_fuel : Nat := 300
def sw_eP (σ : sw_St) (r : Int32) : Option Value × sw_St := (some (.int r), σ)
def sw_eI (x : Int32 × sw_St) : Option Value × sw_St := (some (.int x.1), x.2)
def sw_eV (x : sw_St) : Option Value × sw_St := (none, x)
def sw_eR (ad : Nat → Nat) (σ : sw_St) (k : Nat) : Option Value × sw_St := (some (sw_rv ad k), σ)
def sw_eL (σ : sw_St) (r : Int64) : Option Value × sw_St := (some (.long r), σ)
def sw_eM (x : Int64 × sw_St) : Option Value × sw_St := (some (.long x.1), x.2)
theorem sw_in_vp {i : Int32} {n : Nat} (h : sw_in i n = true) : vp_in i n := by
  unfold sw_in at h
  rw [Bool.and_eq_true] at h
  have h1 := of_decide_eq_true h.1
  have h2 := of_decide_eq_true h.2
  rintro (q | q)
  · exact absurd h1 (Int32.not_le.mpr q)
  · omega
theorem sw_fz_n {ty : FieldType} {v : Int32} (h : sw_fz ty v = true) (hty : ∃ y, narrow ty (.int v) = .int y) : narrow ty (.int v) = .int v := by
  have h1 : vp_nar ty v = v := of_decide_eq_true h
  obtain ⟨y, hy⟩ := hty
  unfold vp_nar at h1
  rw [hy] at h1 ⊢
  exact congrArg Value.int h1
-- field links, method links: what an index of a class's pool stands for
def sw_FL (own : String) (idx ci j : Nat) : Prop := ∃ (C : String) (T : u_T) (N : Nat), sw_cl[ci]? = some (C, T, N) ∧ (∀ w ∈ u_ws C T N, w ∈ sw_WS) ∧ j < N ∧ (T j).1 = C ∧ (Cond.fieldLink own idx C (T j).2.1 (T j).2.2.1 ∈ sw_WS ∨ ∃ host : String, Cond.fieldLinkNest own idx C (T j).2.1 (T j).2.2.1 host ∈ sw_WS)
def sw_FP (own : String) (idx ci j : Nat) : Prop := ∃ (C : String) (T : u_T) (N : Nat) (ty0 : Nat → FieldType), sw_cl[ci]? = some (C, T, N) ∧ (∀ w ∈ u_ws C T N, w ∈ sw_WS) ∧ j < N ∧ (T j).1 = C ∧ (Cond.fieldLink own idx C (T j).2.1 (T j).2.2.1 ∈ sw_WS ∨ ∃ host : String, Cond.fieldLinkNest own idx C (T j).2.1 (T j).2.2.1 host ∈ sw_WS) ∧ (∀ k, k < N → parseFieldDescriptor (T k).2.2.1 = some (ty0 k)) ∧ (∀ a, a < N → ∀ b, b < N → a ≠ b → (T a).2.1 ≠ (T b).2.1) ∧ (T j).2.2.2 = false ∧ parseFieldDescriptor (T j).2.2.1 = some .int
def sw_ML (own : String) (idx : Nat) (y : MethodName) (cc : ByteArray) (nL : Nat) (ret : Option FieldType) (n : Nat) : Prop :=
  (Cond.methodLink own idx y ∈ sw_WS ∨ ∃ host : String, Cond.methodLinkNest own idx y host ∈ sw_WS) ∧ Cond.initialized y.cls ∈ sw_WS ∧ Cond.code y cc nL ret ∈ sw_WS ∧ (y.cls ≠ "java/lang/invoke/MethodHandle" ∧ y.cls ≠ "java/lang/invoke/VarHandle") ∧ (parseMethodDescriptor y.desc).map (fun d => d.parameters.length) = some n ∧ nL ≤ 21
def sw_MV (own : String) (idx : Nat) (y : MethodName) (cc : ByteArray) (nL : Nat) (ret : Option FieldType) (n : Nat) : Prop := sw_ML own idx y cc nL ret n ∧ Cond.instanceMethod y ∈ sw_WS ∧ Cond.selects y.cls y y ∈ sw_WS
def sw_MS (own : String) (idx : Nat) (y : MethodName) (cc : ByteArray) (nL : Nat) (ret : Option FieldType) (n : Nat) : Prop := sw_ML own idx y cc nL ret n ∧ Cond.static y ∈ sw_WS
section G
variable {β : Type} {Z : sw_Z} {V : sw_V} {cc : ByteArray} {own : String} {nL : Nat} {ret : Option FieldType} {L : sw_Is} {d : Nat}
theorem sw_Cx.dc (C : sw_Cx Z V cc own nL ret L d) : sw_dc cc L = true := C.2.2.2.2.2.2.2.2.2.2.2.2
theorem sw_Cx.ow (C : sw_Cx Z V cc own nL ret L d) : V.2.1.1.vm.findClass own = some V.2.1.2.1.cls := C.2.2.2.2.2.1
theorem sw_Cx.ws (C : sw_Cx Z V cc own nL ret L d) : ∀ w ∈ sw_WS, w.before V.2.1.2.2.1 V.2.1.1 = true := C.2.2.2.2.2.2.1
theorem sw_Cx.K (C : sw_Cx Z V cc own nL ret L d) : va_K (V.2.2.1, V.2.2.2.1) sw_cl (sw_tys V.2.2.2.2.1) V.2.1.1 := C.2.2.2.2.2.2.2.1
theorem sw_Cx.inj (C : sw_Cx Z V cc own nL ret L d) : sw_inj Z V.2.2.2.2.2 := C.2.2.2.2.2.2.2.2.1
theorem sw_Cx.ok (C : sw_Cx Z V cc own nL ret L d) : sw_Zok Z := C.2.2.2.2.2.2.2.2.2.1
theorem sw_Cx.room (C : sw_Cx Z V cc own nL ret L d) : d ≤ V.1.2.2.2.frames ∧ 40 * d ≤ V.1.2.2.2.locals := C.2.2.2.2.2.2.2.2.2.2.1
theorem sw_Cx.ex (C : sw_Cx Z V cc own nL ret L d) : sw_Ex V.2.2.2.2.2 (sw_A Z V.2.2.2.2.2) V.2.1.1 V.2.1.1.heap := C.2.2.2.2.2.2.2.2.2.2.2.1
variable {ψ : β → Option Value × sw_St} {lv : List (Option Value)} {st : List Value} {pc q : Nat} {σ : sw_St} {o o1 o2 : Option β}
theorem sw_L.at {V : sw_V} {ls : Array Slot} {lv : List (Option Value)} (h : sw_L V ls lv) {j : Nat} {w : Value} (hj : lv[j]? = some (some w)) : ls[j]? = some (.val w) := h.2.2 j w hj
theorem sw_L.of1 {V : sw_V} {ls ls' : Array Slot} {lv : List (Option Value)} {i : Nat} {v : Value} (hL : sw_L V ls lv) (hi : i < lv.length) (h : lv_has ls' lv.length ((i, v) :: (sw_as lv).filter (fun q => !(q.1 == i) && !(q.1 + 1 == i && q.2.category == 2)))) (hp : sw_pv V lv i) : sw_L V ls' (lv.set i (some v)) := by
  obtain ⟨h1, h2, h3⟩ := h
  refine ⟨⟨by rw [h1, List.length_set], by rw [List.length_set]; exact hL.1.2⟩, h2, fun j w hj => ?_⟩
  by_cases hji : j = i
  · subst hji
    rw [List.getElem?_set_self hi] at hj
    cases hj
    exact h3 (j, v) List.mem_cons_self
  · rw [List.getElem?_set_ne (Ne.symm hji)] at hj
    refine h3 (j, w) (List.mem_cons_of_mem _ (List.mem_filter.mpr ⟨sw_as_mem.mpr hj, ?_⟩))
    by_cases hj1 : j + 1 = i
    · have e1 : i - 1 = j := by omega
      have hw : w.category = 1 := by
        rcases hp with q | q | ⟨x, q⟩ | ⟨k, q⟩
        · omega
        · rw [e1, hj] at q; cases q
        · rw [e1, hj] at q; cases q; rfl
        · rw [e1, hj] at q; cases q; exact sw_rv_cat _ _
      simp [hji, hw]
    · simp [hji, hj1]
theorem sw_L.of2 {V : sw_V} {ls ls' : Array Slot} {lv : List (Option Value)} {i : Nat} {v : Value} (hL : sw_L V ls lv) (hi : i + 1 < lv.length) (h : lv_has ls' lv.length ((i, v) :: (sw_as lv).filter (fun q => !(q.1 == i) && (!(q.1 == i + 1) && !(q.1 + 1 == i && q.2.category == 2))))) (hp : sw_pv V lv i) : sw_L V ls' ((lv.set i (some v)).set (i + 1) none) := by
  obtain ⟨h1, h2, h3⟩ := h
  refine ⟨⟨by rw [h1, List.length_set, List.length_set], by rw [List.length_set, List.length_set]; exact hL.1.2⟩, h2, fun j w hj => ?_⟩
  by_cases hji1 : j = i + 1
  · subst hji1
    rw [List.getElem?_set_self (by simpa using hi)] at hj
    cases hj
  · rw [List.getElem?_set_ne (Ne.symm hji1)] at hj
    by_cases hji : j = i
    · subst hji
      rw [List.getElem?_set_self (by omega)] at hj
      cases hj
      exact h3 (j, v) List.mem_cons_self
    · rw [List.getElem?_set_ne (Ne.symm hji)] at hj
      refine h3 (j, w) (List.mem_cons_of_mem _ (List.mem_filter.mpr ⟨sw_as_mem.mpr hj, ?_⟩))
      by_cases hj1 : j + 1 = i
      · have e1 : i - 1 = j := by omega
        have hw : w.category = 1 := by
          rcases hp with q | q | ⟨x, q⟩ | ⟨k, q⟩
          · omega
          · rw [e1, hj] at q; cases q
          · rw [e1, hj] at q; cases q; rfl
          · rw [e1, hj] at q; cases q; exact sw_rv_cat _ _
        simp [hji, hji1, hw]
      · simp [hji, hji1, hj1]
-- what is no instruction
theorem g_none : sw_S Z V ψ lv st pc σ (none : Option β) := fun _ _ _ _ _ _ h => by cases h
theorem g_ck {p : Bool} (k : p = true → sw_S Z V ψ lv st pc σ o) : sw_S Z V ψ lv st pc σ (sw_ck p o) := fun H locs ls hL hW b hb => by
  unfold sw_ck at hb
  by_cases hp : p = true
  · rw [if_pos hp] at hb
    exact k hp H locs ls hL hW b hb
  · rw [if_neg hp] at hb
    cases hb
theorem g_wk {lv' : List (Option Value)} (k : sw_S Z V ψ lv' st pc σ o) (h : sw_sub lv' lv) : sw_S Z V ψ lv st pc σ o := fun H locs ls hL hW b hb => by
  obtain ⟨h1, h2⟩ := sw_sub_get _ _ h
  exact k H locs ls ⟨⟨hL.1.1.trans h1.symm, h1.trans hL.1.2⟩, hL.2.1, fun j w hj => hL.2.2 j w (h2 j w hj)⟩ hW b hb

theorem g_iconst (C : sw_Cx Z V cc own nL ret L d) (i : Nat) {n : Int} (hi : L[i]? = some (pc, .iconst n, 1, q)) (v : Int32) (hv : Int32.ofInt n = v) (k : sw_S Z V ψ lv (.int v :: st) q σ o) : sw_S Z V ψ lv st pc σ o := by
  have e := sw_dq C.dc hi
  subst e
  exact fun H locs ls hL hW b hb => lv_iconst C.1 C.2.1 (sw_dk C.dc hi) hv (k H locs ls hL hW b hb)
theorem g_bipush (C : sw_Cx Z V cc own nL ret L d) (i : Nat) {n : Int} (hi : L[i]? = some (pc, .bipush n, 2, q)) (v : Int32) (hv : (Int8.ofInt n).toInt32 = v) (k : sw_S Z V ψ lv (.int v :: st) q σ o) : sw_S Z V ψ lv st pc σ o := by
  have e := sw_dq C.dc hi
  subst e
  exact fun H locs ls hL hW b hb => lv_bipush C.1 C.2.1 (sw_dk C.dc hi) hv (k H locs ls hL hW b hb)
theorem g_sipush (C : sw_Cx Z V cc own nL ret L d) (i : Nat) {n : Int} (hi : L[i]? = some (pc, .sipush n, 3, q)) (v : Int32) (hv : (Int16.ofInt n).toInt32 = v) (k : sw_S Z V ψ lv (.int v :: st) q σ o) : sw_S Z V ψ lv st pc σ o := by
  have e := sw_dq C.dc hi
  subst e
  exact fun H locs ls hL hW b hb => lv_sipush C.1 C.2.1 (sw_dk C.dc hi) hv (k H locs ls hL hW b hb)
theorem g_lconst (C : sw_Cx Z V cc own nL ret L d) (i : Nat) {n : Fin 2} (hi : L[i]? = some (pc, .lconst n, 1, q)) (v : Int64) (hv : Int64.ofNat (n : Nat) = v) (k : sw_S Z V ψ lv (.long v :: st) q σ o) : sw_S Z V ψ lv st pc σ o := by
  have e := sw_dq C.dc hi
  subst e
  exact fun H locs ls hL hW b hb => lv_lconst C.1 C.2.1 (sw_dk C.dc hi) hv (k H locs ls hL hW b hb)
theorem g_iload_n (C : sw_Cx Z V cc own nL ret L d) (i : Nat) {n : Fin 4} (hi : L[i]? = some (pc, .iload_n n, 1, q)) {x : Int32} (hl : lv[(n : Nat)]? = some (some (.int x))) (k : sw_S Z V ψ lv (.int x :: st) q σ o) : sw_S Z V ψ lv st pc σ o := by
  have e := sw_dq C.dc hi
  subst e
  exact fun H locs ls hL hW b hb => lv_iload_n C.1 C.2.1 (sw_dk C.dc hi) rfl (hL.at hl) (k H locs ls hL hW b hb)
theorem g_iload (C : sw_Cx Z V cc own nL ret L d) (i : Nat) {n : Nat} (hi : L[i]? = some (pc, .iload n, 2, q)) {x : Int32} (hl : lv[n]? = some (some (.int x))) (k : sw_S Z V ψ lv (.int x :: st) q σ o) : sw_S Z V ψ lv st pc σ o := by
  have e := sw_dq C.dc hi
  subst e
  exact fun H locs ls hL hW b hb => lv_iload C.1 C.2.1 (sw_dk C.dc hi) (hL.at hl) (k H locs ls hL hW b hb)
theorem g_lload_n (C : sw_Cx Z V cc own nL ret L d) (i : Nat) {n : Fin 4} (hi : L[i]? = some (pc, .lload_n n, 1, q)) {x : Int64} (hl : lv[(n : Nat)]? = some (some (.long x))) (k : sw_S Z V ψ lv (.long x :: st) q σ o) : sw_S Z V ψ lv st pc σ o := by
  have e := sw_dq C.dc hi
  subst e
  exact fun H locs ls hL hW b hb => lv_lload_n C.1 C.2.1 (sw_dk C.dc hi) rfl (hL.at hl) (k H locs ls hL hW b hb)
theorem g_lload (C : sw_Cx Z V cc own nL ret L d) (i : Nat) {n : Nat} (hi : L[i]? = some (pc, .lload n, 2, q)) {x : Int64} (hl : lv[n]? = some (some (.long x))) (k : sw_S Z V ψ lv (.long x :: st) q σ o) : sw_S Z V ψ lv st pc σ o := by
  have e := sw_dq C.dc hi
  subst e
  exact fun H locs ls hL hW b hb => lv_lload C.1 C.2.1 (sw_dk C.dc hi) (hL.at hl) (k H locs ls hL hW b hb)
theorem g_aload_n (C : sw_Cx Z V cc own nL ret L d) (i : Nat) {n : Fin 4} (hi : L[i]? = some (pc, .aload_n n, 1, q)) {x : Nat} (hl : lv[(n : Nat)]? = some (some (sw_r V x))) (k : sw_S Z V ψ lv (sw_r V x :: st) q σ o) : sw_S Z V ψ lv st pc σ o := by
  have e := sw_dq C.dc hi
  subst e
  intro H locs ls hL hW b hb
  have h1 := hL.at hl
  have k1 := k H locs ls hL hW b hb
  unfold sw_r sw_rv at h1 k1
  by_cases h0 : x = 0
  · rw [if_pos h0] at h1 k1
    exact lv_aload_nN C.1 C.2.1 (sw_dk C.dc hi) rfl h1 k1
  · rw [if_neg h0] at h1 k1
    exact lv_aload_n C.1 C.2.1 (sw_dk C.dc hi) rfl h1 k1
theorem g_istore_n (C : sw_Cx Z V cc own nL ret L d) (i : Nat) {n : Fin 4} (hi : L[i]? = some (pc, .istore_n n, 1, q)) {x : Int32} (hn : (n : Nat) < lv.length) (hp : sw_pv V lv (n : Nat)) (k : sw_S Z V ψ (lv.set (n : Nat) (some (.int x))) st q σ o) : sw_S Z V ψ lv (.int x :: st) pc σ o := by
  have e := sw_dq C.dc hi
  subst e
  exact fun H locs ls hL hW b hb => lv_istore_n C.1 C.2.1 (sw_dk C.dc hi) rfl hL.has hn rfl (fun ls' hl' => k H locs ls' (sw_L.of1 hL hn hl' hp) hW b hb)
theorem g_lstore_n (C : sw_Cx Z V cc own nL ret L d) (i : Nat) {n : Fin 4} (hi : L[i]? = some (pc, .lstore_n n, 1, q)) {x : Int64} (hn : (n : Nat) + 1 < lv.length) (hp : sw_pv V lv (n : Nat)) (k : sw_S Z V ψ ((lv.set (n : Nat) (some (.long x))).set ((n : Nat) + 1) none) st q σ o) : sw_S Z V ψ lv (.long x :: st) pc σ o := by
  have e := sw_dq C.dc hi
  subst e
  exact fun H locs ls hL hW b hb => lv_lstore_n C.1 C.2.1 (sw_dk C.dc hi) rfl hL.has hn rfl (fun ls' hl' => k H locs ls' (sw_L.of2 hL hn hl' hp) hW b hb)
theorem g_astore_n (C : sw_Cx Z V cc own nL ret L d) (i : Nat) {n : Fin 4} (hi : L[i]? = some (pc, .astore_n n, 1, q)) {x : Nat} (hn : (n : Nat) < lv.length) (hp : sw_pv V lv (n : Nat)) (k : sw_S Z V ψ (lv.set (n : Nat) (some (sw_r V x))) st q σ o) : sw_S Z V ψ lv (sw_r V x :: st) pc σ o := by
  have e := sw_dq C.dc hi
  subst e
  intro H locs ls hL hW b hb
  by_cases h0 : x = 0
  · have e0 : sw_r V x = .null := if_pos h0
    rw [e0] at k ⊢
    exact lv_astore_nN C.1 C.2.1 (sw_dk C.dc hi) rfl hL.has hn rfl (fun ls' hl' => k H locs ls' (sw_L.of1 hL hn hl' hp) hW b hb)
  · have e0 : sw_r V x = .ref (V.2.2.2.2.2 x) := if_neg h0
    rw [e0] at k ⊢
    exact lv_astore_n C.1 C.2.1 (sw_dk C.dc hi) rfl hL.has hn rfl (fun ls' hl' => k H locs ls' (sw_L.of1 hL hn hl' hp) hW b hb)
theorem g_aload (C : sw_Cx Z V cc own nL ret L d) (i : Nat) {n : Nat} (hi : L[i]? = some (pc, .aload n, 2, q)) {x : Nat} (hl : lv[(n : Nat)]? = some (some (sw_r V x))) (k : sw_S Z V ψ lv (sw_r V x :: st) q σ o) : sw_S Z V ψ lv st pc σ o := by
  have e := sw_dq C.dc hi
  subst e
  intro H locs ls hL hW b hb
  have h1 := hL.at hl
  have k1 := k H locs ls hL hW b hb
  unfold sw_r sw_rv at h1 k1
  by_cases h0 : x = 0
  · rw [if_pos h0] at h1 k1
    exact lv_aloadN C.1 C.2.1 (sw_dk C.dc hi) h1 k1
  · rw [if_neg h0] at h1 k1
    exact lv_aload C.1 C.2.1 (sw_dk C.dc hi) h1 k1
theorem g_istore (C : sw_Cx Z V cc own nL ret L d) (i : Nat) {n : Nat} (hi : L[i]? = some (pc, .istore n, 2, q)) {x : Int32} (hn : (n : Nat) < lv.length) (hp : sw_pv V lv (n : Nat)) (k : sw_S Z V ψ (lv.set (n : Nat) (some (.int x))) st q σ o) : sw_S Z V ψ lv (.int x :: st) pc σ o := by
  have e := sw_dq C.dc hi
  subst e
  exact fun H locs ls hL hW b hb => lv_istore C.1 C.2.1 (sw_dk C.dc hi) hL.has hn rfl (fun ls' hl' => k H locs ls' (sw_L.of1 hL hn hl' hp) hW b hb)
theorem g_lstore (C : sw_Cx Z V cc own nL ret L d) (i : Nat) {n : Nat} (hi : L[i]? = some (pc, .lstore n, 2, q)) {x : Int64} (hn : (n : Nat) + 1 < lv.length) (hp : sw_pv V lv (n : Nat)) (k : sw_S Z V ψ ((lv.set (n : Nat) (some (.long x))).set ((n : Nat) + 1) none) st q σ o) : sw_S Z V ψ lv (.long x :: st) pc σ o := by
  have e := sw_dq C.dc hi
  subst e
  exact fun H locs ls hL hW b hb => lv_lstore C.1 C.2.1 (sw_dk C.dc hi) hL.has hn rfl (fun ls' hl' => k H locs ls' (sw_L.of2 hL hn hl' hp) hW b hb)
theorem g_astore (C : sw_Cx Z V cc own nL ret L d) (i : Nat) {n : Nat} (hi : L[i]? = some (pc, .astore n, 2, q)) {x : Nat} (hn : (n : Nat) < lv.length) (hp : sw_pv V lv (n : Nat)) (k : sw_S Z V ψ (lv.set (n : Nat) (some (sw_r V x))) st q σ o) : sw_S Z V ψ lv (sw_r V x :: st) pc σ o := by
  have e := sw_dq C.dc hi
  subst e
  intro H locs ls hL hW b hb
  by_cases h0 : x = 0
  · have e0 : sw_r V x = .null := if_pos h0
    rw [e0] at k ⊢
    exact lv_astoreN C.1 C.2.1 (sw_dk C.dc hi) hL.has hn rfl (fun ls' hl' => k H locs ls' (sw_L.of1 hL hn hl' hp) hW b hb)
  · have e0 : sw_r V x = .ref (V.2.2.2.2.2 x) := if_neg h0
    rw [e0] at k ⊢
    exact lv_astore C.1 C.2.1 (sw_dk C.dc hi) hL.has hn rfl (fun ls' hl' => k H locs ls' (sw_L.of1 hL hn hl' hp) hW b hb)
theorem g_iinc (C : sw_Cx Z V cc own nL ret L d) (i : Nat) {n : Nat} {a : Int} (hi : L[i]? = some (pc, .iinc n a, 3, q)) {x : Int32} (v : Int32) (hv : Int32.ofInt a = v) (hl : lv[n]? = some (some (.int x))) (hn : n < lv.length) (hp : sw_pv V lv n) (k : sw_S Z V ψ (lv.set n (some (.int (x + v)))) st q σ o) : sw_S Z V ψ lv st pc σ o := by
  have e := sw_dq C.dc hi
  subst e
  intro H locs ls hL hW b hb
  obtain ⟨j, hj⟩ := List.getElem?_of_mem (sw_as_mem.mpr (show lv[(n, Value.int x).1]? = some (some (n, Value.int x).2) from hl))
  exact lv_iinc C.1 C.2.1 (sw_dk C.dc hi) hL.has hj (by rw [hv]) hn rfl (fun ls' hl' => k H locs ls' (sw_L.of1 hL hn hl' hp) hW b hb)
theorem g_iadd (C : sw_Cx Z V cc own nL ret L d) (i : Nat) (hi : L[i]? = some (pc, .iadd, 1, q)) {x y : Int32} (k : sw_S Z V ψ lv (.int (x + y) :: st) q σ o) : sw_S Z V ψ lv (.int y :: .int x :: st) pc σ o := by
  have e := sw_dq C.dc hi
  subst e
  exact fun H locs ls hL hW b hb => lv_iadd C.1 C.2.1 (sw_dk C.dc hi) (k H locs ls hL hW b hb)
theorem g_isub (C : sw_Cx Z V cc own nL ret L d) (i : Nat) (hi : L[i]? = some (pc, .isub, 1, q)) {x y : Int32} (k : sw_S Z V ψ lv (.int (x - y) :: st) q σ o) : sw_S Z V ψ lv (.int y :: .int x :: st) pc σ o := by
  have e := sw_dq C.dc hi
  subst e
  exact fun H locs ls hL hW b hb => lv_isub C.1 C.2.1 (sw_dk C.dc hi) (k H locs ls hL hW b hb)
theorem g_imul (C : sw_Cx Z V cc own nL ret L d) (i : Nat) (hi : L[i]? = some (pc, .imul, 1, q)) {x y : Int32} (k : sw_S Z V ψ lv (.int (x * y) :: st) q σ o) : sw_S Z V ψ lv (.int y :: .int x :: st) pc σ o := by
  have e := sw_dq C.dc hi
  subst e
  exact fun H locs ls hL hW b hb => lv_imul C.1 C.2.1 (sw_dk C.dc hi) (k H locs ls hL hW b hb)
theorem g_iand (C : sw_Cx Z V cc own nL ret L d) (i : Nat) (hi : L[i]? = some (pc, .iand, 1, q)) {x y : Int32} (k : sw_S Z V ψ lv (.int (x &&& y) :: st) q σ o) : sw_S Z V ψ lv (.int y :: .int x :: st) pc σ o := by
  have e := sw_dq C.dc hi
  subst e
  exact fun H locs ls hL hW b hb => lv_iand C.1 C.2.1 (sw_dk C.dc hi) (k H locs ls hL hW b hb)
theorem g_ladd (C : sw_Cx Z V cc own nL ret L d) (i : Nat) (hi : L[i]? = some (pc, .ladd, 1, q)) {x y : Int64} (k : sw_S Z V ψ lv (.long (x + y) :: st) q σ o) : sw_S Z V ψ lv (.long y :: .long x :: st) pc σ o := by
  have e := sw_dq C.dc hi
  subst e
  exact fun H locs ls hL hW b hb => lv_ladd C.1 C.2.1 (sw_dk C.dc hi) (k H locs ls hL hW b hb)
theorem g_lsub (C : sw_Cx Z V cc own nL ret L d) (i : Nat) (hi : L[i]? = some (pc, .lsub, 1, q)) {x y : Int64} (k : sw_S Z V ψ lv (.long (x - y) :: st) q σ o) : sw_S Z V ψ lv (.long y :: .long x :: st) pc σ o := by
  have e := sw_dq C.dc hi
  subst e
  exact fun H locs ls hL hW b hb => lv_lsub C.1 C.2.1 (sw_dk C.dc hi) (k H locs ls hL hW b hb)
theorem g_lmul (C : sw_Cx Z V cc own nL ret L d) (i : Nat) (hi : L[i]? = some (pc, .lmul, 1, q)) {x y : Int64} (k : sw_S Z V ψ lv (.long (x * y) :: st) q σ o) : sw_S Z V ψ lv (.long y :: .long x :: st) pc σ o := by
  have e := sw_dq C.dc hi
  subst e
  exact fun H locs ls hL hW b hb => lv_lmul C.1 C.2.1 (sw_dk C.dc hi) (k H locs ls hL hW b hb)
theorem g_idiv (C : sw_Cx Z V cc own nL ret L d) (i : Nat) (hi : L[i]? = some (pc, .idiv, 1, q)) {x y : Int32} (h0 : ¬ y = 0) (k : sw_S Z V ψ lv (.int (x / y) :: st) q σ o) : sw_S Z V ψ lv (.int y :: .int x :: st) pc σ o := by
  have e := sw_dq C.dc hi
  subst e
  exact fun H locs ls hL hW b hb => lv_idiv C.1 C.2.1 (sw_dk C.dc hi) h0 (k H locs ls hL hW b hb)
theorem g_irem (C : sw_Cx Z V cc own nL ret L d) (i : Nat) (hi : L[i]? = some (pc, .irem, 1, q)) {x y : Int32} (h0 : ¬ y = 0) (k : sw_S Z V ψ lv (.int (sw_rem x y) :: st) q σ o) : sw_S Z V ψ lv (.int y :: .int x :: st) pc σ o := by
  have e := sw_dq C.dc hi
  subst e
  exact fun H locs ls hL hW b hb => lv_irem C.1 C.2.1 (sw_dk C.dc hi) h0 (k H locs ls hL hW b hb)
theorem g_lrem (C : sw_Cx Z V cc own nL ret L d) (i : Nat) (hi : L[i]? = some (pc, .lrem, 1, q)) {x y : Int64} (h0 : ¬ y = 0) (k : sw_S Z V ψ lv (.long (sw_lrem x y) :: st) q σ o) : sw_S Z V ψ lv (.long y :: .long x :: st) pc σ o := by
  have e := sw_dq C.dc hi
  subst e
  exact fun H locs ls hL hW b hb => lv_lrem C.1 C.2.1 (sw_dk C.dc hi) h0 (k H locs ls hL hW b hb)
theorem g_lcmp (C : sw_Cx Z V cc own nL ret L d) (i : Nat) (hi : L[i]? = some (pc, .lcmp, 1, q)) {x y : Int64} (k : sw_S Z V ψ lv (.int (lg_cmp x y) :: st) q σ o) : sw_S Z V ψ lv (.long y :: .long x :: st) pc σ o := by
  have e := sw_dq C.dc hi
  subst e
  exact fun H locs ls hL hW b hb => W.lcmp C.1 C.2.1 (sw_dk C.dc hi) (k H locs ls hL hW b hb)
theorem g_i2l (C : sw_Cx Z V cc own nL ret L d) (i : Nat) (hi : L[i]? = some (pc, .i2l, 1, q)) {x : Int32} (k : sw_S Z V ψ lv (.long x.toInt64 :: st) q σ o) : sw_S Z V ψ lv (.int x :: st) pc σ o := by
  have e := sw_dq C.dc hi
  subst e
  exact fun H locs ls hL hW b hb => lv_i2l C.1 C.2.1 (sw_dk C.dc hi) rfl (k H locs ls hL hW b hb)
theorem g_l2i (C : sw_Cx Z V cc own nL ret L d) (i : Nat) (hi : L[i]? = some (pc, .l2i, 1, q)) {x : Int64} (k : sw_S Z V ψ lv (.int x.toInt32 :: st) q σ o) : sw_S Z V ψ lv (.long x :: st) pc σ o := by
  have e := sw_dq C.dc hi
  subst e
  exact fun H locs ls hL hW b hb => lv_l2i C.1 C.2.1 (sw_dk C.dc hi) rfl (k H locs ls hL hW b hb)
theorem g_i2c (C : sw_Cx Z V cc own nL ret L d) (i : Nat) (hi : L[i]? = some (pc, .i2c, 1, q)) {x : Int32} (k : sw_S Z V ψ lv (.int (sw_c16 x) :: st) q σ o) : sw_S Z V ψ lv (.int x :: st) pc σ o := by
  have e := sw_dq C.dc hi
  subst e
  exact fun H locs ls hL hW b hb => lv_i2c C.1 C.2.1 (sw_dk C.dc hi) rfl (k H locs ls hL hW b hb)
theorem g_dupI (C : sw_Cx Z V cc own nL ret L d) (i : Nat) (hi : L[i]? = some (pc, .dup, 1, q)) {x : Int32} (k : sw_S Z V ψ lv ((.int x) :: (.int x) :: st) q σ o) : sw_S Z V ψ lv ((.int x) :: st) pc σ o := by
  have e := sw_dq C.dc hi
  subst e
  exact fun H locs ls hL hW b hb => lv_dup C.1 C.2.1 (sw_dk C.dc hi) rfl (k H locs ls hL hW b hb)
theorem g_popI (C : sw_Cx Z V cc own nL ret L d) (i : Nat) (hi : L[i]? = some (pc, .pop, 1, q)) {x : Int32} (k : sw_S Z V ψ lv st q σ o) : sw_S Z V ψ lv ((.int x) :: st) pc σ o := by
  have e := sw_dq C.dc hi
  subst e
  exact fun H locs ls hL hW b hb => lv_pop C.1 C.2.1 (sw_dk C.dc hi) rfl (k H locs ls hL hW b hb)
theorem g_dupR (C : sw_Cx Z V cc own nL ret L d) (i : Nat) (hi : L[i]? = some (pc, .dup, 1, q)) {x : Nat} (k : sw_S Z V ψ lv ((sw_r V x) :: (sw_r V x) :: st) q σ o) : sw_S Z V ψ lv ((sw_r V x) :: st) pc σ o := by
  have e := sw_dq C.dc hi
  subst e
  exact fun H locs ls hL hW b hb => lv_dup C.1 C.2.1 (sw_dk C.dc hi) (sw_rv_cat _ _) (k H locs ls hL hW b hb)
theorem g_popR (C : sw_Cx Z V cc own nL ret L d) (i : Nat) (hi : L[i]? = some (pc, .pop, 1, q)) {x : Nat} (k : sw_S Z V ψ lv st q σ o) : sw_S Z V ψ lv ((sw_r V x) :: st) pc σ o := by
  have e := sw_dq C.dc hi
  subst e
  exact fun H locs ls hL hW b hb => lv_pop C.1 C.2.1 (sw_dk C.dc hi) (sw_rv_cat _ _) (k H locs ls hL hW b hb)
theorem g_dup2 (C : sw_Cx Z V cc own nL ret L d) (i : Nat) (hi : L[i]? = some (pc, .dup2, 1, q)) {x : Int32} {y : Nat} (k : sw_S Z V ψ lv (.int x :: sw_r V y :: .int x :: sw_r V y :: st) q σ o) : sw_S Z V ψ lv (.int x :: sw_r V y :: st) pc σ o := by
  have e := sw_dq C.dc hi
  subst e
  exact fun H locs ls hL hW b hb => lv_dup2_11 C.1 C.2.1 (sw_dk C.dc hi) rfl (sw_rv_cat _ _) (k H locs ls hL hW b hb)
theorem g_dup2L (C : sw_Cx Z V cc own nL ret L d) (i : Nat) (hi : L[i]? = some (pc, .dup2, 1, q)) {x : Int64} (k : sw_S Z V ψ lv (.long x :: .long x :: st) q σ o) : sw_S Z V ψ lv (.long x :: st) pc σ o := by
  have e := sw_dq C.dc hi
  subst e
  exact fun H locs ls hL hW b hb => lv_dup2_2 C.1 C.2.1 (sw_dk C.dc hi) rfl (k H locs ls hL hW b hb)
theorem g_if_eq (C : sw_Cx Z V cc own nL ret L d) (i : Nat) {off : Int} (hi : L[i]? = some (pc, .ifCond .eq off, 3, q)) (tgt : Nat) (ht : (pc : Int) + off = (tgt : Int)) {x : Int32} (kt : sw_S Z V ψ lv st tgt σ o1) (kf : sw_S Z V ψ lv st q σ o2) : sw_S Z V ψ lv (.int x :: st) pc σ (if x = 0 then o1 else o2) := by
  have e := sw_dq C.dc hi
  subst e
  exact fun H locs ls hL hW b hb => lv_if_eq C.1 C.2.1 (sw_dk C.dc hi) ht (fun h => kt H locs ls hL hW b (by rw [if_pos h] at hb; exact hb)) (fun h => kf H locs ls hL hW b (by rw [if_neg h] at hb; exact hb))
theorem g_icmp_eq (C : sw_Cx Z V cc own nL ret L d) (i : Nat) {off : Int} (hi : L[i]? = some (pc, .if_icmp .eq off, 3, q)) (tgt : Nat) (ht : (pc : Int) + off = (tgt : Int)) {x y : Int32} (kt : sw_S Z V ψ lv st tgt σ o1) (kf : sw_S Z V ψ lv st q σ o2) : sw_S Z V ψ lv (.int y :: .int x :: st) pc σ (if x = y then o1 else o2) := by
  have e := sw_dq C.dc hi
  subst e
  exact fun H locs ls hL hW b hb => lv_icmp_eq C.1 C.2.1 (sw_dk C.dc hi) ht (fun h => kt H locs ls hL hW b (by rw [if_pos h] at hb; exact hb)) (fun h => kf H locs ls hL hW b (by rw [if_neg h] at hb; exact hb))
theorem g_if_ne (C : sw_Cx Z V cc own nL ret L d) (i : Nat) {off : Int} (hi : L[i]? = some (pc, .ifCond .ne off, 3, q)) (tgt : Nat) (ht : (pc : Int) + off = (tgt : Int)) {x : Int32} (kt : sw_S Z V ψ lv st tgt σ o1) (kf : sw_S Z V ψ lv st q σ o2) : sw_S Z V ψ lv (.int x :: st) pc σ (if x = 0 then o2 else o1) := by
  have e := sw_dq C.dc hi
  subst e
  exact fun H locs ls hL hW b hb => lv_if_ne C.1 C.2.1 (sw_dk C.dc hi) ht (fun h => kt H locs ls hL hW b (by rw [if_neg h] at hb; exact hb)) (fun h => kf H locs ls hL hW b (by rw [if_pos h] at hb; exact hb))
theorem g_icmp_ne (C : sw_Cx Z V cc own nL ret L d) (i : Nat) {off : Int} (hi : L[i]? = some (pc, .if_icmp .ne off, 3, q)) (tgt : Nat) (ht : (pc : Int) + off = (tgt : Int)) {x y : Int32} (kt : sw_S Z V ψ lv st tgt σ o1) (kf : sw_S Z V ψ lv st q σ o2) : sw_S Z V ψ lv (.int y :: .int x :: st) pc σ (if x = y then o2 else o1) := by
  have e := sw_dq C.dc hi
  subst e
  exact fun H locs ls hL hW b hb => lv_icmp_ne C.1 C.2.1 (sw_dk C.dc hi) ht (fun h => kt H locs ls hL hW b (by rw [if_neg h] at hb; exact hb)) (fun h => kf H locs ls hL hW b (by rw [if_pos h] at hb; exact hb))
theorem g_if_lt (C : sw_Cx Z V cc own nL ret L d) (i : Nat) {off : Int} (hi : L[i]? = some (pc, .ifCond .lt off, 3, q)) (tgt : Nat) (ht : (pc : Int) + off = (tgt : Int)) {x : Int32} (kt : sw_S Z V ψ lv st tgt σ o1) (kf : sw_S Z V ψ lv st q σ o2) : sw_S Z V ψ lv (.int x :: st) pc σ (if x < 0 then o1 else o2) := by
  have e := sw_dq C.dc hi
  subst e
  exact fun H locs ls hL hW b hb => lv_if_lt C.1 C.2.1 (sw_dk C.dc hi) ht (fun h => kt H locs ls hL hW b (by rw [if_pos h] at hb; exact hb)) (fun h => kf H locs ls hL hW b (by rw [if_neg h] at hb; exact hb))
theorem g_icmp_lt (C : sw_Cx Z V cc own nL ret L d) (i : Nat) {off : Int} (hi : L[i]? = some (pc, .if_icmp .lt off, 3, q)) (tgt : Nat) (ht : (pc : Int) + off = (tgt : Int)) {x y : Int32} (kt : sw_S Z V ψ lv st tgt σ o1) (kf : sw_S Z V ψ lv st q σ o2) : sw_S Z V ψ lv (.int y :: .int x :: st) pc σ (if x < y then o1 else o2) := by
  have e := sw_dq C.dc hi
  subst e
  exact fun H locs ls hL hW b hb => lv_icmp_lt C.1 C.2.1 (sw_dk C.dc hi) ht (fun h => kt H locs ls hL hW b (by rw [if_pos h] at hb; exact hb)) (fun h => kf H locs ls hL hW b (by rw [if_neg h] at hb; exact hb))
theorem g_if_ge (C : sw_Cx Z V cc own nL ret L d) (i : Nat) {off : Int} (hi : L[i]? = some (pc, .ifCond .ge off, 3, q)) (tgt : Nat) (ht : (pc : Int) + off = (tgt : Int)) {x : Int32} (kt : sw_S Z V ψ lv st tgt σ o1) (kf : sw_S Z V ψ lv st q σ o2) : sw_S Z V ψ lv (.int x :: st) pc σ (if 0 ≤ x then o1 else o2) := by
  have e := sw_dq C.dc hi
  subst e
  exact fun H locs ls hL hW b hb => lv_if_ge C.1 C.2.1 (sw_dk C.dc hi) ht (fun h => kt H locs ls hL hW b (by rw [if_pos h] at hb; exact hb)) (fun h => kf H locs ls hL hW b (by rw [if_neg h] at hb; exact hb))
theorem g_icmp_ge (C : sw_Cx Z V cc own nL ret L d) (i : Nat) {off : Int} (hi : L[i]? = some (pc, .if_icmp .ge off, 3, q)) (tgt : Nat) (ht : (pc : Int) + off = (tgt : Int)) {x y : Int32} (kt : sw_S Z V ψ lv st tgt σ o1) (kf : sw_S Z V ψ lv st q σ o2) : sw_S Z V ψ lv (.int y :: .int x :: st) pc σ (if y ≤ x then o1 else o2) := by
  have e := sw_dq C.dc hi
  subst e
  exact fun H locs ls hL hW b hb => lv_icmp_ge C.1 C.2.1 (sw_dk C.dc hi) ht (fun h => kt H locs ls hL hW b (by rw [if_pos h] at hb; exact hb)) (fun h => kf H locs ls hL hW b (by rw [if_neg h] at hb; exact hb))
theorem g_if_gt (C : sw_Cx Z V cc own nL ret L d) (i : Nat) {off : Int} (hi : L[i]? = some (pc, .ifCond .gt off, 3, q)) (tgt : Nat) (ht : (pc : Int) + off = (tgt : Int)) {x : Int32} (kt : sw_S Z V ψ lv st tgt σ o1) (kf : sw_S Z V ψ lv st q σ o2) : sw_S Z V ψ lv (.int x :: st) pc σ (if 0 < x then o1 else o2) := by
  have e := sw_dq C.dc hi
  subst e
  exact fun H locs ls hL hW b hb => lv_if_gt C.1 C.2.1 (sw_dk C.dc hi) ht (fun h => kt H locs ls hL hW b (by rw [if_pos h] at hb; exact hb)) (fun h => kf H locs ls hL hW b (by rw [if_neg h] at hb; exact hb))
theorem g_icmp_gt (C : sw_Cx Z V cc own nL ret L d) (i : Nat) {off : Int} (hi : L[i]? = some (pc, .if_icmp .gt off, 3, q)) (tgt : Nat) (ht : (pc : Int) + off = (tgt : Int)) {x y : Int32} (kt : sw_S Z V ψ lv st tgt σ o1) (kf : sw_S Z V ψ lv st q σ o2) : sw_S Z V ψ lv (.int y :: .int x :: st) pc σ (if y < x then o1 else o2) := by
  have e := sw_dq C.dc hi
  subst e
  exact fun H locs ls hL hW b hb => lv_icmp_gt C.1 C.2.1 (sw_dk C.dc hi) ht (fun h => kt H locs ls hL hW b (by rw [if_pos h] at hb; exact hb)) (fun h => kf H locs ls hL hW b (by rw [if_neg h] at hb; exact hb))
theorem g_if_le (C : sw_Cx Z V cc own nL ret L d) (i : Nat) {off : Int} (hi : L[i]? = some (pc, .ifCond .le off, 3, q)) (tgt : Nat) (ht : (pc : Int) + off = (tgt : Int)) {x : Int32} (kt : sw_S Z V ψ lv st tgt σ o1) (kf : sw_S Z V ψ lv st q σ o2) : sw_S Z V ψ lv (.int x :: st) pc σ (if x ≤ 0 then o1 else o2) := by
  have e := sw_dq C.dc hi
  subst e
  exact fun H locs ls hL hW b hb => lv_if_le C.1 C.2.1 (sw_dk C.dc hi) ht (fun h => kt H locs ls hL hW b (by rw [if_pos h] at hb; exact hb)) (fun h => kf H locs ls hL hW b (by rw [if_neg h] at hb; exact hb))
theorem g_icmp_le (C : sw_Cx Z V cc own nL ret L d) (i : Nat) {off : Int} (hi : L[i]? = some (pc, .if_icmp .le off, 3, q)) (tgt : Nat) (ht : (pc : Int) + off = (tgt : Int)) {x y : Int32} (kt : sw_S Z V ψ lv st tgt σ o1) (kf : sw_S Z V ψ lv st q σ o2) : sw_S Z V ψ lv (.int y :: .int x :: st) pc σ (if x ≤ y then o1 else o2) := by
  have e := sw_dq C.dc hi
  subst e
  exact fun H locs ls hL hW b hb => lv_icmp_le C.1 C.2.1 (sw_dk C.dc hi) ht (fun h => kt H locs ls hL hW b (by rw [if_pos h] at hb; exact hb)) (fun h => kf H locs ls hL hW b (by rw [if_neg h] at hb; exact hb))
theorem g_goto (C : sw_Cx Z V cc own nL ret L d) (i : Nat) {off : Int} (hi : L[i]? = some (pc, .goto off, 3, q)) (tgt : Nat) (ht : (pc : Int) + off = (tgt : Int)) (k : sw_S Z V ψ lv st tgt σ o) : sw_S Z V ψ lv st pc σ o := fun H locs ls hL hW b hb => lv_goto C.1 C.2.1 (sw_dk C.dc hi) ht (k H locs ls hL hW b hb)
theorem g_ifnull (C : sw_Cx Z V cc own nL ret L d) (i : Nat) {off : Int} (hi : L[i]? = some (pc, .ifnull off, 3, q)) (tgt : Nat) (ht : (pc : Int) + off = (tgt : Int)) {x : Nat} (kt : sw_S Z V ψ lv st tgt σ o1) (kf : sw_S Z V ψ lv st q σ o2) : sw_S Z V ψ lv (sw_r V x :: st) pc σ (if x = 0 then o1 else o2) := by
  have e := sw_dq C.dc hi
  subst e
  intro H locs ls hL hW b hb
  by_cases h0 : x = 0
  · have e0 : sw_r V x = .null := if_pos h0
    rw [e0]
    exact lv_ifnullN C.1 C.2.1 (sw_dk C.dc hi) ht (kt H locs ls hL hW b (by rw [if_pos h0] at hb; exact hb))
  · have e0 : sw_r V x = .ref (V.2.2.2.2.2 x) := if_neg h0
    rw [e0]
    exact lv_ifnull C.1 C.2.1 (sw_dk C.dc hi) (kf H locs ls hL hW b (by rw [if_neg h0] at hb; exact hb))
theorem g_ifnonnull (C : sw_Cx Z V cc own nL ret L d) (i : Nat) {off : Int} (hi : L[i]? = some (pc, .ifnonnull off, 3, q)) (tgt : Nat) (ht : (pc : Int) + off = (tgt : Int)) {x : Nat} (kt : sw_S Z V ψ lv st tgt σ o1) (kf : sw_S Z V ψ lv st q σ o2) : sw_S Z V ψ lv (sw_r V x :: st) pc σ (if x = 0 then o2 else o1) := by
  have e := sw_dq C.dc hi
  subst e
  intro H locs ls hL hW b hb
  by_cases h0 : x = 0
  · have e0 : sw_r V x = .null := if_pos h0
    rw [e0]
    exact lv_ifnonnullN C.1 C.2.1 (sw_dk C.dc hi) (kf H locs ls hL hW b (by rw [if_pos h0] at hb; exact hb))
  · have e0 : sw_r V x = .ref (V.2.2.2.2.2 x) := if_neg h0
    rw [e0]
    exact lv_ifnonnull C.1 C.2.1 (sw_dk C.dc hi) ht (kt H locs ls hL hW b (by rw [if_neg h0] at hb; exact hb))
theorem g_null (C : sw_Cx Z V cc own nL ret L d) (i : Nat) (hi : L[i]? = some (pc, .aconst_null, 1, q)) (k : sw_S Z V ψ lv (sw_r V 0 :: st) q σ o) : sw_S Z V ψ lv st pc σ o := by
  have e := sw_dq C.dc hi
  subst e
  exact fun H locs ls hL hW b hb => lv_null C.1 C.2.1 (sw_dk C.dc hi) (k H locs ls hL hW b hb)
theorem g_tin (C : sw_Cx Z V cc own nL ret L d) (i : Nat) {dflt lo hi' : Int} {offs : Array Int} {len : Nat} (hi : L[i]? = some (pc, .tableswitch dflt lo hi' offs, len, q)) {x : Int32} (v : Int32) (tgt : Nat) (hv : ¬ v.toInt < lo ∧ ¬ hi' < v.toInt) (off : Int) (ho : offs[(v.toInt - lo).toNat]? = some off) (ht : (pc : Int) + off = (tgt : Int)) (kt : sw_S Z V ψ lv st tgt σ o1) (kf : ¬ x = v → sw_S Z V ψ lv (.int x :: st) pc σ o2) : sw_S Z V ψ lv (.int x :: st) pc σ (if x = v then o1 else o2) := by
  intro H locs ls hL hW b hb
  by_cases h : x = v
  · rw [if_pos h] at hb
    subst h
    exact lv_tableIn C.1 C.2.1 (sw_dk C.dc hi) hv.1 hv.2 ho ht (kt H locs ls hL hW b hb)
  · rw [if_neg h] at hb
    exact kf h H locs ls hL hW b hb
theorem g_tout (C : sw_Cx Z V cc own nL ret L d) (i : Nat) {dflt lo hi' : Int} {offs : Array Int} {len : Nat} (hi : L[i]? = some (pc, .tableswitch dflt lo hi' offs, len, q)) {x : Int32} (tgt : Nat) (h : x.toInt < lo ∨ hi' < x.toInt) (ht : (pc : Int) + dflt = (tgt : Int)) (k : sw_S Z V ψ lv st tgt σ o) : sw_S Z V ψ lv (.int x :: st) pc σ o := fun H locs ls hL hW b hb => lv_tableOut C.1 C.2.1 (sw_dk C.dc hi) h ht (k H locs ls hL hW b hb)
theorem g_lsw (C : sw_Cx Z V cc own nL ret L d) (i : Nat) {dflt : Int} {ps : Array (Int × Int)} {len : Nat} (hi : L[i]? = some (pc, .lookupswitch dflt ps, len, q)) (hp : (ps.toList.zip (ps.toList.drop 1)).all (fun (a, next) => a.1 < next.1) = true) {x : Int32} (v : Int32) (tgt : Nat) (off : Int) (ho : Op.lookupswitch.offset ps.toList dflt v.toInt = off) (ht : (pc : Int) + off = (tgt : Int)) (kt : sw_S Z V ψ lv st tgt σ o1) (kf : ¬ x = v → sw_S Z V ψ lv (.int x :: st) pc σ o2) : sw_S Z V ψ lv (.int x :: st) pc σ (if x = v then o1 else o2) := by
  intro H locs ls hL hW b hb
  by_cases h : x = v
  · rw [if_pos h] at hb
    subst h
    exact lv_lookup C.1 C.2.1 (sw_dk C.dc hi) hp ho ht (kt H locs ls hL hW b hb)
  · rw [if_neg h] at hb
    exact kf h H locs ls hL hW b hb
theorem g_lswd (C : sw_Cx Z V cc own nL ret L d) (i : Nat) {dflt : Int} {ps : Array (Int × Int)} {len : Nat} (hi : L[i]? = some (pc, .lookupswitch dflt ps, len, q)) (hp : (ps.toList.zip (ps.toList.drop 1)).all (fun (a, next) => a.1 < next.1) = true) {x : Int32} (tgt : Nat) (off : Int) (ho : Op.lookupswitch.offset ps.toList dflt x.toInt = off) (ht : (pc : Int) + off = (tgt : Int)) (k : sw_S Z V ψ lv st tgt σ o) : sw_S Z V ψ lv (.int x :: st) pc σ o := fun H locs ls hL hW b hb => lv_lookup C.1 C.2.1 (sw_dk C.dc hi) hp ho ht (k H locs ls hL hW b hb)
theorem g_ldc (C : sw_Cx Z V cc own nL ret L d) (i : Nat) {idx : Nat} (hi : L[i]? = some (pc, .ldc idx, 2, q)) (v : Int32) (hw : Cond.constant own idx v ∈ sw_WS) (k : sw_S Z V ψ lv (.int v :: st) q σ o) : sw_S Z V ψ lv st pc σ o := by
  have e := sw_dq C.dc hi
  subst e
  exact fun H locs ls hL hW b hb => lv_ldc C.1 C.2.1 C.ow (C.ws _ hw) (sw_dk C.dc hi) (k H locs ls hL hW b hb)
theorem g_ldc2 (C : sw_Cx Z V cc own nL ret L d) (i : Nat) {idx : Nat} (hi : L[i]? = some (pc, .ldc2_w idx, 3, q)) (v : Int64) (hw : Cond.constantLong own idx v ∈ sw_WS) (k : sw_S Z V ψ lv (.long v :: st) q σ o) : sw_S Z V ψ lv st pc σ o := by
  have e := sw_dq C.dc hi
  subst e
  exact fun H locs ls hL hW b hb => lv_ldc2 C.1 C.2.1 C.ow (C.ws _ hw) (sw_dk C.dc hi) (k H locs ls hL hW b hb)
theorem g_ldcS (C : sw_Cx Z V cc own nL ret L d) (i : Nat) {idx : Nat} (hi : L[i]? = some (pc, .ldc idx, 2, q)) (t : Nat) (ht : t < sw_nS) (ho : (sw_sown t).1 = own) (hx : (sw_sown t).2.1 = idx) (k : sw_S Z V ψ lv (sw_r V (100 + t) :: st) q σ o) : sw_S Z V ψ lv st pc σ o := by
  have e := sw_dq C.dc hi
  subst e
  subst ho; subst hx
  intro H locs ls hL hW b hb
  have k1 := k H locs ls hL hW b hb
  rw [show sw_r V (100 + t) = .ref (V.2.2.2.2.2 (100 + t)) from sw_rv_pos (by omega)] at k1
  exact va_ldcS C.1 C.2.1 C.ow (C.ex.2.1 t ht) (sw_dk C.dc hi) k1
theorem g_get {ci j k : Nat} {fs : List (Option Nat)} {v : Value} (C : sw_Cx Z V cc own nL ret L d) (i : Nat) {idx : Nat} (hi : L[i]? = some (pc, .getfield idx, 3, q)) (hF : sw_FL own idx ci j) (hs : Z.2 k = some (.inl (ci, fs))) (hv : (sw_fv V.2.2.2.2.2 fs (σ k) 0)[j]? = some v) (kk : sw_S Z V ψ lv (v :: st) q σ o) : sw_S Z V ψ lv (sw_r V k :: st) pc σ o := by
  have e := sw_dq C.dc hi
  subst e
  intro H locs ls hL hW b hb
  obtain ⟨Cn, T, N, hc, hin, hj, h1, hl⟩ := hF
  have hk0 : k ≠ 0 := by
    have := (C.ok k _ hs).1
    omega
  have hg := sw_ws_get (ad := V.2.2.2.2.2) (dA := V.2.2.2.2.1) (σ := σ) C.ok hs
  rw [show sw_r V k = .ref (V.2.2.2.2.2 k) from sw_rv_pos hk0]
  rcases hl with hl | ⟨host, hl⟩
  · exact va_get (ref := Cn) C.1 C.2.1 C.ws hin C.ow C.K hW.1 (k - 1) hg hc j hj (C.ws _ hl) (by rw [h1]; exact fun _ h => h) hv (sw_dk C.dc hi) (kk H locs ls hL hW b hb)
  · exact va_getN (ref := Cn) C.1 C.2.1 C.ws hin C.ow C.K hW.1 (k - 1) hg hc j hj (C.ws _ hl) (by rw [h1]; exact fun _ h => h) hv (sw_dk C.dc hi) (kk H locs ls hL hW b hb)
theorem g_getI {ci j k : Nat} {fs : List (Option Nat)} (C : sw_Cx Z V cc own nL ret L d) (i : Nat) {idx : Nat} (hi : L[i]? = some (pc, .getfield idx, 3, q)) (hF : sw_FL own idx ci j) (hs : Z.2 k = some (.inl (ci, fs))) (hf : fs[j]? = some none) (kk : sw_S Z V ψ lv (.int (σ k j) :: st) q σ o) : sw_S Z V ψ lv (sw_r V k :: st) pc σ o :=
  g_get C i hi hF hs (by rw [sw_fv_int fs 0 j hf, Nat.zero_add]) kk
theorem g_getR {ci j k t : Nat} {fs : List (Option Nat)} (C : sw_Cx Z V cc own nL ret L d) (i : Nat) {idx : Nat} (hi : L[i]? = some (pc, .getfield idx, 3, q)) (hF : sw_FL own idx ci j) (hs : Z.2 k = some (.inl (ci, fs))) (hf : fs[j]? = some (some t)) (ht : t ≠ 0) (kk : sw_S Z V ψ lv (sw_r V t :: st) q σ o) : sw_S Z V ψ lv (sw_r V k :: st) pc σ o :=
  g_get C i hi hF hs (by rw [sw_fv_ref fs 0 j hf]; exact congrArg some (sw_rv_pos ht).symm) kk
theorem g_put {ci j k : Nat} {fs : List (Option Nat)} {x : Int32} {K : sw_St → Option β} (C : sw_Cx Z V cc own nL ret L d) (i : Nat) {idx : Nat} (hi : L[i]? = some (pc, .putfield idx, 3, q)) (hF : sw_FP own idx ci j) (hs : Z.2 k = some (.inl (ci, fs))) (hf : fs[j]? = some none) (kk : ∀ σ', sw_S Z V ψ lv st q σ' (K σ')) : sw_S Z V ψ lv (.int x :: sw_r V k :: st) pc σ (sw_pt σ k j x K) := by
  have e := sw_dq C.dc hi
  subst e
  intro H locs ls hL hW b hb
  obtain ⟨Cn, T, N, ty0, hc, hin, hj, h1, hl, hty, hnm, hfin, hd⟩ := hF
  have hk0 : k ≠ 0 := by
    have := (C.ok k _ hs).1
    omega
  have hg := sw_ws_get (ad := V.2.2.2.2.2) (dA := V.2.2.2.2.1) (σ := σ) C.ok hs
  have hD := sw_ws_D (dA := V.2.2.2.2.1) (σ := σ) C.inj
  have hlen : j < (sw_fv V.2.2.2.2.2 fs (σ k) 0).length := by
    rw [sw_fv_len]
    exact (List.getElem?_eq_some_iff.mp hf).1
  have hset : (sw_ws V.2.2.2.2.2 V.2.2.2.2.1 Z σ).set (k - 1) (V.2.2.2.2.2 k, .inr (ci, (sw_fv V.2.2.2.2.2 fs (σ k) 0).set j (.int x))) = sw_ws V.2.2.2.2.2 V.2.2.2.2.1 Z (sw_up σ k j x) := by
    rw [← sw_ws_set (j := j) (v := x) C.ok hs]
    congr 1
    rw [sw_fv_set fs 0 j hf]
    simp [sw_ent, sw_up]
  rw [show sw_r V k = .ref (V.2.2.2.2.2 k) from sw_rv_pos hk0]
  rcases hl with hl | ⟨host, hl⟩
  · exact va_put (ref := Cn) (ty := .int) C.1 C.2.1 C.ws hin ty0 hty hnm C.ow C.K hW.1 hD hW.2 (k - 1) hg hc j hj (C.ws _ hl) (by rw [h1]; exact fun _ h => h) hfin hd rfl rfl hlen (sw_dk C.dc hi) (fun H1 locs1 hP1 _ hS1 => kk (sw_up σ k j x) H1 locs1 ls hL ⟨by rw [hset] at hP1; exact hP1, hS1⟩ b hb)
  · exact va_putN (ref := Cn) (ty := .int) C.1 C.2.1 C.ws hin ty0 hty hnm C.ow C.K hW.1 hD hW.2 (k - 1) hg hc j hj (C.ws _ hl) (by rw [h1]; exact fun _ h => h) hfin hd rfl rfl hlen (sw_dk C.dc hi) (fun H1 locs1 hP1 _ hS1 => kk (sw_up σ k j x) H1 locs1 ls hL ⟨by rw [hset] at hP1; exact hP1, hS1⟩ b hb)
theorem g_iald {n k : Nat} {x : Int32} (C : sw_Cx Z V cc own nL ret L d) (i : Nat) (hi : L[i]? = some (pc, .iaload, 1, q)) (hs : Z.2 k = some (.inr (0, n, none))) (kk : sw_S Z V ψ lv (.int (σ k (sw_ix x)) :: st) q σ o) : sw_S Z V ψ lv (.int x :: sw_r V k :: st) pc σ (sw_ck (sw_in x n) o) := by
  have e := sw_dq C.dc hi
  subst e
  refine g_ck fun hin => ?_
  intro H locs ls hL hW b hb
  have hk0 : k ≠ 0 := by
    have := (C.ok k _ hs).1
    omega
  have hg := sw_ws_get (ad := V.2.2.2.2.2) (dA := V.2.2.2.2.1) (σ := σ) C.ok hs
  rw [show sw_r V k = .ref (V.2.2.2.2.2 k) from sw_rv_pos hk0]
  exact va_iald C.1 C.2.1 C.K hW.1 (k - 1) 0 hg rfl (sw_in_vp hin) (sw_dk C.dc hi) (kk H locs ls hL hW b hb)
theorem g_cald {n k : Nat} {x : Int32} (C : sw_Cx Z V cc own nL ret L d) (i : Nat) (hi : L[i]? = some (pc, .caload, 1, q)) (hs : Z.2 k = some (.inr (1, n, none))) (kk : sw_S Z V ψ lv (.int (σ k (sw_ix x)) :: st) q σ o) : sw_S Z V ψ lv (.int x :: sw_r V k :: st) pc σ (sw_ck (sw_in x n) o) := by
  have e := sw_dq C.dc hi
  subst e
  refine g_ck fun hin => ?_
  intro H locs ls hL hW b hb
  have hk0 : k ≠ 0 := by
    have := (C.ok k _ hs).1
    omega
  have hg := sw_ws_get (ad := V.2.2.2.2.2) (dA := V.2.2.2.2.1) (σ := σ) C.ok hs
  rw [show sw_r V k = .ref (V.2.2.2.2.2 k) from sw_rv_pos hk0]
  exact va_cald C.1 C.2.1 C.K hW.1 (k - 1) 1 hg rfl (sw_in_vp hin) (sw_dk C.dc hi) (kk H locs ls hL hW b hb)
theorem g_iast {n k : Nat} {x y : Int32} {K : sw_St → Option β} (C : sw_Cx Z V cc own nL ret L d) (i : Nat) (hi : L[i]? = some (pc, .iastore, 1, q)) (hs : Z.2 k = some (.inr (0, n, none))) (kk : ∀ σ', sw_S Z V ψ lv st q σ' (K σ')) : sw_S Z V ψ lv (.int x :: .int y :: sw_r V k :: st) pc σ (sw_ck (sw_in y n) (sw_pt σ k (sw_ix y) x K)) := by
  have e := sw_dq C.dc hi
  subst e
  refine g_ck fun hin => ?_
  intro H locs ls hL hW b hb
  have hk0 : k ≠ 0 := by
    have := (C.ok k _ hs).1
    omega
  have hg := sw_ws_get (ad := V.2.2.2.2.2) (dA := V.2.2.2.2.1) (σ := σ) C.ok hs
  have hD := sw_ws_D (dA := V.2.2.2.2.1) (σ := σ) C.inj
  have hset : (sw_ws V.2.2.2.2.2 V.2.2.2.2.1 Z σ).set (k - 1) (V.2.2.2.2.2 k, .inl (V.2.2.2.2.1 0, n, .inl (upd (σ k) y.toNatClampNeg x))) = sw_ws V.2.2.2.2.2 V.2.2.2.2.1 Z (sw_up σ k (sw_ix y) x) := by
    rw [← sw_ws_set (j := sw_ix y) (v := x) C.ok hs]
    congr 1
    simp only [sw_ent, sw_up, if_true]
    rfl
  rw [show sw_r V k = .ref (V.2.2.2.2.2 k) from sw_rv_pos hk0]
  exact va_iast C.1 C.2.1 C.K hW.1 hD hW.2 (k - 1) 0 hg rfl (sw_in_vp hin) (sw_dk C.dc hi) (fun H1 locs1 hP1 _ hS1 => kk (sw_up σ k (sw_ix y) x) H1 locs1 ls hL ⟨by rw [hset] at hP1; exact hP1, hS1⟩ b hb)
theorem g_cast {n k : Nat} {x y : Int32} {K : sw_St → Option β} (C : sw_Cx Z V cc own nL ret L d) (i : Nat) (hi : L[i]? = some (pc, .castore, 1, q)) (hs : Z.2 k = some (.inr (1, n, none))) (kk : ∀ σ', sw_S Z V ψ lv st q σ' (K σ')) : sw_S Z V ψ lv (.int x :: .int y :: sw_r V k :: st) pc σ (sw_ck (sw_in y n) (sw_pt σ k (sw_ix y) (vp_nar .char x) K)) := by
  have e := sw_dq C.dc hi
  subst e
  refine g_ck fun hin => ?_
  intro H locs ls hL hW b hb
  have hk0 : k ≠ 0 := by
    have := (C.ok k _ hs).1
    omega
  have hg := sw_ws_get (ad := V.2.2.2.2.2) (dA := V.2.2.2.2.1) (σ := σ) C.ok hs
  have hD := sw_ws_D (dA := V.2.2.2.2.1) (σ := σ) C.inj
  have hset : (sw_ws V.2.2.2.2.2 V.2.2.2.2.1 Z σ).set (k - 1) (V.2.2.2.2.2 k, .inl (V.2.2.2.2.1 1, n, .inl (upd (σ k) y.toNatClampNeg (vp_nar .char x)))) = sw_ws V.2.2.2.2.2 V.2.2.2.2.1 Z (sw_up σ k (sw_ix y) (vp_nar .char x)) := by
    rw [← sw_ws_set (j := sw_ix y) (v := (vp_nar .char x)) C.ok hs]
    congr 1
    simp only [sw_ent, sw_up, if_true]
    rfl
  rw [show sw_r V k = .ref (V.2.2.2.2.2 k) from sw_rv_pos hk0]
  exact va_cast C.1 C.2.1 C.K hW.1 hD hW.2 (k - 1) 1 hg rfl (sw_in_vp hin) (sw_dk C.dc hi) (fun H1 locs1 hP1 _ hS1 => kk (sw_up σ k (sw_ix y) (vp_nar .char x)) H1 locs1 ls hL ⟨by rw [hset] at hP1; exact hP1, hS1⟩ b hb)
theorem g_aald {ai n k : Nat} {t : Nat → Nat} {x : Int32} (C : sw_Cx Z V cc own nL ret L d) (i : Nat) (hi : L[i]? = some (pc, .aaload, 1, q)) (hs : Z.2 k = some (.inr (ai, n, some t))) {Cn : String} (ha : (sw_tys V.2.2.2.2.1)[ai]? = some (V.2.2.2.2.1 ai, .object Cn)) (ht : t (sw_ix x) ≠ 0) (kk : sw_S Z V ψ lv (sw_r V (t (sw_ix x)) :: st) q σ o) : sw_S Z V ψ lv (.int x :: sw_r V k :: st) pc σ (sw_ck (sw_in x n) o) := by
  have e := sw_dq C.dc hi
  subst e
  refine g_ck fun hin => ?_
  intro H locs ls hL hW b hb
  have hk0 : k ≠ 0 := by
    have := (C.ok k _ hs).1
    omega
  have hg := sw_ws_get (ad := V.2.2.2.2.2) (dA := V.2.2.2.2.1) (σ := σ) C.ok hs
  rw [show sw_r V k = .ref (V.2.2.2.2.2 k) from sw_rv_pos hk0]
  have k1 := kk H locs ls hL hW b hb
  rw [show sw_r V (t (sw_ix x)) = .ref (V.2.2.2.2.2 (t (sw_ix x))) from sw_rv_pos ht] at k1
  exact va_aldq C.1 C.2.1 C.K hW.1 (k - 1) ai hg ha (sw_in_vp hin) (sw_dk C.dc hi) k1
theorem g_alen {ai n k : Nat} {t : Option (Nat → Nat)} (C : sw_Cx Z V cc own nL ret L d) (i : Nat) (hi : L[i]? = some (pc, .arraylength, 1, q)) (hs : Z.2 k = some (.inr (ai, n, t))) (h4 : ai < 4) (v : Int32) (hv : Int32.ofNat n = v) (kk : sw_S Z V ψ lv (.int v :: st) q σ o) : sw_S Z V ψ lv (sw_r V k :: st) pc σ o := by
  have e := sw_dq C.dc hi
  subst e
  intro H locs ls hL hW b hb
  have hk0 : k ≠ 0 := by
    have := (C.ok k _ hs).1
    omega
  have hg := sw_ws_get (ad := V.2.2.2.2.2) (dA := V.2.2.2.2.1) (σ := σ) C.ok hs
  rw [show sw_r V k = .ref (V.2.2.2.2.2 k) from sw_rv_pos hk0]
  have k1 := kk H locs ls hL hW b hb
  have ha : ∃ ty, (sw_tys V.2.2.2.2.1)[ai]? = some (V.2.2.2.2.1 ai, ty) := by
    rcases (show ai = 0 ∨ ai = 1 ∨ ai = 2 ∨ ai = 3 by omega) with rfl | rfl | rfl | rfl <;> exact ⟨_, rfl⟩
  obtain ⟨ty, ha⟩ := ha
  cases t with
  | none => exact va_alen C.1 C.2.1 C.K hW.1 (k - 1) ai hg ha hv (sw_dk C.dc hi) k1
  | some t => exact va_alen C.1 C.2.1 C.K hW.1 (k - 1) ai hg ha hv (sw_dk C.dc hi) k1
theorem g_fin {x : Option Value × sw_St} {t : State} {H : Heap} {locs : List Loc} (hx : x.2 = σ) (hW : sw_Wd Z V σ H locs) (ht : t.heap = H) : sw_Q Z V.2.2.1 V.2.2.2.1 V.2.2.2.2.1 V.2.2.2.2.2 x V.2.1.2.2.1 V.2.1.1 (.returned x.1) t := ⟨rfl, by rw [ht, hx]; exact hW.1, hW.2.F ht⟩
theorem g_iret {v : Int32} {x : β} (C : sw_Cx Z V cc own nL (some .int) L d) (i : Nat) (hi : L[i]? = some (pc, .ireturn, 1, q)) (hx : ψ x = (some (.int v), σ)) : sw_S Z V ψ lv [.int v] pc σ (some x) := by
  intro H locs ls hL hW b hb
  cases hb
  exact W.iret (v := v) C.1 C.2.1 C.2.2.2.1 (fun t ht _ => by rw [hx]; exact g_fin rfl hW ht) hW.2.2.2 (sw_dk C.dc hi) C.2.2.2.2.1
theorem g_zret {v : Int32} {x : β} {ty : FieldType} (C : sw_Cx Z V cc own nL (some ty) L d) (i : Nat) (hi : L[i]? = some (pc, .ireturn, 1, q)) (hn : narrow ty (.int v) = .int v) (hx : ψ x = (some (.int v), σ)) : sw_S Z V ψ lv [.int v] pc σ (some x) := by
  intro H locs ls hL hW b hb
  cases hb
  exact W.zret (v := v) C.1 C.2.1 C.2.2.2.1 hn (fun t ht _ => by rw [hx]; exact g_fin rfl hW ht) hW.2.2.2 (sw_dk C.dc hi) C.2.2.2.2.1
theorem g_vret {x : β} (C : sw_Cx Z V cc own nL none L d) (i : Nat) (hi : L[i]? = some (pc, .return_, 1, q)) (hx : ψ x = (none, σ)) : sw_S Z V ψ lv [] pc σ (some x) := by
  intro H locs ls hL hW b hb
  cases hb
  exact W.vret C.1 C.2.1 C.2.2.2.1 (fun t ht _ => by rw [hx]; exact g_fin rfl hW ht) hW.2.2.2 (sw_dk C.dc hi) C.2.2.2.2.1
theorem g_lret {v : Int64} {x : β} (C : sw_Cx Z V cc own nL (some .long) L d) (i : Nat) (hi : L[i]? = some (pc, .lreturn, 1, q)) (hx : ψ x = (some (.long v), σ)) : sw_S Z V ψ lv [.long v] pc σ (some x) := by
  intro H locs ls hL hW b hb
  cases hb
  exact W.lret (v := v) C.1 C.2.1 C.2.2.2.1 (fun t ht _ => by rw [hx]; exact g_fin rfl hW ht) hW.2.2.2 (sw_dk C.dc hi) C.2.2.2.2.1
theorem g_aret {k : Nat} {x : β} {nm : String} (C : sw_Cx Z V cc own nL (some (.object nm)) L d) (i : Nat) (hi : L[i]? = some (pc, .areturn, 1, q)) (hx : ψ x = (some (sw_r V k), σ)) : sw_S Z V ψ lv [sw_r V k] pc σ (some x) := by
  intro H locs ls hL hW b hb
  cases hb
  exact W.aret (v := sw_r V k) C.1 C.2.1 C.2.2.2.1 (Or.inl ⟨nm, rfl⟩) (by unfold sw_r sw_rv; split; exact Or.inl rfl; exact Or.inr ⟨_, rfl⟩) (fun t ht _ => by rw [hx]; exact g_fin rfl hW ht) hW.2.2.2 (sw_dk C.dc hi) C.2.2.2.2.1
-- contracts
def sw_Pc (Z : sw_Z) (dC : Nat → ClassId) (dI : Nat → Nat → Nat) (dA : Nat → ClassId) (ad : Nat → Nat) (av : List Value) (σ : sw_St) : Array Value → State → Prop := fun v U => v = av.toArray ∧ va_P (dC, dI) sw_cl (sw_ws ad dA Z σ) U.heap ∧ va_K (dC, dI) sw_cl (sw_tys dA) U ∧ sw_Ex ad (sw_A Z ad) U U.heap
def sw_M (Z : sw_Z) (l : Launch) (y : MethodName) (cc : ByteArray) (nL : Nat) (ret : Option FieldType) (d : Nat) (dC : Nat → ClassId) (dI : Nat → Nat → Nat) (dA : Nat → ClassId) (ad : Nat → Nat) (av : List Value) (σ : sw_St) (x : Option Value × sw_St) : Prop :=
  Met l y (Cond.code y cc nL ret :: sw_WS) { frames := d, cells := 0, slots := 0, locals := 40 * d } (sw_Pc Z dC dI dA ad av σ) (sw_Q Z dC dI dA ad x) 0 0 (sw_A Z ad)
theorem sw_Pc_blind (Z : sw_Z) (dC : Nat → ClassId) (dI : Nat → Nat → Nat) (dA : Nat → ClassId) (ad : Nat → Nat) (av : List Value) (σ : sw_St) : FrameBlind (sw_Pc Z dC dI dA ad av σ) := by
  intro a U g mk h
  obtain ⟨h1, h2, h3, h4⟩ := h
  exact ⟨h1, h2, va_K.moved (u := U) (U := U.calling g mk a) (Vm.Alike.refl U.vm) h3, sw_Ex.same (s := U) (U := U.calling g mk a) rfl h4⟩
theorem sw_cats : ∀ (rest : List Value), (rest.map fun v => v.category).sum ≤ 2 * rest.length
  | [] => Nat.le_refl 0
  | v :: r => by
    have h := sw_cats r
    have h2 : v.category ≤ 2 := by cases v <;> simp [Value.category]
    simp only [List.map_cons, List.sum_cons, List.length_cons]
    omega
theorem sw_run {β₁ : Type} {ψ₁ : β₁ → Option Value × sw_St} {oc : Option β₁} {K : β₁ → Option β} {av st0 rest : List Value} {y : MethodName} {cc' : ByteArray} {nL' d' : Nat} {ret' : Option FieldType} (C : sw_Cx Z V cc own nL ret L d)
    (hM : ∀ b, oc = some b → sw_M Z V.1.2.1 y cc' nL' ret' d' V.2.2.1 V.2.2.2.1 V.2.2.2.2.1 V.2.2.2.2.2 av σ (ψ₁ b)) {pc : Nat}
    (run : ∀ b, oc = some b → ∀ (H : Heap) (locs : List Loc) (ls : Array Slot), sw_L V ls lv → sw_Wd Z V σ H locs → va_Run V.1.1 V.1.2.1 V.1.2.2.1 V.1.2.2.2 V.2.1.1 V.2.1.2.1 V.2.1.2.2.1 V.2.1.2.2.2.1 V.2.1.2.2.2.2.1 V.2.1.2.2.2.2.2 H locs 0 0 0 0 (F0 V.2.1.2.1 pc ls st0) rest (sw_Q Z V.2.2.1 V.2.2.2.1 V.2.2.2.2.1 V.2.2.2.2.2 (ψ₁ b) av.toArray) (sw_A Z V.2.2.2.2.2))
    (kk : ∀ b, sw_S Z V ψ lv ((ψ₁ b).1.toList ++ rest) (pc + 3) (ψ₁ b).2 (K b)) : sw_S Z V ψ lv st0 pc σ (oc.bind K) := by
  intro H locs ls hL hW b hb
  cases hoc : oc with
  | none => rw [hoc] at hb; cases hb
  | some b₁ =>
    rw [hoc] at hb
    have hb : K b₁ = some b := hb
    intro T hT X
    obtain ⟨v, st₀, t, T', L', h0, X', hL', e1, e2, ⟨hv, hP, hz, hk⟩, stp⟩ := run b₁ hoc H locs ls hL hW T hT X
    have hv' : v = (ψ₁ b₁).1 := by
      injection hv
    rw [h0] at hz hk
    have hS : va_S (sw_A Z V.2.2.2.2.2) V.2.1.1.heap T'.heap (locs ++ L') :=
      ⟨Nat.le_trans hW.2.1 (by rw [e1]; exact hz), fun q h1 h2 => by rw [e1, hk q (Nat.lt_of_lt_of_le h1 hW.2.1) h2]; exact hW.2.2.1 q h1 h2, fun q hq => by
        rcases List.mem_append.mp hq with h | h
        · exact hW.2.2.2 q h
        · exact hL' q h⟩
    obtain ⟨t2, a1, b1⟩ := kk b₁ T'.heap (locs ++ L') ls hL ⟨by rw [e1]; exact hP, hS⟩ b hb T' rfl X'
    subst hv'
    exact ⟨t2, stp t2 a1, b1⟩
theorem sw_pay (C : sw_Cx Z V cc own nL ret L d) {y : MethodName} {cc' : ByteArray} {nL' : Nat} {ret' : Option FieldType} (hc : Cond.code y cc' nL' ret' ∈ sw_WS) : ∀ w ∈ (Cond.code y cc' nL' ret' :: sw_WS), ∀ (a' : Array Value) (U : State), V.2.1.1.WarmedH U.vm → w.before a' U = true := by
  intro w hw a' U hWm
  rcases List.mem_cons.mp hw with rfl | h
  · exact sw_ok_warm (sw_WS_ok hc) hWm (C.ws _ hc)
  · exact sw_ok_warm (sw_WS_ok h) hWm (C.ws _ h)
theorem sw_preS (C : sw_Cx Z V cc own nL ret L d) {av : List Value} {H : Heap} {locs : List Loc} (hW : sw_Wd Z V σ H locs) : PreS V.2.1.1 H (sw_Pc Z V.2.2.1 V.2.2.2.1 V.2.2.2.2.1 V.2.2.2.2.2 av σ) av :=
  ⟨sw_Pc_blind _ _ _ _ _ _ _, fun U hU hWm => ⟨rfl, by rw [hU]; exact hW.1, va_K.moved hWm.alike C.K, by rw [hU]; exact (C.ex.warm hWm).kept hW.2.2.1⟩⟩
theorem g_callV {β₁ : Type} {ψ₁ : β₁ → Option Value × sw_St} {oc : Option β₁} {K : β₁ → Option β} {y : MethodName} {cc' : ByteArray} {nL' d' n idx k ci : Nat} {ret' : Option FieldType} {fs : List (Option Nat)} (C : sw_Cx Z V cc own nL ret L d) (i : Nat) (hi : L[i]? = some (pc, .invokevirtual idx, 3, q)) (As rest : List Value)
    (hm : sw_MV own idx y cc' nL' ret' n) (hn : As.length = n) (hr : rest.length ≤ 4) (hd : d' + 1 ≤ d) (hs : Z.2 k = some (.inl (ci, fs))) (hcl : (sw_cl[ci]?).map (fun q => q.1) = some y.cls) (hM : ∀ b, oc = some b → sw_M Z V.1.2.1 y cc' nL' ret' d' V.2.2.1 V.2.2.2.1 V.2.2.2.2.1 V.2.2.2.2.2 (sw_r V k :: As) σ (ψ₁ b))
    {st0 : List Value} (hst : st0 = As.reverse ++ sw_r V k :: rest) (kk : ∀ b, sw_S Z V ψ lv ((ψ₁ b).1.toList ++ rest) q (ψ₁ b).2 (K b)) : sw_S Z V ψ lv st0 pc σ (oc.bind K) := by
  have e := sw_dq C.dc hi
  subst e
  subst hst
  have hk0 : k ≠ 0 := by
    have := (C.ok k _ hs).1
    omega
  have er : sw_r V k = .ref (V.2.2.2.2.2 k) := sw_rv_pos hk0
  rw [er] at hM ⊢
  refine sw_run (rest := rest) C hM (fun b hob H locs ls hL hW => ?_) kk
  obtain ⟨⟨hlk, hini, hcode, hy, hdesc, h21⟩, hinst, hsel⟩ := hm
  obtain ⟨hf, hlo⟩ := C.room
  have hg := sw_ws_get (ad := V.2.2.2.2.2) (dA := V.2.2.2.2.1) (σ := σ) C.ok hs
  have hsz : ls.size = lv.length := hL.1.1
  have hmx : V.2.1.2.2.2.2.2.maxLocals = nL := C.2.2.1
  have hroom : 8 + (nL' + 11) + 40 * d' ≤ V.1.2.2.2.locals := by omega
  have hWs : 2 * (F0 V.2.1.2.1 pc ls (As.reverse ++ .ref (V.2.2.2.2.2 k) :: rest)).monitorRoom + (rest.map fun v => v.category).sum ≤ 8 := lv_room (by have := sw_cats rest; omega)
  have hpar : ∀ sig, parseMethodDescriptor y.desc = some sig → n = sig.parameters.length := fun sig h => by
    rw [h] at hdesc
    exact (Option.some.inj hdesc).symm
  cases hq : sw_cl[ci]? with
  | none => rw [hq] at hcl; cases hcl
  | some qq =>
    rw [hq] at hcl
    have hcl' : qq.1 = y.cls := Option.some.inj hcl
    have hrecv := va_recv C.K hW.1 hq hg
    rw [hcl'] at hrecv
    have hp : PreV V.2.1.1 H y.cls (V.2.2.2.2.2 k) (sw_Pc Z V.2.2.1 V.2.2.2.1 V.2.2.2.2.1 V.2.2.2.2.2 (.ref (V.2.2.2.2.2 k) :: As) σ) As := ⟨(sw_preS C hW).1, hrecv, (sw_preS (av := .ref (V.2.2.2.2.2 k) :: As) C hW).2⟩
    rcases hlk with hlk | ⟨host, hlk⟩
    · exact va_runV (nL := nL) (rest := rest) ⟨C.1, C.2.1, hmx, C.ow, C.ws⟩ (hM b hob) ⟨⟨rfl, rfl, by show d' + 1 ≤ _; omega, hroom, sw_pay C hcode, List.mem_cons_self, C.ws _ hcode, C.ws _ hini, hy, hpar, C.ws _ hlk⟩, C.ws _ hinst, C.ws _ hsel⟩ hp rfl hn (hsz.trans (hL.1.2.trans hmx)) rfl hWs (sw_dk C.dc hi) ⟨Nat.zero_le _, Nat.zero_le _⟩
    · exact va_runVN (nL := nL) (rest := rest) ⟨C.1, C.2.1, hmx, C.ow, C.ws⟩ (hM b hob) ⟨⟨⟨rfl, rfl, by show d' + 1 ≤ _; omega, hroom, sw_pay C hcode, List.mem_cons_self⟩, C.ws _ hcode, C.ws _ hini, hy, hpar, C.ws _ hlk⟩, C.ws _ hinst, C.ws _ hsel⟩ hp rfl hn (hsz.trans (hL.1.2.trans hmx)) rfl hWs (sw_dk C.dc hi) ⟨Nat.zero_le _, Nat.zero_le _⟩
theorem g_callS {β₁ : Type} {ψ₁ : β₁ → Option Value × sw_St} {oc : Option β₁} {K : β₁ → Option β} {y : MethodName} {cc' : ByteArray} {nL' d' n idx : Nat} {ret' : Option FieldType} (C : sw_Cx Z V cc own nL ret L d) (i : Nat) (hi : L[i]? = some (pc, .invokestatic idx, 3, q)) (As rest : List Value)
    (hm : sw_MS own idx y cc' nL' ret' n) (hn : As.length = n) (hr : rest.length ≤ 4) (hd : d' + 1 ≤ d) (hM : ∀ b, oc = some b → sw_M Z V.1.2.1 y cc' nL' ret' d' V.2.2.1 V.2.2.2.1 V.2.2.2.2.1 V.2.2.2.2.2 As σ (ψ₁ b))
    {st0 : List Value} (hst : st0 = As.reverse ++ rest) (kk : ∀ b, sw_S Z V ψ lv ((ψ₁ b).1.toList ++ rest) q (ψ₁ b).2 (K b)) : sw_S Z V ψ lv st0 pc σ (oc.bind K) := by
  have e := sw_dq C.dc hi
  subst e
  subst hst
  refine sw_run (rest := rest) C hM (fun b hob H locs ls hL hW => ?_) kk
  obtain ⟨⟨hlk, hini, hcode, hy, hdesc, h21⟩, hstat⟩ := hm
  obtain ⟨hf, hlo⟩ := C.room
  have hsz : ls.size = lv.length := hL.1.1
  have hmx : V.2.1.2.2.2.2.2.maxLocals = nL := C.2.2.1
  have hroom : 8 + (nL' + 11) + 40 * d' ≤ V.1.2.2.2.locals := by omega
  have hWs : 2 * (F0 V.2.1.2.1 pc ls (As.reverse ++ rest)).monitorRoom + (rest.map fun v => v.category).sum ≤ 8 := lv_room (by have := sw_cats rest; omega)
  have hpar : ∀ sig, parseMethodDescriptor y.desc = some sig → n = sig.parameters.length := fun sig h => by
    rw [h] at hdesc
    exact (Option.some.inj hdesc).symm
  rcases hlk with hlk | ⟨host, hlk⟩
  · exact va_runS (nL := nL) (rest := rest) ⟨C.1, C.2.1, hmx, C.ow, C.ws⟩ (hM b hob) ⟨⟨rfl, rfl, by show d' + 1 ≤ _; omega, hroom, sw_pay C hcode, List.mem_cons_self, C.ws _ hcode, C.ws _ hini, hy, hpar, C.ws _ hlk⟩, C.ws _ hstat⟩ (sw_preS C hW) rfl hn (hsz.trans (hL.1.2.trans hmx)) rfl hWs (sw_dk C.dc hi) ⟨Nat.zero_le _, Nat.zero_le _⟩
  · exact va_runSN (nL := nL) (rest := rest) ⟨C.1, C.2.1, hmx, C.ow, C.ws⟩ (hM b hob) ⟨⟨⟨rfl, rfl, by show d' + 1 ≤ _; omega, hroom, sw_pay C hcode, List.mem_cons_self⟩, C.ws _ hcode, C.ws _ hini, hy, hpar, C.ws _ hlk⟩, C.ws _ hstat, trivial⟩ (sw_preS C hW) rfl hn (hsz.trans (hL.1.2.trans hmx)) rfl hWs (sw_dk C.dc hi) ⟨Nat.zero_le _, Nat.zero_le _⟩
theorem g_mmin {idx : Nat} {x y : Int32} (C : sw_Cx Z V cc own nL ret L d) (i : Nat) (hi : L[i]? = some (pc, .invokestatic idx, 3, q)) (hl : Cond.methodLink own idx Lib.Math.min.name ∈ sw_WS) (h2 : Cond.static Lib.Math.min.name ∈ sw_WS) (h3 : Cond.initialized "java/lang/Math" ∈ sw_WS) (h4 : Cond.code Lib.Math.min.name Lib.Math.min.code 2 (some .int) ∈ sw_WS) (hd : 1 ≤ d) (hr : st.length ≤ 4) (k : sw_S Z V ψ lv (.int (if y < x then y else x) :: st) q σ o) : sw_S Z V ψ lv (.int y :: .int x :: st) pc σ o := by
  have e := sw_dq C.dc hi
  subst e
  obtain ⟨hf, hlo⟩ := C.room
  intro H locs ls hL hW b hb
  exact va_mmin C.1 C.2.1 (hL.1.2.symm.trans hL.1.1.symm) C.ow (C.ws _ hl) (C.ws _ h2) (C.ws _ h3) (C.ws _ h4) (by omega) (by have := sw_cats st; omega) (Nat.zero_le _) (Nat.zero_le _) (sw_dk C.dc hi) (k H locs ls hL hW b hb)
theorem g_mmax {idx : Nat} {x y : Int32} (C : sw_Cx Z V cc own nL ret L d) (i : Nat) (hi : L[i]? = some (pc, .invokestatic idx, 3, q)) (hl : Cond.methodLink own idx Lib.Math.max.name ∈ sw_WS) (h2 : Cond.static Lib.Math.max.name ∈ sw_WS) (h3 : Cond.initialized "java/lang/Math" ∈ sw_WS) (h4 : Cond.code Lib.Math.max.name Lib.Math.max.code 2 (some .int) ∈ sw_WS) (hd : 1 ≤ d) (hr : st.length ≤ 4) (k : sw_S Z V ψ lv (.int (if x < y then y else x) :: st) q σ o) : sw_S Z V ψ lv (.int y :: .int x :: st) pc σ o := by
  have e := sw_dq C.dc hi
  subst e
  obtain ⟨hf, hlo⟩ := C.room
  intro H locs ls hL hW b hb
  exact va_mmax C.1 C.2.1 (hL.1.2.symm.trans hL.1.1.symm) C.ow (C.ws _ hl) (C.ws _ h2) (C.ws _ h3) (C.ws _ h4) (by omega) (by have := sw_cats st; omega) (Nat.zero_le _) (Nat.zero_le _) (sw_dk C.dc hi) (k H locs ls hL hW b hb)
end G
/-- a contract out of the walk of a body -/
theorem sw_mk {β : Type} {Z : sw_Z} {l : Launch} {y : MethodName} {cc : ByteArray} {nL d : Nat} {ret : Option FieldType} {L : sw_Is} {dC : Nat → ClassId} {dI : Nat → Nat → Nat} {dA : Nat → ClassId} {ad : Nat → Nat} {σ : sw_St} {ψ : β → Option Value × sw_St} {o : Option β} {b : β} {av : List Value} {lv : List (Option Value)}
    (hy : plainName y.cls = true) (hZ : sw_Zok Z) (hI : sw_inj Z ad) (hdc : sw_dc cc L = true) (hlen : lv.length = nL) (hsl : (lg_sl av).length ≤ nL) (hlv : ∀ (j : Nat) (w : Value), lv[j]? = some (some w) → (j, w) ∈ lv_args 0 av) (hb : o = some b)
    (body : ∀ (p : Program) (e : Env) (R : Room) (M : State × MethodId × Array Value × List Frame × Method × Code), sw_Cx Z ((p, l, e, R), M, (dC, dI, dA, ad)) cc y.cls nL ret L d → sw_S Z ((p, l, e, R), M, (dC, dI, dA, ad)) ψ lv [] 0 σ o) : sw_M Z l y cc nL ret d dC dI dA ad av σ (ψ b) := by
  refine Met.ofW (cc := cc) (maxL := nL) (ret := ret) hy rfl ?_
  intro p e s m args below meth c s₁ B hml hv
  obtain ⟨rfl, hP, hK, hE⟩ := hv
  have hts := atoms_spec (ws := Cond.code y cc nL ret :: sw_WS) B.pre
  have hown : s.vm.findClass y.cls = some m.cls := findClass_of_methodNamed B.named
  have C : sw_Cx Z ((p, l, e, (headSpec (Cond.code y cc nL ret :: sw_WS) { frames := d, cells := 0, slots := 0, locals := 40 * d }).room), (s, m, av.toArray, below, meth, c), (dC, dI, dA, ad)) cc y.cls nL ret L d :=
    ⟨B.exec, B.bytes, hml, B.returns, B.notSynchronized, hown, fun w hw => hts w (List.mem_cons_of_mem _ hw), hK, hI, hZ, ⟨Nat.le_refl _, Nat.le_refl _⟩, hE, hdc⟩
  have hl := lv_entry av (n := nL) hsl
  rw [lg_entry_eq]
  refine body p e _ (s, m, av.toArray, below, meth, c) C s.heap [] _ ⟨⟨hl.1.trans hlen.symm, hlen.trans hml.symm⟩, hl.2.1, fun j w hj => hl.2.2 (j, w) (hlv j w hj)⟩ ⟨hP, va_S.rf⟩ b hb
theorem sw_args1 : ∀ (av : List Value) (i : Nat), (∀ v ∈ av, v.category = 1) → (lg_sl av).length = av.length ∧ ∀ (j : Nat) (w : Value), av[j]? = some w → (i + j, w) ∈ lv_args i av
  | [], i, _ => ⟨rfl, fun j w h => by simp at h⟩
  | v :: av, i, h => by
    have hv : v.category = 1 := h v List.mem_cons_self
    obtain ⟨h1, h2⟩ := sw_args1 av (i + 1) (fun w hw => h w (List.mem_cons_of_mem _ hw))
    have hne : ¬ v.category = 2 := by omega
    refine ⟨?_, fun j w hj => ?_⟩
    · unfold lg_sl at h1 ⊢
      simp [hne, h1]
    · unfold lv_args
      rw [if_neg hne]
      cases j with
      | zero =>
        have e : v = w := by simpa using hj
        rw [e]
        exact List.mem_cons_self
      | succ j =>
        have h3 := h2 j w (by simpa using hj)
        have e : i + 1 + j = i + (j + 1) := by omega
        rw [e] at h3
        exact List.mem_cons_of_mem _ h3
theorem sw_mk1 {β : Type} {Z : sw_Z} {l : Launch} {y : MethodName} {cc : ByteArray} {nL d : Nat} {ret : Option FieldType} {L : sw_Is} {dC : Nat → ClassId} {dI : Nat → Nat → Nat} {dA : Nat → ClassId} {ad : Nat → Nat} {σ : sw_St} {ψ : β → Option Value × sw_St} {o : Option β} {b : β} {av : List Value}
    (n : Nat) (hy : plainName y.cls = true) (hZ : sw_Zok Z) (hI : sw_inj Z ad) (hdc : sw_dc cc L = true) (hlen : av.length + n = nL) (hcat : ∀ v ∈ av, v.category = 1) (hb : o = some b)
    (body : ∀ (p : Program) (e : Env) (R : Room) (M : State × MethodId × Array Value × List Frame × Method × Code), sw_Cx Z ((p, l, e, R), M, (dC, dI, dA, ad)) cc y.cls nL ret L d → sw_S Z ((p, l, e, R), M, (dC, dI, dA, ad)) ψ (av.map some ++ List.replicate n none) [] 0 σ o) : sw_M Z l y cc nL ret d dC dI dA ad av σ (ψ b) := by
  obtain ⟨h1, h2⟩ := sw_args1 av 0 hcat
  refine sw_mk hy hZ hI hdc (by simp; omega) (by rw [h1]; omega) (fun j w hj => ?_) hb body
  by_cases hj1 : j < av.length
  · rw [List.getElem?_append_left (by simpa using hj1), List.getElem?_map] at hj
    cases ha : av[j]? with
    | none => rw [ha] at hj; cases hj
    | some x =>
      rw [ha] at hj
      cases hj
      have h3 := h2 j w ha
      rw [Nat.zero_add] at h3
      exact h3
  · rw [List.getElem?_append_right (by simpa using Nat.not_lt.mp hj1)] at hj
    rw [List.getElem?_replicate] at hj
    split at hj <;> cases hj
end
section
theorem zz_t : True := trivial
end
