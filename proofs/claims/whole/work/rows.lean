section
-- ===== PART A: goes FIRST, ahead of the names: the tables' words, and 'selects' of the private methods out of them =====
/-- a private method of a class that the tables say can be made, by its rows of tables_1 -/
def lw_okq (q : MethodName × Nat) : Prop := (q.1.cls ≠ "java/lang/invoke/MethodHandle" ∧ q.1.cls ≠ "java/lang/invoke/VarHandle") ∧ Cond.instantiable q.1.cls q.2 ∈ tables_1 ∧ Cond.privateMethod q.1 ∈ tables_1 ∧ Cond.instanceMethod q.1 ∈ tables_1
theorem lw_p0 : lw_okq (⟨"SkateBonds", "takeText", "(IIII)I"⟩, 10) := ⟨⟨by decide +kernel, by decide +kernel⟩, List.mem_of_getElem? (i := 14) (by decide +kernel), List.mem_of_getElem? (i := 192) (by decide +kernel), List.mem_of_getElem? (i := 193) (by decide +kernel)⟩
theorem lw_p1 : lw_okq (⟨"SkateBonds", "sheetAt", "(I)LSkateBonds$Sheet;"⟩, 10) := ⟨⟨by decide +kernel, by decide +kernel⟩, List.mem_of_getElem? (i := 14) (by decide +kernel), List.mem_of_getElem? (i := 196) (by decide +kernel), List.mem_of_getElem? (i := 197) (by decide +kernel)⟩
theorem lw_p2 : lw_okq (⟨"SkateBonds$Sheet", "isNothing", "()Z"⟩, 3) := ⟨⟨by decide +kernel, by decide +kernel⟩, List.mem_of_getElem? (i := 138) (by decide +kernel), List.mem_of_getElem? (i := 206) (by decide +kernel), List.mem_of_getElem? (i := 207) (by decide +kernel)⟩
theorem lw_p3 : lw_okq (⟨"SkateBonds$Sheet", "has", "(II)Z"⟩, 3) := ⟨⟨by decide +kernel, by decide +kernel⟩, List.mem_of_getElem? (i := 138) (by decide +kernel), List.mem_of_getElem? (i := 210) (by decide +kernel), List.mem_of_getElem? (i := 211) (by decide +kernel)⟩
theorem lw_p4 : lw_okq (⟨"SkateBonds$Text", "begin", "(LSkateBonds$Sheet;II)V"⟩, 4) := ⟨⟨by decide +kernel, by decide +kernel⟩, List.mem_of_getElem? (i := 24) (by decide +kernel), List.mem_of_getElem? (i := 215) (by decide +kernel), List.mem_of_getElem? (i := 216) (by decide +kernel)⟩
theorem lw_p5 : lw_okq (⟨"SkateBonds$Ice", "take", "(LSkateBonds$Text;)V"⟩, 6) := ⟨⟨by decide +kernel, by decide +kernel⟩, List.mem_of_getElem? (i := 90) (by decide +kernel), List.mem_of_getElem? (i := 222) (by decide +kernel), List.mem_of_getElem? (i := 223) (by decide +kernel)⟩
theorem lw_p6 : lw_okq (⟨"SkateBonds$Text", "sign", "(C)V"⟩, 4) := ⟨⟨by decide +kernel, by decide +kernel⟩, List.mem_of_getElem? (i := 24) (by decide +kernel), List.mem_of_getElem? (i := 226) (by decide +kernel), List.mem_of_getElem? (i := 227) (by decide +kernel)⟩
theorem lw_p7 : lw_okq (⟨"SkateBonds$Text", "take", "(II)I"⟩, 4) := ⟨⟨by decide +kernel, by decide +kernel⟩, List.mem_of_getElem? (i := 24) (by decide +kernel), List.mem_of_getElem? (i := 230) (by decide +kernel), List.mem_of_getElem? (i := 231) (by decide +kernel)⟩
theorem lw_p8 : lw_okq (⟨"SkateBonds$Text", "goesOn", "()Z"⟩, 4) := ⟨⟨by decide +kernel, by decide +kernel⟩, List.mem_of_getElem? (i := 24) (by decide +kernel), List.mem_of_getElem? (i := 234) (by decide +kernel), List.mem_of_getElem? (i := 235) (by decide +kernel)⟩
theorem lw_p9 : lw_okq (⟨"SkateBonds$Text", "digit", "(II)I"⟩, 4) := ⟨⟨by decide +kernel, by decide +kernel⟩, List.mem_of_getElem? (i := 24) (by decide +kernel), List.mem_of_getElem? (i := 239) (by decide +kernel), List.mem_of_getElem? (i := 240) (by decide +kernel)⟩
theorem lw_p10 : lw_okq (⟨"SkateBonds$Crew", "take", "(LSkateBonds$Text;)V"⟩, 3) := ⟨⟨by decide +kernel, by decide +kernel⟩, List.mem_of_getElem? (i := 120) (by decide +kernel), List.mem_of_getElem? (i := 243) (by decide +kernel), List.mem_of_getElem? (i := 244) (by decide +kernel)⟩
theorem lw_p11 : lw_okq (⟨"SkateBonds$Text", "kind", "()I"⟩, 4) := ⟨⟨by decide +kernel, by decide +kernel⟩, List.mem_of_getElem? (i := 24) (by decide +kernel), List.mem_of_getElem? (i := 249) (by decide +kernel), List.mem_of_getElem? (i := 250) (by decide +kernel)⟩
theorem lw_p12 : lw_okq (⟨"SkateBonds$Text", "end", "()V"⟩, 4) := ⟨⟨by decide +kernel, by decide +kernel⟩, List.mem_of_getElem? (i := 24) (by decide +kernel), List.mem_of_getElem? (i := 255) (by decide +kernel), List.mem_of_getElem? (i := 256) (by decide +kernel)⟩
theorem lw_p13 : lw_okq (⟨"SkateBonds", "changeToDraft", "()V"⟩, 10) := ⟨⟨by decide +kernel, by decide +kernel⟩, List.mem_of_getElem? (i := 14) (by decide +kernel), List.mem_of_getElem? (i := 259) (by decide +kernel), List.mem_of_getElem? (i := 260) (by decide +kernel)⟩
theorem lw_p14 : lw_okq (⟨"SkateBonds", "keepFault", "(I)I"⟩, 10) := ⟨⟨by decide +kernel, by decide +kernel⟩, List.mem_of_getElem? (i := 14) (by decide +kernel), List.mem_of_getElem? (i := 263) (by decide +kernel), List.mem_of_getElem? (i := 264) (by decide +kernel)⟩
theorem lw_p15 : lw_okq (⟨"SkateBonds$Crew", "has", "(I)Z"⟩, 3) := ⟨⟨by decide +kernel, by decide +kernel⟩, List.mem_of_getElem? (i := 120) (by decide +kernel), List.mem_of_getElem? (i := 271) (by decide +kernel), List.mem_of_getElem? (i := 272) (by decide +kernel)⟩
def lw_privs_1 : List (MethodName × Nat) := [(⟨"SkateBonds", "takeText", "(IIII)I"⟩, 10), (⟨"SkateBonds", "sheetAt", "(I)LSkateBonds$Sheet;"⟩, 10), (⟨"SkateBonds$Sheet", "isNothing", "()Z"⟩, 3), (⟨"SkateBonds$Sheet", "has", "(II)Z"⟩, 3), (⟨"SkateBonds$Text", "begin", "(LSkateBonds$Sheet;II)V"⟩, 4), (⟨"SkateBonds$Ice", "take", "(LSkateBonds$Text;)V"⟩, 6), (⟨"SkateBonds$Text", "sign", "(C)V"⟩, 4), (⟨"SkateBonds$Text", "take", "(II)I"⟩, 4), (⟨"SkateBonds$Text", "goesOn", "()Z"⟩, 4), (⟨"SkateBonds$Text", "digit", "(II)I"⟩, 4), (⟨"SkateBonds$Crew", "take", "(LSkateBonds$Text;)V"⟩, 3), (⟨"SkateBonds$Text", "kind", "()I"⟩, 4), (⟨"SkateBonds$Text", "end", "()V"⟩, 4), (⟨"SkateBonds", "changeToDraft", "()V"⟩, 10), (⟨"SkateBonds", "keepFault", "(I)I"⟩, 10), (⟨"SkateBonds$Crew", "has", "(I)Z"⟩, 3)]
theorem lw_r1 : ∀ q ∈ lw_privs_1, lw_okq q := List.forall_mem_cons.mpr ⟨lw_p0, List.forall_mem_cons.mpr ⟨lw_p1, List.forall_mem_cons.mpr ⟨lw_p2, List.forall_mem_cons.mpr ⟨lw_p3, List.forall_mem_cons.mpr ⟨lw_p4, List.forall_mem_cons.mpr ⟨lw_p5, List.forall_mem_cons.mpr ⟨lw_p6, List.forall_mem_cons.mpr ⟨lw_p7, List.forall_mem_cons.mpr ⟨lw_p8, List.forall_mem_cons.mpr ⟨lw_p9, List.forall_mem_cons.mpr ⟨lw_p10, List.forall_mem_cons.mpr ⟨lw_p11, List.forall_mem_cons.mpr ⟨lw_p12, List.forall_mem_cons.mpr ⟨lw_p13, List.forall_mem_cons.mpr ⟨lw_p14, List.forall_mem_cons.mpr ⟨lw_p15, fun _ h => absurd h List.not_mem_nil⟩⟩⟩⟩⟩⟩⟩⟩⟩⟩⟩⟩⟩⟩⟩⟩
theorem lw_p16 : lw_okq (⟨"SkateBonds$Crew", "load", "(I)I"⟩, 3) := ⟨⟨by decide +kernel, by decide +kernel⟩, List.mem_of_getElem? (i := 120) (by decide +kernel), List.mem_of_getElem? (i := 276) (by decide +kernel), List.mem_of_getElem? (i := 277) (by decide +kernel)⟩
theorem lw_p17 : lw_okq (⟨"SkateBonds$Ice", "bearing", "(II)I"⟩, 6) := ⟨⟨by decide +kernel, by decide +kernel⟩, List.mem_of_getElem? (i := 90) (by decide +kernel), List.mem_of_getElem? (i := 280) (by decide +kernel), List.mem_of_getElem? (i := 281) (by decide +kernel)⟩
theorem lw_p18 : lw_okq (⟨"SkateBonds$Ice", "cells", "()I"⟩, 6) := ⟨⟨by decide +kernel, by decide +kernel⟩, List.mem_of_getElem? (i := 90) (by decide +kernel), List.mem_of_getElem? (i := 284) (by decide +kernel), List.mem_of_getElem? (i := 285) (by decide +kernel)⟩
theorem lw_p19 : lw_okq (⟨"SkateBonds$Ice", "has", "(I)Z"⟩, 6) := ⟨⟨by decide +kernel, by decide +kernel⟩, List.mem_of_getElem? (i := 90) (by decide +kernel), List.mem_of_getElem? (i := 292) (by decide +kernel), List.mem_of_getElem? (i := 293) (by decide +kernel)⟩
theorem lw_p20 : lw_okq (⟨"SkateBonds", "refusalOfWeather", "(I)I"⟩, 10) := ⟨⟨by decide +kernel, by decide +kernel⟩, List.mem_of_getElem? (i := 14) (by decide +kernel), List.mem_of_getElem? (i := 305) (by decide +kernel), List.mem_of_getElem? (i := 306) (by decide +kernel)⟩
theorem lw_p21 : lw_okq (⟨"SkateBonds", "isDeedKnown", "(IIII)Z"⟩, 10) := ⟨⟨by decide +kernel, by decide +kernel⟩, List.mem_of_getElem? (i := 14) (by decide +kernel), List.mem_of_getElem? (i := 314) (by decide +kernel), List.mem_of_getElem? (i := 315) (by decide +kernel)⟩
theorem lw_p22 : lw_okq (⟨"SkateBonds", "isPair", "(II)Z"⟩, 10) := ⟨⟨by decide +kernel, by decide +kernel⟩, List.mem_of_getElem? (i := 14) (by decide +kernel), List.mem_of_getElem? (i := 318) (by decide +kernel), List.mem_of_getElem? (i := 319) (by decide +kernel)⟩
theorem lw_p23 : lw_okq (⟨"SkateBonds", "tryDeed", "(IIIIIII)I"⟩, 10) := ⟨⟨by decide +kernel, by decide +kernel⟩, List.mem_of_getElem? (i := 14) (by decide +kernel), List.mem_of_getElem? (i := 322) (by decide +kernel), List.mem_of_getElem? (i := 323) (by decide +kernel)⟩
theorem lw_p24 : lw_okq (⟨"SkateBonds$Deed", "begin", "(LSkateBonds$Ice;I)V"⟩, 4) := ⟨⟨by decide +kernel, by decide +kernel⟩, List.mem_of_getElem? (i := 46) (by decide +kernel), List.mem_of_getElem? (i := 329) (by decide +kernel), List.mem_of_getElem? (i := 330) (by decide +kernel)⟩
theorem lw_p25 : lw_okq (⟨"SkateBonds$Deed", "stroke", "(LSkateBonds$Ice;III)V"⟩, 4) := ⟨⟨by decide +kernel, by decide +kernel⟩, List.mem_of_getElem? (i := 46) (by decide +kernel), List.mem_of_getElem? (i := 334) (by decide +kernel), List.mem_of_getElem? (i := 335) (by decide +kernel)⟩
theorem lw_p26 : lw_okq (⟨"SkateBonds$Ice", "led", "(II)I"⟩, 6) := ⟨⟨by decide +kernel, by decide +kernel⟩, List.mem_of_getElem? (i := 90) (by decide +kernel), List.mem_of_getElem? (i := 338) (by decide +kernel), List.mem_of_getElem? (i := 339) (by decide +kernel)⟩
theorem lw_p27 : lw_okq (⟨"SkateBonds", "ofTrial", "(II)I"⟩, 10) := ⟨⟨by decide +kernel, by decide +kernel⟩, List.mem_of_getElem? (i := 14) (by decide +kernel), List.mem_of_getElem? (i := 345) (by decide +kernel), List.mem_of_getElem? (i := 346) (by decide +kernel)⟩
theorem lw_p28 : lw_okq (⟨"SkateBonds$Ice", "strengthen", "(I)V"⟩, 6) := ⟨⟨by decide +kernel, by decide +kernel⟩, List.mem_of_getElem? (i := 90) (by decide +kernel), List.mem_of_getElem? (i := 358) (by decide +kernel), List.mem_of_getElem? (i := 359) (by decide +kernel)⟩
theorem lw_p29 : lw_okq (⟨"SkateBonds$Ice", "count", "(I)I"⟩, 6) := ⟨⟨by decide +kernel, by decide +kernel⟩, List.mem_of_getElem? (i := 90) (by decide +kernel), List.mem_of_getElem? (i := 368) (by decide +kernel), List.mem_of_getElem? (i := 369) (by decide +kernel)⟩
theorem lw_p30 : lw_okq (⟨"SkateBonds", "isBondKnown", "(IIII)Z"⟩, 10) := ⟨⟨by decide +kernel, by decide +kernel⟩, List.mem_of_getElem? (i := 14) (by decide +kernel), List.mem_of_getElem? (i := 380) (by decide +kernel), List.mem_of_getElem? (i := 381) (by decide +kernel)⟩
theorem lw_p31 : lw_okq (⟨"SkateBonds$Ice", "shortest", "(IIII)I"⟩, 6) := ⟨⟨by decide +kernel, by decide +kernel⟩, List.mem_of_getElem? (i := 90) (by decide +kernel), List.mem_of_getElem? (i := 384) (by decide +kernel), List.mem_of_getElem? (i := 385) (by decide +kernel)⟩
def lw_privs_2 : List (MethodName × Nat) := [(⟨"SkateBonds$Crew", "load", "(I)I"⟩, 3), (⟨"SkateBonds$Ice", "bearing", "(II)I"⟩, 6), (⟨"SkateBonds$Ice", "cells", "()I"⟩, 6), (⟨"SkateBonds$Ice", "has", "(I)Z"⟩, 6), (⟨"SkateBonds", "refusalOfWeather", "(I)I"⟩, 10), (⟨"SkateBonds", "isDeedKnown", "(IIII)Z"⟩, 10), (⟨"SkateBonds", "isPair", "(II)Z"⟩, 10), (⟨"SkateBonds", "tryDeed", "(IIIIIII)I"⟩, 10), (⟨"SkateBonds$Deed", "begin", "(LSkateBonds$Ice;I)V"⟩, 4), (⟨"SkateBonds$Deed", "stroke", "(LSkateBonds$Ice;III)V"⟩, 4), (⟨"SkateBonds$Ice", "led", "(II)I"⟩, 6), (⟨"SkateBonds", "ofTrial", "(II)I"⟩, 10), (⟨"SkateBonds$Ice", "strengthen", "(I)V"⟩, 6), (⟨"SkateBonds$Ice", "count", "(I)I"⟩, 6), (⟨"SkateBonds", "isBondKnown", "(IIII)Z"⟩, 10), (⟨"SkateBonds$Ice", "shortest", "(IIII)I"⟩, 6)]
theorem lw_r2 : ∀ q ∈ lw_privs_2, lw_okq q := List.forall_mem_cons.mpr ⟨lw_p16, List.forall_mem_cons.mpr ⟨lw_p17, List.forall_mem_cons.mpr ⟨lw_p18, List.forall_mem_cons.mpr ⟨lw_p19, List.forall_mem_cons.mpr ⟨lw_p20, List.forall_mem_cons.mpr ⟨lw_p21, List.forall_mem_cons.mpr ⟨lw_p22, List.forall_mem_cons.mpr ⟨lw_p23, List.forall_mem_cons.mpr ⟨lw_p24, List.forall_mem_cons.mpr ⟨lw_p25, List.forall_mem_cons.mpr ⟨lw_p26, List.forall_mem_cons.mpr ⟨lw_p27, List.forall_mem_cons.mpr ⟨lw_p28, List.forall_mem_cons.mpr ⟨lw_p29, List.forall_mem_cons.mpr ⟨lw_p30, List.forall_mem_cons.mpr ⟨lw_p31, fun _ h => absurd h List.not_mem_nil⟩⟩⟩⟩⟩⟩⟩⟩⟩⟩⟩⟩⟩⟩⟩⟩
theorem lw_p32 : lw_okq (⟨"SkateBonds$Ice", "nextTo", "(I)I"⟩, 6) := ⟨⟨by decide +kernel, by decide +kernel⟩, List.mem_of_getElem? (i := 90) (by decide +kernel), List.mem_of_getElem? (i := 388) (by decide +kernel), List.mem_of_getElem? (i := 389) (by decide +kernel)⟩
theorem lw_p33 : lw_okq (⟨"SkateBonds$Ice", "all", "()I"⟩, 6) := ⟨⟨by decide +kernel, by decide +kernel⟩, List.mem_of_getElem? (i := 90) (by decide +kernel), List.mem_of_getElem? (i := 392) (by decide +kernel), List.mem_of_getElem? (i := 393) (by decide +kernel)⟩
theorem lw_p34 : lw_okq (⟨"SkateBonds$Ice", "strokeOfBond", "(IIIII)I"⟩, 6) := ⟨⟨by decide +kernel, by decide +kernel⟩, List.mem_of_getElem? (i := 90) (by decide +kernel), List.mem_of_getElem? (i := 396) (by decide +kernel), List.mem_of_getElem? (i := 397) (by decide +kernel)⟩
theorem lw_p35 : lw_okq (⟨"SkateBonds$Ice", "beginOfBond", "(IIII)I"⟩, 6) := ⟨⟨by decide +kernel, by decide +kernel⟩, List.mem_of_getElem? (i := 90) (by decide +kernel), List.mem_of_getElem? (i := 400) (by decide +kernel), List.mem_of_getElem? (i := 401) (by decide +kernel)⟩
theorem lw_p36 : lw_okq (⟨"SkateBonds$Ice", "reach", "(II)I"⟩, 6) := ⟨⟨by decide +kernel, by decide +kernel⟩, List.mem_of_getElem? (i := 90) (by decide +kernel), List.mem_of_getElem? (i := 414) (by decide +kernel), List.mem_of_getElem? (i := 415) (by decide +kernel)⟩
theorem lw_p37 : lw_okq (⟨"SkateBonds", "isBond", "(IIIII)Z"⟩, 10) := ⟨⟨by decide +kernel, by decide +kernel⟩, List.mem_of_getElem? (i := 14) (by decide +kernel), List.mem_of_getElem? (i := 422) (by decide +kernel), List.mem_of_getElem? (i := 423) (by decide +kernel)⟩
theorem lw_p38 : lw_okq (⟨"SkateBonds$Readings", "add", "(IIZ)I"⟩, 4) := ⟨⟨by decide +kernel, by decide +kernel⟩, List.mem_of_getElem? (i := 69) (by decide +kernel), List.mem_of_getElem? (i := 430) (by decide +kernel), List.mem_of_getElem? (i := 431) (by decide +kernel)⟩
theorem lw_p39 : lw_okq (⟨"SkateBonds$Readings", "areSo", "(LSkateBonds$Ice;LSkateBonds$Crew;)Z"⟩, 4) := ⟨⟨by decide +kernel, by decide +kernel⟩, List.mem_of_getElem? (i := 69) (by decide +kernel), List.mem_of_getElem? (i := 442) (by decide +kernel), List.mem_of_getElem? (i := 443) (by decide +kernel)⟩
theorem lw_p40 : lw_okq (⟨"SkateBonds", "bondsAsBreaking", "(IIIII)I"⟩, 10) := ⟨⟨by decide +kernel, by decide +kernel⟩, List.mem_of_getElem? (i := 14) (by decide +kernel), List.mem_of_getElem? (i := 467) (by decide +kernel), List.mem_of_getElem? (i := 468) (by decide +kernel)⟩
theorem lw_p41 : lw_okq (⟨"SkateBonds", "newRow", "(III)I"⟩, 10) := ⟨⟨by decide +kernel, by decide +kernel⟩, List.mem_of_getElem? (i := 14) (by decide +kernel), List.mem_of_getElem? (i := 475) (by decide +kernel), List.mem_of_getElem? (i := 476) (by decide +kernel)⟩
theorem lw_p42 : lw_okq (⟨"SkateBonds$Sheet", "begin", "(II)V"⟩, 3) := ⟨⟨by decide +kernel, by decide +kernel⟩, List.mem_of_getElem? (i := 138) (by decide +kernel), List.mem_of_getElem? (i := 479) (by decide +kernel), List.mem_of_getElem? (i := 480) (by decide +kernel)⟩
theorem lw_p43 : lw_okq (⟨"SkateBonds$Sheet", "clear", "()V"⟩, 3) := ⟨⟨by decide +kernel, by decide +kernel⟩, List.mem_of_getElem? (i := 138) (by decide +kernel), List.mem_of_getElem? (i := 490) (by decide +kernel), List.mem_of_getElem? (i := 491) (by decide +kernel)⟩
theorem lw_p44 : lw_okq (⟨"SkateBonds", "putNumber", "(III)I"⟩, 10) := ⟨⟨by decide +kernel, by decide +kernel⟩, List.mem_of_getElem? (i := 14) (by decide +kernel), List.mem_of_getElem? (i := 498) (by decide +kernel), List.mem_of_getElem? (i := 499) (by decide +kernel)⟩
theorem lw_p45 : lw_okq (⟨"SkateBonds$Sheet", "set", "(II)V"⟩, 3) := ⟨⟨by decide +kernel, by decide +kernel⟩, List.mem_of_getElem? (i := 138) (by decide +kernel), List.mem_of_getElem? (i := 502) (by decide +kernel), List.mem_of_getElem? (i := 503) (by decide +kernel)⟩
theorem lw_p46 : lw_okq (⟨"SkateBonds", "copyNumbers", "(IIIII)I"⟩, 10) := ⟨⟨by decide +kernel, by decide +kernel⟩, List.mem_of_getElem? (i := 14) (by decide +kernel), List.mem_of_getElem? (i := 514) (by decide +kernel), List.mem_of_getElem? (i := 515) (by decide +kernel)⟩
theorem lw_p47 : lw_okq (⟨"SkateBonds", "bankerGives", "(I)I"⟩, 10) := ⟨⟨by decide +kernel, by decide +kernel⟩, List.mem_of_getElem? (i := 14) (by decide +kernel), List.mem_of_getElem? (i := 522) (by decide +kernel), List.mem_of_getElem? (i := 523) (by decide +kernel)⟩
def lw_privs_3 : List (MethodName × Nat) := [(⟨"SkateBonds$Ice", "nextTo", "(I)I"⟩, 6), (⟨"SkateBonds$Ice", "all", "()I"⟩, 6), (⟨"SkateBonds$Ice", "strokeOfBond", "(IIIII)I"⟩, 6), (⟨"SkateBonds$Ice", "beginOfBond", "(IIII)I"⟩, 6), (⟨"SkateBonds$Ice", "reach", "(II)I"⟩, 6), (⟨"SkateBonds", "isBond", "(IIIII)Z"⟩, 10), (⟨"SkateBonds$Readings", "add", "(IIZ)I"⟩, 4), (⟨"SkateBonds$Readings", "areSo", "(LSkateBonds$Ice;LSkateBonds$Crew;)Z"⟩, 4), (⟨"SkateBonds", "bondsAsBreaking", "(IIIII)I"⟩, 10), (⟨"SkateBonds", "newRow", "(III)I"⟩, 10), (⟨"SkateBonds$Sheet", "begin", "(II)V"⟩, 3), (⟨"SkateBonds$Sheet", "clear", "()V"⟩, 3), (⟨"SkateBonds", "putNumber", "(III)I"⟩, 10), (⟨"SkateBonds$Sheet", "set", "(II)V"⟩, 3), (⟨"SkateBonds", "copyNumbers", "(IIIII)I"⟩, 10), (⟨"SkateBonds", "bankerGives", "(I)I"⟩, 10)]
theorem lw_r3 : ∀ q ∈ lw_privs_3, lw_okq q := List.forall_mem_cons.mpr ⟨lw_p32, List.forall_mem_cons.mpr ⟨lw_p33, List.forall_mem_cons.mpr ⟨lw_p34, List.forall_mem_cons.mpr ⟨lw_p35, List.forall_mem_cons.mpr ⟨lw_p36, List.forall_mem_cons.mpr ⟨lw_p37, List.forall_mem_cons.mpr ⟨lw_p38, List.forall_mem_cons.mpr ⟨lw_p39, List.forall_mem_cons.mpr ⟨lw_p40, List.forall_mem_cons.mpr ⟨lw_p41, List.forall_mem_cons.mpr ⟨lw_p42, List.forall_mem_cons.mpr ⟨lw_p43, List.forall_mem_cons.mpr ⟨lw_p44, List.forall_mem_cons.mpr ⟨lw_p45, List.forall_mem_cons.mpr ⟨lw_p46, List.forall_mem_cons.mpr ⟨lw_p47, fun _ h => absurd h List.not_mem_nil⟩⟩⟩⟩⟩⟩⟩⟩⟩⟩⟩⟩⟩⟩⟩⟩
theorem lw_p48 : lw_okq (⟨"SkateBonds", "leave", "(I)V"⟩, 10) := ⟨⟨by decide +kernel, by decide +kernel⟩, List.mem_of_getElem? (i := 14) (by decide +kernel), List.mem_of_getElem? (i := 526) (by decide +kernel), List.mem_of_getElem? (i := 527) (by decide +kernel)⟩
theorem lw_p49 : lw_okq (⟨"SkateBonds", "clerkGives", "(I)I"⟩, 10) := ⟨⟨by decide +kernel, by decide +kernel⟩, List.mem_of_getElem? (i := 14) (by decide +kernel), List.mem_of_getElem? (i := 530) (by decide +kernel), List.mem_of_getElem? (i := 531) (by decide +kernel)⟩
theorem lw_p50 : lw_okq (⟨"SkateBonds", "skaterGives", "(I)I"⟩, 10) := ⟨⟨by decide +kernel, by decide +kernel⟩, List.mem_of_getElem? (i := 14) (by decide +kernel), List.mem_of_getElem? (i := 534) (by decide +kernel), List.mem_of_getElem? (i := 535) (by decide +kernel)⟩
theorem lw_p51 : lw_okq (⟨"SkateBonds", "takeAs", "(II)I"⟩, 10) := ⟨⟨by decide +kernel, by decide +kernel⟩, List.mem_of_getElem? (i := 14) (by decide +kernel), List.mem_of_getElem? (i := 546) (by decide +kernel), List.mem_of_getElem? (i := 547) (by decide +kernel)⟩
theorem lw_p52 : lw_okq (⟨"SkateBondsModel", "refused", "(I)I"⟩, 32) := ⟨⟨by decide +kernel, by decide +kernel⟩, List.mem_of_getElem? (i := 562) (by decide +kernel), List.mem_of_getElem? (i := 676) (by decide +kernel), List.mem_of_getElem? (i := 677) (by decide +kernel)⟩
theorem lw_p53 : lw_okq (⟨"SkateBondsModel", "cellsBarred", "(IIIJ)I"⟩, 32) := ⟨⟨by decide +kernel, by decide +kernel⟩, List.mem_of_getElem? (i := 562) (by decide +kernel), List.mem_of_getElem? (i := 681) (by decide +kernel), List.mem_of_getElem? (i := 682) (by decide +kernel)⟩
theorem lw_p54 : lw_okq (⟨"SkateBondsModel", "failed", "(I)I"⟩, 32) := ⟨⟨by decide +kernel, by decide +kernel⟩, List.mem_of_getElem? (i := 562) (by decide +kernel), List.mem_of_getElem? (i := 685) (by decide +kernel), List.mem_of_getElem? (i := 686) (by decide +kernel)⟩
theorem lw_p55 : lw_okq (⟨"SkateBondsModel", "readsCanal", "(II)Z"⟩, 32) := ⟨⟨by decide +kernel, by decide +kernel⟩, List.mem_of_getElem? (i := 562) (by decide +kernel), List.mem_of_getElem? (i := 692) (by decide +kernel), List.mem_of_getElem? (i := 693) (by decide +kernel)⟩
theorem lw_p56 : lw_okq (⟨"SkateBondsModel", "codeAt", "(II)I"⟩, 32) := ⟨⟨by decide +kernel, by decide +kernel⟩, List.mem_of_getElem? (i := 562) (by decide +kernel), List.mem_of_getElem? (i := 696) (by decide +kernel), List.mem_of_getElem? (i := 697) (by decide +kernel)⟩
theorem lw_p57 : lw_okq (⟨"SkateBondsModel", "figure", "(IIII)I"⟩, 32) := ⟨⟨by decide +kernel, by decide +kernel⟩, List.mem_of_getElem? (i := 562) (by decide +kernel), List.mem_of_getElem? (i := 700) (by decide +kernel), List.mem_of_getElem? (i := 701) (by decide +kernel)⟩
theorem lw_p58 : lw_okq (⟨"SkateBondsModel", "readsPlace", "(III)Z"⟩, 32) := ⟨⟨by decide +kernel, by decide +kernel⟩, List.mem_of_getElem? (i := 562) (by decide +kernel), List.mem_of_getElem? (i := 704) (by decide +kernel), List.mem_of_getElem? (i := 705) (by decide +kernel)⟩
theorem lw_p59 : lw_okq (⟨"SkateBondsModel", "readsSkater", "(II)Z"⟩, 32) := ⟨⟨by decide +kernel, by decide +kernel⟩, List.mem_of_getElem? (i := 562) (by decide +kernel), List.mem_of_getElem? (i := 708) (by decide +kernel), List.mem_of_getElem? (i := 709) (by decide +kernel)⟩
theorem lw_p60 : lw_okq (⟨"SkateBondsModel", "cells", "()I"⟩, 32) := ⟨⟨by decide +kernel, by decide +kernel⟩, List.mem_of_getElem? (i := 562) (by decide +kernel), List.mem_of_getElem? (i := 712) (by decide +kernel), List.mem_of_getElem? (i := 713) (by decide +kernel)⟩
theorem lw_p61 : lw_okq (⟨"SkateBondsModel", "noSkater", "(I)Z"⟩, 32) := ⟨⟨by decide +kernel, by decide +kernel⟩, List.mem_of_getElem? (i := 562) (by decide +kernel), List.mem_of_getElem? (i := 720) (by decide +kernel), List.mem_of_getElem? (i := 721) (by decide +kernel)⟩
theorem lw_p62 : lw_okq (⟨"SkateBondsModel", "loadOf", "(I)I"⟩, 32) := ⟨⟨by decide +kernel, by decide +kernel⟩, List.mem_of_getElem? (i := 562) (by decide +kernel), List.mem_of_getElem? (i := 724) (by decide +kernel), List.mem_of_getElem? (i := 725) (by decide +kernel)⟩
theorem lw_p63 : lw_okq (⟨"SkateBondsModel", "bearingOf", "(I)I"⟩, 32) := ⟨⟨by decide +kernel, by decide +kernel⟩, List.mem_of_getElem? (i := 562) (by decide +kernel), List.mem_of_getElem? (i := 728) (by decide +kernel), List.mem_of_getElem? (i := 729) (by decide +kernel)⟩
def lw_privs_4 : List (MethodName × Nat) := [(⟨"SkateBonds", "leave", "(I)V"⟩, 10), (⟨"SkateBonds", "clerkGives", "(I)I"⟩, 10), (⟨"SkateBonds", "skaterGives", "(I)I"⟩, 10), (⟨"SkateBonds", "takeAs", "(II)I"⟩, 10), (⟨"SkateBondsModel", "refused", "(I)I"⟩, 32), (⟨"SkateBondsModel", "cellsBarred", "(IIIJ)I"⟩, 32), (⟨"SkateBondsModel", "failed", "(I)I"⟩, 32), (⟨"SkateBondsModel", "readsCanal", "(II)Z"⟩, 32), (⟨"SkateBondsModel", "codeAt", "(II)I"⟩, 32), (⟨"SkateBondsModel", "figure", "(IIII)I"⟩, 32), (⟨"SkateBondsModel", "readsPlace", "(III)Z"⟩, 32), (⟨"SkateBondsModel", "readsSkater", "(II)Z"⟩, 32), (⟨"SkateBondsModel", "cells", "()I"⟩, 32), (⟨"SkateBondsModel", "noSkater", "(I)Z"⟩, 32), (⟨"SkateBondsModel", "loadOf", "(I)I"⟩, 32), (⟨"SkateBondsModel", "bearingOf", "(I)I"⟩, 32)]
theorem lw_r4 : ∀ q ∈ lw_privs_4, lw_okq q := List.forall_mem_cons.mpr ⟨lw_p48, List.forall_mem_cons.mpr ⟨lw_p49, List.forall_mem_cons.mpr ⟨lw_p50, List.forall_mem_cons.mpr ⟨lw_p51, List.forall_mem_cons.mpr ⟨lw_p52, List.forall_mem_cons.mpr ⟨lw_p53, List.forall_mem_cons.mpr ⟨lw_p54, List.forall_mem_cons.mpr ⟨lw_p55, List.forall_mem_cons.mpr ⟨lw_p56, List.forall_mem_cons.mpr ⟨lw_p57, List.forall_mem_cons.mpr ⟨lw_p58, List.forall_mem_cons.mpr ⟨lw_p59, List.forall_mem_cons.mpr ⟨lw_p60, List.forall_mem_cons.mpr ⟨lw_p61, List.forall_mem_cons.mpr ⟨lw_p62, List.forall_mem_cons.mpr ⟨lw_p63, fun _ h => absurd h List.not_mem_nil⟩⟩⟩⟩⟩⟩⟩⟩⟩⟩⟩⟩⟩⟩⟩⟩
theorem lw_p64 : lw_okq (⟨"SkateBondsModel", "bears", "(II)Z"⟩, 32) := ⟨⟨by decide +kernel, by decide +kernel⟩, List.mem_of_getElem? (i := 562) (by decide +kernel), List.mem_of_getElem? (i := 732) (by decide +kernel), List.mem_of_getElem? (i := 733) (by decide +kernel)⟩
theorem lw_p65 : lw_okq (⟨"SkateBondsModel", "noPlace", "(I)Z"⟩, 32) := ⟨⟨by decide +kernel, by decide +kernel⟩, List.mem_of_getElem? (i := 562) (by decide +kernel), List.mem_of_getElem? (i := 743) (by decide +kernel), List.mem_of_getElem? (i := 744) (by decide +kernel)⟩
theorem lw_p66 : lw_okq (⟨"SkateBondsModel", "noTwo", "(II)Z"⟩, 32) := ⟨⟨by decide +kernel, by decide +kernel⟩, List.mem_of_getElem? (i := 562) (by decide +kernel), List.mem_of_getElem? (i := 760) (by decide +kernel), List.mem_of_getElem? (i := 761) (by decide +kernel)⟩
theorem lw_p67 : lw_okq (⟨"SkateBondsModel", "strokesBarred", "(IIII)I"⟩, 32) := ⟨⟨by decide +kernel, by decide +kernel⟩, List.mem_of_getElem? (i := 562) (by decide +kernel), List.mem_of_getElem? (i := 766) (by decide +kernel), List.mem_of_getElem? (i := 767) (by decide +kernel)⟩
theorem lw_p68 : lw_okq (⟨"SkateBondsModel", "keep", "()V"⟩, 32) := ⟨⟨by decide +kernel, by decide +kernel⟩, List.mem_of_getElem? (i := 562) (by decide +kernel), List.mem_of_getElem? (i := 770) (by decide +kernel), List.mem_of_getElem? (i := 771) (by decide +kernel)⟩
theorem lw_p69 : lw_okq (⟨"SkateBondsModel", "goDeed", "(IIIII)V"⟩, 32) := ⟨⟨by decide +kernel, by decide +kernel⟩, List.mem_of_getElem? (i := 562) (by decide +kernel), List.mem_of_getElem? (i := 774) (by decide +kernel), List.mem_of_getElem? (i := 775) (by decide +kernel)⟩
theorem lw_p70 : lw_okq (⟨"SkateBondsModel", "beside", "(II)I"⟩, 32) := ⟨⟨by decide +kernel, by decide +kernel⟩, List.mem_of_getElem? (i := 562) (by decide +kernel), List.mem_of_getElem? (i := 778) (by decide +kernel), List.mem_of_getElem? (i := 779) (by decide +kernel)⟩
theorem lw_p71 : lw_okq (⟨"SkateBondsModel", "putBack", "()V"⟩, 32) := ⟨⟨by decide +kernel, by decide +kernel⟩, List.mem_of_getElem? (i := 562) (by decide +kernel), List.mem_of_getElem? (i := 782) (by decide +kernel), List.mem_of_getElem? (i := 783) (by decide +kernel)⟩
theorem lw_p72 : lw_okq (⟨"SkateBondsModel", "countOf", "(I)I"⟩, 32) := ⟨⟨by decide +kernel, by decide +kernel⟩, List.mem_of_getElem? (i := 562) (by decide +kernel), List.mem_of_getElem? (i := 794) (by decide +kernel), List.mem_of_getElem? (i := 795) (by decide +kernel)⟩
theorem lw_p73 : lw_okq (⟨"SkateBondsModel", "goBond", "(III)V"⟩, 32) := ⟨⟨by decide +kernel, by decide +kernel⟩, List.mem_of_getElem? (i := 562) (by decide +kernel), List.mem_of_getElem? (i := 808) (by decide +kernel), List.mem_of_getElem? (i := 809) (by decide +kernel)⟩
theorem lw_p74 : lw_okq (⟨"SkateBondsModel", "leftBy", "(III)I"⟩, 32) := ⟨⟨by decide +kernel, by decide +kernel⟩, List.mem_of_getElem? (i := 562) (by decide +kernel), List.mem_of_getElem? (i := 812) (by decide +kernel), List.mem_of_getElem? (i := 813) (by decide +kernel)⟩
theorem lw_p75 : lw_okq (⟨"SkateBondsModel", "strokeBy", "(IIII)I"⟩, 32) := ⟨⟨by decide +kernel, by decide +kernel⟩, List.mem_of_getElem? (i := 562) (by decide +kernel), List.mem_of_getElem? (i := 816) (by decide +kernel), List.mem_of_getElem? (i := 817) (by decide +kernel)⟩
theorem lw_p76 : lw_okq (⟨"SkateBondsModel", "isBond", "(IIII)Z"⟩, 32) := ⟨⟨by decide +kernel, by decide +kernel⟩, List.mem_of_getElem? (i := 562) (by decide +kernel), List.mem_of_getElem? (i := 824) (by decide +kernel), List.mem_of_getElem? (i := 825) (by decide +kernel)⟩
theorem lw_p77 : lw_okq (⟨"SkateBondsModel", "areSo", "()Z"⟩, 32) := ⟨⟨by decide +kernel, by decide +kernel⟩, List.mem_of_getElem? (i := 562) (by decide +kernel), List.mem_of_getElem? (i := 848) (by decide +kernel), List.mem_of_getElem? (i := 849) (by decide +kernel)⟩
theorem lw_p78 : lw_okq (⟨"SkateBondsModel", "noCell", "(II)I"⟩, 32) := ⟨⟨by decide +kernel, by decide +kernel⟩, List.mem_of_getElem? (i := 562) (by decide +kernel), List.mem_of_getElem? (i := 886) (by decide +kernel), List.mem_of_getElem? (i := 887) (by decide +kernel)⟩
theorem lw_p79 : lw_okq (⟨"SkateBondsModel", "failedLong", "(I)J"⟩, 32) := ⟨⟨by decide +kernel, by decide +kernel⟩, List.mem_of_getElem? (i := 562) (by decide +kernel), List.mem_of_getElem? (i := 894) (by decide +kernel), List.mem_of_getElem? (i := 895) (by decide +kernel)⟩
def lw_privs_5 : List (MethodName × Nat) := [(⟨"SkateBondsModel", "bears", "(II)Z"⟩, 32), (⟨"SkateBondsModel", "noPlace", "(I)Z"⟩, 32), (⟨"SkateBondsModel", "noTwo", "(II)Z"⟩, 32), (⟨"SkateBondsModel", "strokesBarred", "(IIII)I"⟩, 32), (⟨"SkateBondsModel", "keep", "()V"⟩, 32), (⟨"SkateBondsModel", "goDeed", "(IIIII)V"⟩, 32), (⟨"SkateBondsModel", "beside", "(II)I"⟩, 32), (⟨"SkateBondsModel", "putBack", "()V"⟩, 32), (⟨"SkateBondsModel", "countOf", "(I)I"⟩, 32), (⟨"SkateBondsModel", "goBond", "(III)V"⟩, 32), (⟨"SkateBondsModel", "leftBy", "(III)I"⟩, 32), (⟨"SkateBondsModel", "strokeBy", "(IIII)I"⟩, 32), (⟨"SkateBondsModel", "isBond", "(IIII)Z"⟩, 32), (⟨"SkateBondsModel", "areSo", "()Z"⟩, 32), (⟨"SkateBondsModel", "noCell", "(II)I"⟩, 32), (⟨"SkateBondsModel", "failedLong", "(I)J"⟩, 32)]
theorem lw_r5 : ∀ q ∈ lw_privs_5, lw_okq q := List.forall_mem_cons.mpr ⟨lw_p64, List.forall_mem_cons.mpr ⟨lw_p65, List.forall_mem_cons.mpr ⟨lw_p66, List.forall_mem_cons.mpr ⟨lw_p67, List.forall_mem_cons.mpr ⟨lw_p68, List.forall_mem_cons.mpr ⟨lw_p69, List.forall_mem_cons.mpr ⟨lw_p70, List.forall_mem_cons.mpr ⟨lw_p71, List.forall_mem_cons.mpr ⟨lw_p72, List.forall_mem_cons.mpr ⟨lw_p73, List.forall_mem_cons.mpr ⟨lw_p74, List.forall_mem_cons.mpr ⟨lw_p75, List.forall_mem_cons.mpr ⟨lw_p76, List.forall_mem_cons.mpr ⟨lw_p77, List.forall_mem_cons.mpr ⟨lw_p78, List.forall_mem_cons.mpr ⟨lw_p79, fun _ h => absurd h List.not_mem_nil⟩⟩⟩⟩⟩⟩⟩⟩⟩⟩⟩⟩⟩⟩⟩⟩
theorem lw_p80 : lw_okq (⟨"SkateBondsModel", "traced", "(I)V"⟩, 32) := ⟨⟨by decide +kernel, by decide +kernel⟩, List.mem_of_getElem? (i := 562) (by decide +kernel), List.mem_of_getElem? (i := 906) (by decide +kernel), List.mem_of_getElem? (i := 907) (by decide +kernel)⟩
def lw_privs_6 : List (MethodName × Nat) := [(⟨"SkateBondsModel", "traced", "(I)V"⟩, 32)]
theorem lw_r6 : ∀ q ∈ lw_privs_6, lw_okq q := List.forall_mem_cons.mpr ⟨lw_p80, fun _ h => absurd h List.not_mem_nil⟩
def lw_privs : List (MethodName × Nat) := lw_privs_1 ++ (lw_privs_2 ++ (lw_privs_3 ++ (lw_privs_4 ++ (lw_privs_5 ++ (lw_privs_6)))))
def lw_tbl : List Cond := k2_sels lw_privs ++ tables_1
theorem lw_privs_ok : ∀ q ∈ lw_privs, lw_okq q := by
  show ∀ q ∈ lw_privs_1 ++ (lw_privs_2 ++ (lw_privs_3 ++ (lw_privs_4 ++ (lw_privs_5 ++ (lw_privs_6))))), lw_okq q
  exact List.forall_mem_append.mpr ⟨lw_r1, List.forall_mem_append.mpr ⟨lw_r2, List.forall_mem_append.mpr ⟨lw_r3, List.forall_mem_append.mpr ⟨lw_r4, List.forall_mem_append.mpr ⟨lw_r5, lw_r6⟩⟩⟩⟩⟩
-- ===== end of PART A; then your names; then what follows =====
end
section

/-! ===== BEGIN printed: names, fields, word lists, decode rows ===== -/
def RX0 : String := "SkateBonds$Crew"
def TX0 : u_T := fun k => match k with
  | 0 => ("SkateBonds$Crew", "kinds", "[I", true)
  | 1 => ("SkateBonds$Crew", "weights", "[I", true)
  | _ => ("SkateBonds$Crew", "count", "I", false)
def tyX0 : Nat → FieldType := fun k => match k with
  | 0 => .array .int
  | 1 => .array .int
  | _ => .int
abbrev wsX00 : List Cond := u_ws RX0 TX0 3
theorem nmX0 : ∀ a, a < 3 → ∀ b, b < 3 → a ≠ b → (TX0 a).2.1 ≠ (TX0 b).2.1 := by decide +kernel
theorem tyX0_ok : ∀ k, k < 3 → parseFieldDescriptor (TX0 k).2.2.1 = some (tyX0 k) := by decide +kernel
abbrev cX0_init : ByteArray := prog_2_method_1_code
def yX0_init : MethodName := ⟨RX0, "<init>", "()V"⟩
abbrev cX0_take : ByteArray := prog_2_method_2_code
def yX0_take : MethodName := ⟨RX0, "take", "(LSkateBonds$Text;)V"⟩
abbrev cX0_has : ByteArray := prog_2_method_3_code
def yX0_has : MethodName := ⟨RX0, "has", "(I)Z"⟩
abbrev cX0_load : ByteArray := prog_2_method_4_code
def yX0_load : MethodName := ⟨RX0, "load", "(I)I"⟩
def RX1 : String := "SkateBonds$Deed"
def TX1 : u_T := fun k => match k with
  | 0 => ("SkateBonds$Deed", "strengths", "[I", true)
  | 1 => ("SkateBonds$Deed", "at", "I", false)
  | 2 => ("SkateBonds$Deed", "cut", "I", false)
  | _ => ("SkateBonds$Deed", "firstWrong", "I", false)
def tyX1 : Nat → FieldType := fun k => match k with
  | 0 => .array .int
  | 1 => .int
  | 2 => .int
  | _ => .int
abbrev wsX10 : List Cond := u_ws RX1 TX1 4
theorem nmX1 : ∀ a, a < 4 → ∀ b, b < 4 → a ≠ b → (TX1 a).2.1 ≠ (TX1 b).2.1 := by decide +kernel
theorem tyX1_ok : ∀ k, k < 4 → parseFieldDescriptor (TX1 k).2.2.1 = some (tyX1 k) := by decide +kernel
abbrev cX1_init : ByteArray := prog_3_method_1_code
def yX1_init : MethodName := ⟨RX1, "<init>", "()V"⟩
abbrev cX1_begin : ByteArray := prog_3_method_2_code
def yX1_begin : MethodName := ⟨RX1, "begin", "(LSkateBonds$Ice;I)V"⟩
abbrev cX1_stroke : ByteArray := prog_3_method_3_code
def yX1_stroke : MethodName := ⟨RX1, "stroke", "(LSkateBonds$Ice;III)V"⟩
def RX2 : String := "SkateBonds$Ice"
def TX2 : u_T := fun k => match k with
  | 0 => ("SkateBonds$Ice", "strengths", "[I", true)
  | 1 => ("SkateBonds$Ice", "high", "I", false)
  | 2 => ("SkateBonds$Ice", "wide", "I", false)
  | 3 => ("SkateBonds$Ice", "frost", "I", false)
  | 4 => ("SkateBonds$Ice", "firstColumn", "I", false)
  | _ => ("SkateBonds$Ice", "lastColumn", "I", false)
def tyX2 : Nat → FieldType := fun k => match k with
  | 0 => .array .int
  | 1 => .int
  | 2 => .int
  | 3 => .int
  | 4 => .int
  | _ => .int
abbrev wsX20 : List Cond := u_ws RX2 TX2 6
theorem nmX2 : ∀ a, a < 6 → ∀ b, b < 6 → a ≠ b → (TX2 a).2.1 ≠ (TX2 b).2.1 := by decide +kernel
theorem tyX2_ok : ∀ k, k < 6 → parseFieldDescriptor (TX2 k).2.2.1 = some (tyX2 k) := by decide +kernel
abbrev cX2_init : ByteArray := prog_4_method_1_code
def yX2_init : MethodName := ⟨RX2, "<init>", "()V"⟩
abbrev cX2_take : ByteArray := prog_4_method_2_code
def yX2_take : MethodName := ⟨RX2, "take", "(LSkateBonds$Text;)V"⟩
abbrev cX2_cells : ByteArray := prog_4_method_3_code
def yX2_cells : MethodName := ⟨RX2, "cells", "()I"⟩
abbrev cX2_all : ByteArray := prog_4_method_4_code
def yX2_all : MethodName := ⟨RX2, "all", "()I"⟩
abbrev cX2_has : ByteArray := prog_4_method_5_code
def yX2_has : MethodName := ⟨RX2, "has", "(I)Z"⟩
abbrev cX2_strengthen : ByteArray := prog_4_method_6_code
def yX2_strengthen : MethodName := ⟨RX2, "strengthen", "(I)V"⟩
abbrev cX2_count : ByteArray := prog_4_method_7_code
def yX2_count : MethodName := ⟨RX2, "count", "(I)I"⟩
abbrev cX2_bearing : ByteArray := prog_4_method_8_code
def yX2_bearing : MethodName := ⟨RX2, "bearing", "(II)I"⟩
abbrev cX2_led : ByteArray := prog_4_method_9_code
def yX2_led : MethodName := ⟨RX2, "led", "(II)I"⟩
abbrev cX2_nextTo : ByteArray := prog_4_method_10_code
def yX2_nextTo : MethodName := ⟨RX2, "nextTo", "(I)I"⟩
abbrev cX2_reach : ByteArray := prog_4_method_11_code
def yX2_reach : MethodName := ⟨RX2, "reach", "(II)I"⟩
abbrev cX2_shortest : ByteArray := prog_4_method_12_code
def yX2_shortest : MethodName := ⟨RX2, "shortest", "(IIII)I"⟩
abbrev cX2_strokeOfBond : ByteArray := prog_4_method_13_code
def yX2_strokeOfBond : MethodName := ⟨RX2, "strokeOfBond", "(IIIII)I"⟩
abbrev cX2_beginOfBond : ByteArray := prog_4_method_14_code
def yX2_beginOfBond : MethodName := ⟨RX2, "beginOfBond", "(IIII)I"⟩
def RX3 : String := "SkateBonds$Readings"
def TX3 : u_T := fun k => match k with
  | 0 => ("SkateBonds$Readings", "skaters", "[I", true)
  | 1 => ("SkateBonds$Readings", "cells", "[I", true)
  | 2 => ("SkateBonds$Readings", "bore", "[Z", true)
  | _ => ("SkateBonds$Readings", "count", "I", false)
def tyX3 : Nat → FieldType := fun k => match k with
  | 0 => .array .int
  | 1 => .array .int
  | 2 => .array .boolean
  | _ => .int
abbrev wsX30 : List Cond := u_ws RX3 TX3 4
theorem nmX3 : ∀ a, a < 4 → ∀ b, b < 4 → a ≠ b → (TX3 a).2.1 ≠ (TX3 b).2.1 := by decide +kernel
theorem tyX3_ok : ∀ k, k < 4 → parseFieldDescriptor (TX3 k).2.2.1 = some (tyX3 k) := by decide +kernel
abbrev cX3_init : ByteArray := prog_5_method_1_code
def yX3_init : MethodName := ⟨RX3, "<init>", "()V"⟩
abbrev cX3_add : ByteArray := prog_5_method_2_code
def yX3_add : MethodName := ⟨RX3, "add", "(IIZ)I"⟩
abbrev cX3_areSo : ByteArray := prog_5_method_3_code
def yX3_areSo : MethodName := ⟨RX3, "areSo", "(LSkateBonds$Ice;LSkateBonds$Crew;)Z"⟩
def RX4 : String := "SkateBonds$Sheet"
def TX4 : u_T := fun k => match k with
  | 0 => ("SkateBonds$Sheet", "numbers", "[I", true)
  | 1 => ("SkateBonds$Sheet", "lane", "I", false)
  | _ => ("SkateBonds$Sheet", "length", "I", false)
def tyX4 : Nat → FieldType := fun k => match k with
  | 0 => .array .int
  | 1 => .int
  | _ => .int
abbrev wsX40 : List Cond := u_ws RX4 TX4 3
theorem nmX4 : ∀ a, a < 3 → ∀ b, b < 3 → a ≠ b → (TX4 a).2.1 ≠ (TX4 b).2.1 := by decide +kernel
theorem tyX4_ok : ∀ k, k < 3 → parseFieldDescriptor (TX4 k).2.2.1 = some (tyX4 k) := by decide +kernel
abbrev cX4_init : ByteArray := prog_6_method_1_code
def yX4_init : MethodName := ⟨RX4, "<init>", "()V"⟩
abbrev cX4_begin : ByteArray := prog_6_method_2_code
def yX4_begin : MethodName := ⟨RX4, "begin", "(II)V"⟩
abbrev cX4_clear : ByteArray := prog_6_method_3_code
def yX4_clear : MethodName := ⟨RX4, "clear", "()V"⟩
abbrev cX4_isNothing : ByteArray := prog_6_method_4_code
def yX4_isNothing : MethodName := ⟨RX4, "isNothing", "()Z"⟩
abbrev cX4_has : ByteArray := prog_6_method_5_code
def yX4_has : MethodName := ⟨RX4, "has", "(II)Z"⟩
abbrev cX4_set : ByteArray := prog_6_method_6_code
def yX4_set : MethodName := ⟨RX4, "set", "(II)V"⟩
def RX5 : String := "SkateBonds$Text"
def TX5 : u_T := fun k => match k with
  | 0 => ("SkateBonds$Text", "codes", "[I", true)
  | 1 => ("SkateBonds$Text", "length", "I", false)
  | 2 => ("SkateBonds$Text", "place", "I", false)
  | _ => ("SkateBonds$Text", "isWrong", "Z", false)
def tyX5 : Nat → FieldType := fun k => match k with
  | 0 => .array .int
  | 1 => .int
  | 2 => .int
  | _ => .boolean
abbrev wsX50 : List Cond := u_ws RX5 TX5 4
theorem nmX5 : ∀ a, a < 4 → ∀ b, b < 4 → a ≠ b → (TX5 a).2.1 ≠ (TX5 b).2.1 := by decide +kernel
theorem tyX5_ok : ∀ k, k < 4 → parseFieldDescriptor (TX5 k).2.2.1 = some (tyX5 k) := by decide +kernel
abbrev cX5_init : ByteArray := prog_7_method_1_code
def yX5_init : MethodName := ⟨RX5, "<init>", "()V"⟩
abbrev cX5_begin : ByteArray := prog_7_method_2_code
def yX5_begin : MethodName := ⟨RX5, "begin", "(LSkateBonds$Sheet;II)V"⟩
abbrev cX5_goesOn : ByteArray := prog_7_method_3_code
def yX5_goesOn : MethodName := ⟨RX5, "goesOn", "()Z"⟩
abbrev cX5_take : ByteArray := prog_7_method_4_code
def yX5_take : MethodName := ⟨RX5, "take", "(II)I"⟩
abbrev cX5_digit : ByteArray := prog_7_method_5_code
def yX5_digit : MethodName := ⟨RX5, "digit", "(II)I"⟩
abbrev cX5_sign : ByteArray := prog_7_method_6_code
def yX5_sign : MethodName := ⟨RX5, "sign", "(C)V"⟩
abbrev cX5_kind : ByteArray := prog_7_method_7_code
def yX5_kind : MethodName := ⟨RX5, "kind", "()I"⟩
abbrev cX5_end : ByteArray := prog_7_method_8_code
def yX5_end : MethodName := ⟨RX5, "end", "()V"⟩
def RX6 : String := "SkateBonds"
def TX6 : u_T := fun k => match k with
  | 0 => ("SkateBonds", "sheets", "[LSkateBonds$Sheet;", true)
  | 1 => ("SkateBonds", "text", "LSkateBonds$Text;", true)
  | 2 => ("SkateBonds", "trial", "LSkateBonds$Deed;", true)
  | 3 => ("SkateBonds", "readings", "LSkateBonds$Readings;", true)
  | 4 => ("SkateBonds", "ice", "LSkateBonds$Ice;", false)
  | 5 => ("SkateBonds", "crew", "LSkateBonds$Crew;", false)
  | 6 => ("SkateBonds", "draftIce", "LSkateBonds$Ice;", false)
  | 7 => ("SkateBonds", "draftCrew", "LSkateBonds$Crew;", false)
  | 8 => ("SkateBonds", "latestFault", "I", false)
  | _ => ("SkateBonds", "traced", "I", false)
def tyX6 : Nat → FieldType := fun k => match k with
  | 0 => .array (.object "SkateBonds$Sheet")
  | 1 => .object "SkateBonds$Text"
  | 2 => .object "SkateBonds$Deed"
  | 3 => .object "SkateBonds$Readings"
  | 4 => .object "SkateBonds$Ice"
  | 5 => .object "SkateBonds$Crew"
  | 6 => .object "SkateBonds$Ice"
  | 7 => .object "SkateBonds$Crew"
  | 8 => .int
  | _ => .int
abbrev wsX60 : List Cond := u_ws RX6 TX6 10
theorem nmX6 : ∀ a, a < 10 → ∀ b, b < 10 → a ≠ b → (TX6 a).2.1 ≠ (TX6 b).2.1 := by decide +kernel
theorem tyX6_ok : ∀ k, k < 10 → parseFieldDescriptor (TX6 k).2.2.1 = some (tyX6 k) := by decide +kernel
abbrev cX6_init : ByteArray := prog_1_method_1_code
def yX6_init : MethodName := ⟨RX6, "<init>", "()V"⟩
abbrev cX6_canal : ByteArray := prog_1_method_2_code
def yX6_canal : MethodName := ⟨RX6, "canal", "(IIII)I"⟩
abbrev cX6_ofSkater : ByteArray := prog_1_method_3_code
def yX6_ofSkater : MethodName := ⟨RX6, "ofSkater", "(II)I"⟩
abbrev cX6_strength : ByteArray := prog_1_method_4_code
def yX6_strength : MethodName := ⟨RX6, "strength", "(I)I"⟩
abbrev cX6_freeze : ByteArray := prog_1_method_5_code
def yX6_freeze : MethodName := ⟨RX6, "freeze", "(II)I"⟩
abbrev cX6_frost : ByteArray := prog_1_method_6_code
def yX6_frost : MethodName := ⟨RX6, "frost", "(I)I"⟩
abbrev cX6_deed : ByteArray := prog_1_method_7_code
def yX6_deed : MethodName := ⟨RX6, "deed", "(IIIIIIII)I"⟩
abbrev cX6_write : ByteArray := prog_1_method_8_code
def yX6_write : MethodName := ⟨RX6, "write", "(IIIIIII)I"⟩
abbrev cX6_nights : ByteArray := prog_1_method_9_code
def yX6_nights : MethodName := ⟨RX6, "nights", "(I)I"⟩
abbrev cX6_thaw : ByteArray := prog_1_method_10_code
def yX6_thaw : MethodName := ⟨RX6, "thaw", "(I)I"⟩
abbrev cX6_bond : ByteArray := prog_1_method_11_code
def yX6_bond : MethodName := ⟨RX6, "bond", "(IIIII)I"⟩
abbrev cX6_holds : ByteArray := prog_1_method_12_code
def yX6_holds : MethodName := ⟨RX6, "holds", "(IIII)I"⟩
abbrev cX6_alone : ByteArray := prog_1_method_13_code
def yX6_alone : MethodName := ⟨RX6, "alone", "(II)I"⟩
abbrev cX6_neck : ByteArray := prog_1_method_14_code
def yX6_neck : MethodName := ⟨RX6, "neck", "(IIII)I"⟩
abbrev cX6_reading : ByteArray := prog_1_method_15_code
def yX6_reading : MethodName := ⟨RX6, "reading", "(IIZ)I"⟩
abbrev cX6_back : ByteArray := prog_1_method_16_code
def yX6_back : MethodName := ⟨RX6, "back", "(I)I"⟩
abbrev cX6_weights : ByteArray := prog_1_method_17_code
def yX6_weights : MethodName := ⟨RX6, "weights", "(I)I"⟩
abbrev cX6_kinds : ByteArray := prog_1_method_18_code
def yX6_kinds : MethodName := ⟨RX6, "kinds", "(I)I"⟩
abbrev cX6_strengths : ByteArray := prog_1_method_19_code
def yX6_strengths : MethodName := ⟨RX6, "strengths", "(I)I"⟩
abbrev cX6_odds : ByteArray := prog_1_method_20_code
def yX6_odds : MethodName := ⟨RX6, "odds", "(IIIIII)J"⟩
abbrev cX6_sheet : ByteArray := prog_1_method_21_code
def yX6_sheet : MethodName := ⟨RX6, "sheet", "(III)I"⟩
abbrev cX6_lose : ByteArray := prog_1_method_22_code
def yX6_lose : MethodName := ⟨RX6, "lose", "(I)I"⟩
abbrev cX6_put : ByteArray := prog_1_method_23_code
def yX6_put : MethodName := ⟨RX6, "put", "(III)I"⟩
abbrev cX6_cell : ByteArray := prog_1_method_24_code
def yX6_cell : MethodName := ⟨RX6, "cell", "(III)J"⟩
abbrev cX6_copy : ByteArray := prog_1_method_25_code
def yX6_copy : MethodName := ⟨RX6, "copy", "(IIIII)I"⟩
abbrev cX6_tell : ByteArray := prog_1_method_26_code
def yX6_tell : MethodName := ⟨RX6, "tell", "(I)I"⟩
abbrev cX6_signed : ByteArray := prog_1_method_27_code
def yX6_signed : MethodName := ⟨RX6, "signed", "(I)I"⟩
abbrev cX6_as : ByteArray := prog_1_method_28_code
def yX6_as : MethodName := ⟨RX6, "as", "(II)I"⟩
abbrev cX6_trace : ByteArray := prog_1_method_29_code
def yX6_trace : MethodName := ⟨RX6, "trace", "()I"⟩
abbrev cX6_fault : ByteArray := prog_1_method_30_code
def yX6_fault : MethodName := ⟨RX6, "fault", "()I"⟩
abbrev cX6_many : ByteArray := prog_1_method_31_code
def yX6_many : MethodName := ⟨RX6, "many", "(I)I"⟩
abbrev cX6_isWithin : ByteArray := prog_1_method_32_code
def yX6_isWithin : MethodName := ⟨RX6, "isWithin", "(III)Z"⟩
abbrev cX6_isIn : ByteArray := prog_1_method_33_code
def yX6_isIn : MethodName := ⟨RX6, "isIn", "(II)Z"⟩
abbrev cX6_keepFault : ByteArray := prog_1_method_34_code
def yX6_keepFault : MethodName := ⟨RX6, "keepFault", "(I)I"⟩
abbrev cX6_sheetAt : ByteArray := prog_1_method_35_code
def yX6_sheetAt : MethodName := ⟨RX6, "sheetAt", "(I)LSkateBonds$Sheet;"⟩
abbrev cX6_refusalOfLane : ByteArray := prog_1_method_36_code
def yX6_refusalOfLane : MethodName := ⟨RX6, "refusalOfLane", "(LSkateBonds$Sheet;I)I"⟩
abbrev cX6_refusalOfPart : ByteArray := prog_1_method_37_code
def yX6_refusalOfPart : MethodName := ⟨RX6, "refusalOfPart", "(LSkateBonds$Sheet;III)I"⟩
abbrev cX6_refusalOfWeather : ByteArray := prog_1_method_38_code
def yX6_refusalOfWeather : MethodName := ⟨RX6, "refusalOfWeather", "(I)I"⟩
abbrev cX6_isPair : ByteArray := prog_1_method_39_code
def yX6_isPair : MethodName := ⟨RX6, "isPair", "(II)Z"⟩
abbrev cX6_takeText : ByteArray := prog_1_method_40_code
def yX6_takeText : MethodName := ⟨RX6, "takeText", "(IIII)I"⟩
abbrev cX6_changeToDraft : ByteArray := prog_1_method_41_code
def yX6_changeToDraft : MethodName := ⟨RX6, "changeToDraft", "()V"⟩
abbrev cX6_isDeedKnown : ByteArray := prog_1_method_42_code
def yX6_isDeedKnown : MethodName := ⟨RX6, "isDeedKnown", "(IIII)Z"⟩
abbrev cX6_tryDeed : ByteArray := prog_1_method_43_code
def yX6_tryDeed : MethodName := ⟨RX6, "tryDeed", "(IIIIIII)I"⟩
abbrev cX6_ofTrial : ByteArray := prog_1_method_44_code
def yX6_ofTrial : MethodName := ⟨RX6, "ofTrial", "(II)I"⟩
abbrev cX6_isBondKnown : ByteArray := prog_1_method_45_code
def yX6_isBondKnown : MethodName := ⟨RX6, "isBondKnown", "(IIII)Z"⟩
abbrev cX6_isBond : ByteArray := prog_1_method_46_code
def yX6_isBond : MethodName := ⟨RX6, "isBond", "(IIIII)Z"⟩
abbrev cX6_bondsAsBreaking : ByteArray := prog_1_method_47_code
def yX6_bondsAsBreaking : MethodName := ⟨RX6, "bondsAsBreaking", "(IIIII)I"⟩
abbrev cX6_newRow : ByteArray := prog_1_method_48_code
def yX6_newRow : MethodName := ⟨RX6, "newRow", "(III)I"⟩
abbrev cX6_putNumber : ByteArray := prog_1_method_49_code
def yX6_putNumber : MethodName := ⟨RX6, "putNumber", "(III)I"⟩
abbrev cX6_copyNumbers : ByteArray := prog_1_method_50_code
def yX6_copyNumbers : MethodName := ⟨RX6, "copyNumbers", "(IIIII)I"⟩
abbrev cX6_leave : ByteArray := prog_1_method_51_code
def yX6_leave : MethodName := ⟨RX6, "leave", "(I)V"⟩
abbrev cX6_skaterGives : ByteArray := prog_1_method_52_code
def yX6_skaterGives : MethodName := ⟨RX6, "skaterGives", "(I)I"⟩
abbrev cX6_clerkGives : ByteArray := prog_1_method_53_code
def yX6_clerkGives : MethodName := ⟨RX6, "clerkGives", "(I)I"⟩
abbrev cX6_bankerGives : ByteArray := prog_1_method_54_code
def yX6_bankerGives : MethodName := ⟨RX6, "bankerGives", "(I)I"⟩
abbrev cX6_takeAs : ByteArray := prog_1_method_55_code
def yX6_takeAs : MethodName := ⟨RX6, "takeAs", "(II)I"⟩
def RX7 : String := "SkateBondsModel"
def TX7 : u_T := fun k => match k with
  | 0 => ("SkateBondsModel", "fault", "I", false)
  | 1 => ("SkateBondsModel", "high", "I", false)
  | 2 => ("SkateBondsModel", "wide", "I", false)
  | 3 => ("SkateBondsModel", "frostNow", "I", false)
  | 4 => ("SkateBondsModel", "strengthOf", "[I", true)
  | 5 => ("SkateBondsModel", "skaters", "I", false)
  | 6 => ("SkateBondsModel", "kindOf", "[I", true)
  | 7 => ("SkateBondsModel", "weightOf", "[I", true)
  | 8 => ("SkateBondsModel", "broken", "I", false)
  | 9 => ("SkateBondsModel", "thawed", "I", false)
  | 10 => ("SkateBondsModel", "readAt", "I", false)
  | 11 => ("SkateBondsModel", "readHigh", "I", false)
  | 12 => ("SkateBondsModel", "readWide", "I", false)
  | 13 => ("SkateBondsModel", "readFrost", "I", false)
  | 14 => ("SkateBondsModel", "readSkaters", "I", false)
  | 15 => ("SkateBondsModel", "readStrength", "[I", true)
  | 16 => ("SkateBondsModel", "readKind", "[I", true)
  | 17 => ("SkateBondsModel", "readWeight", "[I", true)
  | 18 => ("SkateBondsModel", "firstWrong", "I", false)
  | 19 => ("SkateBondsModel", "endsAt", "I", false)
  | 20 => ("SkateBondsModel", "cutNow", "I", false)
  | 21 => ("SkateBondsModel", "kept", "[I", true)
  | 22 => ("SkateBondsModel", "leftOf", "[I", true)
  | 23 => ("SkateBondsModel", "readings", "I", false)
  | 24 => ("SkateBondsModel", "readingOf", "[I", true)
  | 25 => ("SkateBondsModel", "readingAt", "[I", true)
  | 26 => ("SkateBondsModel", "readingBore", "[Z", true)
  | 27 => ("SkateBondsModel", "sheetSize", "[I", true)
  | 28 => ("SkateBondsModel", "sheetLane", "[I", true)
  | 29 => ("SkateBondsModel", "sheet", "[I", true)
  | 30 => ("SkateBondsModel", "hands", "[I", true)
  | _ => ("SkateBondsModel", "traceNow", "I", false)
def tyX7 : Nat → FieldType := fun k => match k with
  | 0 => .int
  | 1 => .int
  | 2 => .int
  | 3 => .int
  | 4 => .array .int
  | 5 => .int
  | 6 => .array .int
  | 7 => .array .int
  | 8 => .int
  | 9 => .int
  | 10 => .int
  | 11 => .int
  | 12 => .int
  | 13 => .int
  | 14 => .int
  | 15 => .array .int
  | 16 => .array .int
  | 17 => .array .int
  | 18 => .int
  | 19 => .int
  | 20 => .int
  | 21 => .array .int
  | 22 => .array .int
  | 23 => .int
  | 24 => .array .int
  | 25 => .array .int
  | 26 => .array .boolean
  | 27 => .array .int
  | 28 => .array .int
  | 29 => .array .int
  | 30 => .array .int
  | _ => .int
abbrev wsX70 : List Cond := u_ws RX7 TX7 32
theorem nmX7 : ∀ a, a < 32 → ∀ b, b < 32 → a ≠ b → (TX7 a).2.1 ≠ (TX7 b).2.1 := by decide +kernel
theorem tyX7_ok : ∀ k, k < 32 → parseFieldDescriptor (TX7 k).2.2.1 = some (tyX7 k) := by decide +kernel
abbrev cX7_init : ByteArray := prog_9_method_1_code
def yX7_init : MethodName := ⟨RX7, "<init>", "()V"⟩
abbrev cX7_in : ByteArray := prog_9_method_2_code
def yX7_in : MethodName := ⟨RX7, "in", "(JJJ)Z"⟩
abbrev cX7_lost : ByteArray := prog_9_method_3_code
def yX7_lost : MethodName := ⟨RX7, "lost", "()J"⟩
abbrev cX7_isIn : ByteArray := prog_9_method_4_code
def yX7_isIn : MethodName := ⟨RX7, "isIn", "(II)Z"⟩
abbrev cX7_bits : ByteArray := prog_9_method_5_code
def yX7_bits : MethodName := ⟨RX7, "bits", "(I)I"⟩
abbrev cX7_share : ByteArray := prog_9_method_6_code
def yX7_share : MethodName := ⟨RX7, "share", "(JJI)J"⟩
abbrev cX7_refused : ByteArray := prog_9_method_7_code
def yX7_refused : MethodName := ⟨RX7, "refused", "(I)I"⟩
abbrev cX7_failed : ByteArray := prog_9_method_8_code
def yX7_failed : MethodName := ⟨RX7, "failed", "(I)I"⟩
abbrev cX7_failedLong : ByteArray := prog_9_method_9_code
def yX7_failedLong : MethodName := ⟨RX7, "failedLong", "(I)J"⟩
abbrev cX7_cells : ByteArray := prog_9_method_10_code
def yX7_cells : MethodName := ⟨RX7, "cells", "()I"⟩
abbrev cX7_noPlace : ByteArray := prog_9_method_11_code
def yX7_noPlace : MethodName := ⟨RX7, "noPlace", "(I)Z"⟩
abbrev cX7_noSkater : ByteArray := prog_9_method_12_code
def yX7_noSkater : MethodName := ⟨RX7, "noSkater", "(I)Z"⟩
abbrev cX7_noTwo : ByteArray := prog_9_method_13_code
def yX7_noTwo : MethodName := ⟨RX7, "noTwo", "(II)Z"⟩
abbrev cX7_codeAt : ByteArray := prog_9_method_14_code
def yX7_codeAt : MethodName := ⟨RX7, "codeAt", "(II)I"⟩
abbrev cX7_figure : ByteArray := prog_9_method_15_code
def yX7_figure : MethodName := ⟨RX7, "figure", "(IIII)I"⟩
abbrev cX7_readsPlace : ByteArray := prog_9_method_16_code
def yX7_readsPlace : MethodName := ⟨RX7, "readsPlace", "(III)Z"⟩
abbrev cX7_readsSkater : ByteArray := prog_9_method_17_code
def yX7_readsSkater : MethodName := ⟨RX7, "readsSkater", "(II)Z"⟩
abbrev cX7_readsCanal : ByteArray := prog_9_method_18_code
def yX7_readsCanal : MethodName := ⟨RX7, "readsCanal", "(II)Z"⟩
abbrev cX7_cellsBarred : ByteArray := prog_9_method_19_code
def yX7_cellsBarred : MethodName := ⟨RX7, "cellsBarred", "(IIIJ)I"⟩
abbrev cX7_canal : ByteArray := prog_9_method_20_code
def yX7_canal : MethodName := ⟨RX7, "canal", "(IIII)I"⟩
abbrev cX7_loadOf : ByteArray := prog_9_method_21_code
def yX7_loadOf : MethodName := ⟨RX7, "loadOf", "(I)I"⟩
abbrev cX7_bears : ByteArray := prog_9_method_22_code
def yX7_bears : MethodName := ⟨RX7, "bears", "(II)Z"⟩
abbrev cX7_bearingOf : ByteArray := prog_9_method_23_code
def yX7_bearingOf : MethodName := ⟨RX7, "bearingOf", "(I)I"⟩
abbrev cX7_ofSkater : ByteArray := prog_9_method_24_code
def yX7_ofSkater : MethodName := ⟨RX7, "ofSkater", "(II)I"⟩
abbrev cX7_strength : ByteArray := prog_9_method_25_code
def yX7_strength : MethodName := ⟨RX7, "strength", "(I)I"⟩
abbrev cX7_freeze : ByteArray := prog_9_method_26_code
def yX7_freeze : MethodName := ⟨RX7, "freeze", "(II)I"⟩
abbrev cX7_frost : ByteArray := prog_9_method_27_code
def yX7_frost : MethodName := ⟨RX7, "frost", "(I)I"⟩
abbrev cX7_beside : ByteArray := prog_9_method_28_code
def yX7_beside : MethodName := ⟨RX7, "beside", "(II)I"⟩
abbrev cX7_goDeed : ByteArray := prog_9_method_29_code
def yX7_goDeed : MethodName := ⟨RX7, "goDeed", "(IIIII)V"⟩
abbrev cX7_keep : ByteArray := prog_9_method_30_code
def yX7_keep : MethodName := ⟨RX7, "keep", "()V"⟩
abbrev cX7_putBack : ByteArray := prog_9_method_31_code
def yX7_putBack : MethodName := ⟨RX7, "putBack", "()V"⟩
abbrev cX7_strokesBarred : ByteArray := prog_9_method_32_code
def yX7_strokesBarred : MethodName := ⟨RX7, "strokesBarred", "(IIII)I"⟩
abbrev cX7_deed : ByteArray := prog_9_method_33_code
def yX7_deed : MethodName := ⟨RX7, "deed", "(IIIIIIII)I"⟩
abbrev cX7_write : ByteArray := prog_9_method_34_code
def yX7_write : MethodName := ⟨RX7, "write", "(IIIIIII)I"⟩
abbrev cX7_countOf : ByteArray := prog_9_method_35_code
def yX7_countOf : MethodName := ⟨RX7, "countOf", "(I)I"⟩
abbrev cX7_nights : ByteArray := prog_9_method_36_code
def yX7_nights : MethodName := ⟨RX7, "nights", "(I)I"⟩
abbrev cX7_thaw : ByteArray := prog_9_method_37_code
def yX7_thaw : MethodName := ⟨RX7, "thaw", "(I)I"⟩
abbrev cX7_leftBy : ByteArray := prog_9_method_38_code
def yX7_leftBy : MethodName := ⟨RX7, "leftBy", "(III)I"⟩
abbrev cX7_goBond : ByteArray := prog_9_method_39_code
def yX7_goBond : MethodName := ⟨RX7, "goBond", "(III)V"⟩
abbrev cX7_isBond : ByteArray := prog_9_method_40_code
def yX7_isBond : MethodName := ⟨RX7, "isBond", "(IIII)Z"⟩
abbrev cX7_strokeBy : ByteArray := prog_9_method_41_code
def yX7_strokeBy : MethodName := ⟨RX7, "strokeBy", "(IIII)I"⟩
abbrev cX7_bond : ByteArray := prog_9_method_42_code
def yX7_bond : MethodName := ⟨RX7, "bond", "(IIIII)I"⟩
abbrev cX7_holds : ByteArray := prog_9_method_43_code
def yX7_holds : MethodName := ⟨RX7, "holds", "(IIII)I"⟩
abbrev cX7_alone : ByteArray := prog_9_method_44_code
def yX7_alone : MethodName := ⟨RX7, "alone", "(II)I"⟩
abbrev cX7_neck : ByteArray := prog_9_method_45_code
def yX7_neck : MethodName := ⟨RX7, "neck", "(IIII)I"⟩
abbrev cX7_reading : ByteArray := prog_9_method_46_code
def yX7_reading : MethodName := ⟨RX7, "reading", "(IIZ)I"⟩
abbrev cX7_back : ByteArray := prog_9_method_47_code
def yX7_back : MethodName := ⟨RX7, "back", "(I)I"⟩
abbrev cX7_areSo : ByteArray := prog_9_method_48_code
def yX7_areSo : MethodName := ⟨RX7, "areSo", "()Z"⟩
abbrev cX7_weights : ByteArray := prog_9_method_49_code
def yX7_weights : MethodName := ⟨RX7, "weights", "(I)I"⟩
abbrev cX7_kinds : ByteArray := prog_9_method_50_code
def yX7_kinds : MethodName := ⟨RX7, "kinds", "(I)I"⟩
abbrev cX7_strengths : ByteArray := prog_9_method_51_code
def yX7_strengths : MethodName := ⟨RX7, "strengths", "(I)I"⟩
abbrev cX7_odds : ByteArray := prog_9_method_52_code
def yX7_odds : MethodName := ⟨RX7, "odds", "(IIIIII)J"⟩
abbrev cX7_noSheet : ByteArray := prog_9_method_53_code
def yX7_noSheet : MethodName := ⟨RX7, "noSheet", "(I)Z"⟩
abbrev cX7_sheet : ByteArray := prog_9_method_54_code
def yX7_sheet : MethodName := ⟨RX7, "sheet", "(III)I"⟩
abbrev cX7_lose : ByteArray := prog_9_method_55_code
def yX7_lose : MethodName := ⟨RX7, "lose", "(I)I"⟩
abbrev cX7_noCell : ByteArray := prog_9_method_56_code
def yX7_noCell : MethodName := ⟨RX7, "noCell", "(II)I"⟩
abbrev cX7_put : ByteArray := prog_9_method_57_code
def yX7_put : MethodName := ⟨RX7, "put", "(III)I"⟩
abbrev cX7_cell : ByteArray := prog_9_method_58_code
def yX7_cell : MethodName := ⟨RX7, "cell", "(III)J"⟩
abbrev cX7_isBeyond : ByteArray := prog_9_method_59_code
def yX7_isBeyond : MethodName := ⟨RX7, "isBeyond", "(IJI)Z"⟩
abbrev cX7_copy : ByteArray := prog_9_method_60_code
def yX7_copy : MethodName := ⟨RX7, "copy", "(IIIII)I"⟩
abbrev cX7_traced : ByteArray := prog_9_method_61_code
def yX7_traced : MethodName := ⟨RX7, "traced", "(I)V"⟩
abbrev cX7_tell : ByteArray := prog_9_method_62_code
def yX7_tell : MethodName := ⟨RX7, "tell", "(I)I"⟩
abbrev cX7_signed : ByteArray := prog_9_method_63_code
def yX7_signed : MethodName := ⟨RX7, "signed", "(I)I"⟩
abbrev cX7_as : ByteArray := prog_9_method_64_code
def yX7_as : MethodName := ⟨RX7, "as", "(II)I"⟩
abbrev cX7_trace : ByteArray := prog_9_method_65_code
def yX7_trace : MethodName := ⟨RX7, "trace", "()I"⟩
abbrev cX7_fault : ByteArray := prog_9_method_66_code
def yX7_fault : MethodName := ⟨RX7, "fault", "()I"⟩
abbrev cX7_many : ByteArray := prog_9_method_67_code
def yX7_many : MethodName := ⟨RX7, "many", "(I)I"⟩
def RJ6 : String := "java/lang/Integer"
def TJ6 : u_T := fun k => match k with
  | _ => ("", "", "", false)
def tyJ6 : Nat → FieldType := fun k => match k with
  | _ => .int
abbrev wsJ60 : List Cond := u_ws RJ6 TJ6 0
theorem nmJ6 : ∀ a, a < 0 → ∀ b, b < 0 → a ≠ b → (TJ6 a).2.1 ≠ (TJ6 b).2.1 := by decide +kernel
theorem tyJ6_ok : ∀ k, k < 0 → parseFieldDescriptor (TJ6 k).2.2.1 = some (tyJ6 k) := by decide +kernel
abbrev cJ6_bitCount_0f7a4 : ByteArray := prog_10_method_49_code
def yJ6_bitCount_0f7a4 : MethodName := ⟨RJ6, "bitCount", "(I)I"⟩
def RJ9 : String := "java/lang/Math"
def TJ9 : u_T := fun k => match k with
  | _ => ("", "", "", false)
def tyJ9 : Nat → FieldType := fun k => match k with
  | _ => .int
abbrev wsJ90 : List Cond := u_ws RJ9 TJ9 0
theorem nmJ9 : ∀ a, a < 0 → ∀ b, b < 0 → a ≠ b → (TJ9 a).2.1 ≠ (TJ9 b).2.1 := by decide +kernel
theorem tyJ9_ok : ∀ k, k < 0 → parseFieldDescriptor (TJ9 k).2.2.1 = some (tyJ9 k) := by decide +kernel
abbrev cJ9_max_7cf53 : ByteArray := prog_11_method_65_code
def yJ9_max_7cf53 : MethodName := ⟨RJ9, "max", "(II)I"⟩
abbrev cJ9_min_7cf53 : ByteArray := prog_11_method_69_code
def yJ9_min_7cf53 : MethodName := ⟨RJ9, "min", "(II)I"⟩
def RJ10 : String := "java/lang/System"
def TJ10 : u_T := fun k => match k with
  | _ => ("", "", "", false)
def tyJ10 : Nat → FieldType := fun k => match k with
  | _ => .int
abbrev wsJ100 : List Cond := u_ws RJ10 TJ10 0
theorem nmJ10 : ∀ a, a < 0 → ∀ b, b < 0 → a ≠ b → (TJ10 a).2.1 ≠ (TJ10 b).2.1 := by decide +kernel
theorem tyJ10_ok : ∀ k, k < 0 → parseFieldDescriptor (TJ10 k).2.2.1 = some (tyJ10 k) := by decide +kernel
def RJ7 : String := "java/util/Arrays"
def TJ7 : u_T := fun k => match k with
  | _ => ("", "", "", false)
def tyJ7 : Nat → FieldType := fun k => match k with
  | _ => .int
abbrev wsJ70 : List Cond := u_ws RJ7 TJ7 0
theorem nmJ7 : ∀ a, a < 0 → ∀ b, b < 0 → a ≠ b → (TJ7 a).2.1 ≠ (TJ7 b).2.1 := by decide +kernel
theorem tyJ7_ok : ∀ k, k < 0 → parseFieldDescriptor (TJ7 k).2.2.1 = some (tyJ7 k) := by decide +kernel
abbrev cJ7_fill_53178 : ByteArray := prog_13_method_103_code
def yJ7_fill_53178 : MethodName := ⟨RJ7, "fill", "([II)V"⟩
def RL : String := "SkateBondsLaw"
abbrev cL_law : ByteArray := code
def yL_law : MethodName := ⟨RL, "law", "([I)Z"⟩
abbrev vwCl : List vw_C := [(RX0, TX0, 3), (RX1, TX1, 4), (RX2, TX2, 6), (RX3, TX3, 4), (RX4, TX4, 3), (RX5, TX5, 4), (RX6, TX6, 10), (RX7, TX7, 32)]
/-- a method's instructions: place, instruction, length -/
abbrev dT : Type := List (Nat × Instr × Nat)
def dOk (c : ByteArray) : dT → Bool
  | [] => true
  | q :: r => (match decode c q.1 with | .ok x => decide (x.1 = q.2.1) && decide (x.2 = q.2.2) | .error _ => false) && dOk c r
theorem dOk_at {c : ByteArray} : ∀ {tb : dT}, dOk c tb = true → ∀ (k : Nat) {pc n : Nat} {i : Instr}, tb[k]? = some (pc, i, n) → decode c pc = .ok (i, n)
  | [], _, k, pc, n, i, h => by simp at h
  | q :: r, h, 0, pc, n, i, hk => by
    simp only [List.getElem?_cons_zero, Option.some.injEq] at hk
    subst hk
    simp only [dOk, Bool.and_eq_true] at h
    have h1 := h.1
    split at h1
    · rename_i x hx
      simp only [Bool.and_eq_true, decide_eq_true_eq] at h1
      rw [hx]
      obtain ⟨a, b⟩ := x
      simp only at h1
      rw [h1.1, h1.2]
    · cases h1
  | q :: r, h, k + 1, pc, n, i, hk => by
    simp only [dOk, Bool.and_eq_true] at h
    exact dOk_at h.2 k (by simpa using hk)
def tbX0_init : dT := [(0, .aload_n 0, 1), (1, .invokespecial 3, 3), (4, .aload_n 0, 1), (5, .iconst 4, 1), (6, .newarray .int, 2), (8, .putfield 9, 3), (11, .aload_n 0, 1), (12, .iconst 4, 1), (13, .newarray .int, 2), (15, .putfield 15, 3), (18, .aload_n 0, 1), (19, .iconst 0, 1), (20, .putfield 18, 3), (23, .return_, 1)]
set_option maxRecDepth 100000 in
theorem dX0_init : dOk cX0_init tbX0_init = true := by decide +kernel
def tbX0_take : dT := [(0, .aload_n 0, 1), (1, .iconst 0, 1), (2, .putfield 18, 3), (5, .iconst 0, 1), (6, .istore_n 2, 1), (7, .iload_n 2, 1), (8, .iconst 4, 1), (9, .if_icmp .ge 57, 3), (12, .iload_n 2, 1), (13, .iconst 2, 1), (14, .if_icmp .lt 10, 3), (17, .aload_n 1, 1), (18, .invokevirtual 22, 3), (21, .ifCond .eq 45, 3), (24, .aload_n 1, 1), (25, .bipush 44, 2), (27, .invokevirtual 28, 3), (30, .aload_n 0, 1), (31, .getfield 9, 3), (34, .iload_n 2, 1), (35, .aload_n 1, 1), (36, .invokevirtual 32, 3), (39, .iastore, 1), (40, .aload_n 0, 1), (41, .getfield 15, 3), (44, .iload_n 2, 1), (45, .aload_n 1, 1), (46, .iconst 1, 1), (47, .bipush 9, 2), (49, .invokevirtual 36, 3), (52, .iastore, 1), (53, .aload_n 0, 1), (54, .iload_n 2, 1), (55, .iconst 1, 1), (56, .iadd, 1), (57, .putfield 18, 3), (60, .iinc 2 1, 3), (63, .goto (-56), 3), (66, .return_, 1)]
set_option maxRecDepth 100000 in
theorem dX0_take : dOk cX0_take tbX0_take = true := by decide +kernel
def tbX0_has : dT := [(0, .iload_n 1, 1), (1, .iconst 0, 1), (2, .aload_n 0, 1), (3, .getfield 18, 3), (6, .iconst 1, 1), (7, .isub, 1), (8, .invokestatic 40, 3), (11, .ireturn, 1)]
set_option maxRecDepth 100000 in
theorem dX0_has : dOk cX0_has tbX0_has = true := by decide +kernel
def tbX0_load : dT := [(0, .aload_n 0, 1), (1, .getfield 9, 3), (4, .iload_n 1, 1), (5, .iaload, 1), (6, .lookupswitch 46 #[(1, 37), (2, 26)], 26), (32, .iconst 2, 1), (33, .aload_n 0, 1), (34, .getfield 15, 3), (37, .iload_n 1, 1), (38, .iaload, 1), (39, .iconst 1, 1), (40, .iadd, 1), (41, .imul, 1), (42, .ireturn, 1), (43, .aload_n 0, 1), (44, .getfield 15, 3), (47, .iload_n 1, 1), (48, .iaload, 1), (49, .iconst 1, 1), (50, .iadd, 1), (51, .ireturn, 1), (52, .aload_n 0, 1), (53, .getfield 15, 3), (56, .iload_n 1, 1), (57, .iaload, 1), (58, .ireturn, 1)]
set_option maxRecDepth 100000 in
theorem dX0_load : dOk cX0_load tbX0_load = true := by decide +kernel
def tbX1_init : dT := [(0, .aload_n 0, 1), (1, .invokespecial 3, 3), (4, .aload_n 0, 1), (5, .bipush 20, 2), (7, .newarray .int, 2), (9, .putfield 9, 3), (12, .aload_n 0, 1), (13, .iconst 0, 1), (14, .putfield 15, 3), (17, .aload_n 0, 1), (18, .iconst 0, 1), (19, .putfield 19, 3), (22, .aload_n 0, 1), (23, .bipush (-9), 2), (25, .putfield 22, 3), (28, .return_, 1)]
set_option maxRecDepth 100000 in
theorem dX1_init : dOk cX1_init tbX1_init = true := by decide +kernel
def tbX1_begin : dT := [(0, .aload_n 1, 1), (1, .getfield 25, 3), (4, .iconst 0, 1), (5, .aload_n 0, 1), (6, .getfield 9, 3), (9, .iconst 0, 1), (10, .bipush 20, 2), (12, .invokestatic 28, 3), (15, .aload_n 0, 1), (16, .iload_n 2, 1), (17, .putfield 15, 3), (20, .aload_n 0, 1), (21, .iconst 0, 1), (22, .putfield 19, 3), (25, .aload_n 0, 1), (26, .bipush (-9), 2), (28, .putfield 22, 3), (31, .return_, 1)]
set_option maxRecDepth 100000 in
theorem dX1_begin : dOk cX1_begin tbX1_begin = true := by decide +kernel
def tbX1_stroke : dT := [(0, .aload_n 1, 1), (1, .aload_n 0, 1), (2, .getfield 15, 3), (5, .iload_n 3, 1), (6, .invokevirtual 34, 3), (9, .istore 5, 2), (11, .iload 5, 2), (13, .bipush (-9), 2), (15, .if_icmp .eq 15, 3), (18, .iload 4, 2), (20, .aload_n 0, 1), (21, .getfield 9, 3), (24, .iload 5, 2), (26, .iaload, 1), (27, .if_icmp .le 9, 3), (30, .aload_n 0, 1), (31, .iload_n 2, 1), (32, .putfield 22, 3), (35, .return_, 1), (36, .aload_n 0, 1), (37, .iload 5, 2), (39, .putfield 15, 3), (42, .aload_n 0, 1), (43, .getfield 9, 3), (46, .iload 5, 2), (48, .dup2, 1), (49, .iaload, 1), (50, .iconst 1, 1), (51, .isub, 1), (52, .iastore, 1), (53, .aload_n 0, 1), (54, .dup, 1), (55, .getfield 19, 3), (58, .iconst 1, 1), (59, .iload 5, 2), (61, .ishl, 1), (62, .ior, 1), (63, .putfield 19, 3), (66, .return_, 1)]
set_option maxRecDepth 100000 in
theorem dX1_stroke : dOk cX1_stroke tbX1_stroke = true := by decide +kernel
def tbX2_init : dT := [(0, .aload_n 0, 1), (1, .invokespecial 3, 3), (4, .aload_n 0, 1), (5, .bipush 20, 2), (7, .newarray .int, 2), (9, .putfield 9, 3), (12, .aload_n 0, 1), (13, .iconst 0, 1), (14, .putfield 15, 3), (17, .aload_n 0, 1), (18, .iconst 0, 1), (19, .putfield 19, 3), (22, .aload_n 0, 1), (23, .iconst 0, 1), (24, .putfield 22, 3), (27, .aload_n 0, 1), (28, .iconst 0, 1), (29, .putfield 25, 3), (32, .aload_n 0, 1), (33, .iconst 0, 1), (34, .putfield 28, 3), (37, .return_, 1)]
set_option maxRecDepth 100000 in
theorem dX2_init : dOk cX2_init tbX2_init = true := by decide +kernel
def tbX2_take : dT := [(0, .aload_n 1, 1), (1, .bipush 99, 2), (3, .invokevirtual 31, 3), (6, .aload_n 0, 1), (7, .aload_n 1, 1), (8, .iconst 1, 1), (9, .iconst 4, 1), (10, .invokevirtual 37, 3), (13, .putfield 15, 3), (16, .aload_n 0, 1), (17, .aload_n 1, 1), (18, .iconst 2, 1), (19, .iconst 5, 1), (20, .invokevirtual 37, 3), (23, .putfield 19, 3), (26, .aload_n 0, 1), (27, .aload_n 1, 1), (28, .iconst 0, 1), (29, .bipush 9, 2), (31, .invokevirtual 37, 3), (34, .putfield 22, 3), (37, .aload_n 0, 1), (38, .iconst 0, 1), (39, .putfield 25, 3), (42, .iconst 0, 1), (43, .istore_n 2, 1), (44, .iload_n 2, 1), (45, .aload_n 0, 1), (46, .getfield 15, 3), (49, .if_icmp .ge 68, 3), (52, .aload_n 0, 1), (53, .dup, 1), (54, .getfield 25, 3), (57, .iconst 1, 1), (58, .iload_n 2, 1), (59, .aload_n 0, 1), (60, .getfield 19, 3), (63, .imul, 1), (64, .ishl, 1), (65, .ior, 1), (66, .putfield 25, 3), (69, .aload_n 1, 1), (70, .bipush 59, 2), (72, .invokevirtual 31, 3), (75, .iconst 0, 1), (76, .istore_n 3, 1), (77, .iload_n 3, 1), (78, .aload_n 0, 1), (79, .getfield 19, 3), (82, .if_icmp .ge 29, 3), (85, .aload_n 0, 1), (86, .getfield 9, 3), (89, .iload_n 2, 1), (90, .aload_n 0, 1), (91, .getfield 19, 3), (94, .imul, 1), (95, .iload_n 3, 1), (96, .iadd, 1), (97, .aload_n 1, 1), (98, .iconst 0, 1), (99, .bipush 9, 2), (101, .invokevirtual 37, 3), (104, .iastore, 1), (105, .iinc 3 1, 3), (108, .goto (-31), 3), (111, .iinc 2 1, 3), (114, .goto (-70), 3), (117, .aload_n 0, 1), (118, .aload_n 0, 1), (119, .getfield 25, 3), (122, .aload_n 0, 1), (123, .getfield 19, 3), (126, .iconst 1, 1), (127, .isub, 1), (128, .ishl, 1), (129, .putfield 28, 3), (132, .return_, 1)]
set_option maxRecDepth 100000 in
theorem dX2_take : dOk cX2_take tbX2_take = true := by decide +kernel
def tbX2_cells : dT := [(0, .aload_n 0, 1), (1, .getfield 15, 3), (4, .aload_n 0, 1), (5, .getfield 19, 3), (8, .imul, 1), (9, .ireturn, 1)]
set_option maxRecDepth 100000 in
theorem dX2_cells : dOk cX2_cells tbX2_cells = true := by decide +kernel
def tbX2_all : dT := [(0, .iconst 1, 1), (1, .aload_n 0, 1), (2, .invokevirtual 41, 3), (5, .ishl, 1), (6, .iconst 1, 1), (7, .isub, 1), (8, .ireturn, 1)]
set_option maxRecDepth 100000 in
theorem dX2_all : dOk cX2_all tbX2_all = true := by decide +kernel
def tbX2_has : dT := [(0, .iload_n 1, 1), (1, .iconst 0, 1), (2, .aload_n 0, 1), (3, .invokevirtual 41, 3), (6, .iconst 1, 1), (7, .isub, 1), (8, .invokestatic 45, 3), (11, .ireturn, 1)]
set_option maxRecDepth 100000 in
theorem dX2_has : dOk cX2_has tbX2_has = true := by decide +kernel
def tbX2_strengthen : dT := [(0, .iconst 0, 1), (1, .istore_n 2, 1), (2, .iload_n 2, 1), (3, .aload_n 0, 1), (4, .invokevirtual 41, 3), (7, .if_icmp .ge 32, 3), (10, .aload_n 0, 1), (11, .getfield 9, 3), (14, .iload_n 2, 1), (15, .iconst 0, 1), (16, .bipush 9, 2), (18, .aload_n 0, 1), (19, .getfield 9, 3), (22, .iload_n 2, 1), (23, .iaload, 1), (24, .iload_n 1, 1), (25, .iadd, 1), (26, .invokestatic 49, 3), (29, .invokestatic 54, 3), (32, .iastore, 1), (33, .iinc 2 1, 3), (36, .goto (-34), 3), (39, .return_, 1)]
set_option maxRecDepth 100000 in
theorem dX2_strengthen : dOk cX2_strengthen tbX2_strengthen = true := by decide +kernel
def tbX2_count : dT := [(0, .iconst 0, 1), (1, .istore_n 2, 1), (2, .iconst 0, 1), (3, .istore_n 3, 1), (4, .iload_n 3, 1), (5, .aload_n 0, 1), (6, .invokevirtual 41, 3), (9, .if_icmp .ge 27, 3), (12, .iload_n 2, 1), (13, .aload_n 0, 1), (14, .getfield 9, 3), (17, .iload_n 3, 1), (18, .iaload, 1), (19, .iload_n 1, 1), (20, .if_icmp .ne 7, 3), (23, .iconst 1, 1), (24, .goto 4, 3), (27, .iconst 0, 1), (28, .iadd, 1), (29, .istore_n 2, 1), (30, .iinc 3 1, 3), (33, .goto (-29), 3), (36, .iload_n 2, 1), (37, .ireturn, 1)]
set_option maxRecDepth 100000 in
theorem dX2_count : dOk cX2_count tbX2_count = true := by decide +kernel
def tbX2_bearing : dT := [(0, .iconst 0, 1), (1, .istore_n 3, 1), (2, .iconst 0, 1), (3, .istore 4, 2), (5, .iload 4, 2), (7, .aload_n 0, 1), (8, .invokevirtual 41, 3), (11, .if_icmp .ge 33, 3), (14, .iload_n 3, 1), (15, .iload_n 1, 1), (16, .aload_n 0, 1), (17, .getfield 9, 3), (20, .iload 4, 2), (22, .iaload, 1), (23, .iload_n 2, 1), (24, .isub, 1), (25, .if_icmp .gt 10, 3), (28, .iconst 1, 1), (29, .iload 4, 2), (31, .ishl, 1), (32, .goto 4, 3), (35, .iconst 0, 1), (36, .ior, 1), (37, .istore_n 3, 1), (38, .iinc 4 1, 3), (41, .goto (-36), 3), (44, .iload_n 3, 1), (45, .ireturn, 1)]
set_option maxRecDepth 100000 in
theorem dX2_bearing : dOk cX2_bearing tbX2_bearing = true := by decide +kernel
def tbX2_led : dT := [(0, .iload_n 2, 1), (1, .tableswitch 116 0 3 #[31, 51, 71, 96], 31), (32, .iload_n 1, 1), (33, .aload_n 0, 1), (34, .getfield 19, 3), (37, .if_icmp .lt 12, 3), (40, .iload_n 1, 1), (41, .aload_n 0, 1), (42, .getfield 19, 3), (45, .isub, 1), (46, .goto 5, 3), (49, .bipush (-9), 2), (51, .ireturn, 1), (52, .aload_n 0, 1), (53, .getfield 28, 3), (56, .iload_n 1, 1), (57, .invokestatic 57, 3), (60, .ifCond .eq 8, 3), (63, .bipush (-9), 2), (65, .goto 6, 3), (68, .iload_n 1, 1), (69, .iconst 1, 1), (70, .iadd, 1), (71, .ireturn, 1), (72, .iload_n 1, 1), (73, .aload_n 0, 1), (74, .getfield 19, 3), (77, .iadd, 1), (78, .aload_n 0, 1), (79, .invokevirtual 41, 3), (82, .if_icmp .ge 12, 3), (85, .iload_n 1, 1), (86, .aload_n 0, 1), (87, .getfield 19, 3), (90, .iadd, 1), (91, .goto 5, 3), (94, .bipush (-9), 2), (96, .ireturn, 1), (97, .aload_n 0, 1), (98, .getfield 25, 3), (101, .iload_n 1, 1), (102, .invokestatic 57, 3), (105, .ifCond .eq 8, 3), (108, .bipush (-9), 2), (110, .goto 6, 3), (113, .iload_n 1, 1), (114, .iconst 1, 1), (115, .isub, 1), (116, .ireturn, 1), (117, .bipush (-9), 2), (119, .ireturn, 1)]
set_option maxRecDepth 100000 in
theorem dX2_led : dOk cX2_led tbX2_led = true := by decide +kernel
def tbX2_nextTo : dT := [(0, .iload_n 1, 1), (1, .aload_n 0, 1), (2, .getfield 28, 3), (5, .iconst (-1), 1), (6, .ixor, 1), (7, .iand, 1), (8, .iconst 1, 1), (9, .ishl, 1), (10, .iload_n 1, 1), (11, .aload_n 0, 1), (12, .getfield 25, 3), (15, .iconst (-1), 1), (16, .ixor, 1), (17, .iand, 1), (18, .iconst 1, 1), (19, .ishr, 1), (20, .ior, 1), (21, .istore_n 2, 1), (22, .iload_n 1, 1), (23, .aload_n 0, 1), (24, .getfield 19, 3), (27, .ishl, 1), (28, .iload_n 1, 1), (29, .aload_n 0, 1), (30, .getfield 19, 3), (33, .ishr, 1), (34, .ior, 1), (35, .istore_n 3, 1), (36, .iload_n 2, 1), (37, .iload_n 3, 1), (38, .ior, 1), (39, .aload_n 0, 1), (40, .invokevirtual 61, 3), (43, .iand, 1), (44, .ireturn, 1)]
set_option maxRecDepth 100000 in
theorem dX2_nextTo : dOk cX2_nextTo tbX2_nextTo = true := by decide +kernel
def tbX2_reach : dT := [(0, .iconst 1, 1), (1, .iload_n 1, 1), (2, .ishl, 1), (3, .istore_n 3, 1), (4, .iconst 1, 1), (5, .istore 4, 2), (7, .iload 4, 2), (9, .bipush 20, 2), (11, .if_icmp .ge 19, 3), (14, .iload_n 3, 1), (15, .aload_n 0, 1), (16, .iload_n 3, 1), (17, .invokevirtual 64, 3), (20, .iload_n 2, 1), (21, .iand, 1), (22, .ior, 1), (23, .istore_n 3, 1), (24, .iinc 4 1, 3), (27, .goto (-20), 3), (30, .iload_n 3, 1), (31, .ireturn, 1)]
set_option maxRecDepth 100000 in
theorem dX2_reach : dOk cX2_reach tbX2_reach = true := by decide +kernel
def tbX2_shortest : dT := [(0, .iconst 1, 1), (1, .iload_n 1, 1), (2, .ishl, 1), (3, .istore 5, 2), (5, .iload 5, 2), (7, .istore 6, 2), (9, .iconst 0, 1), (10, .istore 7, 2), (12, .iload 7, 2), (14, .bipush 20, 2), (16, .if_icmp .ge 60, 3), (19, .iload 5, 2), (21, .ifCond .eq 55, 3), (24, .iload 5, 2), (26, .iload_n 2, 1), (27, .invokestatic 57, 3), (30, .ifCond .eq 6, 3), (33, .iload 7, 2), (35, .ireturn, 1), (36, .aload_n 0, 1), (37, .iload 5, 2), (39, .invokevirtual 64, 3), (42, .iload 7, 2), (44, .iconst 2, 1), (45, .irem, 1), (46, .ifCond .ne 7, 3), (49, .iload_n 3, 1), (50, .goto 5, 3), (53, .iload 4, 2), (55, .iand, 1), (56, .iload 6, 2), (58, .iconst (-1), 1), (59, .ixor, 1), (60, .iand, 1), (61, .istore 5, 2), (63, .iload 6, 2), (65, .iload 5, 2), (67, .ior, 1), (68, .istore 6, 2), (70, .iinc 7 1, 3), (73, .goto (-61), 3), (76, .bipush (-9), 2), (78, .ireturn, 1)]
set_option maxRecDepth 100000 in
theorem dX2_shortest : dOk cX2_shortest tbX2_shortest = true := by decide +kernel
def tbX2_strokeOfBond : dT := [(0, .iload_n 2, 1), (1, .istore 6, 2), (3, .bipush (-9), 2), (5, .istore 7, 2), (7, .iconst 0, 1), (8, .istore 8, 2), (10, .iload 8, 2), (12, .iload_n 1, 1), (13, .if_icmp .gt 73, 3), (16, .iload 6, 2), (18, .bipush (-9), 2), (20, .if_icmp .eq 66, 3), (23, .iload 8, 2), (25, .iconst 2, 1), (26, .irem, 1), (27, .ifCond .ne 7, 3), (30, .iconst 1, 1), (31, .goto 4, 3), (34, .iconst 0, 1), (35, .istore 9, 2), (37, .aload_n 0, 1), (38, .iload 6, 2), (40, .iload_n 3, 1), (41, .iload 9, 2), (43, .ifCond .eq 8, 3), (46, .iload 4, 2), (48, .goto 5, 3), (51, .iload 5, 2), (53, .iload 9, 2), (55, .ifCond .eq 8, 3), (58, .iload 5, 2), (60, .goto 5, 3), (63, .iload 4, 2), (65, .invokevirtual 68, 3), (68, .istore 7, 2), (70, .aload_n 0, 1), (71, .iload 6, 2), (73, .iload 7, 2), (75, .invokevirtual 72, 3), (78, .istore 6, 2), (80, .iinc 8 1, 3), (83, .goto (-73), 3), (86, .iload 7, 2), (88, .ireturn, 1)]
set_option maxRecDepth 100000 in
theorem dX2_strokeOfBond : dOk cX2_strokeOfBond tbX2_strokeOfBond = true := by decide +kernel
def tbX2_beginOfBond : dT := [(0, .aload_n 0, 1), (1, .iload_n 1, 1), (2, .iload_n 2, 1), (3, .iload_n 3, 1), (4, .iload 4, 2), (6, .invokevirtual 75, 3), (9, .istore 5, 2), (11, .iconst 0, 1), (12, .istore 6, 2), (14, .iload 6, 2), (16, .iconst 3, 1), (17, .if_icmp .gt 54, 3), (20, .aload_n 0, 1), (21, .iload_n 1, 1), (22, .iload 6, 2), (24, .invokevirtual 72, 3), (27, .istore 7, 2), (29, .iload 7, 2), (31, .bipush (-9), 2), (33, .if_icmp .eq 32, 3), (36, .iload_n 3, 1), (37, .iload 7, 2), (39, .invokestatic 57, 3), (42, .ifCond .eq 23, 3), (45, .aload_n 0, 1), (46, .iload 7, 2), (48, .iload_n 2, 1), (49, .iload 4, 2), (51, .iload_n 3, 1), (52, .invokevirtual 75, 3), (55, .iload 5, 2), (57, .iconst 1, 1), (58, .isub, 1), (59, .if_icmp .ne 6, 3), (62, .iload 6, 2), (64, .ireturn, 1), (65, .iinc 6 1, 3), (68, .goto (-54), 3), (71, .bipush (-9), 2), (73, .ireturn, 1)]
set_option maxRecDepth 100000 in
theorem dX2_beginOfBond : dOk cX2_beginOfBond tbX2_beginOfBond = true := by decide +kernel
def tbX3_init : dT := [(0, .aload_n 0, 1), (1, .invokespecial 3, 3), (4, .aload_n 0, 1), (5, .bipush 8, 2), (7, .newarray .int, 2), (9, .putfield 9, 3), (12, .aload_n 0, 1), (13, .bipush 8, 2), (15, .newarray .int, 2), (17, .putfield 15, 3), (20, .aload_n 0, 1), (21, .bipush 8, 2), (23, .newarray .boolean, 2), (25, .putfield 18, 3), (28, .aload_n 0, 1), (29, .iconst 0, 1), (30, .putfield 22, 3), (33, .return_, 1)]
set_option maxRecDepth 100000 in
theorem dX3_init : dOk cX3_init tbX3_init = true := by decide +kernel
def tbX3_add : dT := [(0, .aload_n 0, 1), (1, .getfield 22, 3), (4, .bipush 8, 2), (6, .if_icmp .lt 6, 3), (9, .bipush (-4), 2), (11, .ireturn, 1), (12, .aload_n 0, 1), (13, .getfield 9, 3), (16, .aload_n 0, 1), (17, .getfield 22, 3), (20, .iload_n 1, 1), (21, .iastore, 1), (22, .aload_n 0, 1), (23, .getfield 15, 3), (26, .aload_n 0, 1), (27, .getfield 22, 3), (30, .iload_n 2, 1), (31, .iastore, 1), (32, .aload_n 0, 1), (33, .getfield 18, 3), (36, .aload_n 0, 1), (37, .getfield 22, 3), (40, .iload_n 3, 1), (41, .bastore, 1), (42, .aload_n 0, 1), (43, .dup, 1), (44, .getfield 22, 3), (47, .iconst 1, 1), (48, .iadd, 1), (49, .putfield 22, 3), (52, .aload_n 0, 1), (53, .getfield 22, 3), (56, .iconst 1, 1), (57, .isub, 1), (58, .ireturn, 1)]
set_option maxRecDepth 100000 in
theorem dX3_add : dOk cX3_add tbX3_add = true := by decide +kernel
def tbX3_areSo : dT := [(0, .iconst 0, 1), (1, .istore_n 3, 1), (2, .iload_n 3, 1), (3, .aload_n 0, 1), (4, .getfield 22, 3), (7, .if_icmp .ge 53, 3), (10, .aload_n 2, 1), (11, .aload_n 0, 1), (12, .getfield 9, 3), (15, .iload_n 3, 1), (16, .iaload, 1), (17, .invokevirtual 26, 3), (20, .aload_n 1, 1), (21, .getfield 32, 3), (24, .aload_n 0, 1), (25, .getfield 15, 3), (28, .iload_n 3, 1), (29, .iaload, 1), (30, .iaload, 1), (31, .if_icmp .gt 7, 3), (34, .iconst 1, 1), (35, .goto 4, 3), (38, .iconst 0, 1), (39, .istore 4, 2), (41, .iload 4, 2), (43, .aload_n 0, 1), (44, .getfield 18, 3), (47, .iload_n 3, 1), (48, .baload, 1), (49, .if_icmp .eq 5, 3), (52, .iconst 0, 1), (53, .ireturn, 1), (54, .iinc 3 1, 3), (57, .goto (-55), 3), (60, .iconst 1, 1), (61, .ireturn, 1)]
set_option maxRecDepth 100000 in
theorem dX3_areSo : dOk cX3_areSo tbX3_areSo = true := by decide +kernel
def tbX4_init : dT := [(0, .aload_n 0, 1), (1, .invokespecial 3, 3), (4, .aload_n 0, 1), (5, .bipush 60, 2), (7, .newarray .int, 2), (9, .putfield 9, 3), (12, .aload_n 0, 1), (13, .iconst (-1), 1), (14, .putfield 15, 3), (17, .aload_n 0, 1), (18, .iconst 0, 1), (19, .putfield 19, 3), (22, .return_, 1)]
set_option maxRecDepth 100000 in
theorem dX4_init : dOk cX4_init tbX4_init = true := by decide +kernel
def tbX4_begin : dT := [(0, .aload_n 0, 1), (1, .iload_n 1, 1), (2, .putfield 15, 3), (5, .aload_n 0, 1), (6, .iload_n 2, 1), (7, .putfield 19, 3), (10, .aload_n 0, 1), (11, .getfield 9, 3), (14, .iconst 0, 1), (15, .invokestatic 22, 3), (18, .return_, 1)]
set_option maxRecDepth 100000 in
theorem dX4_begin : dOk cX4_begin tbX4_begin = true := by decide +kernel
def tbX4_clear : dT := [(0, .aload_n 0, 1), (1, .iconst (-1), 1), (2, .putfield 15, 3), (5, .aload_n 0, 1), (6, .iconst 0, 1), (7, .putfield 19, 3), (10, .return_, 1)]
set_option maxRecDepth 100000 in
theorem dX4_clear : dOk cX4_clear tbX4_clear = true := by decide +kernel
def tbX4_isNothing : dT := [(0, .aload_n 0, 1), (1, .getfield 15, 3), (4, .iconst (-1), 1), (5, .if_icmp .ne 7, 3), (8, .iconst 1, 1), (9, .goto 4, 3), (12, .iconst 0, 1), (13, .ireturn, 1)]
set_option maxRecDepth 100000 in
theorem dX4_isNothing : dOk cX4_isNothing tbX4_isNothing = true := by decide +kernel
def tbX4_has : dT := [(0, .iload_n 1, 1), (1, .iconst 0, 1), (2, .aload_n 0, 1), (3, .getfield 19, 3), (6, .invokestatic 28, 3), (9, .ifCond .eq 21, 3), (12, .iload_n 2, 1), (13, .iconst 0, 1), (14, .aload_n 0, 1), (15, .getfield 19, 3), (18, .iload_n 1, 1), (19, .isub, 1), (20, .invokestatic 28, 3), (23, .ifCond .eq 7, 3), (26, .iconst 1, 1), (27, .goto 4, 3), (30, .iconst 0, 1), (31, .ireturn, 1)]
set_option maxRecDepth 100000 in
theorem dX4_has : dOk cX4_has tbX4_has = true := by decide +kernel
def tbX4_set : dT := [(0, .aload_n 0, 1), (1, .getfield 15, 3), (4, .lookupswitch 50 #[(0, 28), (1, 39)], 28), (32, .aload_n 0, 1), (33, .getfield 9, 3), (36, .iload_n 1, 1), (37, .iload_n 2, 1), (38, .i2b, 1), (39, .iastore, 1), (40, .goto 21, 3), (43, .aload_n 0, 1), (44, .getfield 9, 3), (47, .iload_n 1, 1), (48, .iload_n 2, 1), (49, .i2s, 1), (50, .iastore, 1), (51, .goto 10, 3), (54, .aload_n 0, 1), (55, .getfield 9, 3), (58, .iload_n 1, 1), (59, .iload_n 2, 1), (60, .iastore, 1), (61, .return_, 1)]
set_option maxRecDepth 100000 in
theorem dX4_set : dOk cX4_set tbX4_set = true := by decide +kernel
def tbX5_init : dT := [(0, .aload_n 0, 1), (1, .invokespecial 3, 3), (4, .aload_n 0, 1), (5, .bipush 60, 2), (7, .newarray .int, 2), (9, .putfield 9, 3), (12, .aload_n 0, 1), (13, .iconst 0, 1), (14, .putfield 15, 3), (17, .aload_n 0, 1), (18, .iconst 0, 1), (19, .putfield 19, 3), (22, .aload_n 0, 1), (23, .iconst 0, 1), (24, .putfield 22, 3), (27, .return_, 1)]
set_option maxRecDepth 100000 in
theorem dX5_init : dOk cX5_init tbX5_init = true := by decide +kernel
def tbX5_begin : dT := [(0, .aload_n 1, 1), (1, .getfield 26, 3), (4, .iload_n 2, 1), (5, .aload_n 0, 1), (6, .getfield 9, 3), (9, .iconst 0, 1), (10, .iload_n 3, 1), (11, .invokestatic 31, 3), (14, .aload_n 0, 1), (15, .iload_n 3, 1), (16, .putfield 15, 3), (19, .aload_n 0, 1), (20, .iconst 0, 1), (21, .putfield 19, 3), (24, .aload_n 0, 1), (25, .iconst 0, 1), (26, .putfield 22, 3), (29, .return_, 1)]
set_option maxRecDepth 100000 in
theorem dX5_begin : dOk cX5_begin tbX5_begin = true := by decide +kernel
def tbX5_goesOn : dT := [(0, .aload_n 0, 1), (1, .getfield 22, 3), (4, .ifCond .ne 18, 3), (7, .aload_n 0, 1), (8, .getfield 19, 3), (11, .aload_n 0, 1), (12, .getfield 15, 3), (15, .if_icmp .ge 7, 3), (18, .iconst 1, 1), (19, .goto 4, 3), (22, .iconst 0, 1), (23, .ireturn, 1)]
set_option maxRecDepth 100000 in
theorem dX5_goesOn : dOk cX5_goesOn tbX5_goesOn = true := by decide +kernel
def tbX5_take : dT := [(0, .aload_n 0, 1), (1, .invokevirtual 37, 3), (4, .ifCond .eq 20, 3), (7, .aload_n 0, 1), (8, .getfield 9, 3), (11, .aload_n 0, 1), (12, .getfield 19, 3), (15, .iaload, 1), (16, .iload_n 1, 1), (17, .iload_n 2, 1), (18, .invokestatic 41, 3), (21, .ifCond .ne 10, 3), (24, .aload_n 0, 1), (25, .iconst 1, 1), (26, .putfield 22, 3), (29, .iconst 0, 1), (30, .ireturn, 1), (31, .aload_n 0, 1), (32, .dup, 1), (33, .getfield 19, 3), (36, .iconst 1, 1), (37, .iadd, 1), (38, .putfield 19, 3), (41, .aload_n 0, 1), (42, .getfield 9, 3), (45, .aload_n 0, 1), (46, .getfield 19, 3), (49, .iconst 1, 1), (50, .isub, 1), (51, .iaload, 1), (52, .iload_n 1, 1), (53, .isub, 1), (54, .ireturn, 1)]
set_option maxRecDepth 100000 in
theorem dX5_take : dOk cX5_take tbX5_take = true := by decide +kernel
def tbX5_digit : dT := [(0, .iload_n 1, 1), (1, .aload_n 0, 1), (2, .bipush 48, 2), (4, .iload_n 1, 1), (5, .iadd, 1), (6, .bipush 48, 2), (8, .iload_n 2, 1), (9, .iadd, 1), (10, .invokevirtual 45, 3), (13, .iadd, 1), (14, .ireturn, 1)]
set_option maxRecDepth 100000 in
theorem dX5_digit : dOk cX5_digit tbX5_digit = true := by decide +kernel
def tbX5_sign : dT := [(0, .aload_n 0, 1), (1, .iload_n 1, 1), (2, .iload_n 1, 1), (3, .invokevirtual 45, 3), (6, .pop, 1), (7, .return_, 1)]
set_option maxRecDepth 100000 in
theorem dX5_sign : dOk cX5_sign tbX5_sign = true := by decide +kernel
def tbX5_kind : dT := [(0, .aload_n 0, 1), (1, .invokevirtual 37, 3), (4, .ifCond .eq 15, 3), (7, .aload_n 0, 1), (8, .getfield 9, 3), (11, .aload_n 0, 1), (12, .getfield 19, 3), (15, .iaload, 1), (16, .goto 4, 3), (19, .iconst 0, 1), (20, .istore_n 1, 1), (21, .iload_n 1, 1), (22, .bipush 107, 2), (24, .if_icmp .ne 11, 3), (27, .aload_n 0, 1), (28, .bipush 107, 2), (30, .invokevirtual 49, 3), (33, .iconst 1, 1), (34, .ireturn, 1), (35, .iload_n 1, 1), (36, .bipush 98, 2), (38, .if_icmp .ne 11, 3), (41, .aload_n 0, 1), (42, .bipush 98, 2), (44, .invokevirtual 49, 3), (47, .iconst 2, 1), (48, .ireturn, 1), (49, .aload_n 0, 1), (50, .bipush 115, 2), (52, .invokevirtual 49, 3), (55, .iconst 0, 1), (56, .ireturn, 1)]
set_option maxRecDepth 100000 in
theorem dX5_kind : dOk cX5_kind tbX5_kind = true := by decide +kernel
def tbX5_end : dT := [(0, .aload_n 0, 1), (1, .aload_n 0, 1), (2, .getfield 22, 3), (5, .ifCond .ne 14, 3), (8, .aload_n 0, 1), (9, .getfield 19, 3), (12, .aload_n 0, 1), (13, .getfield 15, 3), (16, .if_icmp .ge 7, 3), (19, .iconst 1, 1), (20, .goto 4, 3), (23, .iconst 0, 1), (24, .putfield 22, 3), (27, .return_, 1)]
set_option maxRecDepth 100000 in
theorem dX5_end : dOk cX5_end tbX5_end = true := by decide +kernel
def tbX6_init : dT := [(0, .aload_n 0, 1), (1, .invokespecial 5, 3), (4, .aload_n 0, 1), (5, .iconst 4, 1), (6, .anewarray 11, 3), (9, .putfield 13, 3), (12, .aload_n 0, 1), (13, .new 17, 3), (16, .dup, 1), (17, .invokespecial 19, 3), (20, .putfield 20, 3), (23, .aload_n 0, 1), (24, .new 24, 3), (27, .dup, 1), (28, .invokespecial 26, 3), (31, .putfield 27, 3), (34, .aload_n 0, 1), (35, .new 31, 3), (38, .dup, 1), (39, .invokespecial 33, 3), (42, .putfield 34, 3), (45, .aload_n 0, 1), (46, .new 38, 3), (49, .dup, 1), (50, .invokespecial 40, 3), (53, .putfield 41, 3), (56, .aload_n 0, 1), (57, .new 45, 3), (60, .dup, 1), (61, .invokespecial 47, 3), (64, .putfield 48, 3), (67, .aload_n 0, 1), (68, .new 38, 3), (71, .dup, 1), (72, .invokespecial 40, 3), (75, .putfield 52, 3), (78, .aload_n 0, 1), (79, .new 45, 3), (82, .dup, 1), (83, .invokespecial 47, 3), (86, .putfield 55, 3), (89, .aload_n 0, 1), (90, .iconst 0, 1), (91, .putfield 58, 3), (94, .aload_n 0, 1), (95, .iconst 0, 1), (96, .putfield 62, 3), (99, .iconst 0, 1), (100, .istore_n 1, 1), (101, .iload_n 1, 1), (102, .iconst 4, 1), (103, .if_icmp .ge 22, 3), (106, .aload_n 0, 1), (107, .getfield 13, 3), (110, .iload_n 1, 1), (111, .new 11, 3), (114, .dup, 1), (115, .invokespecial 65, 3), (118, .aastore, 1), (119, .iinc 1 1, 3), (122, .goto (-21), 3), (125, .return_, 1)]
set_option maxRecDepth 100000 in
theorem dX6_init : dOk cX6_init tbX6_init = true := by decide +kernel
def tbX6_canal : dT := [(0, .aload_n 0, 1), (1, .aload_n 0, 1), (2, .iload_n 1, 1), (3, .iload_n 2, 1), (4, .iload_n 3, 1), (5, .iload 4, 2), (7, .invokevirtual 66, 3), (10, .invokevirtual 70, 3), (13, .ireturn, 1)]
set_option maxRecDepth 100000 in
theorem dX6_canal : dOk cX6_canal tbX6_canal = true := by decide +kernel
def tbX6_ofSkater : dT := [(0, .aload_n 0, 1), (1, .getfield 48, 3), (4, .iload_n 1, 1), (5, .invokevirtual 74, 3), (8, .ifCond .ne 5, 3), (11, .iconst (-1), 1), (12, .ireturn, 1), (13, .iload_n 2, 1), (14, .tableswitch 76 0 3 #[30, 40, 50, 59], 30), (44, .aload_n 0, 1), (45, .getfield 48, 3), (48, .getfield 78, 3), (51, .iload_n 1, 1), (52, .iaload, 1), (53, .ireturn, 1), (54, .aload_n 0, 1), (55, .getfield 48, 3), (58, .getfield 82, 3), (61, .iload_n 1, 1), (62, .iaload, 1), (63, .ireturn, 1), (64, .aload_n 0, 1), (65, .getfield 48, 3), (68, .iload_n 1, 1), (69, .invokevirtual 85, 3), (72, .ireturn, 1), (73, .aload_n 0, 1), (74, .getfield 41, 3), (77, .aload_n 0, 1), (78, .getfield 48, 3), (81, .iload_n 1, 1), (82, .invokevirtual 85, 3), (85, .iconst 0, 1), (86, .invokevirtual 88, 3), (89, .ireturn, 1), (90, .bipush (-2), 2), (92, .ireturn, 1)]
set_option maxRecDepth 100000 in
theorem dX6_ofSkater : dOk cX6_ofSkater tbX6_ofSkater = true := by decide +kernel
def tbX6_strength : dT := [(0, .aload_n 0, 1), (1, .getfield 41, 3), (4, .iload_n 1, 1), (5, .invokevirtual 92, 3), (8, .ifCond .eq 15, 3), (11, .aload_n 0, 1), (12, .getfield 41, 3), (15, .getfield 93, 3), (18, .iload_n 1, 1), (19, .iaload, 1), (20, .goto 4, 3), (23, .iconst (-1), 1), (24, .ireturn, 1)]
set_option maxRecDepth 100000 in
theorem dX6_strength : dOk cX6_strength tbX6_strength = true := by decide +kernel
def tbX6_freeze : dT := [(0, .aload_n 0, 1), (1, .getfield 41, 3), (4, .iload_n 1, 1), (5, .invokevirtual 92, 3), (8, .ifCond .ne 5, 3), (11, .iconst (-1), 1), (12, .ireturn, 1), (13, .iload_n 2, 1), (14, .iconst 0, 1), (15, .bipush 9, 2), (17, .invokestatic 96, 3), (20, .ifCond .ne 6, 3), (23, .bipush (-2), 2), (25, .ireturn, 1), (26, .aload_n 0, 1), (27, .getfield 41, 3), (30, .getfield 93, 3), (33, .iload_n 1, 1), (34, .iaload, 1), (35, .istore_n 3, 1), (36, .aload_n 0, 1), (37, .getfield 41, 3), (40, .getfield 93, 3), (43, .iload_n 1, 1), (44, .iload_n 2, 1), (45, .iastore, 1), (46, .iload_n 3, 1), (47, .ireturn, 1)]
set_option maxRecDepth 100000 in
theorem dX6_freeze : dOk cX6_freeze tbX6_freeze = true := by decide +kernel
def tbX6_frost : dT := [(0, .aload_n 0, 1), (1, .iload_n 1, 1), (2, .invokevirtual 100, 3), (5, .istore_n 2, 1), (6, .iload_n 2, 1), (7, .ifCond .eq 5, 3), (10, .iload_n 2, 1), (11, .ireturn, 1), (12, .aload_n 0, 1), (13, .getfield 41, 3), (16, .getfield 103, 3), (19, .istore_n 3, 1), (20, .aload_n 0, 1), (21, .getfield 41, 3), (24, .iload_n 1, 1), (25, .putfield 103, 3), (28, .iload_n 3, 1), (29, .ireturn, 1)]
set_option maxRecDepth 100000 in
theorem dX6_frost : dOk cX6_frost tbX6_frost = true := by decide +kernel
def tbX6_deed : dT := [(0, .iload 8, 2), (2, .iconst 0, 1), (3, .iconst 4, 1), (4, .invokestatic 96, 3), (7, .ifCond .ne 26, 3), (10, .aload_n 0, 1), (11, .aload_n 0, 1), (12, .iload_n 1, 1), (13, .iload_n 2, 1), (14, .iload_n 3, 1), (15, .iload 4, 2), (17, .invokevirtual 106, 3), (20, .ifCond .eq 8, 3), (23, .bipush (-2), 2), (25, .goto 4, 3), (28, .iconst (-1), 1), (29, .invokevirtual 70, 3), (32, .ireturn, 1), (33, .aload_n 0, 1), (34, .iload_n 1, 1), (35, .iload_n 2, 1), (36, .iload_n 3, 1), (37, .iload 4, 2), (39, .iload 5, 2), (41, .iload 6, 2), (43, .iload 7, 2), (45, .invokevirtual 110, 3), (48, .istore 9, 2), (50, .aload_n 0, 1), (51, .iload 9, 2), (53, .ifCond .ne 14, 3), (56, .aload_n 0, 1), (57, .iload 7, 2), (59, .iload 8, 2), (61, .invokevirtual 114, 3), (64, .goto 5, 3), (67, .iload 9, 2), (69, .invokevirtual 70, 3), (72, .ireturn, 1)]
set_option maxRecDepth 100000 in
theorem dX6_deed : dOk cX6_deed tbX6_deed = true := by decide +kernel
def tbX6_write : dT := [(0, .aload_n 0, 1), (1, .iload_n 1, 1), (2, .iload_n 2, 1), (3, .iload_n 3, 1), (4, .iload 4, 2), (6, .iload 5, 2), (8, .iload 6, 2), (10, .iload 7, 2), (12, .invokevirtual 110, 3), (15, .istore 8, 2), (17, .iload 8, 2), (19, .ifCond .eq 10, 3), (22, .aload_n 0, 1), (23, .iload 8, 2), (25, .invokevirtual 70, 3), (28, .ireturn, 1), (29, .aload_n 0, 1), (30, .getfield 27, 3), (33, .getfield 117, 3), (36, .bipush (-9), 2), (38, .if_icmp .eq 18, 3), (41, .aload_n 0, 1), (42, .bipush (-100), 2), (44, .aload_n 0, 1), (45, .getfield 27, 3), (48, .getfield 117, 3), (51, .isub, 1), (52, .invokevirtual 70, 3), (55, .ireturn, 1), (56, .aload_n 0, 1), (57, .getfield 27, 3), (60, .getfield 120, 3), (63, .iconst 0, 1), (64, .aload_n 0, 1), (65, .getfield 41, 3), (68, .getfield 93, 3), (71, .iconst 0, 1), (72, .bipush 20, 2), (74, .invokestatic 121, 3), (77, .aload_n 0, 1), (78, .iload 7, 2), (80, .invokevirtual 70, 3), (83, .ireturn, 1)]
set_option maxRecDepth 100000 in
theorem dX6_write : dOk cX6_write tbX6_write = true := by decide +kernel
def tbX6_nights : dT := [(0, .aload_n 0, 1), (1, .iload_n 1, 1), (2, .invokevirtual 100, 3), (5, .istore_n 2, 1), (6, .iload_n 2, 1), (7, .ifCond .eq 5, 3), (10, .iload_n 2, 1), (11, .ireturn, 1), (12, .aload_n 0, 1), (13, .getfield 41, 3), (16, .iload_n 1, 1), (17, .aload_n 0, 1), (18, .getfield 41, 3), (21, .getfield 103, 3), (24, .imul, 1), (25, .invokevirtual 127, 3), (28, .aload_n 0, 1), (29, .getfield 41, 3), (32, .bipush 9, 2), (34, .invokevirtual 131, 3), (37, .ireturn, 1)]
set_option maxRecDepth 100000 in
theorem dX6_nights : dOk cX6_nights tbX6_nights = true := by decide +kernel
def tbX6_thaw : dT := [(0, .aload_n 0, 1), (1, .iload_n 1, 1), (2, .invokevirtual 100, 3), (5, .istore_n 2, 1), (6, .iload_n 2, 1), (7, .ifCond .eq 5, 3), (10, .iload_n 2, 1), (11, .ireturn, 1), (12, .aload_n 0, 1), (13, .getfield 41, 3), (16, .iload_n 1, 1), (17, .ineg, 1), (18, .invokevirtual 127, 3), (21, .aload_n 0, 1), (22, .getfield 41, 3), (25, .iconst 0, 1), (26, .invokevirtual 131, 3), (29, .ireturn, 1)]
set_option maxRecDepth 100000 in
theorem dX6_thaw : dOk cX6_thaw tbX6_thaw = true := by decide +kernel
def tbX6_bond : dT := [(0, .aload_n 0, 1), (1, .iload_n 1, 1), (2, .iload_n 2, 1), (3, .iload_n 3, 1), (4, .iload 4, 2), (6, .invokevirtual 134, 3), (9, .ifCond .ne 5, 3), (12, .iconst (-1), 1), (13, .ireturn, 1), (14, .iload 5, 2), (16, .iconst (-1), 1), (17, .bipush 39, 2), (19, .invokestatic 96, 3), (22, .ifCond .ne 6, 3), (25, .bipush (-2), 2), (27, .ireturn, 1), (28, .aload_n 0, 1), (29, .getfield 41, 3), (32, .aload_n 0, 1), (33, .getfield 48, 3), (36, .iload_n 1, 1), (37, .invokevirtual 85, 3), (40, .iconst 0, 1), (41, .invokevirtual 88, 3), (44, .istore 6, 2), (46, .aload_n 0, 1), (47, .getfield 41, 3), (50, .aload_n 0, 1), (51, .getfield 48, 3), (54, .iload_n 2, 1), (55, .invokevirtual 85, 3), (58, .iconst 0, 1), (59, .invokevirtual 88, 3), (62, .istore 7, 2), (64, .aload_n 0, 1), (65, .getfield 41, 3), (68, .iload_n 3, 1), (69, .iload 4, 2), (71, .iload 6, 2), (73, .iload 7, 2), (75, .invokevirtual 137, 3), (78, .istore 8, 2), (80, .iload 5, 2), (82, .iconst (-1), 1), (83, .if_icmp .ne 6, 3), (86, .iload 8, 2), (88, .ireturn, 1), (89, .iload 5, 2), (91, .iload 8, 2), (93, .if_icmp .ge 22, 3), (96, .aload_n 0, 1), (97, .getfield 41, 3), (100, .iload 5, 2), (102, .iload_n 3, 1), (103, .iload 4, 2), (105, .iload 6, 2), (107, .iload 7, 2), (109, .invokevirtual 140, 3), (112, .goto 5, 3), (115, .bipush (-9), 2), (117, .ireturn, 1)]
set_option maxRecDepth 100000 in
theorem dX6_bond : dOk cX6_bond tbX6_bond = true := by decide +kernel
def tbX6_holds : dT := [(0, .aload_n 0, 1), (1, .iload_n 1, 1), (2, .iload_n 2, 1), (3, .iload_n 3, 1), (4, .iload 4, 2), (6, .invokevirtual 134, 3), (9, .ifCond .ne 5, 3), (12, .iconst (-1), 1), (13, .ireturn, 1), (14, .bipush 9, 2), (16, .istore 5, 2), (18, .iload 5, 2), (20, .ifCond .lt 69, 3), (23, .aload_n 0, 1), (24, .getfield 41, 3), (27, .aload_n 0, 1), (28, .getfield 48, 3), (31, .iload_n 1, 1), (32, .invokevirtual 85, 3), (35, .iload 5, 2), (37, .invokevirtual 88, 3), (40, .istore 6, 2), (42, .aload_n 0, 1), (43, .getfield 41, 3), (46, .aload_n 0, 1), (47, .getfield 48, 3), (50, .iload_n 2, 1), (51, .invokevirtual 85, 3), (54, .iload 5, 2), (56, .invokevirtual 88, 3), (59, .istore 7, 2), (61, .aload_n 0, 1), (62, .getfield 41, 3), (65, .iload_n 3, 1), (66, .iload 4, 2), (68, .iload 6, 2), (70, .iload 7, 2), (72, .invokevirtual 137, 3), (75, .bipush (-9), 2), (77, .if_icmp .eq 6, 3), (80, .iload 5, 2), (82, .ireturn, 1), (83, .iinc 5 (-1), 3), (86, .goto (-68), 3), (89, .bipush (-9), 2), (91, .ireturn, 1)]
set_option maxRecDepth 100000 in
theorem dX6_holds : dOk cX6_holds tbX6_holds = true := by decide +kernel
def tbX6_alone : dT := [(0, .aload_n 0, 1), (1, .getfield 48, 3), (4, .iload_n 1, 1), (5, .invokevirtual 74, 3), (8, .ifCond .eq 14, 3), (11, .aload_n 0, 1), (12, .getfield 41, 3), (15, .iload_n 2, 1), (16, .invokevirtual 92, 3), (19, .ifCond .ne 5, 3), (22, .iconst (-1), 1), (23, .ireturn, 1), (24, .aload_n 0, 1), (25, .getfield 41, 3), (28, .iload_n 2, 1), (29, .aload_n 0, 1), (30, .getfield 41, 3), (33, .aload_n 0, 1), (34, .getfield 48, 3), (37, .iload_n 1, 1), (38, .invokevirtual 85, 3), (41, .iconst 0, 1), (42, .invokevirtual 88, 3), (45, .invokevirtual 144, 3), (48, .ireturn, 1)]
set_option maxRecDepth 100000 in
theorem dX6_alone : dOk cX6_alone tbX6_alone = true := by decide +kernel
def tbX6_neck : dT := [(0, .aload_n 0, 1), (1, .iload_n 1, 1), (2, .iload_n 2, 1), (3, .iload_n 3, 1), (4, .iload 4, 2), (6, .invokevirtual 134, 3), (9, .ifCond .ne 5, 3), (12, .iconst (-1), 1), (13, .ireturn, 1), (14, .aload_n 0, 1), (15, .iload_n 1, 1), (16, .iload_n 2, 1), (17, .iload_n 3, 1), (18, .iload 4, 2), (20, .iconst 0, 1), (21, .invokevirtual 147, 3), (24, .ifCond .ne 6, 3), (27, .bipush (-9), 2), (29, .ireturn, 1), (30, .iconst 0, 1), (31, .istore 5, 2), (33, .iload 5, 2), (35, .aload_n 0, 1), (36, .getfield 41, 3), (39, .invokevirtual 151, 3), (42, .if_icmp .ge 41, 3), (45, .iload 5, 2), (47, .iload_n 3, 1), (48, .if_icmp .eq 29, 3), (51, .iload 5, 2), (53, .iload 4, 2), (55, .if_icmp .eq 22, 3), (58, .aload_n 0, 1), (59, .iload_n 1, 1), (60, .iload_n 2, 1), (61, .iload_n 3, 1), (62, .iload 4, 2), (64, .iconst 1, 1), (65, .iload 5, 2), (67, .ishl, 1), (68, .invokevirtual 147, 3), (71, .ifCond .ne 6, 3), (74, .iload 5, 2), (76, .ireturn, 1), (77, .iinc 5 1, 3), (80, .goto (-47), 3), (83, .bipush (-9), 2), (85, .ireturn, 1)]
set_option maxRecDepth 100000 in
theorem dX6_neck : dOk cX6_neck tbX6_neck = true := by decide +kernel
def tbX6_reading : dT := [(0, .aload_n 0, 1), (1, .getfield 48, 3), (4, .iload_n 1, 1), (5, .invokevirtual 74, 3), (8, .ifCond .eq 14, 3), (11, .aload_n 0, 1), (12, .getfield 41, 3), (15, .iload_n 2, 1), (16, .invokevirtual 92, 3), (19, .ifCond .ne 5, 3), (22, .iconst (-1), 1), (23, .ireturn, 1), (24, .aload_n 0, 1), (25, .getfield 34, 3), (28, .iload_n 1, 1), (29, .iload_n 2, 1), (30, .iload_n 3, 1), (31, .invokevirtual 155, 3), (34, .ireturn, 1)]
set_option maxRecDepth 100000 in
theorem dX6_reading : dOk cX6_reading tbX6_reading = true := by decide +kernel
def tbX6_back : dT := [(0, .iload_n 1, 1), (1, .iconst 0, 1), (2, .aload_n 0, 1), (3, .getfield 34, 3), (6, .getfield 159, 3), (9, .invokestatic 96, 3), (12, .ifCond .ne 6, 3), (15, .bipush (-2), 2), (17, .ireturn, 1), (18, .aload_n 0, 1), (19, .getfield 34, 3), (22, .dup, 1), (23, .getfield 159, 3), (26, .iload_n 1, 1), (27, .isub, 1), (28, .putfield 159, 3), (31, .aload_n 0, 1), (32, .getfield 34, 3), (35, .getfield 159, 3), (38, .ireturn, 1)]
set_option maxRecDepth 100000 in
theorem dX6_back : dOk cX6_back tbX6_back = true := by decide +kernel
def tbX6_weights : dT := [(0, .aload_n 0, 1), (1, .getfield 48, 3), (4, .iload_n 1, 1), (5, .invokevirtual 74, 3), (8, .ifCond .ne 5, 3), (11, .iconst (-1), 1), (12, .ireturn, 1), (13, .aload_n 0, 1), (14, .getfield 48, 3), (17, .getfield 82, 3), (20, .iload_n 1, 1), (21, .iaload, 1), (22, .istore_n 2, 1), (23, .iconst 0, 1), (24, .istore_n 3, 1), (25, .iconst 1, 1), (26, .istore 4, 2), (28, .iload 4, 2), (30, .bipush 9, 2), (32, .if_icmp .gt 49, 3), (35, .aload_n 0, 1), (36, .getfield 48, 3), (39, .getfield 82, 3), (42, .iload_n 1, 1), (43, .iload 4, 2), (45, .iastore, 1), (46, .iload_n 3, 1), (47, .aload_n 0, 1), (48, .getfield 34, 3), (51, .aload_n 0, 1), (52, .getfield 41, 3), (55, .aload_n 0, 1), (56, .getfield 48, 3), (59, .invokevirtual 161, 3), (62, .ifCond .eq 10, 3), (65, .iconst 1, 1), (66, .iload 4, 2), (68, .ishl, 1), (69, .goto 4, 3), (72, .iconst 0, 1), (73, .ior, 1), (74, .istore_n 3, 1), (75, .iinc 4 1, 3), (78, .goto (-50), 3), (81, .aload_n 0, 1), (82, .getfield 48, 3), (85, .getfield 82, 3), (88, .iload_n 1, 1), (89, .iload_n 2, 1), (90, .iastore, 1), (91, .iload_n 3, 1), (92, .ireturn, 1)]
set_option maxRecDepth 100000 in
theorem dX6_weights : dOk cX6_weights tbX6_weights = true := by decide +kernel
def tbX6_kinds : dT := [(0, .aload_n 0, 1), (1, .getfield 48, 3), (4, .iload_n 1, 1), (5, .invokevirtual 74, 3), (8, .ifCond .ne 5, 3), (11, .iconst (-1), 1), (12, .ireturn, 1), (13, .aload_n 0, 1), (14, .getfield 48, 3), (17, .getfield 78, 3), (20, .iload_n 1, 1), (21, .iaload, 1), (22, .istore_n 2, 1), (23, .iconst 0, 1), (24, .istore_n 3, 1), (25, .iconst 0, 1), (26, .istore 4, 2), (28, .iload 4, 2), (30, .iconst 2, 1), (31, .if_icmp .gt 49, 3), (34, .aload_n 0, 1), (35, .getfield 48, 3), (38, .getfield 78, 3), (41, .iload_n 1, 1), (42, .iload 4, 2), (44, .iastore, 1), (45, .iload_n 3, 1), (46, .aload_n 0, 1), (47, .getfield 34, 3), (50, .aload_n 0, 1), (51, .getfield 41, 3), (54, .aload_n 0, 1), (55, .getfield 48, 3), (58, .invokevirtual 161, 3), (61, .ifCond .eq 10, 3), (64, .iconst 1, 1), (65, .iload 4, 2), (67, .ishl, 1), (68, .goto 4, 3), (71, .iconst 0, 1), (72, .ior, 1), (73, .istore_n 3, 1), (74, .iinc 4 1, 3), (77, .goto (-49), 3), (80, .aload_n 0, 1), (81, .getfield 48, 3), (84, .getfield 78, 3), (87, .iload_n 1, 1), (88, .iload_n 2, 1), (89, .iastore, 1), (90, .iload_n 3, 1), (91, .ireturn, 1)]
set_option maxRecDepth 100000 in
theorem dX6_kinds : dOk cX6_kinds tbX6_kinds = true := by decide +kernel
def tbX6_strengths : dT := [(0, .aload_n 0, 1), (1, .getfield 41, 3), (4, .iload_n 1, 1), (5, .invokevirtual 92, 3), (8, .ifCond .ne 5, 3), (11, .iconst (-1), 1), (12, .ireturn, 1), (13, .aload_n 0, 1), (14, .getfield 41, 3), (17, .getfield 93, 3), (20, .iload_n 1, 1), (21, .iaload, 1), (22, .istore_n 2, 1), (23, .iconst 0, 1), (24, .istore_n 3, 1), (25, .iconst 0, 1), (26, .istore 4, 2), (28, .iload 4, 2), (30, .bipush 9, 2), (32, .if_icmp .gt 49, 3), (35, .aload_n 0, 1), (36, .getfield 41, 3), (39, .getfield 93, 3), (42, .iload_n 1, 1), (43, .iload 4, 2), (45, .iastore, 1), (46, .iload_n 3, 1), (47, .aload_n 0, 1), (48, .getfield 34, 3), (51, .aload_n 0, 1), (52, .getfield 41, 3), (55, .aload_n 0, 1), (56, .getfield 48, 3), (59, .invokevirtual 161, 3), (62, .ifCond .eq 10, 3), (65, .iconst 1, 1), (66, .iload 4, 2), (68, .ishl, 1), (69, .goto 4, 3), (72, .iconst 0, 1), (73, .ior, 1), (74, .istore_n 3, 1), (75, .iinc 4 1, 3), (78, .goto (-50), 3), (81, .aload_n 0, 1), (82, .getfield 41, 3), (85, .getfield 93, 3), (88, .iload_n 1, 1), (89, .iload_n 2, 1), (90, .iastore, 1), (91, .iload_n 3, 1), (92, .ireturn, 1)]
set_option maxRecDepth 100000 in
theorem dX6_strengths : dOk cX6_strengths tbX6_strengths = true := by decide +kernel
def tbX6_odds : dT := [(0, .aload_n 0, 1), (1, .iload_n 1, 1), (2, .iload_n 2, 1), (3, .iload_n 3, 1), (4, .iload 4, 2), (6, .invokevirtual 134, 3), (9, .ifCond .ne 7, 3), (12, .ldc2_w 165, 3), (15, .lreturn, 1), (16, .iload 5, 2), (18, .aload_n 0, 1), (19, .getfield 41, 3), (22, .invokevirtual 167, 3), (25, .iconst (-1), 1), (26, .ixor, 1), (27, .iand, 1), (28, .ifCond .ne 17, 3), (31, .iload 5, 2), (33, .invokestatic 170, 3), (36, .bipush 8, 2), (38, .if_icmp .gt 7, 3), (41, .iconst 1, 1), (42, .goto 4, 3), (45, .iconst 0, 1), (46, .istore 7, 2), (48, .iload 7, 2), (50, .ifCond .eq 13, 3), (53, .iload 6, 2), (55, .iconst 0, 1), (56, .iconst 1, 1), (57, .invokestatic 96, 3), (60, .ifCond .ne 7, 3), (63, .ldc2_w 165, 3), (66, .lreturn, 1), (67, .aload_n 0, 1), (68, .iload_n 1, 1), (69, .iload_n 2, 1), (70, .iload_n 3, 1), (71, .iload 4, 2), (73, .iload 5, 2), (75, .invokevirtual 175, 3), (78, .istore 8, 2), (80, .iconst 1, 1), (81, .iload 5, 2), (83, .invokestatic 170, 3), (86, .ishl, 1), (87, .istore 9, 2), (89, .iconst 0, 1), (90, .istore 10, 2), (92, .iload 10, 2), (94, .bipush 8, 2), (96, .if_icmp .ge 34, 3), (99, .iload 9, 2), (101, .iconst 1, 1), (102, .if_icmp .le 28, 3), (105, .iload 8, 2), (107, .iconst 2, 1), (108, .irem, 1), (109, .ifCond .ne 21, 3), (112, .iload 8, 2), (114, .iconst 2, 1), (115, .idiv, 1), (116, .istore 8, 2), (118, .iload 9, 2), (120, .iconst 2, 1), (121, .idiv, 1), (122, .istore 9, 2), (124, .iinc 10 1, 3), (127, .goto (-35), 3), (130, .iload 6, 2), (132, .ifCond .ne 9, 3), (135, .iload 8, 2), (137, .i2l, 1), (138, .goto 6, 3), (141, .iload 9, 2), (143, .i2l, 1), (144, .lreturn, 1)]
set_option maxRecDepth 100000 in
theorem dX6_odds : dOk cX6_odds tbX6_odds = true := by decide +kernel
def tbX6_sheet : dT := [(0, .aload_n 0, 1), (1, .aload_n 0, 1), (2, .iload_n 1, 1), (3, .iload_n 2, 1), (4, .iload_n 3, 1), (5, .invokevirtual 178, 3), (8, .invokevirtual 70, 3), (11, .ireturn, 1)]
set_option maxRecDepth 100000 in
theorem dX6_sheet : dOk cX6_sheet tbX6_sheet = true := by decide +kernel
def tbX6_lose : dT := [(0, .aload_n 0, 1), (1, .iload_n 1, 1), (2, .invokevirtual 182, 3), (5, .astore_n 2, 1), (6, .aload_n 2, 1), (7, .ifnonnull 5, 3), (10, .iconst (-1), 1), (11, .ireturn, 1), (12, .aload_n 2, 1), (13, .invokevirtual 186, 3), (16, .ifCond .eq 7, 3), (19, .iconst 0, 1), (20, .goto 4, 3), (23, .iconst 1, 1), (24, .istore_n 3, 1), (25, .aload_n 2, 1), (26, .invokevirtual 190, 3), (29, .iload_n 3, 1), (30, .ireturn, 1)]
set_option maxRecDepth 100000 in
theorem dX6_lose : dOk cX6_lose tbX6_lose = true := by decide +kernel
def tbX6_put : dT := [(0, .aload_n 0, 1), (1, .aload_n 0, 1), (2, .iload_n 1, 1), (3, .iload_n 2, 1), (4, .iload_n 3, 1), (5, .invokevirtual 193, 3), (8, .invokevirtual 70, 3), (11, .ireturn, 1)]
set_option maxRecDepth 100000 in
theorem dX6_put : dOk cX6_put tbX6_put = true := by decide +kernel
def tbX6_cell : dT := [(0, .aload_n 0, 1), (1, .iload_n 1, 1), (2, .invokevirtual 182, 3), (5, .astore 4, 2), (7, .aload_n 0, 1), (8, .aload 4, 2), (10, .iload_n 3, 1), (11, .iload_n 2, 1), (12, .iconst 1, 1), (13, .invokestatic 196, 3), (16, .invokevirtual 70, 3), (19, .istore 5, 2), (21, .aload 4, 2), (23, .ifnull 8, 3), (26, .iload 5, 2), (28, .ifCond .eq 9, 3), (31, .ldc2_w 165, 3), (34, .goto 11, 3), (37, .aload 4, 2), (39, .getfield 200, 3), (42, .iload_n 2, 1), (43, .iaload, 1), (44, .i2l, 1), (45, .lreturn, 1)]
set_option maxRecDepth 100000 in
theorem dX6_cell : dOk cX6_cell tbX6_cell = true := by decide +kernel
def tbX6_copy : dT := [(0, .aload_n 0, 1), (1, .aload_n 0, 1), (2, .iload_n 1, 1), (3, .iload_n 2, 1), (4, .iload_n 3, 1), (5, .iload 4, 2), (7, .iload 5, 2), (9, .invokevirtual 203, 3), (12, .invokevirtual 70, 3), (15, .ireturn, 1)]
set_option maxRecDepth 100000 in
theorem dX6_copy : dOk cX6_copy tbX6_copy = true := by decide +kernel
def tbX6_tell : dT := [(0, .aload_n 0, 1), (1, .getfield 48, 3), (4, .iload_n 1, 1), (5, .invokevirtual 74, 3), (8, .ifCond .ne 5, 3), (11, .iconst (-1), 1), (12, .ireturn, 1), (13, .aload_n 0, 1), (14, .getfield 48, 3), (17, .getfield 82, 3), (20, .iload_n 1, 1), (21, .iaload, 1), (22, .istore_n 2, 1), (23, .aload_n 0, 1), (24, .getfield 48, 3), (27, .getfield 78, 3), (30, .iload_n 1, 1), (31, .iaload, 1), (32, .lookupswitch 40 #[(1, 34), (2, 28)], 28), (60, .aload_n 0, 1), (61, .iload_n 2, 1), (62, .invokevirtual 206, 3), (65, .ireturn, 1), (66, .aload_n 0, 1), (67, .iload_n 2, 1), (68, .invokevirtual 209, 3), (71, .ireturn, 1), (72, .aload_n 0, 1), (73, .iload_n 2, 1), (74, .invokevirtual 212, 3), (77, .ireturn, 1)]
set_option maxRecDepth 100000 in
theorem dX6_tell : dOk cX6_tell tbX6_tell = true := by decide +kernel
def tbX6_signed : dT := [(0, .aload_n 0, 1), (1, .getfield 48, 3), (4, .iload_n 1, 1), (5, .invokevirtual 74, 3), (8, .ifCond .ne 5, 3), (11, .iconst (-1), 1), (12, .ireturn, 1), (13, .aload_n 0, 1), (14, .getfield 48, 3), (17, .getfield 78, 3), (20, .iload_n 1, 1), (21, .iaload, 1), (22, .iconst 2, 1), (23, .if_icmp .ne 11, 3), (26, .aload_n 0, 1), (27, .iconst 5, 1), (28, .invokevirtual 215, 3), (31, .bipush 60, 2), (33, .ireturn, 1), (34, .aload_n 0, 1), (35, .iconst 4, 1), (36, .invokevirtual 215, 3), (39, .iload_n 1, 1), (40, .ireturn, 1)]
set_option maxRecDepth 100000 in
theorem dX6_signed : dOk cX6_signed tbX6_signed = true := by decide +kernel
def tbX6_as : dT := [(0, .aload_n 0, 1), (1, .aload_n 0, 1), (2, .iload_n 1, 1), (3, .iload_n 2, 1), (4, .invokevirtual 218, 3), (7, .invokevirtual 70, 3), (10, .ireturn, 1)]
set_option maxRecDepth 100000 in
theorem dX6_as : dOk cX6_as tbX6_as = true := by decide +kernel
def tbX6_trace : dT := [(0, .aload_n 0, 1), (1, .getfield 62, 3), (4, .ireturn, 1)]
set_option maxRecDepth 100000 in
theorem dX6_trace : dOk cX6_trace tbX6_trace = true := by decide +kernel
def tbX6_fault : dT := [(0, .aload_n 0, 1), (1, .getfield 58, 3), (4, .ireturn, 1)]
set_option maxRecDepth 100000 in
theorem dX6_fault : dOk cX6_fault tbX6_fault = true := by decide +kernel
def tbX6_many : dT := [(0, .iload_n 1, 1), (1, .tableswitch 75 0 4 #[35, 43, 51, 59, 67], 35), (36, .aload_n 0, 1), (37, .getfield 48, 3), (40, .getfield 221, 3), (43, .ireturn, 1), (44, .aload_n 0, 1), (45, .getfield 41, 3), (48, .invokevirtual 151, 3), (51, .ireturn, 1), (52, .aload_n 0, 1), (53, .getfield 41, 3), (56, .getfield 222, 3), (59, .ireturn, 1), (60, .aload_n 0, 1), (61, .getfield 41, 3), (64, .getfield 103, 3), (67, .ireturn, 1), (68, .aload_n 0, 1), (69, .getfield 34, 3), (72, .getfield 159, 3), (75, .ireturn, 1), (76, .bipush (-2), 2), (78, .ireturn, 1)]
set_option maxRecDepth 100000 in
theorem dX6_many : dOk cX6_many tbX6_many = true := by decide +kernel
def tbX6_isWithin : dT := [(0, .iload_n 0, 1), (1, .iload_n 1, 1), (2, .if_icmp .lt 12, 3), (5, .iload_n 0, 1), (6, .iload_n 2, 1), (7, .if_icmp .gt 7, 3), (10, .iconst 1, 1), (11, .goto 4, 3), (14, .iconst 0, 1), (15, .ireturn, 1)]
set_option maxRecDepth 100000 in
theorem dX6_isWithin : dOk cX6_isWithin tbX6_isWithin = true := by decide +kernel
def tbX6_isIn : dT := [(0, .iload_n 0, 1), (1, .iload_n 1, 1), (2, .ishr, 1), (3, .iconst 1, 1), (4, .iand, 1), (5, .iconst 1, 1), (6, .if_icmp .ne 7, 3), (9, .iconst 1, 1), (10, .goto 4, 3), (13, .iconst 0, 1), (14, .ireturn, 1)]
set_option maxRecDepth 100000 in
theorem dX6_isIn : dOk cX6_isIn tbX6_isIn = true := by decide +kernel
def tbX6_keepFault : dT := [(0, .aload_n 0, 1), (1, .iload_n 1, 1), (2, .bipush (-14), 2), (4, .bipush (-11), 2), (6, .invokestatic 96, 3), (9, .ifCond .eq 10, 3), (12, .bipush (-10), 2), (14, .iload_n 1, 1), (15, .isub, 1), (16, .goto 4, 3), (19, .iconst 0, 1), (20, .putfield 58, 3), (23, .iload_n 1, 1), (24, .ireturn, 1)]
set_option maxRecDepth 100000 in
theorem dX6_keepFault : dOk cX6_keepFault tbX6_keepFault = true := by decide +kernel
def tbX6_sheetAt : dT := [(0, .iload_n 1, 1), (1, .iconst 0, 1), (2, .iconst 3, 1), (3, .invokestatic 96, 3), (6, .ifCond .eq 12, 3), (9, .aload_n 0, 1), (10, .getfield 13, 3), (13, .iload_n 1, 1), (14, .aaload, 1), (15, .goto 4, 3), (18, .aconst_null, 1), (19, .areturn, 1)]
set_option maxRecDepth 100000 in
theorem dX6_sheetAt : dOk cX6_sheetAt tbX6_sheetAt = true := by decide +kernel
def tbX6_refusalOfLane : dT := [(0, .aload_n 0, 1), (1, .ifnonnull 5, 3), (4, .iconst (-1), 1), (5, .ireturn, 1), (6, .iload_n 1, 1), (7, .iconst 0, 1), (8, .iconst 2, 1), (9, .invokestatic 96, 3), (12, .ifCond .ne 6, 3), (15, .bipush (-2), 2), (17, .ireturn, 1), (18, .aload_n 0, 1), (19, .invokevirtual 186, 3), (22, .ifCond .eq 6, 3), (25, .bipush (-11), 2), (27, .ireturn, 1), (28, .aload_n 0, 1), (29, .getfield 225, 3), (32, .iload_n 1, 1), (33, .if_icmp .ne 7, 3), (36, .iconst 0, 1), (37, .goto 5, 3), (40, .bipush (-12), 2), (42, .ireturn, 1)]
set_option maxRecDepth 100000 in
theorem dX6_refusalOfLane : dOk cX6_refusalOfLane tbX6_refusalOfLane = true := by decide +kernel
def tbX6_refusalOfPart : dT := [(0, .aload_n 0, 1), (1, .iload_n 1, 1), (2, .invokestatic 228, 3), (5, .istore 4, 2), (7, .aload_n 0, 1), (8, .ifnull 8, 3), (11, .iload 4, 2), (13, .ifCond .eq 6, 3), (16, .iload 4, 2), (18, .ireturn, 1), (19, .aload_n 0, 1), (20, .iload_n 2, 1), (21, .iload_n 3, 1), (22, .invokevirtual 232, 3), (25, .ifCond .eq 7, 3), (28, .iconst 0, 1), (29, .goto 5, 3), (32, .bipush (-13), 2), (34, .ireturn, 1)]
set_option maxRecDepth 100000 in
theorem dX6_refusalOfPart : dOk cX6_refusalOfPart tbX6_refusalOfPart = true := by decide +kernel
def tbX6_refusalOfWeather : dT := [(0, .iload_n 1, 1), (1, .iconst 0, 1), (2, .bipush 9, 2), (4, .invokestatic 96, 3), (7, .ifCond .ne 6, 3), (10, .bipush (-2), 2), (12, .ireturn, 1), (13, .aload_n 0, 1), (14, .getfield 41, 3), (17, .invokevirtual 151, 3), (20, .ifCond .ne 8, 3), (23, .bipush (-3), 2), (25, .goto 4, 3), (28, .iconst 0, 1), (29, .ireturn, 1)]
set_option maxRecDepth 100000 in
theorem dX6_refusalOfWeather : dOk cX6_refusalOfWeather tbX6_refusalOfWeather = true := by decide +kernel
def tbX6_isPair : dT := [(0, .aload_n 0, 1), (1, .getfield 48, 3), (4, .iload_n 1, 1), (5, .invokevirtual 74, 3), (8, .ifCond .eq 23, 3), (11, .aload_n 0, 1), (12, .getfield 48, 3), (15, .iload_n 2, 1), (16, .invokevirtual 74, 3), (19, .ifCond .eq 12, 3), (22, .iload_n 1, 1), (23, .iload_n 2, 1), (24, .if_icmp .eq 7, 3), (27, .iconst 1, 1), (28, .goto 4, 3), (31, .iconst 0, 1), (32, .ireturn, 1)]
set_option maxRecDepth 100000 in
theorem dX6_isPair : dOk cX6_isPair tbX6_isPair = true := by decide +kernel
def tbX6_takeText : dT := [(0, .aload_n 0, 1), (1, .iload_n 1, 1), (2, .invokevirtual 182, 3), (5, .astore 5, 2), (7, .aload 5, 2), (9, .iload_n 2, 1), (10, .invokestatic 228, 3), (13, .istore 6, 2), (15, .aload 5, 2), (17, .ifnull 8, 3), (20, .iload 6, 2), (22, .ifCond .eq 6, 3), (25, .iload 6, 2), (27, .ireturn, 1), (28, .iload 4, 2), (30, .ifCond .ge 6, 3), (33, .bipush (-14), 2), (35, .ireturn, 1), (36, .aload 5, 2), (38, .iload_n 3, 1), (39, .iload 4, 2), (41, .invokevirtual 232, 3), (44, .ifCond .ne 6, 3), (47, .bipush (-13), 2), (49, .ireturn, 1), (50, .aload_n 0, 1), (51, .getfield 20, 3), (54, .aload 5, 2), (56, .iload_n 3, 1), (57, .iload 4, 2), (59, .invokevirtual 235, 3), (62, .aload_n 0, 1), (63, .getfield 52, 3), (66, .aload_n 0, 1), (67, .getfield 20, 3), (70, .invokevirtual 239, 3), (73, .aload_n 0, 1), (74, .getfield 55, 3), (77, .aload_n 0, 1), (78, .getfield 20, 3), (81, .invokevirtual 243, 3), (84, .aload_n 0, 1), (85, .getfield 20, 3), (88, .invokevirtual 244, 3), (91, .aload_n 0, 1), (92, .getfield 20, 3), (95, .getfield 247, 3), (98, .ifCond .eq 14, 3), (101, .bipush (-100), 2), (103, .aload_n 0, 1), (104, .getfield 20, 3), (107, .getfield 251, 3), (110, .isub, 1), (111, .ireturn, 1), (112, .aload_n 0, 1), (113, .invokevirtual 254, 3), (116, .aload_n 0, 1), (117, .getfield 48, 3), (120, .getfield 221, 3), (123, .ireturn, 1)]
set_option maxRecDepth 100000 in
theorem dX6_takeText : dOk cX6_takeText tbX6_takeText = true := by decide +kernel
def tbX6_changeToDraft : dT := [(0, .aload_n 0, 1), (1, .getfield 41, 3), (4, .astore_n 1, 1), (5, .aload_n 0, 1), (6, .getfield 48, 3), (9, .astore_n 2, 1), (10, .aload_n 0, 1), (11, .aload_n 0, 1), (12, .getfield 52, 3), (15, .putfield 41, 3), (18, .aload_n 0, 1), (19, .aload_n 0, 1), (20, .getfield 55, 3), (23, .putfield 48, 3), (26, .aload_n 0, 1), (27, .aload_n 1, 1), (28, .putfield 52, 3), (31, .aload_n 0, 1), (32, .aload_n 2, 1), (33, .putfield 55, 3), (36, .aload_n 0, 1), (37, .getfield 34, 3), (40, .iconst 0, 1), (41, .putfield 159, 3), (44, .return_, 1)]
set_option maxRecDepth 100000 in
theorem dX6_changeToDraft : dOk cX6_changeToDraft tbX6_changeToDraft = true := by decide +kernel
def tbX6_isDeedKnown : dT := [(0, .aload_n 0, 1), (1, .iload_n 1, 1), (2, .iload_n 2, 1), (3, .invokevirtual 257, 3), (6, .ifCond .eq 27, 3), (9, .aload_n 0, 1), (10, .getfield 41, 3), (13, .iload_n 3, 1), (14, .invokevirtual 92, 3), (17, .ifCond .eq 16, 3), (20, .aload_n 0, 1), (21, .iload 4, 2), (23, .invokevirtual 182, 3), (26, .ifnull 7, 3), (29, .iconst 1, 1), (30, .goto 4, 3), (33, .iconst 0, 1), (34, .ireturn, 1)]
set_option maxRecDepth 100000 in
theorem dX6_isDeedKnown : dOk cX6_isDeedKnown tbX6_isDeedKnown = true := by decide +kernel
def tbX6_tryDeed : dT := [(0, .aload_n 0, 1), (1, .iload 4, 2), (3, .invokevirtual 182, 3), (6, .astore 8, 2), (8, .aload 8, 2), (10, .ifnull 15, 3), (13, .aload_n 0, 1), (14, .iload_n 1, 1), (15, .iload_n 2, 1), (16, .iload_n 3, 1), (17, .iload 4, 2), (19, .invokevirtual 106, 3), (22, .ifCond .ne 5, 3), (25, .iconst (-1), 1), (26, .ireturn, 1), (27, .iload 7, 2), (29, .iconst 0, 1), (30, .bipush 40, 2), (32, .invokestatic 96, 3), (35, .ifCond .ne 6, 3), (38, .bipush (-2), 2), (40, .ireturn, 1), (41, .aload 8, 2), (43, .iload 5, 2), (45, .iload 6, 2), (47, .iload 7, 2), (49, .invokestatic 196, 3), (52, .istore 9, 2), (54, .iload 9, 2), (56, .ifCond .eq 6, 3), (59, .iload 9, 2), (61, .ireturn, 1), (62, .iconst 0, 1), (63, .istore 10, 2), (65, .iload 10, 2), (67, .iload 7, 2), (69, .if_icmp .ge 31, 3), (72, .aload 8, 2), (74, .getfield 200, 3), (77, .iload 6, 2), (79, .iload 10, 2), (81, .iadd, 1), (82, .iaload, 1), (83, .iconst 0, 1), (84, .iconst 3, 1), (85, .invokestatic 96, 3), (88, .ifCond .ne 6, 3), (91, .bipush (-2), 2), (93, .ireturn, 1), (94, .iinc 10 1, 3), (97, .goto (-32), 3), (100, .aload_n 0, 1), (101, .getfield 27, 3), (104, .aload_n 0, 1), (105, .getfield 41, 3), (108, .iload_n 3, 1), (109, .invokevirtual 260, 3), (112, .iconst 0, 1), (113, .istore 10, 2), (115, .iload 10, 2), (117, .iload 7, 2), (119, .if_icmp .ge 64, 3), (122, .aload_n 0, 1), (123, .getfield 27, 3), (126, .getfield 117, 3), (129, .bipush (-9), 2), (131, .if_icmp .ne 52, 3), (134, .aload_n 0, 1), (135, .getfield 27, 3), (138, .aload_n 0, 1), (139, .getfield 41, 3), (142, .iload 10, 2), (144, .aload 8, 2), (146, .getfield 200, 3), (149, .iload 6, 2), (151, .iload 10, 2), (153, .iadd, 1), (154, .iaload, 1), (155, .aload_n 0, 1), (156, .getfield 48, 3), (159, .iload 10, 2), (161, .iconst 2, 1), (162, .irem, 1), (163, .ifCond .ne 7, 3), (166, .iload_n 1, 1), (167, .goto 4, 3), (170, .iload_n 2, 1), (171, .invokevirtual 85, 3), (174, .invokevirtual 263, 3), (177, .iinc 10 1, 3), (180, .goto (-65), 3), (183, .iconst 0, 1), (184, .ireturn, 1)]
set_option maxRecDepth 100000 in
theorem dX6_tryDeed : dOk cX6_tryDeed tbX6_tryDeed = true := by decide +kernel
def tbX6_ofTrial : dT := [(0, .iload_n 2, 1), (1, .iconst 1, 1), (2, .if_icmp .ne 11, 3), (5, .aload_n 0, 1), (6, .getfield 27, 3), (9, .getfield 117, 3), (12, .ireturn, 1), (13, .aload_n 0, 1), (14, .getfield 27, 3), (17, .getfield 117, 3), (20, .bipush (-9), 2), (22, .if_icmp .eq 14, 3), (25, .bipush (-100), 2), (27, .aload_n 0, 1), (28, .getfield 27, 3), (31, .getfield 117, 3), (34, .isub, 1), (35, .ireturn, 1), (36, .iload_n 2, 1), (37, .tableswitch 63 0 3 #[31, 63, 39, 47], 31), (68, .aload_n 0, 1), (69, .getfield 27, 3), (72, .getfield 267, 3), (75, .ireturn, 1), (76, .aload_n 0, 1), (77, .getfield 27, 3), (80, .getfield 270, 3), (83, .ireturn, 1), (84, .aload_n 0, 1), (85, .getfield 27, 3), (88, .getfield 120, 3), (91, .aload_n 0, 1), (92, .getfield 27, 3), (95, .getfield 267, 3), (98, .iaload, 1), (99, .ireturn, 1), (100, .iload_n 1, 1), (101, .iconst 1, 1), (102, .iadd, 1), (103, .iconst 2, 1), (104, .idiv, 1), (105, .ireturn, 1)]
set_option maxRecDepth 100000 in
theorem dX6_ofTrial : dOk cX6_ofTrial tbX6_ofTrial = true := by decide +kernel
def tbX6_isBondKnown : dT := [(0, .aload_n 0, 1), (1, .iload_n 1, 1), (2, .iload_n 2, 1), (3, .invokevirtual 257, 3), (6, .ifCond .eq 30, 3), (9, .aload_n 0, 1), (10, .getfield 41, 3), (13, .iload_n 3, 1), (14, .invokevirtual 92, 3), (17, .ifCond .eq 19, 3), (20, .aload_n 0, 1), (21, .getfield 41, 3), (24, .iload 4, 2), (26, .invokevirtual 92, 3), (29, .ifCond .eq 7, 3), (32, .iconst 1, 1), (33, .goto 4, 3), (36, .iconst 0, 1), (37, .ireturn, 1)]
set_option maxRecDepth 100000 in
theorem dX6_isBondKnown : dOk cX6_isBondKnown tbX6_isBondKnown = true := by decide +kernel
def tbX6_isBond : dT := [(0, .aload_n 0, 1), (1, .getfield 41, 3), (4, .aload_n 0, 1), (5, .getfield 48, 3), (8, .iload_n 1, 1), (9, .invokevirtual 85, 3), (12, .iconst 0, 1), (13, .invokevirtual 88, 3), (16, .iload 5, 2), (18, .iconst (-1), 1), (19, .ixor, 1), (20, .iand, 1), (21, .istore 6, 2), (23, .aload_n 0, 1), (24, .getfield 41, 3), (27, .aload_n 0, 1), (28, .getfield 48, 3), (31, .iload_n 2, 1), (32, .invokevirtual 85, 3), (35, .iconst 0, 1), (36, .invokevirtual 88, 3), (39, .iload 5, 2), (41, .iconst (-1), 1), (42, .ixor, 1), (43, .iand, 1), (44, .istore 7, 2), (46, .aload_n 0, 1), (47, .getfield 41, 3), (50, .iload_n 3, 1), (51, .iload 4, 2), (53, .iload 6, 2), (55, .iload 7, 2), (57, .invokevirtual 137, 3), (60, .bipush (-9), 2), (62, .if_icmp .eq 7, 3), (65, .iconst 1, 1), (66, .goto 4, 3), (69, .iconst 0, 1), (70, .ireturn, 1)]
set_option maxRecDepth 100000 in
theorem dX6_isBond : dOk cX6_isBond tbX6_isBond = true := by decide +kernel
def tbX6_bondsAsBreaking : dT := [(0, .iconst 0, 1), (1, .istore 6, 2), (3, .iconst 0, 1), (4, .istore 7, 2), (6, .iconst 0, 1), (7, .istore 8, 2), (9, .iload 8, 2), (11, .iconst 1, 1), (12, .iload 5, 2), (14, .invokestatic 170, 3), (17, .ishl, 1), (18, .if_icmp .ge 43, 3), (21, .iload 6, 2), (23, .aload_n 0, 1), (24, .iload_n 1, 1), (25, .iload_n 2, 1), (26, .iload_n 3, 1), (27, .iload 4, 2), (29, .iload 7, 2), (31, .invokevirtual 147, 3), (34, .ifCond .eq 7, 3), (37, .iconst 1, 1), (38, .goto 4, 3), (41, .iconst 0, 1), (42, .iadd, 1), (43, .istore 6, 2), (45, .iload 7, 2), (47, .iload 5, 2), (49, .isub, 1), (50, .iload 5, 2), (52, .iand, 1), (53, .istore 7, 2), (55, .iinc 8 1, 3), (58, .goto (-49), 3), (61, .iload 6, 2), (63, .ireturn, 1)]
set_option maxRecDepth 100000 in
theorem dX6_bondsAsBreaking : dOk cX6_bondsAsBreaking tbX6_bondsAsBreaking = true := by decide +kernel
def tbX6_newRow : dT := [(0, .aload_n 0, 1), (1, .iload_n 1, 1), (2, .invokevirtual 182, 3), (5, .astore 4, 2), (7, .aload 4, 2), (9, .ifnonnull 5, 3), (12, .iconst (-1), 1), (13, .ireturn, 1), (14, .iload_n 2, 1), (15, .iconst 0, 1), (16, .iconst 2, 1), (17, .invokestatic 96, 3), (20, .ifCond .eq 9, 3), (23, .iload_n 3, 1), (24, .bipush 60, 2), (26, .if_icmp .le 6, 3), (29, .bipush (-2), 2), (31, .ireturn, 1), (32, .iload_n 3, 1), (33, .ifCond .ge 6, 3), (36, .bipush (-14), 2), (38, .ireturn, 1), (39, .aload 4, 2), (41, .iload_n 2, 1), (42, .iload_n 3, 1), (43, .invokevirtual 273, 3), (46, .iconst 1, 1), (47, .ireturn, 1)]
set_option maxRecDepth 100000 in
theorem dX6_newRow : dOk cX6_newRow tbX6_newRow = true := by decide +kernel
def tbX6_putNumber : dT := [(0, .aload_n 0, 1), (1, .iload_n 1, 1), (2, .invokevirtual 182, 3), (5, .astore 4, 2), (7, .aload 4, 2), (9, .ifnonnull 5, 3), (12, .iconst (-1), 1), (13, .ireturn, 1), (14, .aload 4, 2), (16, .invokevirtual 186, 3), (19, .ifCond .eq 6, 3), (22, .bipush (-11), 2), (24, .ireturn, 1), (25, .aload 4, 2), (27, .iload_n 2, 1), (28, .iconst 1, 1), (29, .invokevirtual 232, 3), (32, .ifCond .ne 6, 3), (35, .bipush (-13), 2), (37, .ireturn, 1), (38, .aload 4, 2), (40, .iload_n 2, 1), (41, .iload_n 3, 1), (42, .invokevirtual 276, 3), (45, .iconst 1, 1), (46, .ireturn, 1)]
set_option maxRecDepth 100000 in
theorem dX6_putNumber : dOk cX6_putNumber tbX6_putNumber = true := by decide +kernel
def tbX6_copyNumbers : dT := [(0, .aload_n 0, 1), (1, .iload_n 1, 1), (2, .invokevirtual 182, 3), (5, .astore 6, 2), (7, .aload_n 0, 1), (8, .iload_n 3, 1), (9, .invokevirtual 182, 3), (12, .astore 7, 2), (14, .aload 6, 2), (16, .ifnull 8, 3), (19, .aload 7, 2), (21, .ifnonnull 5, 3), (24, .iconst (-1), 1), (25, .ireturn, 1), (26, .aload 6, 2), (28, .invokevirtual 186, 3), (31, .ifCond .ne 11, 3), (34, .aload 7, 2), (36, .invokevirtual 186, 3), (39, .ifCond .eq 6, 3), (42, .bipush (-11), 2), (44, .ireturn, 1), (45, .aload 6, 2), (47, .getfield 225, 3), (50, .aload 7, 2), (52, .getfield 225, 3), (55, .if_icmp .eq 6, 3), (58, .bipush (-12), 2), (60, .ireturn, 1), (61, .aload 6, 2), (63, .iload_n 2, 1), (64, .iload 5, 2), (66, .invokevirtual 232, 3), (69, .ifCond .eq 15, 3), (72, .aload 7, 2), (74, .iload 4, 2), (76, .iload 5, 2), (78, .invokevirtual 232, 3), (81, .ifCond .ne 6, 3), (84, .bipush (-13), 2), (86, .ireturn, 1), (87, .aload 6, 2), (89, .getfield 200, 3), (92, .iload_n 2, 1), (93, .aload 7, 2), (95, .getfield 200, 3), (98, .iload 4, 2), (100, .iload 5, 2), (102, .invokestatic 121, 3), (105, .iload 5, 2), (107, .ireturn, 1)]
set_option maxRecDepth 100000 in
theorem dX6_copyNumbers : dOk cX6_copyNumbers tbX6_copyNumbers = true := by decide +kernel
def tbX6_leave : dT := [(0, .aload_n 0, 1), (1, .bipush 31, 2), (3, .aload_n 0, 1), (4, .getfield 62, 3), (7, .imul, 1), (8, .iload_n 1, 1), (9, .iadd, 1), (10, .putfield 62, 3), (13, .return_, 1)]
set_option maxRecDepth 100000 in
theorem dX6_leave : dOk cX6_leave tbX6_leave = true := by decide +kernel
def tbX6_skaterGives : dT := [(0, .aload_n 0, 1), (1, .iconst 1, 1), (2, .invokevirtual 215, 3), (5, .iload_n 1, 1), (6, .ireturn, 1)]
set_option maxRecDepth 100000 in
theorem dX6_skaterGives : dOk cX6_skaterGives tbX6_skaterGives = true := by decide +kernel
def tbX6_clerkGives : dT := [(0, .aload_n 0, 1), (1, .iconst 2, 1), (2, .invokevirtual 215, 3), (5, .aload_n 0, 1), (6, .iload_n 1, 1), (7, .invokevirtual 212, 3), (10, .bipush 100, 2), (12, .iadd, 1), (13, .ireturn, 1)]
set_option maxRecDepth 100000 in
theorem dX6_clerkGives : dOk cX6_clerkGives tbX6_clerkGives = true := by decide +kernel
def tbX6_bankerGives : dT := [(0, .aload_n 0, 1), (1, .iconst 3, 1), (2, .invokevirtual 215, 3), (5, .aload_n 0, 1), (6, .iload_n 1, 1), (7, .invokevirtual 209, 3), (10, .istore_n 2, 1), (11, .iload_n 2, 1), (12, .aload_n 0, 1), (13, .iload_n 1, 1), (14, .invokevirtual 212, 3), (17, .iadd, 1), (18, .ireturn, 1)]
set_option maxRecDepth 100000 in
theorem dX6_bankerGives : dOk cX6_bankerGives tbX6_bankerGives = true := by decide +kernel
def tbX6_takeAs : dT := [(0, .aload_n 0, 1), (1, .getfield 48, 3), (4, .iload_n 1, 1), (5, .invokevirtual 74, 3), (8, .ifCond .ne 5, 3), (11, .iconst (-1), 1), (12, .ireturn, 1), (13, .iload_n 2, 1), (14, .iconst 0, 1), (15, .iconst 2, 1), (16, .invokestatic 96, 3), (19, .ifCond .ne 6, 3), (22, .bipush (-2), 2), (24, .ireturn, 1), (25, .aload_n 0, 1), (26, .getfield 48, 3), (29, .getfield 78, 3), (32, .iload_n 1, 1), (33, .iaload, 1), (34, .iload_n 2, 1), (35, .if_icmp .ge 8, 3), (38, .bipush (-12), 2), (40, .goto 4, 3), (43, .iconst 1, 1), (44, .ireturn, 1)]
set_option maxRecDepth 100000 in
theorem dX6_takeAs : dOk cX6_takeAs tbX6_takeAs = true := by decide +kernel
def tbX7_init : dT := [(0, .aload_n 0, 1), (1, .invokespecial 1, 3), (4, .aload_n 0, 1), (5, .bipush 20, 2), (7, .newarray .int, 2), (9, .putfield 7, 3), (12, .aload_n 0, 1), (13, .iconst 4, 1), (14, .newarray .int, 2), (16, .putfield 13, 3), (19, .aload_n 0, 1), (20, .iconst 4, 1), (21, .newarray .int, 2), (23, .putfield 16, 3), (26, .aload_n 0, 1), (27, .bipush 20, 2), (29, .newarray .int, 2), (31, .putfield 19, 3), (34, .aload_n 0, 1), (35, .iconst 4, 1), (36, .newarray .int, 2), (38, .putfield 22, 3), (41, .aload_n 0, 1), (42, .iconst 4, 1), (43, .newarray .int, 2), (45, .putfield 25, 3), (48, .aload_n 0, 1), (49, .bipush 20, 2), (51, .newarray .int, 2), (53, .putfield 28, 3), (56, .aload_n 0, 1), (57, .bipush 40, 2), (59, .newarray .int, 2), (61, .putfield 31, 3), (64, .aload_n 0, 1), (65, .bipush 8, 2), (67, .newarray .int, 2), (69, .putfield 34, 3), (72, .aload_n 0, 1), (73, .bipush 8, 2), (75, .newarray .int, 2), (77, .putfield 37, 3), (80, .aload_n 0, 1), (81, .bipush 8, 2), (83, .newarray .boolean, 2), (85, .putfield 40, 3), (88, .aload_n 0, 1), (89, .iconst 4, 1), (90, .newarray .int, 2), (92, .putfield 44, 3), (95, .aload_n 0, 1), (96, .iconst 4, 1), (97, .newarray .int, 2), (99, .putfield 47, 3), (102, .aload_n 0, 1), (103, .sipush 240, 3), (106, .newarray .int, 2), (108, .putfield 50, 3), (111, .aload_n 0, 1), (112, .bipush 60, 2), (114, .newarray .int, 2), (116, .putfield 53, 3), (119, .iconst 0, 1), (120, .istore_n 1, 1), (121, .iload_n 1, 1), (122, .iconst 4, 1), (123, .if_icmp .ge 16, 3), (126, .aload_n 0, 1), (127, .getfield 44, 3), (130, .iload_n 1, 1), (131, .iconst (-1), 1), (132, .iastore, 1), (133, .iinc 1 1, 3), (136, .goto (-15), 3), (139, .return_, 1)]
set_option maxRecDepth 100000 in
theorem dX7_init : dOk cX7_init tbX7_init = true := by decide +kernel
def tbX7_in : dT := [(0, .lload_n 0, 1), (1, .lload_n 2, 1), (2, .lcmp, 1), (3, .ifCond .lt 14, 3), (6, .lload_n 0, 1), (7, .lload 4, 2), (9, .lcmp, 1), (10, .ifCond .gt 7, 3), (13, .iconst 1, 1), (14, .goto 4, 3), (17, .iconst 0, 1), (18, .ireturn, 1)]
set_option maxRecDepth 100000 in
theorem dX7_in : dOk cX7_in tbX7_in = true := by decide +kernel
def tbX7_lost : dT := [(0, .ldc2_w 56, 3), (3, .lreturn, 1)]
set_option maxRecDepth 100000 in
theorem dX7_lost : dOk cX7_lost tbX7_lost = true := by decide +kernel
def tbX7_isIn : dT := [(0, .iload_n 0, 1), (1, .iload_n 1, 1), (2, .ishr, 1), (3, .iconst 1, 1), (4, .iand, 1), (5, .iconst 1, 1), (6, .if_icmp .ne 7, 3), (9, .iconst 1, 1), (10, .goto 4, 3), (13, .iconst 0, 1), (14, .ireturn, 1)]
set_option maxRecDepth 100000 in
theorem dX7_isIn : dOk cX7_isIn tbX7_isIn = true := by decide +kernel
def tbX7_bits : dT := [(0, .iconst 0, 1), (1, .istore_n 1, 1), (2, .iload_n 0, 1), (3, .istore_n 2, 1), (4, .iload_n 2, 1), (5, .ifCond .le 16, 3), (8, .iload_n 1, 1), (9, .iload_n 2, 1), (10, .iconst 1, 1), (11, .iand, 1), (12, .iadd, 1), (13, .istore_n 1, 1), (14, .iload_n 2, 1), (15, .iconst 1, 1), (16, .ishr, 1), (17, .istore_n 2, 1), (18, .goto (-14), 3), (21, .iload_n 1, 1), (22, .ireturn, 1)]
set_option maxRecDepth 100000 in
theorem dX7_bits : dOk cX7_bits tbX7_bits = true := by decide +kernel
def tbX7_share : dT := [(0, .lload_n 0, 1), (1, .lstore 5, 2), (3, .lload_n 2, 1), (4, .lstore 7, 2), (6, .lload 7, 2), (8, .lconst 0, 1), (9, .lcmp, 1), (10, .ifCond .eq 21, 3), (13, .lload 5, 2), (15, .lload 7, 2), (17, .lrem, 1), (18, .lstore 9, 2), (20, .lload 7, 2), (22, .lstore 5, 2), (24, .lload 9, 2), (26, .lstore 7, 2), (28, .goto (-22), 3), (31, .iload 4, 2), (33, .ifCond .ne 7, 3), (36, .lload_n 0, 1), (37, .goto 4, 3), (40, .lload_n 2, 1), (41, .lload 5, 2), (43, .ldiv, 1), (44, .lreturn, 1)]
set_option maxRecDepth 100000 in
theorem dX7_share : dOk cX7_share tbX7_share = true := by decide +kernel
def tbX7_refused : dT := [(0, .aload_n 0, 1), (1, .iconst 0, 1), (2, .putfield 58, 3), (5, .iload_n 1, 1), (6, .ireturn, 1)]
set_option maxRecDepth 100000 in
theorem dX7_refused : dOk cX7_refused tbX7_refused = true := by decide +kernel
def tbX7_failed : dT := [(0, .aload_n 0, 1), (1, .iload_n 1, 1), (2, .putfield 58, 3), (5, .bipush (-10), 2), (7, .iload_n 1, 1), (8, .isub, 1), (9, .ireturn, 1)]
set_option maxRecDepth 100000 in
theorem dX7_failed : dOk cX7_failed tbX7_failed = true := by decide +kernel
def tbX7_failedLong : dT := [(0, .aload_n 0, 1), (1, .iload_n 1, 1), (2, .putfield 58, 3), (5, .invokestatic 62, 3), (8, .lreturn, 1)]
set_option maxRecDepth 100000 in
theorem dX7_failedLong : dOk cX7_failedLong tbX7_failedLong = true := by decide +kernel
def tbX7_cells : dT := [(0, .aload_n 0, 1), (1, .getfield 66, 3), (4, .aload_n 0, 1), (5, .getfield 69, 3), (8, .imul, 1), (9, .ireturn, 1)]
set_option maxRecDepth 100000 in
theorem dX7_cells : dOk cX7_cells tbX7_cells = true := by decide +kernel
def tbX7_noPlace : dT := [(0, .iload_n 1, 1), (1, .i2l, 1), (2, .lconst 0, 1), (3, .aload_n 0, 1), (4, .invokevirtual 72, 3), (7, .i2l, 1), (8, .lconst 1, 1), (9, .lsub, 1), (10, .invokestatic 76, 3), (13, .ifCond .ne 7, 3), (16, .iconst 1, 1), (17, .goto 4, 3), (20, .iconst 0, 1), (21, .ireturn, 1)]
set_option maxRecDepth 100000 in
theorem dX7_noPlace : dOk cX7_noPlace tbX7_noPlace = true := by decide +kernel
def tbX7_noSkater : dT := [(0, .iload_n 1, 1), (1, .i2l, 1), (2, .lconst 0, 1), (3, .aload_n 0, 1), (4, .getfield 80, 3), (7, .i2l, 1), (8, .lconst 1, 1), (9, .lsub, 1), (10, .invokestatic 76, 3), (13, .ifCond .ne 7, 3), (16, .iconst 1, 1), (17, .goto 4, 3), (20, .iconst 0, 1), (21, .ireturn, 1)]
set_option maxRecDepth 100000 in
theorem dX7_noSkater : dOk cX7_noSkater tbX7_noSkater = true := by decide +kernel
def tbX7_noTwo : dT := [(0, .aload_n 0, 1), (1, .iload_n 1, 1), (2, .invokevirtual 83, 3), (5, .ifCond .ne 16, 3), (8, .aload_n 0, 1), (9, .iload_n 2, 1), (10, .invokevirtual 83, 3), (13, .ifCond .ne 8, 3), (16, .iload_n 1, 1), (17, .iload_n 2, 1), (18, .if_icmp .ne 7, 3), (21, .iconst 1, 1), (22, .goto 4, 3), (25, .iconst 0, 1), (26, .ireturn, 1)]
set_option maxRecDepth 100000 in
theorem dX7_noTwo : dOk cX7_noTwo tbX7_noTwo = true := by decide +kernel
def tbX7_codeAt : dT := [(0, .aload_n 0, 1), (1, .getfield 87, 3), (4, .iload_n 2, 1), (5, .if_icmp .ge 17, 3), (8, .aload_n 0, 1), (9, .getfield 50, 3), (12, .iload_n 1, 1), (13, .aload_n 0, 1), (14, .getfield 87, 3), (17, .iadd, 1), (18, .iaload, 1), (19, .goto 5, 3), (22, .bipush (-9), 2), (24, .ireturn, 1)]
set_option maxRecDepth 100000 in
theorem dX7_codeAt : dOk cX7_codeAt tbX7_codeAt = true := by decide +kernel
def tbX7_figure : dT := [(0, .aload_n 0, 1), (1, .iload_n 1, 1), (2, .iload_n 2, 1), (3, .invokevirtual 90, 3), (6, .bipush 48, 2), (8, .isub, 1), (9, .istore 5, 2), (11, .iload 5, 2), (13, .i2l, 1), (14, .iload_n 3, 1), (15, .i2l, 1), (16, .iload 4, 2), (18, .i2l, 1), (19, .invokestatic 76, 3), (22, .istore 6, 2), (24, .aload_n 0, 1), (25, .dup, 1), (26, .getfield 87, 3), (29, .iload 6, 2), (31, .ifCond .eq 7, 3), (34, .iconst 1, 1), (35, .goto 4, 3), (38, .iconst 0, 1), (39, .iadd, 1), (40, .putfield 87, 3), (43, .iload 6, 2), (45, .ifCond .eq 8, 3), (48, .iload 5, 2), (50, .goto 5, 3), (53, .bipush (-9), 2), (55, .ireturn, 1)]
set_option maxRecDepth 100000 in
theorem dX7_figure : dOk cX7_figure tbX7_figure = true := by decide +kernel
def tbX7_readsPlace : dT := [(0, .iload_n 3, 1), (1, .aload_n 0, 1), (2, .getfield 94, 3), (5, .irem, 1), (6, .ifCond .ne 26, 3), (9, .aload_n 0, 1), (10, .iload_n 1, 1), (11, .iload_n 2, 1), (12, .invokevirtual 90, 3), (15, .bipush 59, 2), (17, .if_icmp .eq 5, 3), (20, .iconst 0, 1), (21, .ireturn, 1), (22, .aload_n 0, 1), (23, .dup, 1), (24, .getfield 87, 3), (27, .iconst 1, 1), (28, .iadd, 1), (29, .putfield 87, 3), (32, .aload_n 0, 1), (33, .getfield 19, 3), (36, .iload_n 3, 1), (37, .aload_n 0, 1), (38, .iload_n 1, 1), (39, .iload_n 2, 1), (40, .iconst 0, 1), (41, .bipush 9, 2), (43, .invokevirtual 97, 3), (46, .iastore, 1), (47, .aload_n 0, 1), (48, .getfield 19, 3), (51, .iload_n 3, 1), (52, .iaload, 1), (53, .ifCond .lt 7, 3), (56, .iconst 1, 1), (57, .goto 4, 3), (60, .iconst 0, 1), (61, .ireturn, 1)]
set_option maxRecDepth 100000 in
theorem dX7_readsPlace : dOk cX7_readsPlace tbX7_readsPlace = true := by decide +kernel
def tbX7_readsSkater : dT := [(0, .aload_n 0, 1), (1, .getfield 101, 3), (4, .iconst 4, 1), (5, .if_icmp .eq 14, 3), (8, .aload_n 0, 1), (9, .iload_n 1, 1), (10, .iload_n 2, 1), (11, .invokevirtual 90, 3), (14, .bipush 44, 2), (16, .if_icmp .eq 5, 3), (19, .iconst 0, 1), (20, .ireturn, 1), (21, .aload_n 0, 1), (22, .dup, 1), (23, .getfield 87, 3), (26, .iconst 1, 1), (27, .iadd, 1), (28, .putfield 87, 3), (31, .aload_n 0, 1), (32, .iload_n 1, 1), (33, .iload_n 2, 1), (34, .invokevirtual 90, 3), (37, .istore_n 3, 1), (38, .iload_n 3, 1), (39, .bipush 115, 2), (41, .if_icmp .eq 17, 3), (44, .iload_n 3, 1), (45, .bipush 107, 2), (47, .if_icmp .eq 11, 3), (50, .iload_n 3, 1), (51, .bipush 98, 2), (53, .if_icmp .eq 5, 3), (56, .iconst 0, 1), (57, .ireturn, 1), (58, .aload_n 0, 1), (59, .dup, 1), (60, .getfield 87, 3), (63, .iconst 1, 1), (64, .iadd, 1), (65, .putfield 87, 3), (68, .aload_n 0, 1), (69, .iload_n 1, 1), (70, .iload_n 2, 1), (71, .iconst 1, 1), (72, .bipush 9, 2), (74, .invokevirtual 97, 3), (77, .istore 4, 2), (79, .iload 4, 2), (81, .ifCond .ge 5, 3), (84, .iconst 0, 1), (85, .ireturn, 1), (86, .aload_n 0, 1), (87, .getfield 22, 3), (90, .aload_n 0, 1), (91, .getfield 101, 3), (94, .iload_n 3, 1), (95, .bipush 115, 2), (97, .if_icmp .ne 7, 3), (100, .iconst 0, 1), (101, .goto 14, 3), (104, .iload_n 3, 1), (105, .bipush 107, 2), (107, .if_icmp .ne 7, 3), (110, .iconst 1, 1), (111, .goto 4, 3), (114, .iconst 2, 1), (115, .iastore, 1), (116, .aload_n 0, 1), (117, .getfield 25, 3), (120, .aload_n 0, 1), (121, .getfield 101, 3), (124, .iload 4, 2), (126, .iastore, 1), (127, .aload_n 0, 1), (128, .dup, 1), (129, .getfield 101, 3), (132, .iconst 1, 1), (133, .iadd, 1), (134, .putfield 101, 3), (137, .iconst 1, 1), (138, .ireturn, 1)]
set_option maxRecDepth 100000 in
theorem dX7_readsSkater : dOk cX7_readsSkater tbX7_readsSkater = true := by decide +kernel
def tbX7_readsCanal : dT := [(0, .aload_n 0, 1), (1, .iconst 0, 1), (2, .putfield 87, 3), (5, .aload_n 0, 1), (6, .iconst 0, 1), (7, .putfield 101, 3), (10, .aload_n 0, 1), (11, .iload_n 1, 1), (12, .iload_n 2, 1), (13, .invokevirtual 90, 3), (16, .bipush 99, 2), (18, .if_icmp .ne 7, 3), (21, .iconst 1, 1), (22, .goto 4, 3), (25, .iconst 0, 1), (26, .istore_n 3, 1), (27, .aload_n 0, 1), (28, .dup, 1), (29, .getfield 87, 3), (32, .iload_n 3, 1), (33, .ifCond .eq 7, 3), (36, .iconst 1, 1), (37, .goto 4, 3), (40, .iconst 0, 1), (41, .iadd, 1), (42, .putfield 87, 3), (45, .aload_n 0, 1), (46, .iload_n 3, 1), (47, .ifCond .eq 14, 3), (50, .aload_n 0, 1), (51, .iload_n 1, 1), (52, .iload_n 2, 1), (53, .iconst 1, 1), (54, .iconst 4, 1), (55, .invokevirtual 97, 3), (58, .goto 5, 3), (61, .bipush (-9), 2), (63, .putfield 104, 3), (66, .aload_n 0, 1), (67, .aload_n 0, 1), (68, .getfield 104, 3), (71, .ifCond .le 14, 3), (74, .aload_n 0, 1), (75, .iload_n 1, 1), (76, .iload_n 2, 1), (77, .iconst 2, 1), (78, .iconst 5, 1), (79, .invokevirtual 97, 3), (82, .goto 5, 3), (85, .bipush (-9), 2), (87, .putfield 94, 3), (90, .aload_n 0, 1), (91, .aload_n 0, 1), (92, .getfield 94, 3), (95, .ifCond .le 15, 3), (98, .aload_n 0, 1), (99, .iload_n 1, 1), (100, .iload_n 2, 1), (101, .iconst 0, 1), (102, .bipush 9, 2), (104, .invokevirtual 97, 3), (107, .goto 5, 3), (110, .bipush (-9), 2), (112, .putfield 107, 3), (115, .aload_n 0, 1), (116, .getfield 107, 3), (119, .ifCond .lt 7, 3), (122, .iconst 1, 1), (123, .goto 4, 3), (126, .iconst 0, 1), (127, .istore_n 3, 1), (128, .iconst 0, 1), (129, .istore 4, 2), (131, .iload_n 3, 1), (132, .ifCond .eq 32, 3), (135, .iload 4, 2), (137, .aload_n 0, 1), (138, .getfield 104, 3), (141, .aload_n 0, 1), (142, .getfield 94, 3), (145, .imul, 1), (146, .if_icmp .ge 18, 3), (149, .aload_n 0, 1), (150, .iload_n 1, 1), (151, .iload_n 2, 1), (152, .iload 4, 2), (154, .invokevirtual 110, 3), (157, .istore_n 3, 1), (158, .iinc 4 1, 3), (161, .goto (-30), 3), (164, .iload_n 3, 1), (165, .ifCond .eq 29, 3), (168, .aload_n 0, 1), (169, .getfield 101, 3), (172, .iconst 2, 1), (173, .if_icmp .lt 11, 3), (176, .aload_n 0, 1), (177, .getfield 87, 3), (180, .iload_n 2, 1), (181, .if_icmp .ge 13, 3), (184, .aload_n 0, 1), (185, .iload_n 1, 1), (186, .iload_n 2, 1), (187, .invokevirtual 114, 3), (190, .istore_n 3, 1), (191, .goto (-27), 3), (194, .iload_n 3, 1), (195, .ireturn, 1)]
set_option maxRecDepth 100000 in
theorem dX7_readsCanal : dOk cX7_readsCanal tbX7_readsCanal = true := by decide +kernel
def tbX7_cellsBarred : dT := [(0, .aload_n 0, 1), (1, .getfield 44, 3), (4, .iload_n 1, 1), (5, .iaload, 1), (6, .ifCond .lt 19, 3), (9, .aload_n 0, 1), (10, .getfield 47, 3), (13, .iload_n 1, 1), (14, .iaload, 1), (15, .iload_n 2, 1), (16, .if_icmp .eq 9, 3), (19, .aload_n 0, 1), (20, .iconst 2, 1), (21, .invokevirtual 118, 3), (24, .ireturn, 1), (25, .aload_n 0, 1), (26, .getfield 44, 3), (29, .iload_n 1, 1), (30, .iaload, 1), (31, .ifCond .ge 9, 3), (34, .aload_n 0, 1), (35, .iconst 1, 1), (36, .invokevirtual 118, 3), (39, .ireturn, 1), (40, .lload 4, 2), (42, .lconst 0, 1), (43, .lcmp, 1), (44, .ifCond .ge 9, 3), (47, .aload_n 0, 1), (48, .iconst 4, 1), (49, .invokevirtual 118, 3), (52, .ireturn, 1), (53, .iload_n 3, 1), (54, .lload 4, 2), (56, .aload_n 0, 1), (57, .getfield 44, 3), (60, .iload_n 1, 1), (61, .iaload, 1), (62, .invokestatic 122, 3), (65, .ifCond .eq 11, 3), (68, .aload_n 0, 1), (69, .iconst 3, 1), (70, .invokevirtual 118, 3), (73, .goto 4, 3), (76, .iconst 0, 1), (77, .ireturn, 1)]
set_option maxRecDepth 100000 in
theorem dX7_cellsBarred : dOk cX7_cellsBarred tbX7_cellsBarred = true := by decide +kernel
def tbX7_canal : dT := [(0, .iload_n 1, 1), (1, .invokestatic 126, 3), (4, .ifCond .eq 9, 3), (7, .aload_n 0, 1), (8, .iconst (-1), 1), (9, .invokevirtual 129, 3), (12, .ireturn, 1), (13, .iload_n 2, 1), (14, .i2l, 1), (15, .lconst 0, 1), (16, .ldc2_w 132, 3), (19, .invokestatic 76, 3), (22, .ifCond .ne 10, 3), (25, .aload_n 0, 1), (26, .bipush (-2), 2), (28, .invokevirtual 129, 3), (31, .ireturn, 1), (32, .aload_n 0, 1), (33, .iload_n 1, 1), (34, .iload_n 2, 1), (35, .iload_n 3, 1), (36, .iload 4, 2), (38, .i2l, 1), (39, .invokevirtual 134, 3), (42, .istore 5, 2), (44, .iload 5, 2), (46, .ifCond .ge 6, 3), (49, .iload 5, 2), (51, .ireturn, 1), (52, .aload_n 0, 1), (53, .bipush 60, 2), (55, .iload_n 1, 1), (56, .imul, 1), (57, .iload_n 3, 1), (58, .iadd, 1), (59, .iload 4, 2), (61, .invokevirtual 138, 3), (64, .ifCond .ne 15, 3), (67, .aload_n 0, 1), (68, .bipush (-100), 2), (70, .aload_n 0, 1), (71, .getfield 87, 3), (74, .isub, 1), (75, .invokevirtual 129, 3), (78, .ireturn, 1), (79, .aload_n 0, 1), (80, .aload_n 0, 1), (81, .getfield 104, 3), (84, .putfield 66, 3), (87, .aload_n 0, 1), (88, .aload_n 0, 1), (89, .getfield 94, 3), (92, .putfield 69, 3), (95, .aload_n 0, 1), (96, .aload_n 0, 1), (97, .getfield 107, 3), (100, .putfield 141, 3), (103, .aload_n 0, 1), (104, .aload_n 0, 1), (105, .getfield 101, 3), (108, .putfield 80, 3), (111, .iconst 0, 1), (112, .istore 6, 2), (114, .iload 6, 2), (116, .aload_n 0, 1), (117, .invokevirtual 72, 3), (120, .if_icmp .ge 23, 3), (123, .aload_n 0, 1), (124, .getfield 7, 3), (127, .iload 6, 2), (129, .aload_n 0, 1), (130, .getfield 19, 3), (133, .iload 6, 2), (135, .iaload, 1), (136, .iastore, 1), (137, .iinc 6 1, 3), (140, .goto (-26), 3), (143, .iconst 0, 1), (144, .istore 6, 2), (146, .iload 6, 2), (148, .aload_n 0, 1), (149, .getfield 80, 3), (152, .if_icmp .ge 37, 3), (155, .aload_n 0, 1), (156, .getfield 13, 3), (159, .iload 6, 2), (161, .aload_n 0, 1), (162, .getfield 22, 3), (165, .iload 6, 2), (167, .iaload, 1), (168, .iastore, 1), (169, .aload_n 0, 1), (170, .getfield 16, 3), (173, .iload 6, 2), (175, .aload_n 0, 1), (176, .getfield 25, 3), (179, .iload 6, 2), (181, .iaload, 1), (182, .iastore, 1), (183, .iinc 6 1, 3), (186, .goto (-40), 3), (189, .aload_n 0, 1), (190, .iconst 0, 1), (191, .putfield 144, 3), (194, .aload_n 0, 1), (195, .aload_n 0, 1), (196, .getfield 80, 3), (199, .invokevirtual 129, 3), (202, .ireturn, 1)]
set_option maxRecDepth 100000 in
theorem dX7_canal : dOk cX7_canal tbX7_canal = true := by decide +kernel
def tbX7_loadOf : dT := [(0, .aload_n 0, 1), (1, .getfield 16, 3), (4, .iload_n 1, 1), (5, .iaload, 1), (6, .istore_n 2, 1), (7, .aload_n 0, 1), (8, .getfield 13, 3), (11, .iload_n 1, 1), (12, .iaload, 1), (13, .ifCond .ne 7, 3), (16, .iload_n 2, 1), (17, .goto 24, 3), (20, .aload_n 0, 1), (21, .getfield 13, 3), (24, .iload_n 1, 1), (25, .iaload, 1), (26, .iconst 1, 1), (27, .if_icmp .ne 9, 3), (30, .iload_n 2, 1), (31, .iconst 1, 1), (32, .iadd, 1), (33, .goto 8, 3), (36, .iconst 2, 1), (37, .iload_n 2, 1), (38, .iconst 1, 1), (39, .iadd, 1), (40, .imul, 1), (41, .ireturn, 1)]
set_option maxRecDepth 100000 in
theorem dX7_loadOf : dOk cX7_loadOf tbX7_loadOf = true := by decide +kernel
def tbX7_bears : dT := [(0, .aload_n 0, 1), (1, .getfield 7, 3), (4, .iload_n 1, 1), (5, .iaload, 1), (6, .aload_n 0, 1), (7, .getfield 147, 3), (10, .isub, 1), (11, .istore_n 3, 1), (12, .aload_n 0, 1), (13, .getfield 150, 3), (16, .iload_n 1, 1), (17, .invokestatic 153, 3), (20, .ifCond .ne 16, 3), (23, .aload_n 0, 1), (24, .iload_n 2, 1), (25, .invokevirtual 156, 3), (28, .iload_n 3, 1), (29, .if_icmp .gt 7, 3), (32, .iconst 1, 1), (33, .goto 4, 3), (36, .iconst 0, 1), (37, .ireturn, 1)]
set_option maxRecDepth 100000 in
theorem dX7_bears : dOk cX7_bears tbX7_bears = true := by decide +kernel
def tbX7_bearingOf : dT := [(0, .iconst 0, 1), (1, .istore_n 2, 1), (2, .iconst 0, 1), (3, .istore_n 3, 1), (4, .iload_n 3, 1), (5, .aload_n 0, 1), (6, .invokevirtual 72, 3), (9, .if_icmp .ge 28, 3), (12, .iload_n 2, 1), (13, .aload_n 0, 1), (14, .iload_n 3, 1), (15, .iload_n 1, 1), (16, .invokevirtual 159, 3), (19, .ifCond .eq 9, 3), (22, .iconst 1, 1), (23, .iload_n 3, 1), (24, .ishl, 1), (25, .goto 4, 3), (28, .iconst 0, 1), (29, .ior, 1), (30, .istore_n 2, 1), (31, .iinc 3 1, 3), (34, .goto (-30), 3), (37, .iload_n 2, 1), (38, .ireturn, 1)]
set_option maxRecDepth 100000 in
theorem dX7_bearingOf : dOk cX7_bearingOf tbX7_bearingOf = true := by decide +kernel
def tbX7_ofSkater : dT := [(0, .aload_n 0, 1), (1, .iload_n 1, 1), (2, .invokevirtual 83, 3), (5, .ifCond .eq 5, 3), (8, .iconst (-1), 1), (9, .ireturn, 1), (10, .iload_n 2, 1), (11, .tableswitch 55 0 3 #[29, 36, 43, 49], 29), (40, .aload_n 0, 1), (41, .getfield 13, 3), (44, .iload_n 1, 1), (45, .iaload, 1), (46, .ireturn, 1), (47, .aload_n 0, 1), (48, .getfield 16, 3), (51, .iload_n 1, 1), (52, .iaload, 1), (53, .ireturn, 1), (54, .aload_n 0, 1), (55, .iload_n 1, 1), (56, .invokevirtual 156, 3), (59, .ireturn, 1), (60, .aload_n 0, 1), (61, .iload_n 1, 1), (62, .invokevirtual 162, 3), (65, .ireturn, 1), (66, .bipush (-2), 2), (68, .ireturn, 1)]
set_option maxRecDepth 100000 in
theorem dX7_ofSkater : dOk cX7_ofSkater tbX7_ofSkater = true := by decide +kernel
def tbX7_strength : dT := [(0, .aload_n 0, 1), (1, .iload_n 1, 1), (2, .invokevirtual 165, 3), (5, .ifCond .eq 7, 3), (8, .iconst (-1), 1), (9, .goto 9, 3), (12, .aload_n 0, 1), (13, .getfield 7, 3), (16, .iload_n 1, 1), (17, .iaload, 1), (18, .ireturn, 1)]
set_option maxRecDepth 100000 in
theorem dX7_strength : dOk cX7_strength tbX7_strength = true := by decide +kernel
def tbX7_freeze : dT := [(0, .aload_n 0, 1), (1, .iload_n 1, 1), (2, .invokevirtual 165, 3), (5, .ifCond .eq 5, 3), (8, .iconst (-1), 1), (9, .ireturn, 1), (10, .iload_n 2, 1), (11, .i2l, 1), (12, .lconst 0, 1), (13, .ldc2_w 168, 3), (16, .invokestatic 76, 3), (19, .ifCond .ne 6, 3), (22, .bipush (-2), 2), (24, .ireturn, 1), (25, .aload_n 0, 1), (26, .getfield 7, 3), (29, .iload_n 1, 1), (30, .iaload, 1), (31, .istore_n 3, 1), (32, .aload_n 0, 1), (33, .getfield 7, 3), (36, .iload_n 1, 1), (37, .iload_n 2, 1), (38, .iastore, 1), (39, .iload_n 3, 1), (40, .ireturn, 1)]
set_option maxRecDepth 100000 in
theorem dX7_freeze : dOk cX7_freeze tbX7_freeze = true := by decide +kernel
def tbX7_frost : dT := [(0, .iload_n 1, 1), (1, .i2l, 1), (2, .lconst 0, 1), (3, .ldc2_w 168, 3), (6, .invokestatic 76, 3), (9, .ifCond .ne 6, 3), (12, .bipush (-2), 2), (14, .ireturn, 1), (15, .aload_n 0, 1), (16, .getfield 80, 3), (19, .ifCond .ne 6, 3), (22, .bipush (-3), 2), (24, .ireturn, 1), (25, .aload_n 0, 1), (26, .getfield 141, 3), (29, .istore_n 2, 1), (30, .aload_n 0, 1), (31, .iload_n 1, 1), (32, .putfield 141, 3), (35, .iload_n 2, 1), (36, .ireturn, 1)]
set_option maxRecDepth 100000 in
theorem dX7_frost : dOk cX7_frost tbX7_frost = true := by decide +kernel
def tbX7_beside : dT := [(0, .iload_n 1, 1), (1, .aload_n 0, 1), (2, .getfield 69, 3), (5, .idiv, 1), (6, .iload_n 2, 1), (7, .ifCond .ne 7, 3), (10, .iconst (-1), 1), (11, .goto 13, 3), (14, .iload_n 2, 1), (15, .iconst 2, 1), (16, .if_icmp .ne 7, 3), (19, .iconst 1, 1), (20, .goto 4, 3), (23, .iconst 0, 1), (24, .iadd, 1), (25, .istore_n 3, 1), (26, .iload_n 1, 1), (27, .aload_n 0, 1), (28, .getfield 69, 3), (31, .irem, 1), (32, .iload_n 2, 1), (33, .iconst 3, 1), (34, .if_icmp .ne 7, 3), (37, .iconst (-1), 1), (38, .goto 13, 3), (41, .iload_n 2, 1), (42, .iconst 1, 1), (43, .if_icmp .ne 7, 3), (46, .iconst 1, 1), (47, .goto 4, 3), (50, .iconst 0, 1), (51, .iadd, 1), (52, .istore 4, 2), (54, .iload_n 3, 1), (55, .i2l, 1), (56, .lconst 0, 1), (57, .aload_n 0, 1), (58, .getfield 66, 3), (61, .i2l, 1), (62, .lconst 1, 1), (63, .lsub, 1), (64, .invokestatic 76, 3), (67, .ifCond .eq 32, 3), (70, .iload 4, 2), (72, .i2l, 1), (73, .lconst 0, 1), (74, .aload_n 0, 1), (75, .getfield 69, 3), (78, .i2l, 1), (79, .lconst 1, 1), (80, .lsub, 1), (81, .invokestatic 76, 3), (84, .ifCond .eq 15, 3), (87, .iload_n 3, 1), (88, .aload_n 0, 1), (89, .getfield 69, 3), (92, .imul, 1), (93, .iload 4, 2), (95, .iadd, 1), (96, .goto 5, 3), (99, .bipush (-9), 2), (101, .ireturn, 1)]
set_option maxRecDepth 100000 in
theorem dX7_beside : dOk cX7_beside tbX7_beside = true := by decide +kernel
def tbX7_goDeed : dT := [(0, .aload_n 0, 1), (1, .bipush (-9), 2), (3, .putfield 170, 3), (6, .aload_n 0, 1), (7, .iload_n 3, 1), (8, .putfield 173, 3), (11, .aload_n 0, 1), (12, .iconst 0, 1), (13, .putfield 176, 3), (16, .iconst 0, 1), (17, .istore 6, 2), (19, .iload 6, 2), (21, .iload 5, 2), (23, .if_icmp .ge 101, 3), (26, .aload_n 0, 1), (27, .getfield 170, 3), (30, .ifCond .ge 94, 3), (33, .aload_n 0, 1), (34, .aload_n 0, 1), (35, .getfield 173, 3), (38, .aload_n 0, 1), (39, .getfield 50, 3), (42, .iload 4, 2), (44, .iload 6, 2), (46, .iadd, 1), (47, .iaload, 1), (48, .invokevirtual 179, 3), (51, .istore 7, 2), (53, .iload 7, 2), (55, .ifCond .lt 24, 3), (58, .aload_n 0, 1), (59, .iload 7, 2), (61, .iload 6, 2), (63, .iconst 2, 1), (64, .irem, 1), (65, .ifCond .ne 7, 3), (68, .iload_n 1, 1), (69, .goto 4, 3), (72, .iload_n 2, 1), (73, .invokevirtual 159, 3), (76, .ifCond .ne 12, 3), (79, .aload_n 0, 1), (80, .iload 6, 2), (82, .putfield 170, 3), (85, .goto 33, 3), (88, .aload_n 0, 1), (89, .iload 7, 2), (91, .putfield 173, 3), (94, .aload_n 0, 1), (95, .dup, 1), (96, .getfield 176, 3), (99, .iconst 1, 1), (100, .iload 7, 2), (102, .ishl, 1), (103, .ior, 1), (104, .putfield 176, 3), (107, .aload_n 0, 1), (108, .getfield 7, 3), (111, .iload 7, 2), (113, .dup2, 1), (114, .iaload, 1), (115, .iconst 1, 1), (116, .isub, 1), (117, .iastore, 1), (118, .iinc 6 1, 3), (121, .goto (-102), 3), (124, .return_, 1)]
set_option maxRecDepth 100000 in
theorem dX7_goDeed : dOk cX7_goDeed tbX7_goDeed = true := by decide +kernel
def tbX7_keep : dT := [(0, .iconst 0, 1), (1, .istore_n 1, 1), (2, .iload_n 1, 1), (3, .bipush 20, 2), (5, .if_icmp .ge 21, 3), (8, .aload_n 0, 1), (9, .getfield 28, 3), (12, .iload_n 1, 1), (13, .aload_n 0, 1), (14, .getfield 7, 3), (17, .iload_n 1, 1), (18, .iaload, 1), (19, .iastore, 1), (20, .iinc 1 1, 3), (23, .goto (-21), 3), (26, .return_, 1)]
set_option maxRecDepth 100000 in
theorem dX7_keep : dOk cX7_keep tbX7_keep = true := by decide +kernel
def tbX7_putBack : dT := [(0, .iconst 0, 1), (1, .istore_n 1, 1), (2, .iload_n 1, 1), (3, .bipush 20, 2), (5, .if_icmp .ge 21, 3), (8, .aload_n 0, 1), (9, .getfield 7, 3), (12, .iload_n 1, 1), (13, .aload_n 0, 1), (14, .getfield 28, 3), (17, .iload_n 1, 1), (18, .iaload, 1), (19, .iastore, 1), (20, .iinc 1 1, 3), (23, .goto (-21), 3), (26, .return_, 1)]
set_option maxRecDepth 100000 in
theorem dX7_putBack : dOk cX7_putBack tbX7_putBack = true := by decide +kernel
def tbX7_strokesBarred : dT := [(0, .aload_n 0, 1), (1, .iload_n 1, 1), (2, .iload_n 2, 1), (3, .iload_n 3, 1), (4, .iload 4, 2), (6, .i2l, 1), (7, .invokevirtual 134, 3), (10, .istore 5, 2), (12, .iload 5, 2), (14, .ifCond .ge 6, 3), (17, .iload 5, 2), (19, .ireturn, 1), (20, .iconst 0, 1), (21, .istore 6, 2), (23, .iload 6, 2), (25, .iload 4, 2), (27, .if_icmp .ge 41, 3), (30, .aload_n 0, 1), (31, .getfield 50, 3), (34, .bipush 60, 2), (36, .iload_n 1, 1), (37, .imul, 1), (38, .iload_n 3, 1), (39, .iadd, 1), (40, .iload 6, 2), (42, .iadd, 1), (43, .iaload, 1), (44, .i2l, 1), (45, .lconst 0, 1), (46, .ldc2_w 182, 3), (49, .invokestatic 76, 3), (52, .ifCond .ne 10, 3), (55, .aload_n 0, 1), (56, .bipush (-2), 2), (58, .invokevirtual 129, 3), (61, .ireturn, 1), (62, .iinc 6 1, 3), (65, .goto (-42), 3), (68, .aload_n 0, 1), (69, .iconst 0, 1), (70, .invokevirtual 129, 3), (73, .ireturn, 1)]
set_option maxRecDepth 100000 in
theorem dX7_strokesBarred : dOk cX7_strokesBarred tbX7_strokesBarred = true := by decide +kernel
def tbX7_deed : dT := [(0, .aload_n 0, 1), (1, .iload_n 1, 1), (2, .iload_n 2, 1), (3, .invokevirtual 184, 3), (6, .ifCond .ne 19, 3), (9, .aload_n 0, 1), (10, .iload_n 3, 1), (11, .invokevirtual 165, 3), (14, .ifCond .ne 11, 3), (17, .iload 4, 2), (19, .invokestatic 126, 3), (22, .ifCond .eq 9, 3), (25, .aload_n 0, 1), (26, .iconst (-1), 1), (27, .invokevirtual 129, 3), (30, .ireturn, 1), (31, .iload 5, 2), (33, .i2l, 1), (34, .lconst 0, 1), (35, .ldc2_w 132, 3), (38, .invokestatic 76, 3), (41, .ifCond .eq 29, 3), (44, .iload 7, 2), (46, .i2l, 1), (47, .lconst 0, 1), (48, .ldc2_w 187, 3), (51, .invokestatic 76, 3), (54, .ifCond .eq 16, 3), (57, .iload 8, 2), (59, .i2l, 1), (60, .lconst 0, 1), (61, .ldc2_w 189, 3), (64, .invokestatic 76, 3), (67, .ifCond .ne 10, 3), (70, .aload_n 0, 1), (71, .bipush (-2), 2), (73, .invokevirtual 129, 3), (76, .ireturn, 1), (77, .aload_n 0, 1), (78, .iload 4, 2), (80, .iload 5, 2), (82, .iload 6, 2), (84, .iload 7, 2), (86, .invokevirtual 191, 3), (89, .istore 9, 2), (91, .iload 9, 2), (93, .ifCond .ge 6, 3), (96, .iload 9, 2), (98, .ireturn, 1), (99, .aload_n 0, 1), (100, .invokevirtual 194, 3), (103, .aload_n 0, 1), (104, .iload_n 1, 1), (105, .iload_n 2, 1), (106, .iload_n 3, 1), (107, .bipush 60, 2), (109, .iload 4, 2), (111, .imul, 1), (112, .iload 6, 2), (114, .iadd, 1), (115, .iload 7, 2), (117, .invokevirtual 197, 3), (120, .aload_n 0, 1), (121, .getfield 7, 3), (124, .aload_n 0, 1), (125, .getfield 173, 3), (128, .iaload, 1), (129, .istore 10, 2), (131, .aload_n 0, 1), (132, .invokevirtual 201, 3), (135, .iload 8, 2), (137, .iconst 1, 1), (138, .if_icmp .ne 8, 3), (141, .aload_n 0, 1), (142, .getfield 170, 3), (145, .ireturn, 1), (146, .aload_n 0, 1), (147, .getfield 170, 3), (150, .ifCond .lt 11, 3), (153, .bipush (-100), 2), (155, .aload_n 0, 1), (156, .getfield 170, 3), (159, .isub, 1), (160, .ireturn, 1), (161, .iload 8, 2), (163, .tableswitch 42 0 3 #[29, 42, 34, 39], 29), (192, .aload_n 0, 1), (193, .getfield 173, 3), (196, .ireturn, 1), (197, .aload_n 0, 1), (198, .getfield 176, 3), (201, .ireturn, 1), (202, .iload 10, 2), (204, .ireturn, 1), (205, .iload 7, 2), (207, .iconst 1, 1), (208, .iadd, 1), (209, .iconst 2, 1), (210, .idiv, 1), (211, .ireturn, 1)]
set_option maxRecDepth 100000 in
theorem dX7_deed : dOk cX7_deed tbX7_deed = true := by decide +kernel
def tbX7_write : dT := [(0, .aload_n 0, 1), (1, .iload_n 1, 1), (2, .iload_n 2, 1), (3, .invokevirtual 184, 3), (6, .ifCond .ne 19, 3), (9, .aload_n 0, 1), (10, .iload_n 3, 1), (11, .invokevirtual 165, 3), (14, .ifCond .ne 11, 3), (17, .iload 4, 2), (19, .invokestatic 126, 3), (22, .ifCond .eq 9, 3), (25, .aload_n 0, 1), (26, .iconst (-1), 1), (27, .invokevirtual 129, 3), (30, .ireturn, 1), (31, .iload 5, 2), (33, .i2l, 1), (34, .lconst 0, 1), (35, .ldc2_w 132, 3), (38, .invokestatic 76, 3), (41, .ifCond .eq 16, 3), (44, .iload 7, 2), (46, .i2l, 1), (47, .lconst 0, 1), (48, .ldc2_w 187, 3), (51, .invokestatic 76, 3), (54, .ifCond .ne 10, 3), (57, .aload_n 0, 1), (58, .bipush (-2), 2), (60, .invokevirtual 129, 3), (63, .ireturn, 1), (64, .aload_n 0, 1), (65, .iload 4, 2), (67, .iload 5, 2), (69, .iload 6, 2), (71, .iload 7, 2), (73, .invokevirtual 191, 3), (76, .istore 8, 2), (78, .iload 8, 2), (80, .ifCond .ge 6, 3), (83, .iload 8, 2), (85, .ireturn, 1), (86, .aload_n 0, 1), (87, .invokevirtual 194, 3), (90, .aload_n 0, 1), (91, .iload_n 1, 1), (92, .iload_n 2, 1), (93, .iload_n 3, 1), (94, .bipush 60, 2), (96, .iload 4, 2), (98, .imul, 1), (99, .iload 6, 2), (101, .iadd, 1), (102, .iload 7, 2), (104, .invokevirtual 197, 3), (107, .aload_n 0, 1), (108, .getfield 170, 3), (111, .ifCond .lt 15, 3), (114, .aload_n 0, 1), (115, .invokevirtual 201, 3), (118, .bipush (-100), 2), (120, .aload_n 0, 1), (121, .getfield 170, 3), (124, .isub, 1), (125, .ireturn, 1), (126, .iload 7, 2), (128, .ireturn, 1)]
set_option maxRecDepth 100000 in
theorem dX7_write : dOk cX7_write tbX7_write = true := by decide +kernel
def tbX7_countOf : dT := [(0, .iconst 0, 1), (1, .istore_n 2, 1), (2, .iconst 0, 1), (3, .istore_n 3, 1), (4, .iload_n 3, 1), (5, .aload_n 0, 1), (6, .invokevirtual 72, 3), (9, .if_icmp .ge 27, 3), (12, .iload_n 2, 1), (13, .aload_n 0, 1), (14, .getfield 7, 3), (17, .iload_n 3, 1), (18, .iaload, 1), (19, .iload_n 1, 1), (20, .if_icmp .ne 7, 3), (23, .iconst 1, 1), (24, .goto 4, 3), (27, .iconst 0, 1), (28, .iadd, 1), (29, .istore_n 2, 1), (30, .iinc 3 1, 3), (33, .goto (-29), 3), (36, .iload_n 2, 1), (37, .ireturn, 1)]
set_option maxRecDepth 100000 in
theorem dX7_countOf : dOk cX7_countOf tbX7_countOf = true := by decide +kernel
def tbX7_nights : dT := [(0, .iload_n 1, 1), (1, .i2l, 1), (2, .lconst 0, 1), (3, .ldc2_w 168, 3), (6, .invokestatic 76, 3), (9, .ifCond .ne 6, 3), (12, .bipush (-2), 2), (14, .ireturn, 1), (15, .aload_n 0, 1), (16, .getfield 80, 3), (19, .ifCond .ne 6, 3), (22, .bipush (-3), 2), (24, .ireturn, 1), (25, .iconst 0, 1), (26, .istore_n 2, 1), (27, .iload_n 2, 1), (28, .aload_n 0, 1), (29, .invokevirtual 72, 3), (32, .if_icmp .ge 41, 3), (35, .aload_n 0, 1), (36, .getfield 7, 3), (39, .iload_n 2, 1), (40, .iaload, 1), (41, .iload_n 1, 1), (42, .aload_n 0, 1), (43, .getfield 141, 3), (46, .imul, 1), (47, .iadd, 1), (48, .istore_n 3, 1), (49, .aload_n 0, 1), (50, .getfield 7, 3), (53, .iload_n 2, 1), (54, .iload_n 3, 1), (55, .bipush 9, 2), (57, .if_icmp .le 8, 3), (60, .bipush 9, 2), (62, .goto 4, 3), (65, .iload_n 3, 1), (66, .iastore, 1), (67, .iinc 2 1, 3), (70, .goto (-43), 3), (73, .aload_n 0, 1), (74, .bipush 9, 2), (76, .invokevirtual 204, 3), (79, .ireturn, 1)]
set_option maxRecDepth 100000 in
theorem dX7_nights : dOk cX7_nights tbX7_nights = true := by decide +kernel
def tbX7_thaw : dT := [(0, .iload_n 1, 1), (1, .i2l, 1), (2, .lconst 0, 1), (3, .ldc2_w 168, 3), (6, .invokestatic 76, 3), (9, .ifCond .ne 6, 3), (12, .bipush (-2), 2), (14, .ireturn, 1), (15, .aload_n 0, 1), (16, .getfield 80, 3), (19, .ifCond .ne 6, 3), (22, .bipush (-3), 2), (24, .ireturn, 1), (25, .iconst 0, 1), (26, .istore_n 2, 1), (27, .iload_n 2, 1), (28, .aload_n 0, 1), (29, .invokevirtual 72, 3), (32, .if_icmp .ge 33, 3), (35, .aload_n 0, 1), (36, .getfield 7, 3), (39, .iload_n 2, 1), (40, .iaload, 1), (41, .iload_n 1, 1), (42, .isub, 1), (43, .istore_n 3, 1), (44, .aload_n 0, 1), (45, .getfield 7, 3), (48, .iload_n 2, 1), (49, .iload_n 3, 1), (50, .ifCond .ge 7, 3), (53, .iconst 0, 1), (54, .goto 4, 3), (57, .iload_n 3, 1), (58, .iastore, 1), (59, .iinc 2 1, 3), (62, .goto (-35), 3), (65, .aload_n 0, 1), (66, .iconst 0, 1), (67, .invokevirtual 204, 3), (70, .ireturn, 1)]
set_option maxRecDepth 100000 in
theorem dX7_thaw : dOk cX7_thaw tbX7_thaw = true := by decide +kernel
def tbX7_leftBy : dT := [(0, .iload_n 1, 1), (1, .bipush 20, 2), (3, .irem, 1), (4, .istore 4, 2), (6, .iload_n 1, 1), (7, .bipush 20, 2), (9, .idiv, 1), (10, .istore 5, 2), (12, .bipush (-9), 2), (14, .istore 6, 2), (16, .iconst 0, 1), (17, .istore 7, 2), (19, .iload 7, 2), (21, .iconst 4, 1), (22, .if_icmp .ge 107, 3), (25, .aload_n 0, 1), (26, .iload 4, 2), (28, .iload 7, 2), (30, .invokevirtual 179, 3), (33, .istore 8, 2), (35, .iload 8, 2), (37, .ifCond .lt 26, 3), (40, .aload_n 0, 1), (41, .iload 8, 2), (43, .iload 5, 2), (45, .ifCond .ne 7, 3), (48, .iload_n 2, 1), (49, .goto 4, 3), (52, .iload_n 3, 1), (53, .invokevirtual 159, 3), (56, .ifCond .eq 7, 3), (59, .iconst 1, 1), (60, .goto 4, 3), (63, .iconst 0, 1), (64, .istore 9, 2), (66, .iload 9, 2), (68, .ifCond .eq 21, 3), (71, .aload_n 0, 1), (72, .getfield 31, 3), (75, .iload 8, 2), (77, .bipush 20, 2), (79, .iconst 1, 1), (80, .iload 5, 2), (82, .isub, 1), (83, .imul, 1), (84, .iadd, 1), (85, .iaload, 1), (86, .goto 5, 3), (89, .bipush (-9), 2), (91, .istore 10, 2), (93, .iload 10, 2), (95, .ifCond .lt 24, 3), (98, .iload 6, 2), (100, .ifCond .lt 12, 3), (103, .iload 10, 2), (105, .iconst 1, 1), (106, .iadd, 1), (107, .iload 6, 2), (109, .if_icmp .ge 10, 3), (112, .iload 10, 2), (114, .iconst 1, 1), (115, .iadd, 1), (116, .goto 5, 3), (119, .iload 6, 2), (121, .istore 6, 2), (123, .iinc 7 1, 3), (126, .goto (-107), 3), (129, .iload 6, 2), (131, .ireturn, 1)]
set_option maxRecDepth 100000 in
theorem dX7_leftBy : dOk cX7_leftBy tbX7_leftBy = true := by decide +kernel
def tbX7_goBond : dT := [(0, .iconst 0, 1), (1, .istore 4, 2), (3, .iload 4, 2), (5, .bipush 40, 2), (7, .if_icmp .ge 31, 3), (10, .aload_n 0, 1), (11, .getfield 31, 3), (14, .iload 4, 2), (16, .iload 4, 2), (18, .bipush 20, 2), (20, .irem, 1), (21, .iload_n 3, 1), (22, .if_icmp .ne 7, 3), (25, .iconst 0, 1), (26, .goto 5, 3), (29, .bipush (-9), 2), (31, .iastore, 1), (32, .iinc 4 1, 3), (35, .goto (-32), 3), (38, .iconst 1, 1), (39, .istore 4, 2), (41, .iload 4, 2), (43, .bipush 41, 2), (45, .if_icmp .ge 100, 3), (48, .iconst 0, 1), (49, .istore 5, 2), (51, .iload 5, 2), (53, .bipush 40, 2), (55, .if_icmp .ge 84, 3), (58, .iload 5, 2), (60, .bipush 20, 2), (62, .irem, 1), (63, .aload_n 0, 1), (64, .invokevirtual 72, 3), (67, .if_icmp .ge 17, 3), (70, .aload_n 0, 1), (71, .getfield 31, 3), (74, .iload 5, 2), (76, .iaload, 1), (77, .ifCond .ge 7, 3), (80, .iconst 1, 1), (81, .goto 4, 3), (84, .iconst 0, 1), (85, .istore 6, 2), (87, .iload 6, 2), (89, .ifCond .eq 14, 3), (92, .aload_n 0, 1), (93, .iload 5, 2), (95, .iload_n 1, 1), (96, .iload_n 2, 1), (97, .invokevirtual 207, 3), (100, .goto 5, 3), (103, .bipush (-9), 2), (105, .istore 7, 2), (107, .aload_n 0, 1), (108, .getfield 31, 3), (111, .iload 5, 2), (113, .iload 7, 2), (115, .iload 4, 2), (117, .if_icmp .ne 8, 3), (120, .iload 7, 2), (122, .goto 10, 3), (125, .aload_n 0, 1), (126, .getfield 31, 3), (129, .iload 5, 2), (131, .iaload, 1), (132, .iastore, 1), (133, .iinc 5 1, 3), (136, .goto (-85), 3), (139, .iinc 4 1, 3), (142, .goto (-101), 3), (145, .return_, 1)]
set_option maxRecDepth 100000 in
theorem dX7_goBond : dOk cX7_goBond tbX7_goBond = true := by decide +kernel
def tbX7_isBond : dT := [(0, .aload_n 0, 1), (1, .iload_n 1, 1), (2, .iload_n 2, 1), (3, .iload 4, 2), (5, .invokevirtual 211, 3), (8, .aload_n 0, 1), (9, .getfield 31, 3), (12, .iload_n 3, 1), (13, .iaload, 1), (14, .ifCond .lt 7, 3), (17, .iconst 1, 1), (18, .goto 4, 3), (21, .iconst 0, 1), (22, .ireturn, 1)]
set_option maxRecDepth 100000 in
theorem dX7_isBond : dOk cX7_isBond tbX7_isBond = true := by decide +kernel
def tbX7_strokeBy : dT := [(0, .bipush (-9), 2), (2, .istore 5, 2), (4, .aload_n 0, 1), (5, .getfield 31, 3), (8, .iload_n 3, 1), (9, .bipush 20, 2), (11, .iload 4, 2), (13, .imul, 1), (14, .iadd, 1), (15, .iaload, 1), (16, .istore 6, 2), (18, .iconst 3, 1), (19, .istore 7, 2), (21, .iload 7, 2), (23, .ifCond .lt 85, 3), (26, .aload_n 0, 1), (27, .iload_n 3, 1), (28, .iload 7, 2), (30, .invokevirtual 179, 3), (33, .istore 8, 2), (35, .iload 8, 2), (37, .ifCond .lt 48, 3), (40, .aload_n 0, 1), (41, .iload 8, 2), (43, .iload 4, 2), (45, .ifCond .ne 7, 3), (48, .iload_n 1, 1), (49, .goto 4, 3), (52, .iload_n 2, 1), (53, .invokevirtual 159, 3), (56, .ifCond .eq 29, 3), (59, .aload_n 0, 1), (60, .getfield 31, 3), (63, .iload 8, 2), (65, .bipush 20, 2), (67, .iconst 1, 1), (68, .iload 4, 2), (70, .isub, 1), (71, .imul, 1), (72, .iadd, 1), (73, .iaload, 1), (74, .iload 6, 2), (76, .iconst 1, 1), (77, .isub, 1), (78, .if_icmp .ne 7, 3), (81, .iconst 1, 1), (82, .goto 4, 3), (85, .iconst 0, 1), (86, .istore 9, 2), (88, .iload 9, 2), (90, .ifCond .eq 8, 3), (93, .iload 7, 2), (95, .goto 5, 3), (98, .iload 5, 2), (100, .istore 5, 2), (102, .iinc 7 (-1), 3), (105, .goto (-84), 3), (108, .iload 5, 2), (110, .ireturn, 1)]
set_option maxRecDepth 100000 in
theorem dX7_strokeBy : dOk cX7_strokeBy tbX7_strokeBy = true := by decide +kernel
def tbX7_bond : dT := [(0, .aload_n 0, 1), (1, .iload_n 1, 1), (2, .iload_n 2, 1), (3, .invokevirtual 184, 3), (6, .ifCond .ne 20, 3), (9, .aload_n 0, 1), (10, .iload_n 3, 1), (11, .invokevirtual 165, 3), (14, .ifCond .ne 12, 3), (17, .aload_n 0, 1), (18, .iload 4, 2), (20, .invokevirtual 165, 3), (23, .ifCond .eq 5, 3), (26, .iconst (-1), 1), (27, .ireturn, 1), (28, .iload 5, 2), (30, .i2l, 1), (31, .ldc2_w 215, 3), (34, .ldc2_w 217, 3), (37, .invokestatic 76, 3), (40, .ifCond .ne 6, 3), (43, .bipush (-2), 2), (45, .ireturn, 1), (46, .aload_n 0, 1), (47, .iload_n 1, 1), (48, .iload_n 2, 1), (49, .iload 4, 2), (51, .invokevirtual 211, 3), (54, .aload_n 0, 1), (55, .getfield 31, 3), (58, .iload_n 3, 1), (59, .iaload, 1), (60, .istore 6, 2), (62, .iload 5, 2), (64, .ifCond .lt 10, 3), (67, .iload 6, 2), (69, .iload 5, 2), (71, .if_icmp .gt 16, 3), (74, .iload 5, 2), (76, .ifCond .ge 8, 3), (79, .iload 6, 2), (81, .goto 5, 3), (84, .bipush (-9), 2), (86, .ireturn, 1), (87, .iload_n 3, 1), (88, .istore 7, 2), (90, .iconst 0, 1), (91, .istore 8, 2), (93, .iload 8, 2), (95, .iload 5, 2), (97, .if_icmp .ge 29, 3), (100, .aload_n 0, 1), (101, .iload 7, 2), (103, .aload_n 0, 1), (104, .iload_n 1, 1), (105, .iload_n 2, 1), (106, .iload 7, 2), (108, .iload 8, 2), (110, .iconst 2, 1), (111, .irem, 1), (112, .invokevirtual 219, 3), (115, .invokevirtual 179, 3), (118, .istore 7, 2), (120, .iinc 8 1, 3), (123, .goto (-30), 3), (126, .aload_n 0, 1), (127, .iload_n 1, 1), (128, .iload_n 2, 1), (129, .iload 7, 2), (131, .iload 5, 2), (133, .iconst 2, 1), (134, .irem, 1), (135, .invokevirtual 219, 3), (138, .ireturn, 1)]
set_option maxRecDepth 100000 in
theorem dX7_bond : dOk cX7_bond tbX7_bond = true := by decide +kernel
def tbX7_holds : dT := [(0, .aload_n 0, 1), (1, .iload_n 1, 1), (2, .iload_n 2, 1), (3, .invokevirtual 184, 3), (6, .ifCond .ne 20, 3), (9, .aload_n 0, 1), (10, .iload_n 3, 1), (11, .invokevirtual 165, 3), (14, .ifCond .ne 12, 3), (17, .aload_n 0, 1), (18, .iload 4, 2), (20, .invokevirtual 165, 3), (23, .ifCond .eq 5, 3), (26, .iconst (-1), 1), (27, .ireturn, 1), (28, .bipush (-9), 2), (30, .istore 5, 2), (32, .iconst 0, 1), (33, .istore 6, 2), (35, .iload 6, 2), (37, .bipush 10, 2), (39, .if_icmp .ge 36, 3), (42, .aload_n 0, 1), (43, .iload 6, 2), (45, .putfield 147, 3), (48, .aload_n 0, 1), (49, .iload_n 1, 1), (50, .iload_n 2, 1), (51, .iload_n 3, 1), (52, .iload 4, 2), (54, .invokevirtual 222, 3), (57, .ifCond .eq 8, 3), (60, .iload 6, 2), (62, .goto 5, 3), (65, .iload 5, 2), (67, .istore 5, 2), (69, .iinc 6 1, 3), (72, .goto (-37), 3), (75, .aload_n 0, 1), (76, .iconst 0, 1), (77, .putfield 147, 3), (80, .iload 5, 2), (82, .ireturn, 1)]
set_option maxRecDepth 100000 in
theorem dX7_holds : dOk cX7_holds tbX7_holds = true := by decide +kernel
def tbX7_alone : dT := [(0, .aload_n 0, 1), (1, .iload_n 1, 1), (2, .invokevirtual 83, 3), (5, .ifCond .ne 11, 3), (8, .aload_n 0, 1), (9, .iload_n 2, 1), (10, .invokevirtual 165, 3), (13, .ifCond .eq 5, 3), (16, .iconst (-1), 1), (17, .ireturn, 1), (18, .iconst 1, 1), (19, .iload_n 2, 1), (20, .ishl, 1), (21, .istore_n 3, 1), (22, .iconst 0, 1), (23, .istore 4, 2), (25, .iload 4, 2), (27, .aload_n 0, 1), (28, .invokevirtual 72, 3), (31, .if_icmp .ge 80, 3), (34, .iconst 0, 1), (35, .istore 5, 2), (37, .iload 5, 2), (39, .iconst 4, 1), (40, .aload_n 0, 1), (41, .invokevirtual 72, 3), (44, .imul, 1), (45, .if_icmp .ge 60, 3), (48, .aload_n 0, 1), (49, .iload 5, 2), (51, .iconst 4, 1), (52, .idiv, 1), (53, .iload 5, 2), (55, .iconst 4, 1), (56, .irem, 1), (57, .invokevirtual 179, 3), (60, .istore 6, 2), (62, .iload_n 3, 1), (63, .iload_n 3, 1), (64, .iload 5, 2), (66, .iconst 4, 1), (67, .idiv, 1), (68, .invokestatic 153, 3), (71, .ifCond .eq 25, 3), (74, .iload 6, 2), (76, .ifCond .lt 20, 3), (79, .aload_n 0, 1), (80, .iload 6, 2), (82, .iload_n 1, 1), (83, .invokevirtual 159, 3), (86, .ifCond .eq 10, 3), (89, .iconst 1, 1), (90, .iload 6, 2), (92, .ishl, 1), (93, .goto 4, 3), (96, .iconst 0, 1), (97, .ior, 1), (98, .istore_n 3, 1), (99, .iinc 5 1, 3), (102, .goto (-65), 3), (105, .iinc 4 1, 3), (108, .goto (-83), 3), (111, .iload_n 3, 1), (112, .ireturn, 1)]
set_option maxRecDepth 100000 in
theorem dX7_alone : dOk cX7_alone tbX7_alone = true := by decide +kernel
def tbX7_neck : dT := [(0, .aload_n 0, 1), (1, .iload_n 1, 1), (2, .iload_n 2, 1), (3, .invokevirtual 184, 3), (6, .ifCond .ne 20, 3), (9, .aload_n 0, 1), (10, .iload_n 3, 1), (11, .invokevirtual 165, 3), (14, .ifCond .ne 12, 3), (17, .aload_n 0, 1), (18, .iload 4, 2), (20, .invokevirtual 165, 3), (23, .ifCond .eq 5, 3), (26, .iconst (-1), 1), (27, .ireturn, 1), (28, .bipush (-9), 2), (30, .istore 5, 2), (32, .aload_n 0, 1), (33, .iload_n 1, 1), (34, .iload_n 2, 1), (35, .iload_n 3, 1), (36, .iload 4, 2), (38, .invokevirtual 222, 3), (41, .ifCond .eq 76, 3), (44, .aload_n 0, 1), (45, .invokevirtual 72, 3), (48, .iconst 1, 1), (49, .isub, 1), (50, .istore 6, 2), (52, .iload 6, 2), (54, .ifCond .lt 63, 3), (57, .aload_n 0, 1), (58, .iconst 1, 1), (59, .iload 6, 2), (61, .ishl, 1), (62, .putfield 150, 3), (65, .iload 6, 2), (67, .iload_n 3, 1), (68, .if_icmp .eq 26, 3), (71, .iload 6, 2), (73, .iload 4, 2), (75, .if_icmp .eq 19, 3), (78, .aload_n 0, 1), (79, .iload_n 1, 1), (80, .iload_n 2, 1), (81, .iload_n 3, 1), (82, .iload 4, 2), (84, .invokevirtual 222, 3), (87, .ifCond .ne 7, 3), (90, .iconst 1, 1), (91, .goto 4, 3), (94, .iconst 0, 1), (95, .istore 7, 2), (97, .iload 7, 2), (99, .ifCond .eq 8, 3), (102, .iload 6, 2), (104, .goto 5, 3), (107, .iload 5, 2), (109, .istore 5, 2), (111, .iinc 6 (-1), 3), (114, .goto (-62), 3), (117, .aload_n 0, 1), (118, .iconst 0, 1), (119, .putfield 150, 3), (122, .iload 5, 2), (124, .ireturn, 1)]
set_option maxRecDepth 100000 in
theorem dX7_neck : dOk cX7_neck tbX7_neck = true := by decide +kernel
def tbX7_reading : dT := [(0, .aload_n 0, 1), (1, .iload_n 1, 1), (2, .invokevirtual 83, 3), (5, .ifCond .ne 11, 3), (8, .aload_n 0, 1), (9, .iload_n 2, 1), (10, .invokevirtual 165, 3), (13, .ifCond .eq 5, 3), (16, .iconst (-1), 1), (17, .ireturn, 1), (18, .aload_n 0, 1), (19, .getfield 144, 3), (22, .bipush 8, 2), (24, .if_icmp .ne 6, 3), (27, .bipush (-4), 2), (29, .ireturn, 1), (30, .aload_n 0, 1), (31, .getfield 34, 3), (34, .aload_n 0, 1), (35, .getfield 144, 3), (38, .iload_n 1, 1), (39, .iastore, 1), (40, .aload_n 0, 1), (41, .getfield 37, 3), (44, .aload_n 0, 1), (45, .getfield 144, 3), (48, .iload_n 2, 1), (49, .iastore, 1), (50, .aload_n 0, 1), (51, .getfield 40, 3), (54, .aload_n 0, 1), (55, .getfield 144, 3), (58, .iload_n 3, 1), (59, .bastore, 1), (60, .aload_n 0, 1), (61, .dup, 1), (62, .getfield 144, 3), (65, .iconst 1, 1), (66, .iadd, 1), (67, .putfield 144, 3), (70, .aload_n 0, 1), (71, .getfield 144, 3), (74, .iconst 1, 1), (75, .isub, 1), (76, .ireturn, 1)]
set_option maxRecDepth 100000 in
theorem dX7_reading : dOk cX7_reading tbX7_reading = true := by decide +kernel
def tbX7_back : dT := [(0, .iload_n 1, 1), (1, .i2l, 1), (2, .lconst 0, 1), (3, .aload_n 0, 1), (4, .getfield 144, 3), (7, .i2l, 1), (8, .invokestatic 76, 3), (11, .ifCond .ne 6, 3), (14, .bipush (-2), 2), (16, .ireturn, 1), (17, .aload_n 0, 1), (18, .dup, 1), (19, .getfield 144, 3), (22, .iload_n 1, 1), (23, .isub, 1), (24, .putfield 144, 3), (27, .aload_n 0, 1), (28, .getfield 144, 3), (31, .ireturn, 1)]
set_option maxRecDepth 100000 in
theorem dX7_back : dOk cX7_back tbX7_back = true := by decide +kernel
def tbX7_areSo : dT := [(0, .iconst 1, 1), (1, .istore_n 1, 1), (2, .iconst 0, 1), (3, .istore_n 2, 1), (4, .iload_n 2, 1), (5, .aload_n 0, 1), (6, .getfield 144, 3), (9, .if_icmp .ge 44, 3), (12, .iload_n 1, 1), (13, .ifCond .eq 32, 3), (16, .aload_n 0, 1), (17, .aload_n 0, 1), (18, .getfield 37, 3), (21, .iload_n 2, 1), (22, .iaload, 1), (23, .aload_n 0, 1), (24, .getfield 34, 3), (27, .iload_n 2, 1), (28, .iaload, 1), (29, .invokevirtual 159, 3), (32, .aload_n 0, 1), (33, .getfield 40, 3), (36, .iload_n 2, 1), (37, .baload, 1), (38, .if_icmp .ne 7, 3), (41, .iconst 1, 1), (42, .goto 4, 3), (45, .iconst 0, 1), (46, .istore_n 1, 1), (47, .iinc 2 1, 3), (50, .goto (-46), 3), (53, .iload_n 1, 1), (54, .ireturn, 1)]
set_option maxRecDepth 100000 in
theorem dX7_areSo : dOk cX7_areSo tbX7_areSo = true := by decide +kernel
def tbX7_weights : dT := [(0, .aload_n 0, 1), (1, .iload_n 1, 1), (2, .invokevirtual 83, 3), (5, .ifCond .eq 5, 3), (8, .iconst (-1), 1), (9, .ireturn, 1), (10, .aload_n 0, 1), (11, .getfield 16, 3), (14, .iload_n 1, 1), (15, .iaload, 1), (16, .istore_n 2, 1), (17, .iconst 0, 1), (18, .istore_n 3, 1), (19, .iconst 1, 1), (20, .istore 4, 2), (22, .iload 4, 2), (24, .bipush 10, 2), (26, .if_icmp .ge 35, 3), (29, .aload_n 0, 1), (30, .getfield 16, 3), (33, .iload_n 1, 1), (34, .iload 4, 2), (36, .iastore, 1), (37, .iload_n 3, 1), (38, .aload_n 0, 1), (39, .invokevirtual 226, 3), (42, .ifCond .eq 10, 3), (45, .iconst 1, 1), (46, .iload 4, 2), (48, .ishl, 1), (49, .goto 4, 3), (52, .iconst 0, 1), (53, .ior, 1), (54, .istore_n 3, 1), (55, .iinc 4 1, 3), (58, .goto (-36), 3), (61, .aload_n 0, 1), (62, .getfield 16, 3), (65, .iload_n 1, 1), (66, .iload_n 2, 1), (67, .iastore, 1), (68, .iload_n 3, 1), (69, .ireturn, 1)]
set_option maxRecDepth 100000 in
theorem dX7_weights : dOk cX7_weights tbX7_weights = true := by decide +kernel
def tbX7_kinds : dT := [(0, .aload_n 0, 1), (1, .iload_n 1, 1), (2, .invokevirtual 83, 3), (5, .ifCond .eq 5, 3), (8, .iconst (-1), 1), (9, .ireturn, 1), (10, .aload_n 0, 1), (11, .getfield 13, 3), (14, .iload_n 1, 1), (15, .iaload, 1), (16, .istore_n 2, 1), (17, .iconst 0, 1), (18, .istore_n 3, 1), (19, .iconst 0, 1), (20, .istore 4, 2), (22, .iload 4, 2), (24, .iconst 3, 1), (25, .if_icmp .ge 35, 3), (28, .aload_n 0, 1), (29, .getfield 13, 3), (32, .iload_n 1, 1), (33, .iload 4, 2), (35, .iastore, 1), (36, .iload_n 3, 1), (37, .aload_n 0, 1), (38, .invokevirtual 226, 3), (41, .ifCond .eq 10, 3), (44, .iconst 1, 1), (45, .iload 4, 2), (47, .ishl, 1), (48, .goto 4, 3), (51, .iconst 0, 1), (52, .ior, 1), (53, .istore_n 3, 1), (54, .iinc 4 1, 3), (57, .goto (-35), 3), (60, .aload_n 0, 1), (61, .getfield 13, 3), (64, .iload_n 1, 1), (65, .iload_n 2, 1), (66, .iastore, 1), (67, .iload_n 3, 1), (68, .ireturn, 1)]
set_option maxRecDepth 100000 in
theorem dX7_kinds : dOk cX7_kinds tbX7_kinds = true := by decide +kernel
def tbX7_strengths : dT := [(0, .aload_n 0, 1), (1, .iload_n 1, 1), (2, .invokevirtual 165, 3), (5, .ifCond .eq 5, 3), (8, .iconst (-1), 1), (9, .ireturn, 1), (10, .aload_n 0, 1), (11, .getfield 7, 3), (14, .iload_n 1, 1), (15, .iaload, 1), (16, .istore_n 2, 1), (17, .iconst 0, 1), (18, .istore_n 3, 1), (19, .iconst 0, 1), (20, .istore 4, 2), (22, .iload 4, 2), (24, .bipush 10, 2), (26, .if_icmp .ge 35, 3), (29, .aload_n 0, 1), (30, .getfield 7, 3), (33, .iload_n 1, 1), (34, .iload 4, 2), (36, .iastore, 1), (37, .iload_n 3, 1), (38, .aload_n 0, 1), (39, .invokevirtual 226, 3), (42, .ifCond .eq 10, 3), (45, .iconst 1, 1), (46, .iload 4, 2), (48, .ishl, 1), (49, .goto 4, 3), (52, .iconst 0, 1), (53, .ior, 1), (54, .istore_n 3, 1), (55, .iinc 4 1, 3), (58, .goto (-36), 3), (61, .aload_n 0, 1), (62, .getfield 7, 3), (65, .iload_n 1, 1), (66, .iload_n 2, 1), (67, .iastore, 1), (68, .iload_n 3, 1), (69, .ireturn, 1)]
set_option maxRecDepth 100000 in
theorem dX7_strengths : dOk cX7_strengths tbX7_strengths = true := by decide +kernel
def tbX7_odds : dT := [(0, .aload_n 0, 1), (1, .iload_n 1, 1), (2, .iload_n 2, 1), (3, .invokevirtual 184, 3), (6, .ifCond .ne 20, 3), (9, .aload_n 0, 1), (10, .iload_n 3, 1), (11, .invokevirtual 165, 3), (14, .ifCond .ne 12, 3), (17, .aload_n 0, 1), (18, .iload 4, 2), (20, .invokevirtual 165, 3), (23, .ifCond .eq 7, 3), (26, .invokestatic 62, 3), (29, .lreturn, 1), (30, .iload 5, 2), (32, .i2l, 1), (33, .lconst 0, 1), (34, .iconst 1, 1), (35, .aload_n 0, 1), (36, .invokevirtual 72, 3), (39, .ishl, 1), (40, .i2l, 1), (41, .lconst 1, 1), (42, .lsub, 1), (43, .invokestatic 76, 3), (46, .ifCond .eq 24, 3), (49, .iload 5, 2), (51, .invokestatic 230, 3), (54, .bipush 8, 2), (56, .if_icmp .gt 14, 3), (59, .iload 6, 2), (61, .i2l, 1), (62, .lconst 0, 1), (63, .lconst 1, 1), (64, .invokestatic 76, 3), (67, .ifCond .ne 7, 3), (70, .invokestatic 62, 3), (73, .lreturn, 1), (74, .lconst 0, 1), (75, .lstore 7, 2), (77, .iload 5, 2), (79, .istore 9, 2), (81, .iconst 1, 1), (82, .istore 10, 2), (84, .iload 10, 2), (86, .ifCond .eq 55, 3), (89, .aload_n 0, 1), (90, .iload 9, 2), (92, .putfield 150, 3), (95, .lload 7, 2), (97, .aload_n 0, 1), (98, .iload_n 1, 1), (99, .iload_n 2, 1), (100, .iload_n 3, 1), (101, .iload 4, 2), (103, .invokevirtual 222, 3), (106, .ifCond .eq 7, 3), (109, .lconst 1, 1), (110, .goto 4, 3), (113, .lconst 0, 1), (114, .ladd, 1), (115, .lstore 7, 2), (117, .iload 9, 2), (119, .ifCond .eq 7, 3), (122, .iconst 1, 1), (123, .goto 4, 3), (126, .iconst 0, 1), (127, .istore 10, 2), (129, .iload 9, 2), (131, .iconst 1, 1), (132, .isub, 1), (133, .iload 5, 2), (135, .iand, 1), (136, .istore 9, 2), (138, .goto (-54), 3), (141, .aload_n 0, 1), (142, .iconst 0, 1), (143, .putfield 150, 3), (146, .lload 7, 2), (148, .lconst 1, 1), (149, .iload 5, 2), (151, .invokestatic 230, 3), (154, .lshl, 1), (155, .iload 6, 2), (157, .invokestatic 233, 3), (160, .lreturn, 1)]
set_option maxRecDepth 100000 in
theorem dX7_odds : dOk cX7_odds tbX7_odds = true := by decide +kernel
def tbX7_noSheet : dT := [(0, .iload_n 0, 1), (1, .i2l, 1), (2, .lconst 0, 1), (3, .ldc2_w 182, 3), (6, .invokestatic 76, 3), (9, .ifCond .ne 7, 3), (12, .iconst 1, 1), (13, .goto 4, 3), (16, .iconst 0, 1), (17, .ireturn, 1)]
set_option maxRecDepth 100000 in
theorem dX7_noSheet : dOk cX7_noSheet tbX7_noSheet = true := by decide +kernel
def tbX7_sheet : dT := [(0, .iload_n 1, 1), (1, .invokestatic 126, 3), (4, .ifCond .eq 9, 3), (7, .aload_n 0, 1), (8, .iconst (-1), 1), (9, .invokevirtual 129, 3), (12, .ireturn, 1), (13, .iload_n 2, 1), (14, .i2l, 1), (15, .lconst 0, 1), (16, .ldc2_w 132, 3), (19, .invokestatic 76, 3), (22, .ifCond .eq 9, 3), (25, .iload_n 3, 1), (26, .bipush 60, 2), (28, .if_icmp .le 10, 3), (31, .aload_n 0, 1), (32, .bipush (-2), 2), (34, .invokevirtual 129, 3), (37, .ireturn, 1), (38, .iload_n 3, 1), (39, .ifCond .ge 9, 3), (42, .aload_n 0, 1), (43, .iconst 4, 1), (44, .invokevirtual 118, 3), (47, .ireturn, 1), (48, .aload_n 0, 1), (49, .getfield 44, 3), (52, .iload_n 1, 1), (53, .iload_n 3, 1), (54, .iastore, 1), (55, .aload_n 0, 1), (56, .getfield 47, 3), (59, .iload_n 1, 1), (60, .iload_n 2, 1), (61, .iastore, 1), (62, .iconst 0, 1), (63, .istore 4, 2), (65, .iload 4, 2), (67, .iload_n 3, 1), (68, .if_icmp .ge 22, 3), (71, .aload_n 0, 1), (72, .getfield 50, 3), (75, .bipush 60, 2), (77, .iload_n 1, 1), (78, .imul, 1), (79, .iload 4, 2), (81, .iadd, 1), (82, .iconst 0, 1), (83, .iastore, 1), (84, .iinc 4 1, 3), (87, .goto (-22), 3), (90, .aload_n 0, 1), (91, .iconst 1, 1), (92, .invokevirtual 129, 3), (95, .ireturn, 1)]
set_option maxRecDepth 100000 in
theorem dX7_sheet : dOk cX7_sheet tbX7_sheet = true := by decide +kernel
def tbX7_lose : dT := [(0, .iload_n 1, 1), (1, .invokestatic 126, 3), (4, .ifCond .eq 5, 3), (7, .iconst (-1), 1), (8, .ireturn, 1), (9, .aload_n 0, 1), (10, .getfield 44, 3), (13, .iload_n 1, 1), (14, .iaload, 1), (15, .ifCond .ge 7, 3), (18, .iconst 0, 1), (19, .goto 4, 3), (22, .iconst 1, 1), (23, .istore_n 2, 1), (24, .aload_n 0, 1), (25, .getfield 44, 3), (28, .iload_n 1, 1), (29, .iconst (-1), 1), (30, .iastore, 1), (31, .iload_n 2, 1), (32, .ireturn, 1)]
set_option maxRecDepth 100000 in
theorem dX7_lose : dOk cX7_lose tbX7_lose = true := by decide +kernel
def tbX7_noCell : dT := [(0, .aload_n 0, 1), (1, .getfield 44, 3), (4, .iload_n 1, 1), (5, .iaload, 1), (6, .ifCond .ge 7, 3), (9, .iconst 1, 1), (10, .goto 26, 3), (13, .iload_n 2, 1), (14, .i2l, 1), (15, .lconst 0, 1), (16, .aload_n 0, 1), (17, .getfield 44, 3), (20, .iload_n 1, 1), (21, .iaload, 1), (22, .i2l, 1), (23, .lconst 1, 1), (24, .lsub, 1), (25, .invokestatic 76, 3), (28, .ifCond .eq 7, 3), (31, .iconst 0, 1), (32, .goto 4, 3), (35, .iconst 3, 1), (36, .ireturn, 1)]
set_option maxRecDepth 100000 in
theorem dX7_noCell : dOk cX7_noCell tbX7_noCell = true := by decide +kernel
def tbX7_put : dT := [(0, .iload_n 1, 1), (1, .invokestatic 126, 3), (4, .ifCond .eq 9, 3), (7, .aload_n 0, 1), (8, .iconst (-1), 1), (9, .invokevirtual 129, 3), (12, .ireturn, 1), (13, .aload_n 0, 1), (14, .iload_n 1, 1), (15, .iload_n 2, 1), (16, .invokevirtual 237, 3), (19, .ifCond .le 14, 3), (22, .aload_n 0, 1), (23, .aload_n 0, 1), (24, .iload_n 1, 1), (25, .iload_n 2, 1), (26, .invokevirtual 237, 3), (29, .invokevirtual 118, 3), (32, .ireturn, 1), (33, .aload_n 0, 1), (34, .getfield 50, 3), (37, .bipush 60, 2), (39, .iload_n 1, 1), (40, .imul, 1), (41, .iload_n 2, 1), (42, .iadd, 1), (43, .aload_n 0, 1), (44, .getfield 47, 3), (47, .iload_n 1, 1), (48, .iaload, 1), (49, .ifCond .ne 8, 3), (52, .iload_n 3, 1), (53, .i2b, 1), (54, .goto 19, 3), (57, .aload_n 0, 1), (58, .getfield 47, 3), (61, .iload_n 1, 1), (62, .iaload, 1), (63, .iconst 1, 1), (64, .if_icmp .ne 8, 3), (67, .iload_n 3, 1), (68, .i2s, 1), (69, .goto 4, 3), (72, .iload_n 3, 1), (73, .iastore, 1), (74, .aload_n 0, 1), (75, .iconst 1, 1), (76, .invokevirtual 129, 3), (79, .ireturn, 1)]
set_option maxRecDepth 100000 in
theorem dX7_put : dOk cX7_put tbX7_put = true := by decide +kernel
def tbX7_cell : dT := [(0, .aload_n 0, 1), (1, .iconst 0, 1), (2, .putfield 58, 3), (5, .iload_n 1, 1), (6, .invokestatic 126, 3), (9, .ifCond .ne 15, 3), (12, .iload_n 3, 1), (13, .i2l, 1), (14, .lconst 0, 1), (15, .ldc2_w 132, 3), (18, .invokestatic 76, 3), (21, .ifCond .ne 7, 3), (24, .invokestatic 62, 3), (27, .lreturn, 1), (28, .aload_n 0, 1), (29, .getfield 44, 3), (32, .iload_n 1, 1), (33, .iaload, 1), (34, .ifCond .lt 19, 3), (37, .aload_n 0, 1), (38, .getfield 47, 3), (41, .iload_n 1, 1), (42, .iaload, 1), (43, .iload_n 3, 1), (44, .if_icmp .eq 9, 3), (47, .aload_n 0, 1), (48, .iconst 2, 1), (49, .invokevirtual 240, 3), (52, .lreturn, 1), (53, .aload_n 0, 1), (54, .iload_n 1, 1), (55, .iload_n 2, 1), (56, .invokevirtual 237, 3), (59, .ifCond .le 16, 3), (62, .aload_n 0, 1), (63, .aload_n 0, 1), (64, .iload_n 1, 1), (65, .iload_n 2, 1), (66, .invokevirtual 237, 3), (69, .invokevirtual 240, 3), (72, .goto 15, 3), (75, .aload_n 0, 1), (76, .getfield 50, 3), (79, .bipush 60, 2), (81, .iload_n 1, 1), (82, .imul, 1), (83, .iload_n 2, 1), (84, .iadd, 1), (85, .iaload, 1), (86, .i2l, 1), (87, .lreturn, 1)]
set_option maxRecDepth 100000 in
theorem dX7_cell : dOk cX7_cell tbX7_cell = true := by decide +kernel
def tbX7_isBeyond : dT := [(0, .iload_n 0, 1), (1, .ifCond .lt 19, 3), (4, .lload_n 1, 1), (5, .lconst 0, 1), (6, .lcmp, 1), (7, .ifCond .lt 13, 3), (10, .iload_n 0, 1), (11, .i2l, 1), (12, .lload_n 1, 1), (13, .ladd, 1), (14, .iload_n 3, 1), (15, .i2l, 1), (16, .lcmp, 1), (17, .ifCond .le 7, 3), (20, .iconst 1, 1), (21, .goto 4, 3), (24, .iconst 0, 1), (25, .ireturn, 1)]
set_option maxRecDepth 100000 in
theorem dX7_isBeyond : dOk cX7_isBeyond tbX7_isBeyond = true := by decide +kernel
def tbX7_copy : dT := [(0, .iload_n 1, 1), (1, .invokestatic 126, 3), (4, .ifCond .ne 10, 3), (7, .iload_n 3, 1), (8, .invokestatic 126, 3), (11, .ifCond .eq 9, 3), (14, .aload_n 0, 1), (15, .iconst (-1), 1), (16, .invokevirtual 129, 3), (19, .ireturn, 1), (20, .aload_n 0, 1), (21, .getfield 44, 3), (24, .iload_n 1, 1), (25, .iaload, 1), (26, .ifCond .lt 12, 3), (29, .aload_n 0, 1), (30, .getfield 44, 3), (33, .iload_n 3, 1), (34, .iaload, 1), (35, .ifCond .ge 9, 3), (38, .aload_n 0, 1), (39, .iconst 1, 1), (40, .invokevirtual 118, 3), (43, .ireturn, 1), (44, .aload_n 0, 1), (45, .getfield 47, 3), (48, .iload_n 1, 1), (49, .iaload, 1), (50, .aload_n 0, 1), (51, .getfield 47, 3), (54, .iload_n 3, 1), (55, .iaload, 1), (56, .if_icmp .eq 9, 3), (59, .aload_n 0, 1), (60, .iconst 2, 1), (61, .invokevirtual 118, 3), (64, .ireturn, 1), (65, .iload_n 2, 1), (66, .iload 5, 2), (68, .i2l, 1), (69, .aload_n 0, 1), (70, .getfield 44, 3), (73, .iload_n 1, 1), (74, .iaload, 1), (75, .invokestatic 122, 3), (78, .ifCond .ne 20, 3), (81, .iload 4, 2), (83, .iload 5, 2), (85, .i2l, 1), (86, .aload_n 0, 1), (87, .getfield 44, 3), (90, .iload_n 3, 1), (91, .iaload, 1), (92, .invokestatic 122, 3), (95, .ifCond .eq 9, 3), (98, .aload_n 0, 1), (99, .iconst 3, 1), (100, .invokevirtual 118, 3), (103, .ireturn, 1), (104, .iconst 0, 1), (105, .istore 6, 2), (107, .iload 6, 2), (109, .iload 5, 2), (111, .if_icmp .ge 30, 3), (114, .aload_n 0, 1), (115, .getfield 53, 3), (118, .iload 6, 2), (120, .aload_n 0, 1), (121, .getfield 50, 3), (124, .bipush 60, 2), (126, .iload_n 1, 1), (127, .imul, 1), (128, .iload_n 2, 1), (129, .iadd, 1), (130, .iload 6, 2), (132, .iadd, 1), (133, .iaload, 1), (134, .iastore, 1), (135, .iinc 6 1, 3), (138, .goto (-31), 3), (141, .iconst 0, 1), (142, .istore 6, 2), (144, .iload 6, 2), (146, .iload 5, 2), (148, .if_icmp .ge 31, 3), (151, .aload_n 0, 1), (152, .getfield 50, 3), (155, .bipush 60, 2), (157, .iload_n 3, 1), (158, .imul, 1), (159, .iload 4, 2), (161, .iadd, 1), (162, .iload 6, 2), (164, .iadd, 1), (165, .aload_n 0, 1), (166, .getfield 53, 3), (169, .iload 6, 2), (171, .iaload, 1), (172, .iastore, 1), (173, .iinc 6 1, 3), (176, .goto (-32), 3), (179, .aload_n 0, 1), (180, .iload 5, 2), (182, .invokevirtual 129, 3), (185, .ireturn, 1)]
set_option maxRecDepth 100000 in
theorem dX7_copy : dOk cX7_copy tbX7_copy = true := by decide +kernel
def tbX7_traced : dT := [(0, .aload_n 0, 1), (1, .bipush 31, 2), (3, .aload_n 0, 1), (4, .getfield 244, 3), (7, .imul, 1), (8, .iload_n 1, 1), (9, .iadd, 1), (10, .putfield 244, 3), (13, .return_, 1)]
set_option maxRecDepth 100000 in
theorem dX7_traced : dOk cX7_traced tbX7_traced = true := by decide +kernel
def tbX7_tell : dT := [(0, .aload_n 0, 1), (1, .iload_n 1, 1), (2, .invokevirtual 83, 3), (5, .ifCond .eq 5, 3), (8, .iconst (-1), 1), (9, .ireturn, 1), (10, .aload_n 0, 1), (11, .getfield 13, 3), (14, .iload_n 1, 1), (15, .iaload, 1), (16, .istore_n 2, 1), (17, .iload_n 2, 1), (18, .iconst 2, 1), (19, .if_icmp .ne 8, 3), (22, .aload_n 0, 1), (23, .iconst 3, 1), (24, .invokevirtual 247, 3), (27, .iload_n 2, 1), (28, .ifCond .le 8, 3), (31, .aload_n 0, 1), (32, .iconst 2, 1), (33, .invokevirtual 247, 3), (36, .aload_n 0, 1), (37, .iconst 1, 1), (38, .invokevirtual 247, 3), (41, .iload_n 2, 1), (42, .iconst 2, 1), (43, .if_icmp .ne 8, 3), (46, .aload_n 0, 1), (47, .iconst 1, 1), (48, .invokevirtual 247, 3), (51, .aload_n 0, 1), (52, .getfield 16, 3), (55, .iload_n 1, 1), (56, .iaload, 1), (57, .istore_n 3, 1), (58, .iload_n 2, 1), (59, .ifCond .ne 7, 3), (62, .iload_n 3, 1), (63, .goto 21, 3), (66, .iload_n 2, 1), (67, .iconst 1, 1), (68, .if_icmp .ne 10, 3), (71, .iload_n 3, 1), (72, .bipush 100, 2), (74, .iadd, 1), (75, .goto 9, 3), (78, .iconst 2, 1), (79, .iload_n 3, 1), (80, .imul, 1), (81, .bipush 100, 2), (83, .iadd, 1), (84, .ireturn, 1)]
set_option maxRecDepth 100000 in
theorem dX7_tell : dOk cX7_tell tbX7_tell = true := by decide +kernel
def tbX7_signed : dT := [(0, .aload_n 0, 1), (1, .iload_n 1, 1), (2, .invokevirtual 83, 3), (5, .ifCond .eq 5, 3), (8, .iconst (-1), 1), (9, .ireturn, 1), (10, .aload_n 0, 1), (11, .aload_n 0, 1), (12, .getfield 13, 3), (15, .iload_n 1, 1), (16, .iaload, 1), (17, .iconst 2, 1), (18, .if_icmp .ne 7, 3), (21, .iconst 5, 1), (22, .goto 4, 3), (25, .iconst 4, 1), (26, .invokevirtual 247, 3), (29, .aload_n 0, 1), (30, .getfield 13, 3), (33, .iload_n 1, 1), (34, .iaload, 1), (35, .iconst 2, 1), (36, .if_icmp .ne 8, 3), (39, .bipush 60, 2), (41, .goto 4, 3), (44, .iload_n 1, 1), (45, .ireturn, 1)]
set_option maxRecDepth 100000 in
theorem dX7_signed : dOk cX7_signed tbX7_signed = true := by decide +kernel
def tbX7_as : dT := [(0, .aload_n 0, 1), (1, .iload_n 1, 1), (2, .invokevirtual 83, 3), (5, .ifCond .eq 9, 3), (8, .aload_n 0, 1), (9, .iconst (-1), 1), (10, .invokevirtual 129, 3), (13, .ireturn, 1), (14, .iload_n 2, 1), (15, .i2l, 1), (16, .lconst 0, 1), (17, .ldc2_w 132, 3), (20, .invokestatic 76, 3), (23, .ifCond .ne 10, 3), (26, .aload_n 0, 1), (27, .bipush (-2), 2), (29, .invokevirtual 129, 3), (32, .ireturn, 1), (33, .aload_n 0, 1), (34, .getfield 13, 3), (37, .iload_n 1, 1), (38, .iaload, 1), (39, .iload_n 2, 1), (40, .if_icmp .lt 11, 3), (43, .aload_n 0, 1), (44, .iconst 1, 1), (45, .invokevirtual 129, 3), (48, .goto 8, 3), (51, .aload_n 0, 1), (52, .iconst 2, 1), (53, .invokevirtual 118, 3), (56, .ireturn, 1)]
set_option maxRecDepth 100000 in
theorem dX7_as : dOk cX7_as tbX7_as = true := by decide +kernel
def tbX7_trace : dT := [(0, .aload_n 0, 1), (1, .getfield 244, 3), (4, .ireturn, 1)]
set_option maxRecDepth 100000 in
theorem dX7_trace : dOk cX7_trace tbX7_trace = true := by decide +kernel
def tbX7_fault : dT := [(0, .aload_n 0, 1), (1, .getfield 58, 3), (4, .ireturn, 1)]
set_option maxRecDepth 100000 in
theorem dX7_fault : dOk cX7_fault tbX7_fault = true := by decide +kernel
def tbX7_many : dT := [(0, .iload_n 1, 1), (1, .tableswitch 60 0 4 #[35, 40, 45, 50, 55], 35), (36, .aload_n 0, 1), (37, .getfield 80, 3), (40, .ireturn, 1), (41, .aload_n 0, 1), (42, .invokevirtual 72, 3), (45, .ireturn, 1), (46, .aload_n 0, 1), (47, .getfield 69, 3), (50, .ireturn, 1), (51, .aload_n 0, 1), (52, .getfield 141, 3), (55, .ireturn, 1), (56, .aload_n 0, 1), (57, .getfield 144, 3), (60, .ireturn, 1), (61, .bipush (-2), 2), (63, .ireturn, 1)]
set_option maxRecDepth 100000 in
theorem dX7_many : dOk cX7_many tbX7_many = true := by decide +kernel
def tbJ6_bitCount_0f7a4 : dT := [(0, .iload_n 0, 1), (1, .iload_n 0, 1), (2, .iconst 1, 1), (3, .iushr, 1), (4, .ldc_w 265, 3), (7, .iand, 1), (8, .isub, 1), (9, .istore_n 0, 1), (10, .iload_n 0, 1), (11, .ldc_w 266, 3), (14, .iand, 1), (15, .iload_n 0, 1), (16, .iconst 2, 1), (17, .iushr, 1), (18, .ldc_w 266, 3), (21, .iand, 1), (22, .iadd, 1), (23, .istore_n 0, 1), (24, .iload_n 0, 1), (25, .iload_n 0, 1), (26, .iconst 4, 1), (27, .iushr, 1), (28, .iadd, 1), (29, .ldc_w 267, 3), (32, .iand, 1), (33, .istore_n 0, 1), (34, .iload_n 0, 1), (35, .iload_n 0, 1), (36, .bipush 8, 2), (38, .iushr, 1), (39, .iadd, 1), (40, .istore_n 0, 1), (41, .iload_n 0, 1), (42, .iload_n 0, 1), (43, .bipush 16, 2), (45, .iushr, 1), (46, .iadd, 1), (47, .istore_n 0, 1), (48, .iload_n 0, 1), (49, .bipush 63, 2), (51, .iand, 1), (52, .ireturn, 1)]
set_option maxRecDepth 100000 in
theorem dJ6_bitCount_0f7a4 : dOk cJ6_bitCount_0f7a4 tbJ6_bitCount_0f7a4 = true := by decide +kernel
def tbJ9_max_7cf53 : dT := [(0, .iload_n 0, 1), (1, .iload_n 1, 1), (2, .if_icmp .lt 7, 3), (5, .iload_n 0, 1), (6, .goto 4, 3), (9, .iload_n 1, 1), (10, .ireturn, 1)]
set_option maxRecDepth 100000 in
theorem dJ9_max_7cf53 : dOk cJ9_max_7cf53 tbJ9_max_7cf53 = true := by decide +kernel
def tbJ9_min_7cf53 : dT := [(0, .iload_n 0, 1), (1, .iload_n 1, 1), (2, .if_icmp .gt 7, 3), (5, .iload_n 0, 1), (6, .goto 4, 3), (9, .iload_n 1, 1), (10, .ireturn, 1)]
set_option maxRecDepth 100000 in
theorem dJ9_min_7cf53 : dOk cJ9_min_7cf53 tbJ9_min_7cf53 = true := by decide +kernel
def tbJ7_fill_53178 : dT := [(0, .iconst 0, 1), (1, .istore_n 2, 1), (2, .aload_n 0, 1), (3, .arraylength, 1), (4, .istore_n 3, 1), (5, .iload_n 2, 1), (6, .iload_n 3, 1), (7, .if_icmp .ge 13, 3), (10, .aload_n 0, 1), (11, .iload_n 2, 1), (12, .iload_n 1, 1), (13, .iastore, 1), (14, .iinc 2 1, 3), (17, .goto (-12), 3), (20, .return_, 1)]
set_option maxRecDepth 100000 in
theorem dJ7_fill_53178 : dOk cJ7_fill_53178 tbJ7_fill_53178 = true := by decide +kernel
def tbL_law_0 : dT := [(0, .new 7, 3), (3, .dup, 1), (4, .invokespecial 9, 3), (7, .astore_n 1, 1), (8, .new 10, 3), (11, .dup, 1), (12, .invokespecial 12, 3), (15, .astore_n 2, 1), (16, .iconst 0, 1), (17, .istore_n 3, 1), (18, .iload_n 3, 1), (19, .aload_n 0, 1), (20, .arraylength, 1), (21, .bipush 9, 2), (23, .isub, 1), (24, .if_icmp .gt 1320, 3), (27, .aload_n 0, 1), (28, .iload_n 3, 1), (29, .iaload, 1), (30, .bipush 31, 2), (32, .iand, 1), (33, .tableswitch 1305 0 29 #[135, 188, 221, 244, 277, 300, 399, 486, 509, 532, 595, 648, 681, 734, 793, 816, 839, 862, 885, 961, 1004, 1027, 1070, 1114, 1177, 1200, 1223, 1256, 1269, 1282], 135), (168, .aload_n 1, 1), (169, .aload_n 0, 1), (170, .iload_n 3, 1), (171, .iconst 1, 1), (172, .iadd, 1), (173, .iaload, 1), (174, .aload_n 0, 1), (175, .iload_n 3, 1), (176, .iconst 2, 1), (177, .iadd, 1), (178, .iaload, 1), (179, .aload_n 0, 1), (180, .iload_n 3, 1), (181, .iconst 3, 1), (182, .iadd, 1), (183, .iaload, 1), (184, .aload_n 0, 1), (185, .iload_n 3, 1), (186, .iconst 4, 1), (187, .iadd, 1), (188, .iaload, 1), (189, .invokevirtual 13, 3), (192, .aload_n 2, 1), (193, .aload_n 0, 1), (194, .iload_n 3, 1), (195, .iconst 1, 1), (196, .iadd, 1), (197, .iaload, 1), (198, .aload_n 0, 1), (199, .iload_n 3, 1), (200, .iconst 2, 1), (201, .iadd, 1), (202, .iaload, 1), (203, .aload_n 0, 1), (204, .iload_n 3, 1), (205, .iconst 3, 1), (206, .iadd, 1), (207, .iaload, 1), (208, .aload_n 0, 1), (209, .iload_n 3, 1), (210, .iconst 4, 1), (211, .iadd, 1), (212, .iaload, 1), (213, .invokevirtual 17, 3), (216, .if_icmp .eq 1122, 3), (219, .iconst 0, 1), (220, .ireturn, 1), (221, .aload_n 1, 1), (222, .aload_n 0, 1), (223, .iload_n 3, 1), (224, .iconst 1, 1), (225, .iadd, 1), (226, .iaload, 1), (227, .aload_n 0, 1), (228, .iload_n 3, 1), (229, .iconst 2, 1), (230, .iadd, 1), (231, .iaload, 1), (232, .invokevirtual 18, 3), (235, .aload_n 2, 1), (236, .aload_n 0, 1), (237, .iload_n 3, 1), (238, .iconst 1, 1), (239, .iadd, 1), (240, .iaload, 1), (241, .aload_n 0, 1), (242, .iload_n 3, 1), (243, .iconst 2, 1), (244, .iadd, 1), (245, .iaload, 1), (246, .invokevirtual 22, 3), (249, .if_icmp .eq 1089, 3), (252, .iconst 0, 1), (253, .ireturn, 1), (254, .aload_n 1, 1), (255, .aload_n 0, 1), (256, .iload_n 3, 1), (257, .iconst 1, 1), (258, .iadd, 1), (259, .iaload, 1), (260, .invokevirtual 23, 3), (263, .aload_n 2, 1), (264, .aload_n 0, 1), (265, .iload_n 3, 1), (266, .iconst 1, 1), (267, .iadd, 1), (268, .iaload, 1), (269, .invokevirtual 27, 3), (272, .if_icmp .eq 1066, 3), (275, .iconst 0, 1), (276, .ireturn, 1), (277, .aload_n 1, 1), (278, .aload_n 0, 1), (279, .iload_n 3, 1), (280, .iconst 1, 1), (281, .iadd, 1), (282, .iaload, 1), (283, .aload_n 0, 1)]
set_option maxRecDepth 100000 in
theorem dL_law_0 : dOk cL_law tbL_law_0 = true := by decide +kernel
def tbL_law_1 : dT := [(284, .iload_n 3, 1), (285, .iconst 2, 1), (286, .iadd, 1), (287, .iaload, 1), (288, .invokevirtual 28, 3), (291, .aload_n 2, 1), (292, .aload_n 0, 1), (293, .iload_n 3, 1), (294, .iconst 1, 1), (295, .iadd, 1), (296, .iaload, 1), (297, .aload_n 0, 1), (298, .iload_n 3, 1), (299, .iconst 2, 1), (300, .iadd, 1), (301, .iaload, 1), (302, .invokevirtual 31, 3), (305, .if_icmp .eq 1033, 3), (308, .iconst 0, 1), (309, .ireturn, 1), (310, .aload_n 1, 1), (311, .aload_n 0, 1), (312, .iload_n 3, 1), (313, .iconst 1, 1), (314, .iadd, 1), (315, .iaload, 1), (316, .invokevirtual 32, 3), (319, .aload_n 2, 1), (320, .aload_n 0, 1), (321, .iload_n 3, 1), (322, .iconst 1, 1), (323, .iadd, 1), (324, .iaload, 1), (325, .invokevirtual 35, 3), (328, .if_icmp .eq 1010, 3), (331, .iconst 0, 1), (332, .ireturn, 1), (333, .aload_n 1, 1), (334, .aload_n 0, 1), (335, .iload_n 3, 1), (336, .iconst 1, 1), (337, .iadd, 1), (338, .iaload, 1), (339, .aload_n 0, 1), (340, .iload_n 3, 1), (341, .iconst 2, 1), (342, .iadd, 1), (343, .iaload, 1), (344, .aload_n 0, 1), (345, .iload_n 3, 1), (346, .iconst 3, 1), (347, .iadd, 1), (348, .iaload, 1), (349, .aload_n 0, 1), (350, .iload_n 3, 1), (351, .iconst 4, 1), (352, .iadd, 1), (353, .iaload, 1), (354, .aload_n 0, 1), (355, .iload_n 3, 1), (356, .iconst 5, 1), (357, .iadd, 1), (358, .iaload, 1), (359, .aload_n 0, 1), (360, .iload_n 3, 1), (361, .bipush 6, 2), (363, .iadd, 1), (364, .iaload, 1), (365, .aload_n 0, 1), (366, .iload_n 3, 1), (367, .bipush 7, 2), (369, .iadd, 1), (370, .iaload, 1), (371, .aload_n 0, 1), (372, .iload_n 3, 1), (373, .bipush 8, 2), (375, .iadd, 1), (376, .iaload, 1), (377, .invokevirtual 36, 3), (380, .aload_n 2, 1), (381, .aload_n 0, 1), (382, .iload_n 3, 1), (383, .iconst 1, 1), (384, .iadd, 1), (385, .iaload, 1), (386, .aload_n 0, 1), (387, .iload_n 3, 1), (388, .iconst 2, 1), (389, .iadd, 1), (390, .iaload, 1), (391, .aload_n 0, 1), (392, .iload_n 3, 1), (393, .iconst 3, 1), (394, .iadd, 1), (395, .iaload, 1), (396, .aload_n 0, 1), (397, .iload_n 3, 1), (398, .iconst 4, 1), (399, .iadd, 1), (400, .iaload, 1), (401, .aload_n 0, 1), (402, .iload_n 3, 1), (403, .iconst 5, 1), (404, .iadd, 1), (405, .iaload, 1), (406, .aload_n 0, 1), (407, .iload_n 3, 1), (408, .bipush 6, 2), (410, .iadd, 1), (411, .iaload, 1), (412, .aload_n 0, 1), (413, .iload_n 3, 1), (414, .bipush 7, 2), (416, .iadd, 1), (417, .iaload, 1), (418, .aload_n 0, 1), (419, .iload_n 3, 1), (420, .bipush 8, 2), (422, .iadd, 1), (423, .iaload, 1)]
set_option maxRecDepth 100000 in
theorem dL_law_1 : dOk cL_law tbL_law_1 = true := by decide +kernel
def tbL_law_2 : dT := [(424, .invokevirtual 40, 3), (427, .if_icmp .eq 911, 3), (430, .iconst 0, 1), (431, .ireturn, 1), (432, .aload_n 1, 1), (433, .aload_n 0, 1), (434, .iload_n 3, 1), (435, .iconst 1, 1), (436, .iadd, 1), (437, .iaload, 1), (438, .aload_n 0, 1), (439, .iload_n 3, 1), (440, .iconst 2, 1), (441, .iadd, 1), (442, .iaload, 1), (443, .aload_n 0, 1), (444, .iload_n 3, 1), (445, .iconst 3, 1), (446, .iadd, 1), (447, .iaload, 1), (448, .aload_n 0, 1), (449, .iload_n 3, 1), (450, .iconst 4, 1), (451, .iadd, 1), (452, .iaload, 1), (453, .aload_n 0, 1), (454, .iload_n 3, 1), (455, .iconst 5, 1), (456, .iadd, 1), (457, .iaload, 1), (458, .aload_n 0, 1), (459, .iload_n 3, 1), (460, .bipush 6, 2), (462, .iadd, 1), (463, .iaload, 1), (464, .aload_n 0, 1), (465, .iload_n 3, 1), (466, .bipush 7, 2), (468, .iadd, 1), (469, .iaload, 1), (470, .invokevirtual 41, 3), (473, .aload_n 2, 1), (474, .aload_n 0, 1), (475, .iload_n 3, 1), (476, .iconst 1, 1), (477, .iadd, 1), (478, .iaload, 1), (479, .aload_n 0, 1), (480, .iload_n 3, 1), (481, .iconst 2, 1), (482, .iadd, 1), (483, .iaload, 1), (484, .aload_n 0, 1), (485, .iload_n 3, 1), (486, .iconst 3, 1), (487, .iadd, 1), (488, .iaload, 1), (489, .aload_n 0, 1), (490, .iload_n 3, 1), (491, .iconst 4, 1), (492, .iadd, 1), (493, .iaload, 1), (494, .aload_n 0, 1), (495, .iload_n 3, 1), (496, .iconst 5, 1), (497, .iadd, 1), (498, .iaload, 1), (499, .aload_n 0, 1), (500, .iload_n 3, 1), (501, .bipush 6, 2), (503, .iadd, 1), (504, .iaload, 1), (505, .aload_n 0, 1), (506, .iload_n 3, 1), (507, .bipush 7, 2), (509, .iadd, 1), (510, .iaload, 1), (511, .invokevirtual 45, 3), (514, .if_icmp .eq 824, 3), (517, .iconst 0, 1), (518, .ireturn, 1), (519, .aload_n 1, 1), (520, .aload_n 0, 1), (521, .iload_n 3, 1), (522, .iconst 1, 1), (523, .iadd, 1), (524, .iaload, 1), (525, .invokevirtual 46, 3), (528, .aload_n 2, 1), (529, .aload_n 0, 1), (530, .iload_n 3, 1), (531, .iconst 1, 1), (532, .iadd, 1), (533, .iaload, 1), (534, .invokevirtual 49, 3), (537, .if_icmp .eq 801, 3), (540, .iconst 0, 1), (541, .ireturn, 1), (542, .aload_n 1, 1), (543, .aload_n 0, 1), (544, .iload_n 3, 1), (545, .iconst 1, 1), (546, .iadd, 1), (547, .iaload, 1), (548, .invokevirtual 50, 3), (551, .aload_n 2, 1), (552, .aload_n 0, 1), (553, .iload_n 3, 1), (554, .iconst 1, 1), (555, .iadd, 1), (556, .iaload, 1), (557, .invokevirtual 53, 3), (560, .if_icmp .eq 778, 3), (563, .iconst 0, 1), (564, .ireturn, 1), (565, .aload_n 1, 1), (566, .aload_n 0, 1), (567, .iload_n 3, 1), (568, .iconst 1, 1), (569, .iadd, 1)]
set_option maxRecDepth 100000 in
theorem dL_law_2 : dOk cL_law tbL_law_2 = true := by decide +kernel
def tbL_law_3 : dT := [(570, .iaload, 1), (571, .aload_n 0, 1), (572, .iload_n 3, 1), (573, .iconst 2, 1), (574, .iadd, 1), (575, .iaload, 1), (576, .aload_n 0, 1), (577, .iload_n 3, 1), (578, .iconst 3, 1), (579, .iadd, 1), (580, .iaload, 1), (581, .aload_n 0, 1), (582, .iload_n 3, 1), (583, .iconst 4, 1), (584, .iadd, 1), (585, .iaload, 1), (586, .aload_n 0, 1), (587, .iload_n 3, 1), (588, .iconst 5, 1), (589, .iadd, 1), (590, .iaload, 1), (591, .invokevirtual 54, 3), (594, .aload_n 2, 1), (595, .aload_n 0, 1), (596, .iload_n 3, 1), (597, .iconst 1, 1), (598, .iadd, 1), (599, .iaload, 1), (600, .aload_n 0, 1), (601, .iload_n 3, 1), (602, .iconst 2, 1), (603, .iadd, 1), (604, .iaload, 1), (605, .aload_n 0, 1), (606, .iload_n 3, 1), (607, .iconst 3, 1), (608, .iadd, 1), (609, .iaload, 1), (610, .aload_n 0, 1), (611, .iload_n 3, 1), (612, .iconst 4, 1), (613, .iadd, 1), (614, .iaload, 1), (615, .aload_n 0, 1), (616, .iload_n 3, 1), (617, .iconst 5, 1), (618, .iadd, 1), (619, .iaload, 1), (620, .invokevirtual 58, 3), (623, .if_icmp .eq 715, 3), (626, .iconst 0, 1), (627, .ireturn, 1), (628, .aload_n 1, 1), (629, .aload_n 0, 1), (630, .iload_n 3, 1), (631, .iconst 1, 1), (632, .iadd, 1), (633, .iaload, 1), (634, .aload_n 0, 1), (635, .iload_n 3, 1), (636, .iconst 2, 1), (637, .iadd, 1), (638, .iaload, 1), (639, .aload_n 0, 1), (640, .iload_n 3, 1), (641, .iconst 3, 1), (642, .iadd, 1), (643, .iaload, 1), (644, .aload_n 0, 1), (645, .iload_n 3, 1), (646, .iconst 4, 1), (647, .iadd, 1), (648, .iaload, 1), (649, .invokevirtual 59, 3), (652, .aload_n 2, 1), (653, .aload_n 0, 1), (654, .iload_n 3, 1), (655, .iconst 1, 1), (656, .iadd, 1), (657, .iaload, 1), (658, .aload_n 0, 1), (659, .iload_n 3, 1), (660, .iconst 2, 1), (661, .iadd, 1), (662, .iaload, 1), (663, .aload_n 0, 1), (664, .iload_n 3, 1), (665, .iconst 3, 1), (666, .iadd, 1), (667, .iaload, 1), (668, .aload_n 0, 1), (669, .iload_n 3, 1), (670, .iconst 4, 1), (671, .iadd, 1), (672, .iaload, 1), (673, .invokevirtual 62, 3), (676, .if_icmp .eq 662, 3), (679, .iconst 0, 1), (680, .ireturn, 1), (681, .aload_n 1, 1), (682, .aload_n 0, 1), (683, .iload_n 3, 1), (684, .iconst 1, 1), (685, .iadd, 1), (686, .iaload, 1), (687, .aload_n 0, 1), (688, .iload_n 3, 1), (689, .iconst 2, 1), (690, .iadd, 1), (691, .iaload, 1), (692, .invokevirtual 63, 3), (695, .aload_n 2, 1), (696, .aload_n 0, 1), (697, .iload_n 3, 1), (698, .iconst 1, 1), (699, .iadd, 1), (700, .iaload, 1), (701, .aload_n 0, 1), (702, .iload_n 3, 1), (703, .iconst 2, 1)]
set_option maxRecDepth 100000 in
theorem dL_law_3 : dOk cL_law tbL_law_3 = true := by decide +kernel
def tbL_law_4 : dT := [(704, .iadd, 1), (705, .iaload, 1), (706, .invokevirtual 66, 3), (709, .if_icmp .eq 629, 3), (712, .iconst 0, 1), (713, .ireturn, 1), (714, .aload_n 1, 1), (715, .aload_n 0, 1), (716, .iload_n 3, 1), (717, .iconst 1, 1), (718, .iadd, 1), (719, .iaload, 1), (720, .aload_n 0, 1), (721, .iload_n 3, 1), (722, .iconst 2, 1), (723, .iadd, 1), (724, .iaload, 1), (725, .aload_n 0, 1), (726, .iload_n 3, 1), (727, .iconst 3, 1), (728, .iadd, 1), (729, .iaload, 1), (730, .aload_n 0, 1), (731, .iload_n 3, 1), (732, .iconst 4, 1), (733, .iadd, 1), (734, .iaload, 1), (735, .invokevirtual 67, 3), (738, .aload_n 2, 1), (739, .aload_n 0, 1), (740, .iload_n 3, 1), (741, .iconst 1, 1), (742, .iadd, 1), (743, .iaload, 1), (744, .aload_n 0, 1), (745, .iload_n 3, 1), (746, .iconst 2, 1), (747, .iadd, 1), (748, .iaload, 1), (749, .aload_n 0, 1), (750, .iload_n 3, 1), (751, .iconst 3, 1), (752, .iadd, 1), (753, .iaload, 1), (754, .aload_n 0, 1), (755, .iload_n 3, 1), (756, .iconst 4, 1), (757, .iadd, 1), (758, .iaload, 1), (759, .invokevirtual 70, 3), (762, .if_icmp .eq 576, 3), (765, .iconst 0, 1), (766, .ireturn, 1), (767, .aload_n 1, 1), (768, .aload_n 0, 1), (769, .iload_n 3, 1), (770, .iconst 1, 1), (771, .iadd, 1), (772, .iaload, 1), (773, .aload_n 0, 1), (774, .iload_n 3, 1), (775, .iconst 2, 1), (776, .iadd, 1), (777, .iaload, 1), (778, .aload_n 0, 1), (779, .iload_n 3, 1), (780, .iconst 3, 1), (781, .iadd, 1), (782, .iaload, 1), (783, .ifCond .eq 7, 3), (786, .iconst 1, 1), (787, .goto 4, 3), (790, .iconst 0, 1), (791, .invokevirtual 71, 3), (794, .aload_n 2, 1), (795, .aload_n 0, 1), (796, .iload_n 3, 1), (797, .iconst 1, 1), (798, .iadd, 1), (799, .iaload, 1), (800, .aload_n 0, 1), (801, .iload_n 3, 1), (802, .iconst 2, 1), (803, .iadd, 1), (804, .iaload, 1), (805, .aload_n 0, 1), (806, .iload_n 3, 1), (807, .iconst 3, 1), (808, .iadd, 1), (809, .iaload, 1), (810, .ifCond .eq 7, 3), (813, .iconst 1, 1), (814, .goto 4, 3), (817, .iconst 0, 1), (818, .invokevirtual 75, 3), (821, .if_icmp .eq 517, 3), (824, .iconst 0, 1), (825, .ireturn, 1), (826, .aload_n 1, 1), (827, .aload_n 0, 1), (828, .iload_n 3, 1), (829, .iconst 1, 1), (830, .iadd, 1), (831, .iaload, 1), (832, .invokevirtual 76, 3), (835, .aload_n 2, 1), (836, .aload_n 0, 1), (837, .iload_n 3, 1), (838, .iconst 1, 1), (839, .iadd, 1), (840, .iaload, 1), (841, .invokevirtual 79, 3), (844, .if_icmp .eq 494, 3), (847, .iconst 0, 1), (848, .ireturn, 1), (849, .aload_n 1, 1), (850, .aload_n 0, 1), (851, .iload_n 3, 1), (852, .iconst 1, 1), (853, .iadd, 1)]
set_option maxRecDepth 100000 in
theorem dL_law_4 : dOk cL_law tbL_law_4 = true := by decide +kernel
def tbL_law_5 : dT := [(854, .iaload, 1), (855, .invokevirtual 80, 3), (858, .aload_n 2, 1), (859, .aload_n 0, 1), (860, .iload_n 3, 1), (861, .iconst 1, 1), (862, .iadd, 1), (863, .iaload, 1), (864, .invokevirtual 83, 3), (867, .if_icmp .eq 471, 3), (870, .iconst 0, 1), (871, .ireturn, 1), (872, .aload_n 1, 1), (873, .aload_n 0, 1), (874, .iload_n 3, 1), (875, .iconst 1, 1), (876, .iadd, 1), (877, .iaload, 1), (878, .invokevirtual 84, 3), (881, .aload_n 2, 1), (882, .aload_n 0, 1), (883, .iload_n 3, 1), (884, .iconst 1, 1), (885, .iadd, 1), (886, .iaload, 1), (887, .invokevirtual 87, 3), (890, .if_icmp .eq 448, 3), (893, .iconst 0, 1), (894, .ireturn, 1), (895, .aload_n 1, 1), (896, .aload_n 0, 1), (897, .iload_n 3, 1), (898, .iconst 1, 1), (899, .iadd, 1), (900, .iaload, 1), (901, .invokevirtual 88, 3), (904, .aload_n 2, 1), (905, .aload_n 0, 1), (906, .iload_n 3, 1), (907, .iconst 1, 1), (908, .iadd, 1), (909, .iaload, 1), (910, .invokevirtual 91, 3), (913, .if_icmp .eq 425, 3), (916, .iconst 0, 1), (917, .ireturn, 1), (918, .aload_n 1, 1), (919, .aload_n 0, 1), (920, .iload_n 3, 1), (921, .iconst 1, 1), (922, .iadd, 1), (923, .iaload, 1), (924, .aload_n 0, 1), (925, .iload_n 3, 1), (926, .iconst 2, 1), (927, .iadd, 1), (928, .iaload, 1), (929, .aload_n 0, 1), (930, .iload_n 3, 1), (931, .iconst 3, 1), (932, .iadd, 1), (933, .iaload, 1), (934, .aload_n 0, 1), (935, .iload_n 3, 1), (936, .iconst 4, 1), (937, .iadd, 1), (938, .iaload, 1), (939, .aload_n 0, 1), (940, .iload_n 3, 1), (941, .iconst 5, 1), (942, .iadd, 1), (943, .iaload, 1), (944, .aload_n 0, 1), (945, .iload_n 3, 1), (946, .bipush 6, 2), (948, .iadd, 1), (949, .iaload, 1), (950, .invokevirtual 92, 3), (953, .aload_n 2, 1), (954, .aload_n 0, 1), (955, .iload_n 3, 1), (956, .iconst 1, 1), (957, .iadd, 1), (958, .iaload, 1), (959, .aload_n 0, 1), (960, .iload_n 3, 1), (961, .iconst 2, 1), (962, .iadd, 1), (963, .iaload, 1), (964, .aload_n 0, 1), (965, .iload_n 3, 1), (966, .iconst 3, 1), (967, .iadd, 1), (968, .iaload, 1), (969, .aload_n 0, 1), (970, .iload_n 3, 1), (971, .iconst 4, 1), (972, .iadd, 1), (973, .iaload, 1), (974, .aload_n 0, 1), (975, .iload_n 3, 1), (976, .iconst 5, 1), (977, .iadd, 1), (978, .iaload, 1), (979, .aload_n 0, 1), (980, .iload_n 3, 1), (981, .bipush 6, 2), (983, .iadd, 1), (984, .iaload, 1), (985, .invokevirtual 96, 3), (988, .lcmp, 1), (989, .ifCond .eq 349, 3), (992, .iconst 0, 1), (993, .ireturn, 1), (994, .aload_n 1, 1), (995, .aload_n 0, 1), (996, .iload_n 3, 1), (997, .iconst 1, 1), (998, .iadd, 1), (999, .iaload, 1)]
set_option maxRecDepth 100000 in
theorem dL_law_5 : dOk cL_law tbL_law_5 = true := by decide +kernel
def tbL_law_6 : dT := [(1000, .aload_n 0, 1), (1001, .iload_n 3, 1), (1002, .iconst 2, 1), (1003, .iadd, 1), (1004, .iaload, 1), (1005, .aload_n 0, 1), (1006, .iload_n 3, 1), (1007, .iconst 3, 1), (1008, .iadd, 1), (1009, .iaload, 1), (1010, .invokevirtual 97, 3), (1013, .aload_n 2, 1), (1014, .aload_n 0, 1), (1015, .iload_n 3, 1), (1016, .iconst 1, 1), (1017, .iadd, 1), (1018, .iaload, 1), (1019, .aload_n 0, 1), (1020, .iload_n 3, 1), (1021, .iconst 2, 1), (1022, .iadd, 1), (1023, .iaload, 1), (1024, .aload_n 0, 1), (1025, .iload_n 3, 1), (1026, .iconst 3, 1), (1027, .iadd, 1), (1028, .iaload, 1), (1029, .invokevirtual 101, 3), (1032, .if_icmp .eq 306, 3), (1035, .iconst 0, 1), (1036, .ireturn, 1), (1037, .aload_n 1, 1), (1038, .aload_n 0, 1), (1039, .iload_n 3, 1), (1040, .iconst 1, 1), (1041, .iadd, 1), (1042, .iaload, 1), (1043, .invokevirtual 102, 3), (1046, .aload_n 2, 1), (1047, .aload_n 0, 1), (1048, .iload_n 3, 1), (1049, .iconst 1, 1), (1050, .iadd, 1), (1051, .iaload, 1), (1052, .invokevirtual 105, 3), (1055, .if_icmp .eq 283, 3), (1058, .iconst 0, 1), (1059, .ireturn, 1), (1060, .aload_n 1, 1), (1061, .aload_n 0, 1), (1062, .iload_n 3, 1), (1063, .iconst 1, 1), (1064, .iadd, 1), (1065, .iaload, 1), (1066, .aload_n 0, 1), (1067, .iload_n 3, 1), (1068, .iconst 2, 1), (1069, .iadd, 1), (1070, .iaload, 1), (1071, .aload_n 0, 1), (1072, .iload_n 3, 1), (1073, .iconst 3, 1), (1074, .iadd, 1), (1075, .iaload, 1), (1076, .invokevirtual 106, 3), (1079, .aload_n 2, 1), (1080, .aload_n 0, 1), (1081, .iload_n 3, 1), (1082, .iconst 1, 1), (1083, .iadd, 1), (1084, .iaload, 1), (1085, .aload_n 0, 1), (1086, .iload_n 3, 1), (1087, .iconst 2, 1), (1088, .iadd, 1), (1089, .iaload, 1), (1090, .aload_n 0, 1), (1091, .iload_n 3, 1), (1092, .iconst 3, 1), (1093, .iadd, 1), (1094, .iaload, 1), (1095, .invokevirtual 109, 3), (1098, .if_icmp .eq 240, 3), (1101, .iconst 0, 1), (1102, .ireturn, 1), (1103, .aload_n 1, 1), (1104, .aload_n 0, 1), (1105, .iload_n 3, 1), (1106, .iconst 1, 1), (1107, .iadd, 1), (1108, .iaload, 1), (1109, .aload_n 0, 1), (1110, .iload_n 3, 1), (1111, .iconst 2, 1), (1112, .iadd, 1), (1113, .iaload, 1), (1114, .aload_n 0, 1), (1115, .iload_n 3, 1), (1116, .iconst 3, 1), (1117, .iadd, 1), (1118, .iaload, 1), (1119, .invokevirtual 110, 3), (1122, .aload_n 2, 1), (1123, .aload_n 0, 1), (1124, .iload_n 3, 1), (1125, .iconst 1, 1), (1126, .iadd, 1), (1127, .iaload, 1), (1128, .aload_n 0, 1), (1129, .iload_n 3, 1), (1130, .iconst 2, 1), (1131, .iadd, 1), (1132, .iaload, 1), (1133, .aload_n 0, 1), (1134, .iload_n 3, 1), (1135, .iconst 3, 1), (1136, .iadd, 1), (1137, .iaload, 1), (1138, .invokevirtual 114, 3), (1141, .lcmp, 1)]
set_option maxRecDepth 100000 in
theorem dL_law_6 : dOk cL_law tbL_law_6 = true := by decide +kernel
def tbL_law_7 : dT := [(1142, .ifCond .eq 196, 3), (1145, .iconst 0, 1), (1146, .ireturn, 1), (1147, .aload_n 1, 1), (1148, .aload_n 0, 1), (1149, .iload_n 3, 1), (1150, .iconst 1, 1), (1151, .iadd, 1), (1152, .iaload, 1), (1153, .aload_n 0, 1), (1154, .iload_n 3, 1), (1155, .iconst 2, 1), (1156, .iadd, 1), (1157, .iaload, 1), (1158, .aload_n 0, 1), (1159, .iload_n 3, 1), (1160, .iconst 3, 1), (1161, .iadd, 1), (1162, .iaload, 1), (1163, .aload_n 0, 1), (1164, .iload_n 3, 1), (1165, .iconst 4, 1), (1166, .iadd, 1), (1167, .iaload, 1), (1168, .aload_n 0, 1), (1169, .iload_n 3, 1), (1170, .iconst 5, 1), (1171, .iadd, 1), (1172, .iaload, 1), (1173, .invokevirtual 115, 3), (1176, .aload_n 2, 1), (1177, .aload_n 0, 1), (1178, .iload_n 3, 1), (1179, .iconst 1, 1), (1180, .iadd, 1), (1181, .iaload, 1), (1182, .aload_n 0, 1), (1183, .iload_n 3, 1), (1184, .iconst 2, 1), (1185, .iadd, 1), (1186, .iaload, 1), (1187, .aload_n 0, 1), (1188, .iload_n 3, 1), (1189, .iconst 3, 1), (1190, .iadd, 1), (1191, .iaload, 1), (1192, .aload_n 0, 1), (1193, .iload_n 3, 1), (1194, .iconst 4, 1), (1195, .iadd, 1), (1196, .iaload, 1), (1197, .aload_n 0, 1), (1198, .iload_n 3, 1), (1199, .iconst 5, 1), (1200, .iadd, 1), (1201, .iaload, 1), (1202, .invokevirtual 118, 3), (1205, .if_icmp .eq 133, 3), (1208, .iconst 0, 1), (1209, .ireturn, 1), (1210, .aload_n 1, 1), (1211, .aload_n 0, 1), (1212, .iload_n 3, 1), (1213, .iconst 1, 1), (1214, .iadd, 1), (1215, .iaload, 1), (1216, .invokevirtual 119, 3), (1219, .aload_n 2, 1), (1220, .aload_n 0, 1), (1221, .iload_n 3, 1), (1222, .iconst 1, 1), (1223, .iadd, 1), (1224, .iaload, 1), (1225, .invokevirtual 122, 3), (1228, .if_icmp .eq 110, 3), (1231, .iconst 0, 1), (1232, .ireturn, 1), (1233, .aload_n 1, 1), (1234, .aload_n 0, 1), (1235, .iload_n 3, 1), (1236, .iconst 1, 1), (1237, .iadd, 1), (1238, .iaload, 1), (1239, .invokevirtual 123, 3), (1242, .aload_n 2, 1), (1243, .aload_n 0, 1), (1244, .iload_n 3, 1), (1245, .iconst 1, 1), (1246, .iadd, 1), (1247, .iaload, 1), (1248, .invokevirtual 126, 3), (1251, .if_icmp .eq 87, 3), (1254, .iconst 0, 1), (1255, .ireturn, 1), (1256, .aload_n 1, 1), (1257, .aload_n 0, 1), (1258, .iload_n 3, 1), (1259, .iconst 1, 1), (1260, .iadd, 1), (1261, .iaload, 1), (1262, .aload_n 0, 1), (1263, .iload_n 3, 1), (1264, .iconst 2, 1), (1265, .iadd, 1), (1266, .iaload, 1), (1267, .invokevirtual 127, 3), (1270, .aload_n 2, 1), (1271, .aload_n 0, 1), (1272, .iload_n 3, 1), (1273, .iconst 1, 1), (1274, .iadd, 1), (1275, .iaload, 1), (1276, .aload_n 0, 1), (1277, .iload_n 3, 1), (1278, .iconst 2, 1), (1279, .iadd, 1), (1280, .iaload, 1), (1281, .invokevirtual 130, 3), (1284, .if_icmp .eq 54, 3), (1287, .iconst 0, 1)]
set_option maxRecDepth 100000 in
theorem dL_law_7 : dOk cL_law tbL_law_7 = true := by decide +kernel
def tbL_law_8 : dT := [(1288, .ireturn, 1), (1289, .aload_n 1, 1), (1290, .invokevirtual 131, 3), (1293, .aload_n 2, 1), (1294, .invokevirtual 135, 3), (1297, .if_icmp .eq 41, 3), (1300, .iconst 0, 1), (1301, .ireturn, 1), (1302, .aload_n 1, 1), (1303, .invokevirtual 136, 3), (1306, .aload_n 2, 1), (1307, .invokevirtual 139, 3), (1310, .if_icmp .eq 28, 3), (1313, .iconst 0, 1), (1314, .ireturn, 1), (1315, .aload_n 1, 1), (1316, .aload_n 0, 1), (1317, .iload_n 3, 1), (1318, .iconst 1, 1), (1319, .iadd, 1), (1320, .iaload, 1), (1321, .invokevirtual 140, 3), (1324, .aload_n 2, 1), (1325, .aload_n 0, 1), (1326, .iload_n 3, 1), (1327, .iconst 1, 1), (1328, .iadd, 1), (1329, .iaload, 1), (1330, .invokevirtual 143, 3), (1333, .if_icmp .eq 5, 3), (1336, .iconst 0, 1), (1337, .ireturn, 1), (1338, .iinc 3 9, 3), (1341, .goto (-1323), 3), (1344, .iconst 1, 1), (1345, .ireturn, 1)]
set_option maxRecDepth 100000 in
theorem dL_law_8 : dOk cL_law tbL_law_8 = true := by decide +kernel
/-! ===== END printed: names ===== -/
end
section
/-! the words that the walks use, by their places in the printed tables -/
abbrev TT : List Cond := lw_tbl.filter goodWord
theorem tt_of {w : Cond} (h : w ∈ lw_tbl) (hg : goodWord w = true) : w ∈ TT := List.mem_filter.mpr ⟨h, hg⟩
theorem t1 {w : Cond} (k : Nat) (hk : tables_1_1[k]? = some w) (hg : goodWord w = true) : w ∈ TT := tt_of (List.mem_append_right _ (List.mem_append_left _ (List.mem_of_getElem? hk))) hg
theorem t2 {w : Cond} (k : Nat) (hk : tables_1_2[k]? = some w) (hg : goodWord w = true) : w ∈ TT := tt_of (List.mem_append_right _ (List.mem_append_right _ (List.mem_append_left _ (List.mem_of_getElem? hk)))) hg
theorem t3 {w : Cond} (k : Nat) (hk : tables_1_3[k]? = some w) (hg : goodWord w = true) : w ∈ TT := tt_of (List.mem_append_right _ (List.mem_append_right _ (List.mem_append_right _ (List.mem_append_left _ (List.mem_of_getElem? hk))))) hg
theorem t4 {w : Cond} (k : Nat) (hk : tables_1_4[k]? = some w) (hg : goodWord w = true) : w ∈ TT := tt_of (List.mem_append_right _ (List.mem_append_right _ (List.mem_append_right _ (List.mem_append_right _ (List.mem_of_getElem? hk))))) hg
theorem t0 {w : Cond} (q : MethodName × Nat) (k : Nat) (hk : lw_privs[k]? = some q) (hw : w = Cond.selects q.1.cls q.1 q.1) (hg : goodWord w = true) : w ∈ TT := tt_of (List.mem_append_left _ (by rw [hw]; exact List.mem_map.mpr ⟨q, List.mem_of_getElem? hk, rfl⟩)) hg
theorem tt_tbl {w : Cond} (h : w ∈ TT) : w ∈ lw_tbl := (List.mem_filter.mp h).1
theorem tt_good {w : Cond} (h : w ∈ TT) : goodWord w = true := (List.mem_filter.mp h).2
theorem tZL : Cond.initialized RL ∈ TT := t1 0 (by decide +kernel) (by decide +kernel)
theorem tZX6 : Cond.initialized RX6 ∈ TT := t1 1 (by decide +kernel) (by decide +kernel)
theorem tZX5 : Cond.initialized RX5 ∈ TT := t1 2 (by decide +kernel) (by decide +kernel)
theorem tZX1 : Cond.initialized RX1 ∈ TT := t1 3 (by decide +kernel) (by decide +kernel)
theorem tZX3 : Cond.initialized RX3 ∈ TT := t1 4 (by decide +kernel) (by decide +kernel)
theorem tZX2 : Cond.initialized RX2 ∈ TT := t1 5 (by decide +kernel) (by decide +kernel)
theorem tZX0 : Cond.initialized RX0 ∈ TT := t1 6 (by decide +kernel) (by decide +kernel)
theorem tZX4 : Cond.initialized RX4 ∈ TT := t1 7 (by decide +kernel) (by decide +kernel)
theorem tZX7 : Cond.initialized RX7 ∈ TT := t1 8 (by decide +kernel) (by decide +kernel)
theorem tZJ10 : Cond.initialized RJ10 ∈ TT := t1 9 (by decide +kernel) (by decide +kernel)
theorem tZJ9 : Cond.initialized RJ9 ∈ TT := t1 10 (by decide +kernel) (by decide +kernel)
theorem tZJ6 : Cond.initialized RJ6 ∈ TT := t1 11 (by decide +kernel) (by decide +kernel)
theorem tZJ7 : Cond.initialized RJ7 ∈ TT := t1 12 (by decide +kernel) (by decide +kernel)
theorem tCL_7 : Cond.classLink RL 7 RX6 ∈ TT := t1 13 (by decide +kernel) (by decide +kernel)
theorem tIX6 : Cond.instantiable RX6 10 ∈ TT := t1 14 (by decide +kernel) (by decide +kernel)
theorem tML_9 : Cond.methodLink RL 9 yX6_init ∈ TT := t1 15 (by decide +kernel) (by decide +kernel)
theorem tMX6_5 : Cond.methodLink RX6 5 objectInit ∈ TT := t1 18 (by decide +kernel) (by decide +kernel)
theorem tCX6_11 : Cond.classLink RX6 11 RX4 ∈ TT := t1 21 (by decide +kernel) (by decide +kernel)
theorem tCX6_17 : Cond.classLink RX6 17 RX5 ∈ TT := t1 23 (by decide +kernel) (by decide +kernel)
theorem tIX5 : Cond.instantiable RX5 4 ∈ TT := t1 24 (by decide +kernel) (by decide +kernel)
theorem tMX5_3 : Cond.methodLink RX5 3 objectInit ∈ TT := t1 28 (by decide +kernel) (by decide +kernel)
theorem tFX5_9 : Cond.fieldLink RX5 9 RX5 "codes" "[I" ∈ TT := t1 29 (by decide +kernel) (by decide +kernel)
theorem tFX5_15 : Cond.fieldLink RX5 15 RX5 "length" "I" ∈ TT := t1 30 (by decide +kernel) (by decide +kernel)
theorem tFX5_19 : Cond.fieldLink RX5 19 RX5 "place" "I" ∈ TT := t1 31 (by decide +kernel) (by decide +kernel)
theorem tFX5_22 : Cond.fieldLink RX5 22 RX5 "isWrong" "Z" ∈ TT := t1 33 (by decide +kernel) (by decide +kernel)
theorem tCX6_24 : Cond.classLink RX6 24 RX1 ∈ TT := t1 45 (by decide +kernel) (by decide +kernel)
theorem tIX1 : Cond.instantiable RX1 4 ∈ TT := t1 46 (by decide +kernel) (by decide +kernel)
theorem tMX1_3 : Cond.methodLink RX1 3 objectInit ∈ TT := t1 50 (by decide +kernel) (by decide +kernel)
theorem tFX1_9 : Cond.fieldLink RX1 9 RX1 "strengths" "[I" ∈ TT := t1 51 (by decide +kernel) (by decide +kernel)
theorem tFX1_15 : Cond.fieldLink RX1 15 RX1 "at" "I" ∈ TT := t1 53 (by decide +kernel) (by decide +kernel)
theorem tFX1_19 : Cond.fieldLink RX1 19 RX1 "cut" "I" ∈ TT := t1 55 (by decide +kernel) (by decide +kernel)
theorem tFX1_22 : Cond.fieldLink RX1 22 RX1 "firstWrong" "I" ∈ TT := t1 57 (by decide +kernel) (by decide +kernel)
theorem tCX6_31 : Cond.classLink RX6 31 RX3 ∈ TT := t1 68 (by decide +kernel) (by decide +kernel)
theorem tIX3 : Cond.instantiable RX3 4 ∈ TT := t1 69 (by decide +kernel) (by decide +kernel)
theorem tMX3_3 : Cond.methodLink RX3 3 objectInit ∈ TT := t1 73 (by decide +kernel) (by decide +kernel)
theorem tFX3_9 : Cond.fieldLink RX3 9 RX3 "skaters" "[I" ∈ TT := t1 74 (by decide +kernel) (by decide +kernel)
theorem tFX3_15 : Cond.fieldLink RX3 15 RX3 "cells" "[I" ∈ TT := t1 75 (by decide +kernel) (by decide +kernel)
theorem tFX3_18 : Cond.fieldLink RX3 18 RX3 "bore" "[Z" ∈ TT := t1 76 (by decide +kernel) (by decide +kernel)
theorem tFX3_22 : Cond.fieldLink RX3 22 RX3 "count" "I" ∈ TT := t1 77 (by decide +kernel) (by decide +kernel)
theorem tCX6_38 : Cond.classLink RX6 38 RX2 ∈ TT := t1 89 (by decide +kernel) (by decide +kernel)
theorem tIX2 : Cond.instantiable RX2 6 ∈ TT := t1 90 (by decide +kernel) (by decide +kernel)
theorem tMX2_3 : Cond.methodLink RX2 3 objectInit ∈ TT := t1 94 (by decide +kernel) (by decide +kernel)
theorem tFX2_9 : Cond.fieldLink RX2 9 RX2 "strengths" "[I" ∈ TT := t1 95 (by decide +kernel) (by decide +kernel)
theorem tFX2_15 : Cond.fieldLink RX2 15 RX2 "high" "I" ∈ TT := t1 99 (by decide +kernel) (by decide +kernel)
theorem tFX2_19 : Cond.fieldLink RX2 19 RX2 "wide" "I" ∈ TT := t1 100 (by decide +kernel) (by decide +kernel)
theorem tFX2_22 : Cond.fieldLink RX2 22 RX2 "frost" "I" ∈ TT := t1 102 (by decide +kernel) (by decide +kernel)
theorem tFX2_25 : Cond.fieldLink RX2 25 RX2 "firstColumn" "I" ∈ TT := t1 104 (by decide +kernel) (by decide +kernel)
theorem tFX2_28 : Cond.fieldLink RX2 28 RX2 "lastColumn" "I" ∈ TT := t1 105 (by decide +kernel) (by decide +kernel)
theorem tCX6_45 : Cond.classLink RX6 45 RX0 ∈ TT := t1 119 (by decide +kernel) (by decide +kernel)
theorem tIX0 : Cond.instantiable RX0 3 ∈ TT := t1 120 (by decide +kernel) (by decide +kernel)
theorem tMX0_3 : Cond.methodLink RX0 3 objectInit ∈ TT := t1 124 (by decide +kernel) (by decide +kernel)
theorem tFX0_9 : Cond.fieldLink RX0 9 RX0 "kinds" "[I" ∈ TT := t1 125 (by decide +kernel) (by decide +kernel)
theorem tFX0_15 : Cond.fieldLink RX0 15 RX0 "weights" "[I" ∈ TT := t1 127 (by decide +kernel) (by decide +kernel)
theorem tFX0_18 : Cond.fieldLink RX0 18 RX0 "count" "I" ∈ TT := t1 129 (by decide +kernel) (by decide +kernel)
theorem tIX4 : Cond.instantiable RX4 3 ∈ TT := t1 138 (by decide +kernel) (by decide +kernel)
theorem tMX4_3 : Cond.methodLink RX4 3 objectInit ∈ TT := t1 142 (by decide +kernel) (by decide +kernel)
theorem tFX4_9 : Cond.fieldLink RX4 9 RX4 "numbers" "[I" ∈ TT := t1 143 (by decide +kernel) (by decide +kernel)
theorem tFX4_15 : Cond.fieldLink RX4 15 RX4 "lane" "I" ∈ TT := t1 146 (by decide +kernel) (by decide +kernel)
theorem tFX4_19 : Cond.fieldLink RX4 19 RX4 "length" "I" ∈ TT := t1 148 (by decide +kernel) (by decide +kernel)
theorem tFX6_13 : Cond.fieldLink RX6 13 RX6 "sheets" "[LSkateBonds$Sheet;" ∈ TT := t1 156 (by decide +kernel) (by decide +kernel)
theorem tFX6_20 : Cond.fieldLink RX6 20 RX6 "text" "LSkateBonds$Text;" ∈ TT := t1 157 (by decide +kernel) (by decide +kernel)
theorem tFX6_27 : Cond.fieldLink RX6 27 RX6 "trial" "LSkateBonds$Deed;" ∈ TT := t1 158 (by decide +kernel) (by decide +kernel)
theorem tFX6_34 : Cond.fieldLink RX6 34 RX6 "readings" "LSkateBonds$Readings;" ∈ TT := t1 159 (by decide +kernel) (by decide +kernel)
theorem tFX6_41 : Cond.fieldLink RX6 41 RX6 "ice" "LSkateBonds$Ice;" ∈ TT := t1 160 (by decide +kernel) (by decide +kernel)
theorem tFX6_48 : Cond.fieldLink RX6 48 RX6 "crew" "LSkateBonds$Crew;" ∈ TT := t1 161 (by decide +kernel) (by decide +kernel)
theorem tFX6_52 : Cond.fieldLink RX6 52 RX6 "draftIce" "LSkateBonds$Ice;" ∈ TT := t1 162 (by decide +kernel) (by decide +kernel)
theorem tFX6_55 : Cond.fieldLink RX6 55 RX6 "draftCrew" "LSkateBonds$Crew;" ∈ TT := t1 163 (by decide +kernel) (by decide +kernel)
theorem tFX6_58 : Cond.fieldLink RX6 58 RX6 "latestFault" "I" ∈ TT := t1 164 (by decide +kernel) (by decide +kernel)
theorem tFX6_62 : Cond.fieldLink RX6 62 RX6 "traced" "I" ∈ TT := t1 165 (by decide +kernel) (by decide +kernel)
theorem tML_13 : Cond.methodLink RL 13 yX6_canal ∈ TT := t1 187 (by decide +kernel) (by decide +kernel)
theorem tMX6_66 : Cond.methodLink RX6 66 yX6_takeText ∈ TT := t1 191 (by decide +kernel) (by decide +kernel)
theorem tMX6_182 : Cond.methodLink RX6 182 yX6_sheetAt ∈ TT := t1 195 (by decide +kernel) (by decide +kernel)
theorem tMX6_96 : Cond.methodLink RX6 96 yX6_isWithin ∈ TT := t1 199 (by decide +kernel) (by decide +kernel)
theorem tMX6_228 : Cond.methodLink RX6 228 yX6_refusalOfLane ∈ TT := t1 202 (by decide +kernel) (by decide +kernel)
theorem tMX5_31 : Cond.methodLink RX5 31 arraycopyName ∈ TT := t1 218 (by decide +kernel) (by decide +kernel)
theorem tMX5_45 : Cond.methodLink RX5 45 yX5_take ∈ TT := t1 229 (by decide +kernel) (by decide +kernel)
theorem tMX5_37 : Cond.methodLink RX5 37 yX5_goesOn ∈ TT := t1 233 (by decide +kernel) (by decide +kernel)
theorem tMX5_49 : Cond.methodLink RX5 49 yX5_sign ∈ TT := t2 12 (by decide +kernel) (by decide +kernel)
theorem tMX6_254 : Cond.methodLink RX6 254 yX6_changeToDraft ∈ TT := t2 18 (by decide +kernel) (by decide +kernel)
theorem tMX6_70 : Cond.methodLink RX6 70 yX6_keepFault ∈ TT := t2 22 (by decide +kernel) (by decide +kernel)
theorem tML_18 : Cond.methodLink RL 18 yX6_ofSkater ∈ TT := t2 26 (by decide +kernel) (by decide +kernel)
theorem tMX2_41 : Cond.methodLink RX2 41 yX2_cells ∈ TT := t2 43 (by decide +kernel) (by decide +kernel)
theorem tML_23 : Cond.methodLink RL 23 yX6_strength ∈ TT := t2 47 (by decide +kernel) (by decide +kernel)
theorem tML_28 : Cond.methodLink RL 28 yX6_freeze ∈ TT := t2 56 (by decide +kernel) (by decide +kernel)
theorem tML_32 : Cond.methodLink RL 32 yX6_frost ∈ TT := t2 60 (by decide +kernel) (by decide +kernel)
theorem tMX6_100 : Cond.methodLink RX6 100 yX6_refusalOfWeather ∈ TT := t2 64 (by decide +kernel) (by decide +kernel)
theorem tML_36 : Cond.methodLink RL 36 yX6_deed ∈ TT := t2 69 (by decide +kernel) (by decide +kernel)
theorem tMX6_106 : Cond.methodLink RX6 106 yX6_isDeedKnown ∈ TT := t2 73 (by decide +kernel) (by decide +kernel)
theorem tMX6_257 : Cond.methodLink RX6 257 yX6_isPair ∈ TT := t2 77 (by decide +kernel) (by decide +kernel)
theorem tMX6_110 : Cond.methodLink RX6 110 yX6_tryDeed ∈ TT := t2 81 (by decide +kernel) (by decide +kernel)
theorem tMX6_196 : Cond.methodLink RX6 196 yX6_refusalOfPart ∈ TT := t2 85 (by decide +kernel) (by decide +kernel)
theorem tMX1_28 : Cond.methodLink RX1 28 arraycopyName ∈ TT := t2 92 (by decide +kernel) (by decide +kernel)
theorem tMX6_114 : Cond.methodLink RX6 114 yX6_ofTrial ∈ TT := t2 104 (by decide +kernel) (by decide +kernel)
theorem tML_41 : Cond.methodLink RL 41 yX6_write ∈ TT := t2 108 (by decide +kernel) (by decide +kernel)
theorem tMX6_121 : Cond.methodLink RX6 121 arraycopyName ∈ TT := t2 112 (by decide +kernel) (by decide +kernel)
theorem tML_46 : Cond.methodLink RL 46 yX6_nights ∈ TT := t2 113 (by decide +kernel) (by decide +kernel)
theorem tMX2_49 : Cond.methodLink RX2 49 yJ9_min_7cf53 ∈ TT := t2 121 (by decide +kernel) (by decide +kernel)
theorem tMX2_54 : Cond.methodLink RX2 54 yJ9_max_7cf53 ∈ TT := t2 124 (by decide +kernel) (by decide +kernel)
theorem tML_50 : Cond.methodLink RL 50 yX6_thaw ∈ TT := t2 131 (by decide +kernel) (by decide +kernel)
theorem tML_54 : Cond.methodLink RL 54 yX6_bond ∈ TT := t2 135 (by decide +kernel) (by decide +kernel)
theorem tMX6_134 : Cond.methodLink RX6 134 yX6_isBondKnown ∈ TT := t2 139 (by decide +kernel) (by decide +kernel)
theorem tMX2_64 : Cond.methodLink RX2 64 yX2_nextTo ∈ TT := t2 147 (by decide +kernel) (by decide +kernel)
theorem tMX2_61 : Cond.methodLink RX2 61 yX2_all ∈ TT := t2 151 (by decide +kernel) (by decide +kernel)
theorem tMX2_68 : Cond.methodLink RX2 68 yX2_beginOfBond ∈ TT := t2 159 (by decide +kernel) (by decide +kernel)
theorem tMX2_75 : Cond.methodLink RX2 75 yX2_shortest ∈ TT := t2 163 (by decide +kernel) (by decide +kernel)
theorem tMX2_72 : Cond.methodLink RX2 72 yX2_led ∈ TT := t2 164 (by decide +kernel) (by decide +kernel)
theorem tML_59 : Cond.methodLink RL 59 yX6_holds ∈ TT := t2 165 (by decide +kernel) (by decide +kernel)
theorem tML_63 : Cond.methodLink RL 63 yX6_alone ∈ TT := t2 169 (by decide +kernel) (by decide +kernel)
theorem tML_67 : Cond.methodLink RL 67 yX6_neck ∈ TT := t2 177 (by decide +kernel) (by decide +kernel)
theorem tMX6_147 : Cond.methodLink RX6 147 yX6_isBond ∈ TT := t2 181 (by decide +kernel) (by decide +kernel)
theorem tML_71 : Cond.methodLink RL 71 yX6_reading ∈ TT := t2 185 (by decide +kernel) (by decide +kernel)
theorem tML_76 : Cond.methodLink RL 76 yX6_back ∈ TT := t2 193 (by decide +kernel) (by decide +kernel)
theorem tML_80 : Cond.methodLink RL 80 yX6_weights ∈ TT := t2 197 (by decide +kernel) (by decide +kernel)
theorem tML_84 : Cond.methodLink RL 84 yX6_kinds ∈ TT := t2 206 (by decide +kernel) (by decide +kernel)
theorem tML_88 : Cond.methodLink RL 88 yX6_strengths ∈ TT := t2 210 (by decide +kernel) (by decide +kernel)
theorem tML_92 : Cond.methodLink RL 92 yX6_odds ∈ TT := t2 214 (by decide +kernel) (by decide +kernel)
theorem tLX6_165 : Cond.constantLong RX6 165 (-9223372036854775808) ∈ TT := t2 218 (by decide +kernel) (by decide +kernel)
theorem tMX6_170 : Cond.methodLink RX6 170 yJ6_bitCount_0f7a4 ∈ TT := t2 220 (by decide +kernel) (by decide +kernel)
theorem tKJ6_265 : Cond.constant RJ6 265 (1431655765) ∈ TT := t2 223 (by decide +kernel) (by decide +kernel)
theorem tKJ6_266 : Cond.constant RJ6 266 (858993459) ∈ TT := t2 224 (by decide +kernel) (by decide +kernel)
theorem tKJ6_267 : Cond.constant RJ6 267 (252645135) ∈ TT := t2 225 (by decide +kernel) (by decide +kernel)
theorem tMX6_175 : Cond.methodLink RX6 175 yX6_bondsAsBreaking ∈ TT := t2 226 (by decide +kernel) (by decide +kernel)
theorem tML_97 : Cond.methodLink RL 97 yX6_sheet ∈ TT := t2 230 (by decide +kernel) (by decide +kernel)
theorem tMX6_178 : Cond.methodLink RX6 178 yX6_newRow ∈ TT := t2 234 (by decide +kernel) (by decide +kernel)
theorem tMX4_22 : Cond.methodLink RX4 22 yJ7_fill_53178 ∈ TT := t3 2 (by decide +kernel) (by decide +kernel)
theorem tML_102 : Cond.methodLink RL 102 yX6_lose ∈ TT := t3 5 (by decide +kernel) (by decide +kernel)
theorem tML_106 : Cond.methodLink RL 106 yX6_put ∈ TT := t3 13 (by decide +kernel) (by decide +kernel)
theorem tMX6_193 : Cond.methodLink RX6 193 yX6_putNumber ∈ TT := t3 17 (by decide +kernel) (by decide +kernel)
theorem tML_110 : Cond.methodLink RL 110 yX6_cell ∈ TT := t3 25 (by decide +kernel) (by decide +kernel)
theorem tML_115 : Cond.methodLink RL 115 yX6_copy ∈ TT := t3 29 (by decide +kernel) (by decide +kernel)
theorem tMX6_203 : Cond.methodLink RX6 203 yX6_copyNumbers ∈ TT := t3 33 (by decide +kernel) (by decide +kernel)
theorem tML_119 : Cond.methodLink RL 119 yX6_tell ∈ TT := t3 37 (by decide +kernel) (by decide +kernel)
theorem tMX6_206 : Cond.methodLink RX6 206 yX6_bankerGives ∈ TT := t3 41 (by decide +kernel) (by decide +kernel)
theorem tMX6_215 : Cond.methodLink RX6 215 yX6_leave ∈ TT := t3 45 (by decide +kernel) (by decide +kernel)
theorem tMX6_209 : Cond.methodLink RX6 209 yX6_clerkGives ∈ TT := t3 49 (by decide +kernel) (by decide +kernel)
theorem tMX6_212 : Cond.methodLink RX6 212 yX6_skaterGives ∈ TT := t3 53 (by decide +kernel) (by decide +kernel)
theorem tML_123 : Cond.methodLink RL 123 yX6_signed ∈ TT := t3 57 (by decide +kernel) (by decide +kernel)
theorem tML_127 : Cond.methodLink RL 127 yX6_as ∈ TT := t3 61 (by decide +kernel) (by decide +kernel)
theorem tMX6_218 : Cond.methodLink RX6 218 yX6_takeAs ∈ TT := t3 65 (by decide +kernel) (by decide +kernel)
theorem tML_131 : Cond.methodLink RL 131 yX6_trace ∈ TT := t3 69 (by decide +kernel) (by decide +kernel)
theorem tML_136 : Cond.methodLink RL 136 yX6_fault ∈ TT := t3 73 (by decide +kernel) (by decide +kernel)
theorem tML_140 : Cond.methodLink RL 140 yX6_many ∈ TT := t3 77 (by decide +kernel) (by decide +kernel)
theorem tCL_10 : Cond.classLink RL 10 RX7 ∈ TT := t3 81 (by decide +kernel) (by decide +kernel)
theorem tIX7 : Cond.instantiable RX7 32 ∈ TT := t3 82 (by decide +kernel) (by decide +kernel)
theorem tML_12 : Cond.methodLink RL 12 yX7_init ∈ TT := t3 83 (by decide +kernel) (by decide +kernel)
theorem tMX7_1 : Cond.methodLink RX7 1 objectInit ∈ TT := t3 86 (by decide +kernel) (by decide +kernel)
theorem tFX7_58 : Cond.fieldLink RX7 58 RX7 "fault" "I" ∈ TT := t3 87 (by decide +kernel) (by decide +kernel)
theorem tFX7_66 : Cond.fieldLink RX7 66 RX7 "high" "I" ∈ TT := t3 88 (by decide +kernel) (by decide +kernel)
theorem tFX7_69 : Cond.fieldLink RX7 69 RX7 "wide" "I" ∈ TT := t3 89 (by decide +kernel) (by decide +kernel)
theorem tFX7_141 : Cond.fieldLink RX7 141 RX7 "frostNow" "I" ∈ TT := t3 90 (by decide +kernel) (by decide +kernel)
theorem tFX7_7 : Cond.fieldLink RX7 7 RX7 "strengthOf" "[I" ∈ TT := t3 91 (by decide +kernel) (by decide +kernel)
theorem tFX7_80 : Cond.fieldLink RX7 80 RX7 "skaters" "I" ∈ TT := t3 92 (by decide +kernel) (by decide +kernel)
theorem tFX7_13 : Cond.fieldLink RX7 13 RX7 "kindOf" "[I" ∈ TT := t3 93 (by decide +kernel) (by decide +kernel)
theorem tFX7_16 : Cond.fieldLink RX7 16 RX7 "weightOf" "[I" ∈ TT := t3 94 (by decide +kernel) (by decide +kernel)
theorem tFX7_150 : Cond.fieldLink RX7 150 RX7 "broken" "I" ∈ TT := t3 95 (by decide +kernel) (by decide +kernel)
theorem tFX7_147 : Cond.fieldLink RX7 147 RX7 "thawed" "I" ∈ TT := t3 96 (by decide +kernel) (by decide +kernel)
theorem tFX7_87 : Cond.fieldLink RX7 87 RX7 "readAt" "I" ∈ TT := t3 97 (by decide +kernel) (by decide +kernel)
theorem tFX7_104 : Cond.fieldLink RX7 104 RX7 "readHigh" "I" ∈ TT := t3 98 (by decide +kernel) (by decide +kernel)
theorem tFX7_94 : Cond.fieldLink RX7 94 RX7 "readWide" "I" ∈ TT := t3 99 (by decide +kernel) (by decide +kernel)
theorem tFX7_107 : Cond.fieldLink RX7 107 RX7 "readFrost" "I" ∈ TT := t3 100 (by decide +kernel) (by decide +kernel)
theorem tFX7_101 : Cond.fieldLink RX7 101 RX7 "readSkaters" "I" ∈ TT := t3 101 (by decide +kernel) (by decide +kernel)
theorem tFX7_19 : Cond.fieldLink RX7 19 RX7 "readStrength" "[I" ∈ TT := t3 102 (by decide +kernel) (by decide +kernel)
theorem tFX7_22 : Cond.fieldLink RX7 22 RX7 "readKind" "[I" ∈ TT := t3 103 (by decide +kernel) (by decide +kernel)
theorem tFX7_25 : Cond.fieldLink RX7 25 RX7 "readWeight" "[I" ∈ TT := t3 104 (by decide +kernel) (by decide +kernel)
theorem tFX7_170 : Cond.fieldLink RX7 170 RX7 "firstWrong" "I" ∈ TT := t3 105 (by decide +kernel) (by decide +kernel)
theorem tFX7_173 : Cond.fieldLink RX7 173 RX7 "endsAt" "I" ∈ TT := t3 106 (by decide +kernel) (by decide +kernel)
theorem tFX7_176 : Cond.fieldLink RX7 176 RX7 "cutNow" "I" ∈ TT := t3 107 (by decide +kernel) (by decide +kernel)
theorem tFX7_28 : Cond.fieldLink RX7 28 RX7 "kept" "[I" ∈ TT := t3 108 (by decide +kernel) (by decide +kernel)
theorem tFX7_31 : Cond.fieldLink RX7 31 RX7 "leftOf" "[I" ∈ TT := t3 109 (by decide +kernel) (by decide +kernel)
theorem tFX7_144 : Cond.fieldLink RX7 144 RX7 "readings" "I" ∈ TT := t3 110 (by decide +kernel) (by decide +kernel)
theorem tFX7_34 : Cond.fieldLink RX7 34 RX7 "readingOf" "[I" ∈ TT := t3 111 (by decide +kernel) (by decide +kernel)
theorem tFX7_37 : Cond.fieldLink RX7 37 RX7 "readingAt" "[I" ∈ TT := t3 112 (by decide +kernel) (by decide +kernel)
theorem tFX7_40 : Cond.fieldLink RX7 40 RX7 "readingBore" "[Z" ∈ TT := t3 113 (by decide +kernel) (by decide +kernel)
theorem tFX7_44 : Cond.fieldLink RX7 44 RX7 "sheetSize" "[I" ∈ TT := t3 114 (by decide +kernel) (by decide +kernel)
theorem tFX7_47 : Cond.fieldLink RX7 47 RX7 "sheetLane" "[I" ∈ TT := t3 115 (by decide +kernel) (by decide +kernel)
theorem tFX7_50 : Cond.fieldLink RX7 50 RX7 "sheet" "[I" ∈ TT := t3 116 (by decide +kernel) (by decide +kernel)
theorem tFX7_53 : Cond.fieldLink RX7 53 RX7 "hands" "[I" ∈ TT := t3 117 (by decide +kernel) (by decide +kernel)
theorem tFX7_244 : Cond.fieldLink RX7 244 RX7 "traceNow" "I" ∈ TT := t3 118 (by decide +kernel) (by decide +kernel)
theorem tML_17 : Cond.methodLink RL 17 yX7_canal ∈ TT := t3 184 (by decide +kernel) (by decide +kernel)
theorem tMX7_126 : Cond.methodLink RX7 126 yX7_noSheet ∈ TT := t3 188 (by decide +kernel) (by decide +kernel)
theorem tLX7_182 : Cond.constantLong RX7 182 (3) ∈ TT := t3 191 (by decide +kernel) (by decide +kernel)
theorem tMX7_76 : Cond.methodLink RX7 76 yX7_in ∈ TT := t3 192 (by decide +kernel) (by decide +kernel)
theorem tMX7_129 : Cond.methodLink RX7 129 yX7_refused ∈ TT := t3 195 (by decide +kernel) (by decide +kernel)
theorem tLX7_132 : Cond.constantLong RX7 132 (2) ∈ TT := t3 199 (by decide +kernel) (by decide +kernel)
theorem tMX7_134 : Cond.methodLink RX7 134 yX7_cellsBarred ∈ TT := t3 200 (by decide +kernel) (by decide +kernel)
theorem tMX7_118 : Cond.methodLink RX7 118 yX7_failed ∈ TT := t3 204 (by decide +kernel) (by decide +kernel)
theorem tMX7_122 : Cond.methodLink RX7 122 yX7_isBeyond ∈ TT := t3 208 (by decide +kernel) (by decide +kernel)
theorem tMX7_138 : Cond.methodLink RX7 138 yX7_readsCanal ∈ TT := t3 211 (by decide +kernel) (by decide +kernel)
theorem tMX7_90 : Cond.methodLink RX7 90 yX7_codeAt ∈ TT := t3 215 (by decide +kernel) (by decide +kernel)
theorem tMX7_97 : Cond.methodLink RX7 97 yX7_figure ∈ TT := t3 219 (by decide +kernel) (by decide +kernel)
theorem tMX7_110 : Cond.methodLink RX7 110 yX7_readsPlace ∈ TT := t3 223 (by decide +kernel) (by decide +kernel)
theorem tMX7_114 : Cond.methodLink RX7 114 yX7_readsSkater ∈ TT := t3 227 (by decide +kernel) (by decide +kernel)
theorem tMX7_72 : Cond.methodLink RX7 72 yX7_cells ∈ TT := t3 231 (by decide +kernel) (by decide +kernel)
theorem tML_22 : Cond.methodLink RL 22 yX7_ofSkater ∈ TT := t3 235 (by decide +kernel) (by decide +kernel)
theorem tMX7_83 : Cond.methodLink RX7 83 yX7_noSkater ∈ TT := t3 239 (by decide +kernel) (by decide +kernel)
theorem tMX7_156 : Cond.methodLink RX7 156 yX7_loadOf ∈ TT := t4 3 (by decide +kernel) (by decide +kernel)
theorem tMX7_162 : Cond.methodLink RX7 162 yX7_bearingOf ∈ TT := t4 7 (by decide +kernel) (by decide +kernel)
theorem tMX7_159 : Cond.methodLink RX7 159 yX7_bears ∈ TT := t4 11 (by decide +kernel) (by decide +kernel)
theorem tMX7_153 : Cond.methodLink RX7 153 yX7_isIn ∈ TT := t4 15 (by decide +kernel) (by decide +kernel)
theorem tML_27 : Cond.methodLink RL 27 yX7_strength ∈ TT := t4 18 (by decide +kernel) (by decide +kernel)
theorem tMX7_165 : Cond.methodLink RX7 165 yX7_noPlace ∈ TT := t4 22 (by decide +kernel) (by decide +kernel)
theorem tML_31 : Cond.methodLink RL 31 yX7_freeze ∈ TT := t4 26 (by decide +kernel) (by decide +kernel)
theorem tLX7_168 : Cond.constantLong RX7 168 (9) ∈ TT := t4 30 (by decide +kernel) (by decide +kernel)
theorem tML_35 : Cond.methodLink RL 35 yX7_frost ∈ TT := t4 31 (by decide +kernel) (by decide +kernel)
theorem tML_40 : Cond.methodLink RL 40 yX7_deed ∈ TT := t4 35 (by decide +kernel) (by decide +kernel)
theorem tMX7_184 : Cond.methodLink RX7 184 yX7_noTwo ∈ TT := t4 39 (by decide +kernel) (by decide +kernel)
theorem tLX7_187 : Cond.constantLong RX7 187 (40) ∈ TT := t4 43 (by decide +kernel) (by decide +kernel)
theorem tLX7_189 : Cond.constantLong RX7 189 (4) ∈ TT := t4 44 (by decide +kernel) (by decide +kernel)
theorem tMX7_191 : Cond.methodLink RX7 191 yX7_strokesBarred ∈ TT := t4 45 (by decide +kernel) (by decide +kernel)
theorem tMX7_194 : Cond.methodLink RX7 194 yX7_keep ∈ TT := t4 49 (by decide +kernel) (by decide +kernel)
theorem tMX7_197 : Cond.methodLink RX7 197 yX7_goDeed ∈ TT := t4 53 (by decide +kernel) (by decide +kernel)
theorem tMX7_179 : Cond.methodLink RX7 179 yX7_beside ∈ TT := t4 57 (by decide +kernel) (by decide +kernel)
theorem tMX7_201 : Cond.methodLink RX7 201 yX7_putBack ∈ TT := t4 61 (by decide +kernel) (by decide +kernel)
theorem tML_45 : Cond.methodLink RL 45 yX7_write ∈ TT := t4 65 (by decide +kernel) (by decide +kernel)
theorem tML_49 : Cond.methodLink RL 49 yX7_nights ∈ TT := t4 69 (by decide +kernel) (by decide +kernel)
theorem tMX7_204 : Cond.methodLink RX7 204 yX7_countOf ∈ TT := t4 73 (by decide +kernel) (by decide +kernel)
theorem tML_53 : Cond.methodLink RL 53 yX7_thaw ∈ TT := t4 77 (by decide +kernel) (by decide +kernel)
theorem tML_58 : Cond.methodLink RL 58 yX7_bond ∈ TT := t4 81 (by decide +kernel) (by decide +kernel)
theorem tLX7_215 : Cond.constantLong RX7 215 (-1) ∈ TT := t4 85 (by decide +kernel) (by decide +kernel)
theorem tLX7_217 : Cond.constantLong RX7 217 (39) ∈ TT := t4 86 (by decide +kernel) (by decide +kernel)
theorem tMX7_211 : Cond.methodLink RX7 211 yX7_goBond ∈ TT := t4 87 (by decide +kernel) (by decide +kernel)
theorem tMX7_207 : Cond.methodLink RX7 207 yX7_leftBy ∈ TT := t4 91 (by decide +kernel) (by decide +kernel)
theorem tMX7_219 : Cond.methodLink RX7 219 yX7_strokeBy ∈ TT := t4 95 (by decide +kernel) (by decide +kernel)
theorem tML_62 : Cond.methodLink RL 62 yX7_holds ∈ TT := t4 99 (by decide +kernel) (by decide +kernel)
theorem tMX7_222 : Cond.methodLink RX7 222 yX7_isBond ∈ TT := t4 103 (by decide +kernel) (by decide +kernel)
theorem tML_66 : Cond.methodLink RL 66 yX7_alone ∈ TT := t4 107 (by decide +kernel) (by decide +kernel)
theorem tML_70 : Cond.methodLink RL 70 yX7_neck ∈ TT := t4 111 (by decide +kernel) (by decide +kernel)
theorem tML_75 : Cond.methodLink RL 75 yX7_reading ∈ TT := t4 115 (by decide +kernel) (by decide +kernel)
theorem tML_79 : Cond.methodLink RL 79 yX7_back ∈ TT := t4 119 (by decide +kernel) (by decide +kernel)
theorem tML_83 : Cond.methodLink RL 83 yX7_weights ∈ TT := t4 123 (by decide +kernel) (by decide +kernel)
theorem tMX7_226 : Cond.methodLink RX7 226 yX7_areSo ∈ TT := t4 127 (by decide +kernel) (by decide +kernel)
theorem tML_87 : Cond.methodLink RL 87 yX7_kinds ∈ TT := t4 131 (by decide +kernel) (by decide +kernel)
theorem tML_91 : Cond.methodLink RL 91 yX7_strengths ∈ TT := t4 135 (by decide +kernel) (by decide +kernel)
theorem tML_96 : Cond.methodLink RL 96 yX7_odds ∈ TT := t4 139 (by decide +kernel) (by decide +kernel)
theorem tMX7_62 : Cond.methodLink RX7 62 yX7_lost ∈ TT := t4 143 (by decide +kernel) (by decide +kernel)
theorem tLX7_56 : Cond.constantLong RX7 56 (-9223372036854775808) ∈ TT := t4 146 (by decide +kernel) (by decide +kernel)
theorem tMX7_230 : Cond.methodLink RX7 230 yX7_bits ∈ TT := t4 147 (by decide +kernel) (by decide +kernel)
theorem tMX7_233 : Cond.methodLink RX7 233 yX7_share ∈ TT := t4 150 (by decide +kernel) (by decide +kernel)
theorem tML_101 : Cond.methodLink RL 101 yX7_sheet ∈ TT := t4 153 (by decide +kernel) (by decide +kernel)
theorem tML_105 : Cond.methodLink RL 105 yX7_lose ∈ TT := t4 157 (by decide +kernel) (by decide +kernel)
theorem tML_109 : Cond.methodLink RL 109 yX7_put ∈ TT := t4 161 (by decide +kernel) (by decide +kernel)
theorem tMX7_237 : Cond.methodLink RX7 237 yX7_noCell ∈ TT := t4 165 (by decide +kernel) (by decide +kernel)
theorem tML_114 : Cond.methodLink RL 114 yX7_cell ∈ TT := t4 169 (by decide +kernel) (by decide +kernel)
theorem tMX7_240 : Cond.methodLink RX7 240 yX7_failedLong ∈ TT := t4 173 (by decide +kernel) (by decide +kernel)
theorem tML_118 : Cond.methodLink RL 118 yX7_copy ∈ TT := t4 177 (by decide +kernel) (by decide +kernel)
theorem tML_122 : Cond.methodLink RL 122 yX7_tell ∈ TT := t4 181 (by decide +kernel) (by decide +kernel)
theorem tMX7_247 : Cond.methodLink RX7 247 yX7_traced ∈ TT := t4 185 (by decide +kernel) (by decide +kernel)
theorem tML_126 : Cond.methodLink RL 126 yX7_signed ∈ TT := t4 189 (by decide +kernel) (by decide +kernel)
theorem tML_130 : Cond.methodLink RL 130 yX7_as ∈ TT := t4 193 (by decide +kernel) (by decide +kernel)
theorem tML_135 : Cond.methodLink RL 135 yX7_trace ∈ TT := t4 197 (by decide +kernel) (by decide +kernel)
theorem tML_139 : Cond.methodLink RL 139 yX7_fault ∈ TT := t4 201 (by decide +kernel) (by decide +kernel)
theorem tML_143 : Cond.methodLink RL 143 yX7_many ∈ TT := t4 205 (by decide +kernel) (by decide +kernel)
theorem tAI : Cond.arrayClass .int ∈ lw_tbl := List.mem_append_right _ (List.mem_of_getElem? (i := 44) (by decide +kernel))
theorem tAZ : Cond.arrayClass .boolean ∈ lw_tbl := List.mem_append_right _ (List.mem_of_getElem? (i := 88) (by decide +kernel))
theorem tAS : Cond.arrayOver (.object "SkateBonds$Sheet") ∈ lw_tbl := List.mem_append_right _ (List.mem_of_getElem? (i := 22) (by decide +kernel))
theorem kC_X6_init : Cond.code yX6_init cX6_init 2 none ∈ TT := t1 17 (by decide +kernel) (by decide +kernel)
theorem yJ_X6_init : Cond.instanceMethod yX6_init ∈ TT := t1 16 (by decide +kernel) (by decide +kernel)
theorem kC_X5_init : Cond.code yX5_init cX5_init 1 none ∈ TT := t1 27 (by decide +kernel) (by decide +kernel)
theorem yJ_X5_init : Cond.instanceMethod yX5_init ∈ TT := t1 26 (by decide +kernel) (by decide +kernel)
theorem kC_X1_init : Cond.code yX1_init cX1_init 1 none ∈ TT := t1 49 (by decide +kernel) (by decide +kernel)
theorem yJ_X1_init : Cond.instanceMethod yX1_init ∈ TT := t1 48 (by decide +kernel) (by decide +kernel)
theorem kC_X3_init : Cond.code yX3_init cX3_init 1 none ∈ TT := t1 72 (by decide +kernel) (by decide +kernel)
theorem yJ_X3_init : Cond.instanceMethod yX3_init ∈ TT := t1 71 (by decide +kernel) (by decide +kernel)
theorem kC_X2_init : Cond.code yX2_init cX2_init 1 none ∈ TT := t1 93 (by decide +kernel) (by decide +kernel)
theorem yJ_X2_init : Cond.instanceMethod yX2_init ∈ TT := t1 92 (by decide +kernel) (by decide +kernel)
theorem kC_X0_init : Cond.code yX0_init cX0_init 1 none ∈ TT := t1 123 (by decide +kernel) (by decide +kernel)
theorem yJ_X0_init : Cond.instanceMethod yX0_init ∈ TT := t1 122 (by decide +kernel) (by decide +kernel)
theorem kC_X4_init : Cond.code yX4_init cX4_init 1 none ∈ TT := t1 141 (by decide +kernel) (by decide +kernel)
theorem yJ_X4_init : Cond.instanceMethod yX4_init ∈ TT := t1 140 (by decide +kernel) (by decide +kernel)
theorem kC_X6_canal : Cond.code yX6_canal cX6_canal 5 (some .int) ∈ TT := t1 190 (by decide +kernel) (by decide +kernel)
theorem yJ_X6_canal : Cond.instanceMethod yX6_canal ∈ TT := t1 188 (by decide +kernel) (by decide +kernel)
theorem yY_X6_canal : Cond.selects RX6 yX6_canal yX6_canal ∈ TT := t1 189 (by decide +kernel) (by decide +kernel)
theorem kC_X6_takeText : Cond.code yX6_takeText cX6_takeText 7 (some .int) ∈ TT := t1 194 (by decide +kernel) (by decide +kernel)
theorem yJ_X6_takeText : Cond.instanceMethod yX6_takeText ∈ TT := t1 193 (by decide +kernel) (by decide +kernel)
theorem yY_X6_takeText : Cond.selects RX6 yX6_takeText yX6_takeText ∈ TT := t0 (yX6_takeText, 10) 0 (by decide +kernel) rfl (by decide +kernel)
theorem kC_X6_sheetAt : Cond.code yX6_sheetAt cX6_sheetAt 2 (some (.object "SkateBonds$Sheet")) ∈ TT := t1 198 (by decide +kernel) (by decide +kernel)
theorem yJ_X6_sheetAt : Cond.instanceMethod yX6_sheetAt ∈ TT := t1 197 (by decide +kernel) (by decide +kernel)
theorem yY_X6_sheetAt : Cond.selects RX6 yX6_sheetAt yX6_sheetAt ∈ TT := t0 (yX6_sheetAt, 10) 1 (by decide +kernel) rfl (by decide +kernel)
theorem kC_X6_isWithin : Cond.code yX6_isWithin cX6_isWithin 3 (some .boolean) ∈ TT := t1 201 (by decide +kernel) (by decide +kernel)
theorem yY_X6_isWithin : Cond.static yX6_isWithin ∈ TT := t1 200 (by decide +kernel) (by decide +kernel)
theorem kC_X6_refusalOfLane : Cond.code yX6_refusalOfLane cX6_refusalOfLane 2 (some .int) ∈ TT := t1 204 (by decide +kernel) (by decide +kernel)
theorem yY_X6_refusalOfLane : Cond.static yX6_refusalOfLane ∈ TT := t1 203 (by decide +kernel) (by decide +kernel)
theorem kC_X4_isNothing : Cond.code yX4_isNothing cX4_isNothing 1 (some .boolean) ∈ TT := t1 208 (by decide +kernel) (by decide +kernel)
theorem yJ_X4_isNothing : Cond.instanceMethod yX4_isNothing ∈ TT := t1 207 (by decide +kernel) (by decide +kernel)
theorem yY_X4_isNothing : Cond.selects RX4 yX4_isNothing yX4_isNothing ∈ TT := t0 (yX4_isNothing, 3) 2 (by decide +kernel) rfl (by decide +kernel)
theorem kC_X4_has : Cond.code yX4_has cX4_has 3 (some .boolean) ∈ TT := t1 212 (by decide +kernel) (by decide +kernel)
theorem yJ_X4_has : Cond.instanceMethod yX4_has ∈ TT := t1 211 (by decide +kernel) (by decide +kernel)
theorem yY_X4_has : Cond.selects RX4 yX4_has yX4_has ∈ TT := t0 (yX4_has, 3) 3 (by decide +kernel) rfl (by decide +kernel)
theorem kC_X5_begin : Cond.code yX5_begin cX5_begin 4 none ∈ TT := t1 217 (by decide +kernel) (by decide +kernel)
theorem yJ_X5_begin : Cond.instanceMethod yX5_begin ∈ TT := t1 216 (by decide +kernel) (by decide +kernel)
theorem yY_X5_begin : Cond.selects RX5 yX5_begin yX5_begin ∈ TT := t0 (yX5_begin, 4) 4 (by decide +kernel) rfl (by decide +kernel)
theorem kC_X2_take : Cond.code yX2_take cX2_take 4 none ∈ TT := t1 224 (by decide +kernel) (by decide +kernel)
theorem yJ_X2_take : Cond.instanceMethod yX2_take ∈ TT := t1 223 (by decide +kernel) (by decide +kernel)
theorem yY_X2_take : Cond.selects RX2 yX2_take yX2_take ∈ TT := t0 (yX2_take, 6) 5 (by decide +kernel) rfl (by decide +kernel)
theorem kC_X5_sign : Cond.code yX5_sign cX5_sign 2 none ∈ TT := t1 228 (by decide +kernel) (by decide +kernel)
theorem yJ_X5_sign : Cond.instanceMethod yX5_sign ∈ TT := t1 227 (by decide +kernel) (by decide +kernel)
theorem yY_X5_sign : Cond.selects RX5 yX5_sign yX5_sign ∈ TT := t0 (yX5_sign, 4) 6 (by decide +kernel) rfl (by decide +kernel)
theorem kC_X5_take : Cond.code yX5_take cX5_take 3 (some .int) ∈ TT := t1 232 (by decide +kernel) (by decide +kernel)
theorem yJ_X5_take : Cond.instanceMethod yX5_take ∈ TT := t1 231 (by decide +kernel) (by decide +kernel)
theorem yY_X5_take : Cond.selects RX5 yX5_take yX5_take ∈ TT := t0 (yX5_take, 4) 7 (by decide +kernel) rfl (by decide +kernel)
theorem kC_X5_goesOn : Cond.code yX5_goesOn cX5_goesOn 1 (some .boolean) ∈ TT := t1 236 (by decide +kernel) (by decide +kernel)
theorem yJ_X5_goesOn : Cond.instanceMethod yX5_goesOn ∈ TT := t1 235 (by decide +kernel) (by decide +kernel)
theorem yY_X5_goesOn : Cond.selects RX5 yX5_goesOn yX5_goesOn ∈ TT := t0 (yX5_goesOn, 4) 8 (by decide +kernel) rfl (by decide +kernel)
theorem kC_X5_digit : Cond.code yX5_digit cX5_digit 3 (some .int) ∈ TT := t2 1 (by decide +kernel) (by decide +kernel)
theorem yJ_X5_digit : Cond.instanceMethod yX5_digit ∈ TT := t2 0 (by decide +kernel) (by decide +kernel)
theorem yY_X5_digit : Cond.selects RX5 yX5_digit yX5_digit ∈ TT := t0 (yX5_digit, 4) 9 (by decide +kernel) rfl (by decide +kernel)
theorem kC_X0_take : Cond.code yX0_take cX0_take 3 none ∈ TT := t2 5 (by decide +kernel) (by decide +kernel)
theorem yJ_X0_take : Cond.instanceMethod yX0_take ∈ TT := t2 4 (by decide +kernel) (by decide +kernel)
theorem yY_X0_take : Cond.selects RX0 yX0_take yX0_take ∈ TT := t0 (yX0_take, 3) 10 (by decide +kernel) rfl (by decide +kernel)
theorem kC_X5_kind : Cond.code yX5_kind cX5_kind 2 (some .int) ∈ TT := t2 11 (by decide +kernel) (by decide +kernel)
theorem yJ_X5_kind : Cond.instanceMethod yX5_kind ∈ TT := t2 10 (by decide +kernel) (by decide +kernel)
theorem yY_X5_kind : Cond.selects RX5 yX5_kind yX5_kind ∈ TT := t0 (yX5_kind, 4) 11 (by decide +kernel) rfl (by decide +kernel)
theorem kC_X5_end : Cond.code yX5_end cX5_end 1 none ∈ TT := t2 17 (by decide +kernel) (by decide +kernel)
theorem yJ_X5_end : Cond.instanceMethod yX5_end ∈ TT := t2 16 (by decide +kernel) (by decide +kernel)
theorem yY_X5_end : Cond.selects RX5 yX5_end yX5_end ∈ TT := t0 (yX5_end, 4) 12 (by decide +kernel) rfl (by decide +kernel)
theorem kC_X6_changeToDraft : Cond.code yX6_changeToDraft cX6_changeToDraft 3 none ∈ TT := t2 21 (by decide +kernel) (by decide +kernel)
theorem yJ_X6_changeToDraft : Cond.instanceMethod yX6_changeToDraft ∈ TT := t2 20 (by decide +kernel) (by decide +kernel)
theorem yY_X6_changeToDraft : Cond.selects RX6 yX6_changeToDraft yX6_changeToDraft ∈ TT := t0 (yX6_changeToDraft, 10) 13 (by decide +kernel) rfl (by decide +kernel)
theorem kC_X6_keepFault : Cond.code yX6_keepFault cX6_keepFault 2 (some .int) ∈ TT := t2 25 (by decide +kernel) (by decide +kernel)
theorem yJ_X6_keepFault : Cond.instanceMethod yX6_keepFault ∈ TT := t2 24 (by decide +kernel) (by decide +kernel)
theorem yY_X6_keepFault : Cond.selects RX6 yX6_keepFault yX6_keepFault ∈ TT := t0 (yX6_keepFault, 10) 14 (by decide +kernel) rfl (by decide +kernel)
theorem kC_X6_ofSkater : Cond.code yX6_ofSkater cX6_ofSkater 3 (some .int) ∈ TT := t2 29 (by decide +kernel) (by decide +kernel)
theorem yJ_X6_ofSkater : Cond.instanceMethod yX6_ofSkater ∈ TT := t2 27 (by decide +kernel) (by decide +kernel)
theorem yY_X6_ofSkater : Cond.selects RX6 yX6_ofSkater yX6_ofSkater ∈ TT := t2 28 (by decide +kernel) (by decide +kernel)
theorem kC_X0_has : Cond.code yX0_has cX0_has 2 (some .boolean) ∈ TT := t2 33 (by decide +kernel) (by decide +kernel)
theorem yJ_X0_has : Cond.instanceMethod yX0_has ∈ TT := t2 32 (by decide +kernel) (by decide +kernel)
theorem yY_X0_has : Cond.selects RX0 yX0_has yX0_has ∈ TT := t0 (yX0_has, 3) 15 (by decide +kernel) rfl (by decide +kernel)
theorem kC_X0_load : Cond.code yX0_load cX0_load 2 (some .int) ∈ TT := t2 38 (by decide +kernel) (by decide +kernel)
theorem yJ_X0_load : Cond.instanceMethod yX0_load ∈ TT := t2 37 (by decide +kernel) (by decide +kernel)
theorem yY_X0_load : Cond.selects RX0 yX0_load yX0_load ∈ TT := t0 (yX0_load, 3) 16 (by decide +kernel) rfl (by decide +kernel)
theorem kC_X2_bearing : Cond.code yX2_bearing cX2_bearing 5 (some .int) ∈ TT := t2 42 (by decide +kernel) (by decide +kernel)
theorem yJ_X2_bearing : Cond.instanceMethod yX2_bearing ∈ TT := t2 41 (by decide +kernel) (by decide +kernel)
theorem yY_X2_bearing : Cond.selects RX2 yX2_bearing yX2_bearing ∈ TT := t0 (yX2_bearing, 6) 17 (by decide +kernel) rfl (by decide +kernel)
theorem kC_X2_cells : Cond.code yX2_cells cX2_cells 1 (some .int) ∈ TT := t2 46 (by decide +kernel) (by decide +kernel)
theorem yJ_X2_cells : Cond.instanceMethod yX2_cells ∈ TT := t2 45 (by decide +kernel) (by decide +kernel)
theorem yY_X2_cells : Cond.selects RX2 yX2_cells yX2_cells ∈ TT := t0 (yX2_cells, 6) 18 (by decide +kernel) rfl (by decide +kernel)
theorem kC_X6_strength : Cond.code yX6_strength cX6_strength 2 (some .int) ∈ TT := t2 50 (by decide +kernel) (by decide +kernel)
theorem yJ_X6_strength : Cond.instanceMethod yX6_strength ∈ TT := t2 48 (by decide +kernel) (by decide +kernel)
theorem yY_X6_strength : Cond.selects RX6 yX6_strength yX6_strength ∈ TT := t2 49 (by decide +kernel) (by decide +kernel)
theorem kC_X2_has : Cond.code yX2_has cX2_has 2 (some .boolean) ∈ TT := t2 54 (by decide +kernel) (by decide +kernel)
theorem yJ_X2_has : Cond.instanceMethod yX2_has ∈ TT := t2 53 (by decide +kernel) (by decide +kernel)
theorem yY_X2_has : Cond.selects RX2 yX2_has yX2_has ∈ TT := t0 (yX2_has, 6) 19 (by decide +kernel) rfl (by decide +kernel)
theorem kC_X6_freeze : Cond.code yX6_freeze cX6_freeze 4 (some .int) ∈ TT := t2 59 (by decide +kernel) (by decide +kernel)
theorem yJ_X6_freeze : Cond.instanceMethod yX6_freeze ∈ TT := t2 57 (by decide +kernel) (by decide +kernel)
theorem yY_X6_freeze : Cond.selects RX6 yX6_freeze yX6_freeze ∈ TT := t2 58 (by decide +kernel) (by decide +kernel)
theorem kC_X6_frost : Cond.code yX6_frost cX6_frost 4 (some .int) ∈ TT := t2 63 (by decide +kernel) (by decide +kernel)
theorem yJ_X6_frost : Cond.instanceMethod yX6_frost ∈ TT := t2 61 (by decide +kernel) (by decide +kernel)
theorem yY_X6_frost : Cond.selects RX6 yX6_frost yX6_frost ∈ TT := t2 62 (by decide +kernel) (by decide +kernel)
theorem kC_X6_refusalOfWeather : Cond.code yX6_refusalOfWeather cX6_refusalOfWeather 2 (some .int) ∈ TT := t2 67 (by decide +kernel) (by decide +kernel)
theorem yJ_X6_refusalOfWeather : Cond.instanceMethod yX6_refusalOfWeather ∈ TT := t2 66 (by decide +kernel) (by decide +kernel)
theorem yY_X6_refusalOfWeather : Cond.selects RX6 yX6_refusalOfWeather yX6_refusalOfWeather ∈ TT := t0 (yX6_refusalOfWeather, 10) 20 (by decide +kernel) rfl (by decide +kernel)
theorem kC_X6_deed : Cond.code yX6_deed cX6_deed 10 (some .int) ∈ TT := t2 72 (by decide +kernel) (by decide +kernel)
theorem yJ_X6_deed : Cond.instanceMethod yX6_deed ∈ TT := t2 70 (by decide +kernel) (by decide +kernel)
theorem yY_X6_deed : Cond.selects RX6 yX6_deed yX6_deed ∈ TT := t2 71 (by decide +kernel) (by decide +kernel)
theorem kC_X6_isDeedKnown : Cond.code yX6_isDeedKnown cX6_isDeedKnown 5 (some .boolean) ∈ TT := t2 76 (by decide +kernel) (by decide +kernel)
theorem yJ_X6_isDeedKnown : Cond.instanceMethod yX6_isDeedKnown ∈ TT := t2 75 (by decide +kernel) (by decide +kernel)
theorem yY_X6_isDeedKnown : Cond.selects RX6 yX6_isDeedKnown yX6_isDeedKnown ∈ TT := t0 (yX6_isDeedKnown, 10) 21 (by decide +kernel) rfl (by decide +kernel)
theorem kC_X6_isPair : Cond.code yX6_isPair cX6_isPair 3 (some .boolean) ∈ TT := t2 80 (by decide +kernel) (by decide +kernel)
theorem yJ_X6_isPair : Cond.instanceMethod yX6_isPair ∈ TT := t2 79 (by decide +kernel) (by decide +kernel)
theorem yY_X6_isPair : Cond.selects RX6 yX6_isPair yX6_isPair ∈ TT := t0 (yX6_isPair, 10) 22 (by decide +kernel) rfl (by decide +kernel)
theorem kC_X6_tryDeed : Cond.code yX6_tryDeed cX6_tryDeed 11 (some .int) ∈ TT := t2 84 (by decide +kernel) (by decide +kernel)
theorem yJ_X6_tryDeed : Cond.instanceMethod yX6_tryDeed ∈ TT := t2 83 (by decide +kernel) (by decide +kernel)
theorem yY_X6_tryDeed : Cond.selects RX6 yX6_tryDeed yX6_tryDeed ∈ TT := t0 (yX6_tryDeed, 10) 23 (by decide +kernel) rfl (by decide +kernel)
theorem kC_X6_refusalOfPart : Cond.code yX6_refusalOfPart cX6_refusalOfPart 5 (some .int) ∈ TT := t2 87 (by decide +kernel) (by decide +kernel)
theorem yY_X6_refusalOfPart : Cond.static yX6_refusalOfPart ∈ TT := t2 86 (by decide +kernel) (by decide +kernel)
theorem kC_X1_begin : Cond.code yX1_begin cX1_begin 3 none ∈ TT := t2 91 (by decide +kernel) (by decide +kernel)
theorem yJ_X1_begin : Cond.instanceMethod yX1_begin ∈ TT := t2 90 (by decide +kernel) (by decide +kernel)
theorem yY_X1_begin : Cond.selects RX1 yX1_begin yX1_begin ∈ TT := t0 (yX1_begin, 4) 24 (by decide +kernel) rfl (by decide +kernel)
theorem kC_X1_stroke : Cond.code yX1_stroke cX1_stroke 6 none ∈ TT := t2 96 (by decide +kernel) (by decide +kernel)
theorem yJ_X1_stroke : Cond.instanceMethod yX1_stroke ∈ TT := t2 95 (by decide +kernel) (by decide +kernel)
theorem yY_X1_stroke : Cond.selects RX1 yX1_stroke yX1_stroke ∈ TT := t0 (yX1_stroke, 4) 25 (by decide +kernel) rfl (by decide +kernel)
theorem kC_X2_led : Cond.code yX2_led cX2_led 3 (some .int) ∈ TT := t2 100 (by decide +kernel) (by decide +kernel)
theorem yJ_X2_led : Cond.instanceMethod yX2_led ∈ TT := t2 99 (by decide +kernel) (by decide +kernel)
theorem yY_X2_led : Cond.selects RX2 yX2_led yX2_led ∈ TT := t0 (yX2_led, 6) 26 (by decide +kernel) rfl (by decide +kernel)
theorem kC_X6_isIn : Cond.code yX6_isIn cX6_isIn 2 (some .boolean) ∈ TT := t2 103 (by decide +kernel) (by decide +kernel)
theorem yY_X6_isIn : Cond.static yX6_isIn ∈ TT := t2 102 (by decide +kernel) (by decide +kernel)
theorem kC_X6_ofTrial : Cond.code yX6_ofTrial cX6_ofTrial 3 (some .int) ∈ TT := t2 107 (by decide +kernel) (by decide +kernel)
theorem yJ_X6_ofTrial : Cond.instanceMethod yX6_ofTrial ∈ TT := t2 106 (by decide +kernel) (by decide +kernel)
theorem yY_X6_ofTrial : Cond.selects RX6 yX6_ofTrial yX6_ofTrial ∈ TT := t0 (yX6_ofTrial, 10) 27 (by decide +kernel) rfl (by decide +kernel)
theorem kC_X6_write : Cond.code yX6_write cX6_write 9 (some .int) ∈ TT := t2 111 (by decide +kernel) (by decide +kernel)
theorem yJ_X6_write : Cond.instanceMethod yX6_write ∈ TT := t2 109 (by decide +kernel) (by decide +kernel)
theorem yY_X6_write : Cond.selects RX6 yX6_write yX6_write ∈ TT := t2 110 (by decide +kernel) (by decide +kernel)
theorem kC_X6_nights : Cond.code yX6_nights cX6_nights 3 (some .int) ∈ TT := t2 116 (by decide +kernel) (by decide +kernel)
theorem yJ_X6_nights : Cond.instanceMethod yX6_nights ∈ TT := t2 114 (by decide +kernel) (by decide +kernel)
theorem yY_X6_nights : Cond.selects RX6 yX6_nights yX6_nights ∈ TT := t2 115 (by decide +kernel) (by decide +kernel)
theorem kC_X2_strengthen : Cond.code yX2_strengthen cX2_strengthen 3 none ∈ TT := t2 120 (by decide +kernel) (by decide +kernel)
theorem yJ_X2_strengthen : Cond.instanceMethod yX2_strengthen ∈ TT := t2 119 (by decide +kernel) (by decide +kernel)
theorem yY_X2_strengthen : Cond.selects RX2 yX2_strengthen yX2_strengthen ∈ TT := t0 (yX2_strengthen, 6) 28 (by decide +kernel) rfl (by decide +kernel)
theorem kC_J9_min_7cf53 : Cond.code yJ9_min_7cf53 cJ9_min_7cf53 2 (some .int) ∈ TT := t2 123 (by decide +kernel) (by decide +kernel)
theorem yY_J9_min_7cf53 : Cond.static yJ9_min_7cf53 ∈ TT := t2 122 (by decide +kernel) (by decide +kernel)
theorem kC_J9_max_7cf53 : Cond.code yJ9_max_7cf53 cJ9_max_7cf53 2 (some .int) ∈ TT := t2 126 (by decide +kernel) (by decide +kernel)
theorem yY_J9_max_7cf53 : Cond.static yJ9_max_7cf53 ∈ TT := t2 125 (by decide +kernel) (by decide +kernel)
theorem kC_X2_count : Cond.code yX2_count cX2_count 4 (some .int) ∈ TT := t2 130 (by decide +kernel) (by decide +kernel)
theorem yJ_X2_count : Cond.instanceMethod yX2_count ∈ TT := t2 129 (by decide +kernel) (by decide +kernel)
theorem yY_X2_count : Cond.selects RX2 yX2_count yX2_count ∈ TT := t0 (yX2_count, 6) 29 (by decide +kernel) rfl (by decide +kernel)
theorem kC_X6_thaw : Cond.code yX6_thaw cX6_thaw 3 (some .int) ∈ TT := t2 134 (by decide +kernel) (by decide +kernel)
theorem yJ_X6_thaw : Cond.instanceMethod yX6_thaw ∈ TT := t2 132 (by decide +kernel) (by decide +kernel)
theorem yY_X6_thaw : Cond.selects RX6 yX6_thaw yX6_thaw ∈ TT := t2 133 (by decide +kernel) (by decide +kernel)
theorem kC_X6_bond : Cond.code yX6_bond cX6_bond 9 (some .int) ∈ TT := t2 138 (by decide +kernel) (by decide +kernel)
theorem yJ_X6_bond : Cond.instanceMethod yX6_bond ∈ TT := t2 136 (by decide +kernel) (by decide +kernel)
theorem yY_X6_bond : Cond.selects RX6 yX6_bond yX6_bond ∈ TT := t2 137 (by decide +kernel) (by decide +kernel)
theorem kC_X6_isBondKnown : Cond.code yX6_isBondKnown cX6_isBondKnown 5 (some .boolean) ∈ TT := t2 142 (by decide +kernel) (by decide +kernel)
theorem yJ_X6_isBondKnown : Cond.instanceMethod yX6_isBondKnown ∈ TT := t2 141 (by decide +kernel) (by decide +kernel)
theorem yY_X6_isBondKnown : Cond.selects RX6 yX6_isBondKnown yX6_isBondKnown ∈ TT := t0 (yX6_isBondKnown, 10) 30 (by decide +kernel) rfl (by decide +kernel)
theorem kC_X2_shortest : Cond.code yX2_shortest cX2_shortest 8 (some .int) ∈ TT := t2 146 (by decide +kernel) (by decide +kernel)
theorem yJ_X2_shortest : Cond.instanceMethod yX2_shortest ∈ TT := t2 145 (by decide +kernel) (by decide +kernel)
theorem yY_X2_shortest : Cond.selects RX2 yX2_shortest yX2_shortest ∈ TT := t0 (yX2_shortest, 6) 31 (by decide +kernel) rfl (by decide +kernel)
theorem kC_X2_nextTo : Cond.code yX2_nextTo cX2_nextTo 4 (some .int) ∈ TT := t2 150 (by decide +kernel) (by decide +kernel)
theorem yJ_X2_nextTo : Cond.instanceMethod yX2_nextTo ∈ TT := t2 149 (by decide +kernel) (by decide +kernel)
theorem yY_X2_nextTo : Cond.selects RX2 yX2_nextTo yX2_nextTo ∈ TT := t0 (yX2_nextTo, 6) 32 (by decide +kernel) rfl (by decide +kernel)
theorem kC_X2_all : Cond.code yX2_all cX2_all 1 (some .int) ∈ TT := t2 154 (by decide +kernel) (by decide +kernel)
theorem yJ_X2_all : Cond.instanceMethod yX2_all ∈ TT := t2 153 (by decide +kernel) (by decide +kernel)
theorem yY_X2_all : Cond.selects RX2 yX2_all yX2_all ∈ TT := t0 (yX2_all, 6) 33 (by decide +kernel) rfl (by decide +kernel)
theorem kC_X2_strokeOfBond : Cond.code yX2_strokeOfBond cX2_strokeOfBond 10 (some .int) ∈ TT := t2 158 (by decide +kernel) (by decide +kernel)
theorem yJ_X2_strokeOfBond : Cond.instanceMethod yX2_strokeOfBond ∈ TT := t2 157 (by decide +kernel) (by decide +kernel)
theorem yY_X2_strokeOfBond : Cond.selects RX2 yX2_strokeOfBond yX2_strokeOfBond ∈ TT := t0 (yX2_strokeOfBond, 6) 34 (by decide +kernel) rfl (by decide +kernel)
theorem kC_X2_beginOfBond : Cond.code yX2_beginOfBond cX2_beginOfBond 8 (some .int) ∈ TT := t2 162 (by decide +kernel) (by decide +kernel)
theorem yJ_X2_beginOfBond : Cond.instanceMethod yX2_beginOfBond ∈ TT := t2 161 (by decide +kernel) (by decide +kernel)
theorem yY_X2_beginOfBond : Cond.selects RX2 yX2_beginOfBond yX2_beginOfBond ∈ TT := t0 (yX2_beginOfBond, 6) 35 (by decide +kernel) rfl (by decide +kernel)
theorem kC_X6_holds : Cond.code yX6_holds cX6_holds 8 (some .int) ∈ TT := t2 168 (by decide +kernel) (by decide +kernel)
theorem yJ_X6_holds : Cond.instanceMethod yX6_holds ∈ TT := t2 166 (by decide +kernel) (by decide +kernel)
theorem yY_X6_holds : Cond.selects RX6 yX6_holds yX6_holds ∈ TT := t2 167 (by decide +kernel) (by decide +kernel)
theorem kC_X6_alone : Cond.code yX6_alone cX6_alone 3 (some .int) ∈ TT := t2 172 (by decide +kernel) (by decide +kernel)
theorem yJ_X6_alone : Cond.instanceMethod yX6_alone ∈ TT := t2 170 (by decide +kernel) (by decide +kernel)
theorem yY_X6_alone : Cond.selects RX6 yX6_alone yX6_alone ∈ TT := t2 171 (by decide +kernel) (by decide +kernel)
theorem kC_X2_reach : Cond.code yX2_reach cX2_reach 5 (some .int) ∈ TT := t2 176 (by decide +kernel) (by decide +kernel)
theorem yJ_X2_reach : Cond.instanceMethod yX2_reach ∈ TT := t2 175 (by decide +kernel) (by decide +kernel)
theorem yY_X2_reach : Cond.selects RX2 yX2_reach yX2_reach ∈ TT := t0 (yX2_reach, 6) 36 (by decide +kernel) rfl (by decide +kernel)
theorem kC_X6_neck : Cond.code yX6_neck cX6_neck 6 (some .int) ∈ TT := t2 180 (by decide +kernel) (by decide +kernel)
theorem yJ_X6_neck : Cond.instanceMethod yX6_neck ∈ TT := t2 178 (by decide +kernel) (by decide +kernel)
theorem yY_X6_neck : Cond.selects RX6 yX6_neck yX6_neck ∈ TT := t2 179 (by decide +kernel) (by decide +kernel)
theorem kC_X6_isBond : Cond.code yX6_isBond cX6_isBond 8 (some .boolean) ∈ TT := t2 184 (by decide +kernel) (by decide +kernel)
theorem yJ_X6_isBond : Cond.instanceMethod yX6_isBond ∈ TT := t2 183 (by decide +kernel) (by decide +kernel)
theorem yY_X6_isBond : Cond.selects RX6 yX6_isBond yX6_isBond ∈ TT := t0 (yX6_isBond, 10) 37 (by decide +kernel) rfl (by decide +kernel)
theorem kC_X6_reading : Cond.code yX6_reading cX6_reading 4 (some .int) ∈ TT := t2 188 (by decide +kernel) (by decide +kernel)
theorem yJ_X6_reading : Cond.instanceMethod yX6_reading ∈ TT := t2 186 (by decide +kernel) (by decide +kernel)
theorem yY_X6_reading : Cond.selects RX6 yX6_reading yX6_reading ∈ TT := t2 187 (by decide +kernel) (by decide +kernel)
theorem kC_X3_add : Cond.code yX3_add cX3_add 4 (some .int) ∈ TT := t2 192 (by decide +kernel) (by decide +kernel)
theorem yJ_X3_add : Cond.instanceMethod yX3_add ∈ TT := t2 191 (by decide +kernel) (by decide +kernel)
theorem yY_X3_add : Cond.selects RX3 yX3_add yX3_add ∈ TT := t0 (yX3_add, 4) 38 (by decide +kernel) rfl (by decide +kernel)
theorem kC_X6_back : Cond.code yX6_back cX6_back 2 (some .int) ∈ TT := t2 196 (by decide +kernel) (by decide +kernel)
theorem yJ_X6_back : Cond.instanceMethod yX6_back ∈ TT := t2 194 (by decide +kernel) (by decide +kernel)
theorem yY_X6_back : Cond.selects RX6 yX6_back yX6_back ∈ TT := t2 195 (by decide +kernel) (by decide +kernel)
theorem kC_X6_weights : Cond.code yX6_weights cX6_weights 5 (some .int) ∈ TT := t2 200 (by decide +kernel) (by decide +kernel)
theorem yJ_X6_weights : Cond.instanceMethod yX6_weights ∈ TT := t2 198 (by decide +kernel) (by decide +kernel)
theorem yY_X6_weights : Cond.selects RX6 yX6_weights yX6_weights ∈ TT := t2 199 (by decide +kernel) (by decide +kernel)
theorem kC_X3_areSo : Cond.code yX3_areSo cX3_areSo 5 (some .boolean) ∈ TT := t2 204 (by decide +kernel) (by decide +kernel)
theorem yJ_X3_areSo : Cond.instanceMethod yX3_areSo ∈ TT := t2 203 (by decide +kernel) (by decide +kernel)
theorem yY_X3_areSo : Cond.selects RX3 yX3_areSo yX3_areSo ∈ TT := t0 (yX3_areSo, 4) 39 (by decide +kernel) rfl (by decide +kernel)
theorem kC_X6_kinds : Cond.code yX6_kinds cX6_kinds 5 (some .int) ∈ TT := t2 209 (by decide +kernel) (by decide +kernel)
theorem yJ_X6_kinds : Cond.instanceMethod yX6_kinds ∈ TT := t2 207 (by decide +kernel) (by decide +kernel)
theorem yY_X6_kinds : Cond.selects RX6 yX6_kinds yX6_kinds ∈ TT := t2 208 (by decide +kernel) (by decide +kernel)
theorem kC_X6_strengths : Cond.code yX6_strengths cX6_strengths 5 (some .int) ∈ TT := t2 213 (by decide +kernel) (by decide +kernel)
theorem yJ_X6_strengths : Cond.instanceMethod yX6_strengths ∈ TT := t2 211 (by decide +kernel) (by decide +kernel)
theorem yY_X6_strengths : Cond.selects RX6 yX6_strengths yX6_strengths ∈ TT := t2 212 (by decide +kernel) (by decide +kernel)
theorem kC_X6_odds : Cond.code yX6_odds cX6_odds 11 (some .long) ∈ TT := t2 217 (by decide +kernel) (by decide +kernel)
theorem yJ_X6_odds : Cond.instanceMethod yX6_odds ∈ TT := t2 215 (by decide +kernel) (by decide +kernel)
theorem yY_X6_odds : Cond.selects RX6 yX6_odds yX6_odds ∈ TT := t2 216 (by decide +kernel) (by decide +kernel)
theorem kC_J6_bitCount_0f7a4 : Cond.code yJ6_bitCount_0f7a4 cJ6_bitCount_0f7a4 1 (some .int) ∈ TT := t2 222 (by decide +kernel) (by decide +kernel)
theorem yY_J6_bitCount_0f7a4 : Cond.static yJ6_bitCount_0f7a4 ∈ TT := t2 221 (by decide +kernel) (by decide +kernel)
theorem kC_X6_bondsAsBreaking : Cond.code yX6_bondsAsBreaking cX6_bondsAsBreaking 9 (some .int) ∈ TT := t2 229 (by decide +kernel) (by decide +kernel)
theorem yJ_X6_bondsAsBreaking : Cond.instanceMethod yX6_bondsAsBreaking ∈ TT := t2 228 (by decide +kernel) (by decide +kernel)
theorem yY_X6_bondsAsBreaking : Cond.selects RX6 yX6_bondsAsBreaking yX6_bondsAsBreaking ∈ TT := t0 (yX6_bondsAsBreaking, 10) 40 (by decide +kernel) rfl (by decide +kernel)
theorem kC_X6_sheet : Cond.code yX6_sheet cX6_sheet 4 (some .int) ∈ TT := t2 233 (by decide +kernel) (by decide +kernel)
theorem yJ_X6_sheet : Cond.instanceMethod yX6_sheet ∈ TT := t2 231 (by decide +kernel) (by decide +kernel)
theorem yY_X6_sheet : Cond.selects RX6 yX6_sheet yX6_sheet ∈ TT := t2 232 (by decide +kernel) (by decide +kernel)
theorem kC_X6_newRow : Cond.code yX6_newRow cX6_newRow 5 (some .int) ∈ TT := t2 237 (by decide +kernel) (by decide +kernel)
theorem yJ_X6_newRow : Cond.instanceMethod yX6_newRow ∈ TT := t2 236 (by decide +kernel) (by decide +kernel)
theorem yY_X6_newRow : Cond.selects RX6 yX6_newRow yX6_newRow ∈ TT := t0 (yX6_newRow, 10) 41 (by decide +kernel) rfl (by decide +kernel)
theorem kC_X4_begin : Cond.code yX4_begin cX4_begin 3 none ∈ TT := t3 1 (by decide +kernel) (by decide +kernel)
theorem yJ_X4_begin : Cond.instanceMethod yX4_begin ∈ TT := t3 0 (by decide +kernel) (by decide +kernel)
theorem yY_X4_begin : Cond.selects RX4 yX4_begin yX4_begin ∈ TT := t0 (yX4_begin, 3) 42 (by decide +kernel) rfl (by decide +kernel)
theorem kC_J7_fill_53178 : Cond.code yJ7_fill_53178 cJ7_fill_53178 4 none ∈ TT := t3 4 (by decide +kernel) (by decide +kernel)
theorem yY_J7_fill_53178 : Cond.static yJ7_fill_53178 ∈ TT := t3 3 (by decide +kernel) (by decide +kernel)
theorem kC_X6_lose : Cond.code yX6_lose cX6_lose 4 (some .int) ∈ TT := t3 8 (by decide +kernel) (by decide +kernel)
theorem yJ_X6_lose : Cond.instanceMethod yX6_lose ∈ TT := t3 6 (by decide +kernel) (by decide +kernel)
theorem yY_X6_lose : Cond.selects RX6 yX6_lose yX6_lose ∈ TT := t3 7 (by decide +kernel) (by decide +kernel)
theorem kC_X4_clear : Cond.code yX4_clear cX4_clear 1 none ∈ TT := t3 12 (by decide +kernel) (by decide +kernel)
theorem yJ_X4_clear : Cond.instanceMethod yX4_clear ∈ TT := t3 11 (by decide +kernel) (by decide +kernel)
theorem yY_X4_clear : Cond.selects RX4 yX4_clear yX4_clear ∈ TT := t0 (yX4_clear, 3) 43 (by decide +kernel) rfl (by decide +kernel)
theorem kC_X6_put : Cond.code yX6_put cX6_put 4 (some .int) ∈ TT := t3 16 (by decide +kernel) (by decide +kernel)
theorem yJ_X6_put : Cond.instanceMethod yX6_put ∈ TT := t3 14 (by decide +kernel) (by decide +kernel)
theorem yY_X6_put : Cond.selects RX6 yX6_put yX6_put ∈ TT := t3 15 (by decide +kernel) (by decide +kernel)
theorem kC_X6_putNumber : Cond.code yX6_putNumber cX6_putNumber 5 (some .int) ∈ TT := t3 20 (by decide +kernel) (by decide +kernel)
theorem yJ_X6_putNumber : Cond.instanceMethod yX6_putNumber ∈ TT := t3 19 (by decide +kernel) (by decide +kernel)
theorem yY_X6_putNumber : Cond.selects RX6 yX6_putNumber yX6_putNumber ∈ TT := t0 (yX6_putNumber, 10) 44 (by decide +kernel) rfl (by decide +kernel)
theorem kC_X4_set : Cond.code yX4_set cX4_set 3 none ∈ TT := t3 24 (by decide +kernel) (by decide +kernel)
theorem yJ_X4_set : Cond.instanceMethod yX4_set ∈ TT := t3 23 (by decide +kernel) (by decide +kernel)
theorem yY_X4_set : Cond.selects RX4 yX4_set yX4_set ∈ TT := t0 (yX4_set, 3) 45 (by decide +kernel) rfl (by decide +kernel)
theorem kC_X6_cell : Cond.code yX6_cell cX6_cell 6 (some .long) ∈ TT := t3 28 (by decide +kernel) (by decide +kernel)
theorem yJ_X6_cell : Cond.instanceMethod yX6_cell ∈ TT := t3 26 (by decide +kernel) (by decide +kernel)
theorem yY_X6_cell : Cond.selects RX6 yX6_cell yX6_cell ∈ TT := t3 27 (by decide +kernel) (by decide +kernel)
theorem kC_X6_copy : Cond.code yX6_copy cX6_copy 6 (some .int) ∈ TT := t3 32 (by decide +kernel) (by decide +kernel)
theorem yJ_X6_copy : Cond.instanceMethod yX6_copy ∈ TT := t3 30 (by decide +kernel) (by decide +kernel)
theorem yY_X6_copy : Cond.selects RX6 yX6_copy yX6_copy ∈ TT := t3 31 (by decide +kernel) (by decide +kernel)
theorem kC_X6_copyNumbers : Cond.code yX6_copyNumbers cX6_copyNumbers 8 (some .int) ∈ TT := t3 36 (by decide +kernel) (by decide +kernel)
theorem yJ_X6_copyNumbers : Cond.instanceMethod yX6_copyNumbers ∈ TT := t3 35 (by decide +kernel) (by decide +kernel)
theorem yY_X6_copyNumbers : Cond.selects RX6 yX6_copyNumbers yX6_copyNumbers ∈ TT := t0 (yX6_copyNumbers, 10) 46 (by decide +kernel) rfl (by decide +kernel)
theorem kC_X6_tell : Cond.code yX6_tell cX6_tell 3 (some .int) ∈ TT := t3 40 (by decide +kernel) (by decide +kernel)
theorem yJ_X6_tell : Cond.instanceMethod yX6_tell ∈ TT := t3 38 (by decide +kernel) (by decide +kernel)
theorem yY_X6_tell : Cond.selects RX6 yX6_tell yX6_tell ∈ TT := t3 39 (by decide +kernel) (by decide +kernel)
theorem kC_X6_bankerGives : Cond.code yX6_bankerGives cX6_bankerGives 3 (some .int) ∈ TT := t3 44 (by decide +kernel) (by decide +kernel)
theorem yJ_X6_bankerGives : Cond.instanceMethod yX6_bankerGives ∈ TT := t3 43 (by decide +kernel) (by decide +kernel)
theorem yY_X6_bankerGives : Cond.selects RX6 yX6_bankerGives yX6_bankerGives ∈ TT := t0 (yX6_bankerGives, 10) 47 (by decide +kernel) rfl (by decide +kernel)
theorem kC_X6_leave : Cond.code yX6_leave cX6_leave 2 none ∈ TT := t3 48 (by decide +kernel) (by decide +kernel)
theorem yJ_X6_leave : Cond.instanceMethod yX6_leave ∈ TT := t3 47 (by decide +kernel) (by decide +kernel)
theorem yY_X6_leave : Cond.selects RX6 yX6_leave yX6_leave ∈ TT := t0 (yX6_leave, 10) 48 (by decide +kernel) rfl (by decide +kernel)
theorem kC_X6_clerkGives : Cond.code yX6_clerkGives cX6_clerkGives 2 (some .int) ∈ TT := t3 52 (by decide +kernel) (by decide +kernel)
theorem yJ_X6_clerkGives : Cond.instanceMethod yX6_clerkGives ∈ TT := t3 51 (by decide +kernel) (by decide +kernel)
theorem yY_X6_clerkGives : Cond.selects RX6 yX6_clerkGives yX6_clerkGives ∈ TT := t0 (yX6_clerkGives, 10) 49 (by decide +kernel) rfl (by decide +kernel)
theorem kC_X6_skaterGives : Cond.code yX6_skaterGives cX6_skaterGives 2 (some .int) ∈ TT := t3 56 (by decide +kernel) (by decide +kernel)
theorem yJ_X6_skaterGives : Cond.instanceMethod yX6_skaterGives ∈ TT := t3 55 (by decide +kernel) (by decide +kernel)
theorem yY_X6_skaterGives : Cond.selects RX6 yX6_skaterGives yX6_skaterGives ∈ TT := t0 (yX6_skaterGives, 10) 50 (by decide +kernel) rfl (by decide +kernel)
theorem kC_X6_signed : Cond.code yX6_signed cX6_signed 2 (some .int) ∈ TT := t3 60 (by decide +kernel) (by decide +kernel)
theorem yJ_X6_signed : Cond.instanceMethod yX6_signed ∈ TT := t3 58 (by decide +kernel) (by decide +kernel)
theorem yY_X6_signed : Cond.selects RX6 yX6_signed yX6_signed ∈ TT := t3 59 (by decide +kernel) (by decide +kernel)
theorem kC_X6_as : Cond.code yX6_as cX6_as 3 (some .int) ∈ TT := t3 64 (by decide +kernel) (by decide +kernel)
theorem yJ_X6_as : Cond.instanceMethod yX6_as ∈ TT := t3 62 (by decide +kernel) (by decide +kernel)
theorem yY_X6_as : Cond.selects RX6 yX6_as yX6_as ∈ TT := t3 63 (by decide +kernel) (by decide +kernel)
theorem kC_X6_takeAs : Cond.code yX6_takeAs cX6_takeAs 3 (some .int) ∈ TT := t3 68 (by decide +kernel) (by decide +kernel)
theorem yJ_X6_takeAs : Cond.instanceMethod yX6_takeAs ∈ TT := t3 67 (by decide +kernel) (by decide +kernel)
theorem yY_X6_takeAs : Cond.selects RX6 yX6_takeAs yX6_takeAs ∈ TT := t0 (yX6_takeAs, 10) 51 (by decide +kernel) rfl (by decide +kernel)
theorem kC_X6_trace : Cond.code yX6_trace cX6_trace 1 (some .int) ∈ TT := t3 72 (by decide +kernel) (by decide +kernel)
theorem yJ_X6_trace : Cond.instanceMethod yX6_trace ∈ TT := t3 70 (by decide +kernel) (by decide +kernel)
theorem yY_X6_trace : Cond.selects RX6 yX6_trace yX6_trace ∈ TT := t3 71 (by decide +kernel) (by decide +kernel)
theorem kC_X6_fault : Cond.code yX6_fault cX6_fault 1 (some .int) ∈ TT := t3 76 (by decide +kernel) (by decide +kernel)
theorem yJ_X6_fault : Cond.instanceMethod yX6_fault ∈ TT := t3 74 (by decide +kernel) (by decide +kernel)
theorem yY_X6_fault : Cond.selects RX6 yX6_fault yX6_fault ∈ TT := t3 75 (by decide +kernel) (by decide +kernel)
theorem kC_X6_many : Cond.code yX6_many cX6_many 2 (some .int) ∈ TT := t3 80 (by decide +kernel) (by decide +kernel)
theorem yJ_X6_many : Cond.instanceMethod yX6_many ∈ TT := t3 78 (by decide +kernel) (by decide +kernel)
theorem yY_X6_many : Cond.selects RX6 yX6_many yX6_many ∈ TT := t3 79 (by decide +kernel) (by decide +kernel)
theorem kC_X7_init : Cond.code yX7_init cX7_init 2 none ∈ TT := t3 85 (by decide +kernel) (by decide +kernel)
theorem yJ_X7_init : Cond.instanceMethod yX7_init ∈ TT := t3 84 (by decide +kernel) (by decide +kernel)
theorem kC_X7_canal : Cond.code yX7_canal cX7_canal 7 (some .int) ∈ TT := t3 187 (by decide +kernel) (by decide +kernel)
theorem yJ_X7_canal : Cond.instanceMethod yX7_canal ∈ TT := t3 185 (by decide +kernel) (by decide +kernel)
theorem yY_X7_canal : Cond.selects RX7 yX7_canal yX7_canal ∈ TT := t3 186 (by decide +kernel) (by decide +kernel)
theorem kC_X7_noSheet : Cond.code yX7_noSheet cX7_noSheet 1 (some .boolean) ∈ TT := t3 190 (by decide +kernel) (by decide +kernel)
theorem yY_X7_noSheet : Cond.static yX7_noSheet ∈ TT := t3 189 (by decide +kernel) (by decide +kernel)
theorem kC_X7_in : Cond.code yX7_in cX7_in 6 (some .boolean) ∈ TT := t3 194 (by decide +kernel) (by decide +kernel)
theorem yY_X7_in : Cond.static yX7_in ∈ TT := t3 193 (by decide +kernel) (by decide +kernel)
theorem kC_X7_refused : Cond.code yX7_refused cX7_refused 2 (some .int) ∈ TT := t3 198 (by decide +kernel) (by decide +kernel)
theorem yJ_X7_refused : Cond.instanceMethod yX7_refused ∈ TT := t3 197 (by decide +kernel) (by decide +kernel)
theorem yY_X7_refused : Cond.selects RX7 yX7_refused yX7_refused ∈ TT := t0 (yX7_refused, 32) 52 (by decide +kernel) rfl (by decide +kernel)
theorem kC_X7_cellsBarred : Cond.code yX7_cellsBarred cX7_cellsBarred 6 (some .int) ∈ TT := t3 203 (by decide +kernel) (by decide +kernel)
theorem yJ_X7_cellsBarred : Cond.instanceMethod yX7_cellsBarred ∈ TT := t3 202 (by decide +kernel) (by decide +kernel)
theorem yY_X7_cellsBarred : Cond.selects RX7 yX7_cellsBarred yX7_cellsBarred ∈ TT := t0 (yX7_cellsBarred, 32) 53 (by decide +kernel) rfl (by decide +kernel)
theorem kC_X7_failed : Cond.code yX7_failed cX7_failed 2 (some .int) ∈ TT := t3 207 (by decide +kernel) (by decide +kernel)
theorem yJ_X7_failed : Cond.instanceMethod yX7_failed ∈ TT := t3 206 (by decide +kernel) (by decide +kernel)
theorem yY_X7_failed : Cond.selects RX7 yX7_failed yX7_failed ∈ TT := t0 (yX7_failed, 32) 54 (by decide +kernel) rfl (by decide +kernel)
theorem kC_X7_isBeyond : Cond.code yX7_isBeyond cX7_isBeyond 4 (some .boolean) ∈ TT := t3 210 (by decide +kernel) (by decide +kernel)
theorem yY_X7_isBeyond : Cond.static yX7_isBeyond ∈ TT := t3 209 (by decide +kernel) (by decide +kernel)
theorem kC_X7_readsCanal : Cond.code yX7_readsCanal cX7_readsCanal 5 (some .boolean) ∈ TT := t3 214 (by decide +kernel) (by decide +kernel)
theorem yJ_X7_readsCanal : Cond.instanceMethod yX7_readsCanal ∈ TT := t3 213 (by decide +kernel) (by decide +kernel)
theorem yY_X7_readsCanal : Cond.selects RX7 yX7_readsCanal yX7_readsCanal ∈ TT := t0 (yX7_readsCanal, 32) 55 (by decide +kernel) rfl (by decide +kernel)
theorem kC_X7_codeAt : Cond.code yX7_codeAt cX7_codeAt 3 (some .int) ∈ TT := t3 218 (by decide +kernel) (by decide +kernel)
theorem yJ_X7_codeAt : Cond.instanceMethod yX7_codeAt ∈ TT := t3 217 (by decide +kernel) (by decide +kernel)
theorem yY_X7_codeAt : Cond.selects RX7 yX7_codeAt yX7_codeAt ∈ TT := t0 (yX7_codeAt, 32) 56 (by decide +kernel) rfl (by decide +kernel)
theorem kC_X7_figure : Cond.code yX7_figure cX7_figure 7 (some .int) ∈ TT := t3 222 (by decide +kernel) (by decide +kernel)
theorem yJ_X7_figure : Cond.instanceMethod yX7_figure ∈ TT := t3 221 (by decide +kernel) (by decide +kernel)
theorem yY_X7_figure : Cond.selects RX7 yX7_figure yX7_figure ∈ TT := t0 (yX7_figure, 32) 57 (by decide +kernel) rfl (by decide +kernel)
theorem kC_X7_readsPlace : Cond.code yX7_readsPlace cX7_readsPlace 4 (some .boolean) ∈ TT := t3 226 (by decide +kernel) (by decide +kernel)
theorem yJ_X7_readsPlace : Cond.instanceMethod yX7_readsPlace ∈ TT := t3 225 (by decide +kernel) (by decide +kernel)
theorem yY_X7_readsPlace : Cond.selects RX7 yX7_readsPlace yX7_readsPlace ∈ TT := t0 (yX7_readsPlace, 32) 58 (by decide +kernel) rfl (by decide +kernel)
theorem kC_X7_readsSkater : Cond.code yX7_readsSkater cX7_readsSkater 5 (some .boolean) ∈ TT := t3 230 (by decide +kernel) (by decide +kernel)
theorem yJ_X7_readsSkater : Cond.instanceMethod yX7_readsSkater ∈ TT := t3 229 (by decide +kernel) (by decide +kernel)
theorem yY_X7_readsSkater : Cond.selects RX7 yX7_readsSkater yX7_readsSkater ∈ TT := t0 (yX7_readsSkater, 32) 59 (by decide +kernel) rfl (by decide +kernel)
theorem kC_X7_cells : Cond.code yX7_cells cX7_cells 1 (some .int) ∈ TT := t3 234 (by decide +kernel) (by decide +kernel)
theorem yJ_X7_cells : Cond.instanceMethod yX7_cells ∈ TT := t3 233 (by decide +kernel) (by decide +kernel)
theorem yY_X7_cells : Cond.selects RX7 yX7_cells yX7_cells ∈ TT := t0 (yX7_cells, 32) 60 (by decide +kernel) rfl (by decide +kernel)
theorem kC_X7_ofSkater : Cond.code yX7_ofSkater cX7_ofSkater 3 (some .int) ∈ TT := t3 238 (by decide +kernel) (by decide +kernel)
theorem yJ_X7_ofSkater : Cond.instanceMethod yX7_ofSkater ∈ TT := t3 236 (by decide +kernel) (by decide +kernel)
theorem yY_X7_ofSkater : Cond.selects RX7 yX7_ofSkater yX7_ofSkater ∈ TT := t3 237 (by decide +kernel) (by decide +kernel)
theorem kC_X7_noSkater : Cond.code yX7_noSkater cX7_noSkater 2 (some .boolean) ∈ TT := t4 2 (by decide +kernel) (by decide +kernel)
theorem yJ_X7_noSkater : Cond.instanceMethod yX7_noSkater ∈ TT := t4 1 (by decide +kernel) (by decide +kernel)
theorem yY_X7_noSkater : Cond.selects RX7 yX7_noSkater yX7_noSkater ∈ TT := t0 (yX7_noSkater, 32) 61 (by decide +kernel) rfl (by decide +kernel)
theorem kC_X7_loadOf : Cond.code yX7_loadOf cX7_loadOf 3 (some .int) ∈ TT := t4 6 (by decide +kernel) (by decide +kernel)
theorem yJ_X7_loadOf : Cond.instanceMethod yX7_loadOf ∈ TT := t4 5 (by decide +kernel) (by decide +kernel)
theorem yY_X7_loadOf : Cond.selects RX7 yX7_loadOf yX7_loadOf ∈ TT := t0 (yX7_loadOf, 32) 62 (by decide +kernel) rfl (by decide +kernel)
theorem kC_X7_bearingOf : Cond.code yX7_bearingOf cX7_bearingOf 4 (some .int) ∈ TT := t4 10 (by decide +kernel) (by decide +kernel)
theorem yJ_X7_bearingOf : Cond.instanceMethod yX7_bearingOf ∈ TT := t4 9 (by decide +kernel) (by decide +kernel)
theorem yY_X7_bearingOf : Cond.selects RX7 yX7_bearingOf yX7_bearingOf ∈ TT := t0 (yX7_bearingOf, 32) 63 (by decide +kernel) rfl (by decide +kernel)
theorem kC_X7_bears : Cond.code yX7_bears cX7_bears 4 (some .boolean) ∈ TT := t4 14 (by decide +kernel) (by decide +kernel)
theorem yJ_X7_bears : Cond.instanceMethod yX7_bears ∈ TT := t4 13 (by decide +kernel) (by decide +kernel)
theorem yY_X7_bears : Cond.selects RX7 yX7_bears yX7_bears ∈ TT := t0 (yX7_bears, 32) 64 (by decide +kernel) rfl (by decide +kernel)
theorem kC_X7_isIn : Cond.code yX7_isIn cX7_isIn 2 (some .boolean) ∈ TT := t4 17 (by decide +kernel) (by decide +kernel)
theorem yY_X7_isIn : Cond.static yX7_isIn ∈ TT := t4 16 (by decide +kernel) (by decide +kernel)
theorem kC_X7_strength : Cond.code yX7_strength cX7_strength 2 (some .int) ∈ TT := t4 21 (by decide +kernel) (by decide +kernel)
theorem yJ_X7_strength : Cond.instanceMethod yX7_strength ∈ TT := t4 19 (by decide +kernel) (by decide +kernel)
theorem yY_X7_strength : Cond.selects RX7 yX7_strength yX7_strength ∈ TT := t4 20 (by decide +kernel) (by decide +kernel)
theorem kC_X7_noPlace : Cond.code yX7_noPlace cX7_noPlace 2 (some .boolean) ∈ TT := t4 25 (by decide +kernel) (by decide +kernel)
theorem yJ_X7_noPlace : Cond.instanceMethod yX7_noPlace ∈ TT := t4 24 (by decide +kernel) (by decide +kernel)
theorem yY_X7_noPlace : Cond.selects RX7 yX7_noPlace yX7_noPlace ∈ TT := t0 (yX7_noPlace, 32) 65 (by decide +kernel) rfl (by decide +kernel)
theorem kC_X7_freeze : Cond.code yX7_freeze cX7_freeze 4 (some .int) ∈ TT := t4 29 (by decide +kernel) (by decide +kernel)
theorem yJ_X7_freeze : Cond.instanceMethod yX7_freeze ∈ TT := t4 27 (by decide +kernel) (by decide +kernel)
theorem yY_X7_freeze : Cond.selects RX7 yX7_freeze yX7_freeze ∈ TT := t4 28 (by decide +kernel) (by decide +kernel)
theorem kC_X7_frost : Cond.code yX7_frost cX7_frost 3 (some .int) ∈ TT := t4 34 (by decide +kernel) (by decide +kernel)
theorem yJ_X7_frost : Cond.instanceMethod yX7_frost ∈ TT := t4 32 (by decide +kernel) (by decide +kernel)
theorem yY_X7_frost : Cond.selects RX7 yX7_frost yX7_frost ∈ TT := t4 33 (by decide +kernel) (by decide +kernel)
theorem kC_X7_deed : Cond.code yX7_deed cX7_deed 11 (some .int) ∈ TT := t4 38 (by decide +kernel) (by decide +kernel)
theorem yJ_X7_deed : Cond.instanceMethod yX7_deed ∈ TT := t4 36 (by decide +kernel) (by decide +kernel)
theorem yY_X7_deed : Cond.selects RX7 yX7_deed yX7_deed ∈ TT := t4 37 (by decide +kernel) (by decide +kernel)
theorem kC_X7_noTwo : Cond.code yX7_noTwo cX7_noTwo 3 (some .boolean) ∈ TT := t4 42 (by decide +kernel) (by decide +kernel)
theorem yJ_X7_noTwo : Cond.instanceMethod yX7_noTwo ∈ TT := t4 41 (by decide +kernel) (by decide +kernel)
theorem yY_X7_noTwo : Cond.selects RX7 yX7_noTwo yX7_noTwo ∈ TT := t0 (yX7_noTwo, 32) 66 (by decide +kernel) rfl (by decide +kernel)
theorem kC_X7_strokesBarred : Cond.code yX7_strokesBarred cX7_strokesBarred 7 (some .int) ∈ TT := t4 48 (by decide +kernel) (by decide +kernel)
theorem yJ_X7_strokesBarred : Cond.instanceMethod yX7_strokesBarred ∈ TT := t4 47 (by decide +kernel) (by decide +kernel)
theorem yY_X7_strokesBarred : Cond.selects RX7 yX7_strokesBarred yX7_strokesBarred ∈ TT := t0 (yX7_strokesBarred, 32) 67 (by decide +kernel) rfl (by decide +kernel)
theorem kC_X7_keep : Cond.code yX7_keep cX7_keep 2 none ∈ TT := t4 52 (by decide +kernel) (by decide +kernel)
theorem yJ_X7_keep : Cond.instanceMethod yX7_keep ∈ TT := t4 51 (by decide +kernel) (by decide +kernel)
theorem yY_X7_keep : Cond.selects RX7 yX7_keep yX7_keep ∈ TT := t0 (yX7_keep, 32) 68 (by decide +kernel) rfl (by decide +kernel)
theorem kC_X7_goDeed : Cond.code yX7_goDeed cX7_goDeed 8 none ∈ TT := t4 56 (by decide +kernel) (by decide +kernel)
theorem yJ_X7_goDeed : Cond.instanceMethod yX7_goDeed ∈ TT := t4 55 (by decide +kernel) (by decide +kernel)
theorem yY_X7_goDeed : Cond.selects RX7 yX7_goDeed yX7_goDeed ∈ TT := t0 (yX7_goDeed, 32) 69 (by decide +kernel) rfl (by decide +kernel)
theorem kC_X7_beside : Cond.code yX7_beside cX7_beside 5 (some .int) ∈ TT := t4 60 (by decide +kernel) (by decide +kernel)
theorem yJ_X7_beside : Cond.instanceMethod yX7_beside ∈ TT := t4 59 (by decide +kernel) (by decide +kernel)
theorem yY_X7_beside : Cond.selects RX7 yX7_beside yX7_beside ∈ TT := t0 (yX7_beside, 32) 70 (by decide +kernel) rfl (by decide +kernel)
theorem kC_X7_putBack : Cond.code yX7_putBack cX7_putBack 2 none ∈ TT := t4 64 (by decide +kernel) (by decide +kernel)
theorem yJ_X7_putBack : Cond.instanceMethod yX7_putBack ∈ TT := t4 63 (by decide +kernel) (by decide +kernel)
theorem yY_X7_putBack : Cond.selects RX7 yX7_putBack yX7_putBack ∈ TT := t0 (yX7_putBack, 32) 71 (by decide +kernel) rfl (by decide +kernel)
theorem kC_X7_write : Cond.code yX7_write cX7_write 9 (some .int) ∈ TT := t4 68 (by decide +kernel) (by decide +kernel)
theorem yJ_X7_write : Cond.instanceMethod yX7_write ∈ TT := t4 66 (by decide +kernel) (by decide +kernel)
theorem yY_X7_write : Cond.selects RX7 yX7_write yX7_write ∈ TT := t4 67 (by decide +kernel) (by decide +kernel)
theorem kC_X7_nights : Cond.code yX7_nights cX7_nights 4 (some .int) ∈ TT := t4 72 (by decide +kernel) (by decide +kernel)
theorem yJ_X7_nights : Cond.instanceMethod yX7_nights ∈ TT := t4 70 (by decide +kernel) (by decide +kernel)
theorem yY_X7_nights : Cond.selects RX7 yX7_nights yX7_nights ∈ TT := t4 71 (by decide +kernel) (by decide +kernel)
theorem kC_X7_countOf : Cond.code yX7_countOf cX7_countOf 4 (some .int) ∈ TT := t4 76 (by decide +kernel) (by decide +kernel)
theorem yJ_X7_countOf : Cond.instanceMethod yX7_countOf ∈ TT := t4 75 (by decide +kernel) (by decide +kernel)
theorem yY_X7_countOf : Cond.selects RX7 yX7_countOf yX7_countOf ∈ TT := t0 (yX7_countOf, 32) 72 (by decide +kernel) rfl (by decide +kernel)
theorem kC_X7_thaw : Cond.code yX7_thaw cX7_thaw 4 (some .int) ∈ TT := t4 80 (by decide +kernel) (by decide +kernel)
theorem yJ_X7_thaw : Cond.instanceMethod yX7_thaw ∈ TT := t4 78 (by decide +kernel) (by decide +kernel)
theorem yY_X7_thaw : Cond.selects RX7 yX7_thaw yX7_thaw ∈ TT := t4 79 (by decide +kernel) (by decide +kernel)
theorem kC_X7_bond : Cond.code yX7_bond cX7_bond 9 (some .int) ∈ TT := t4 84 (by decide +kernel) (by decide +kernel)
theorem yJ_X7_bond : Cond.instanceMethod yX7_bond ∈ TT := t4 82 (by decide +kernel) (by decide +kernel)
theorem yY_X7_bond : Cond.selects RX7 yX7_bond yX7_bond ∈ TT := t4 83 (by decide +kernel) (by decide +kernel)
theorem kC_X7_goBond : Cond.code yX7_goBond cX7_goBond 8 none ∈ TT := t4 90 (by decide +kernel) (by decide +kernel)
theorem yJ_X7_goBond : Cond.instanceMethod yX7_goBond ∈ TT := t4 89 (by decide +kernel) (by decide +kernel)
theorem yY_X7_goBond : Cond.selects RX7 yX7_goBond yX7_goBond ∈ TT := t0 (yX7_goBond, 32) 73 (by decide +kernel) rfl (by decide +kernel)
theorem kC_X7_leftBy : Cond.code yX7_leftBy cX7_leftBy 11 (some .int) ∈ TT := t4 94 (by decide +kernel) (by decide +kernel)
theorem yJ_X7_leftBy : Cond.instanceMethod yX7_leftBy ∈ TT := t4 93 (by decide +kernel) (by decide +kernel)
theorem yY_X7_leftBy : Cond.selects RX7 yX7_leftBy yX7_leftBy ∈ TT := t0 (yX7_leftBy, 32) 74 (by decide +kernel) rfl (by decide +kernel)
theorem kC_X7_strokeBy : Cond.code yX7_strokeBy cX7_strokeBy 10 (some .int) ∈ TT := t4 98 (by decide +kernel) (by decide +kernel)
theorem yJ_X7_strokeBy : Cond.instanceMethod yX7_strokeBy ∈ TT := t4 97 (by decide +kernel) (by decide +kernel)
theorem yY_X7_strokeBy : Cond.selects RX7 yX7_strokeBy yX7_strokeBy ∈ TT := t0 (yX7_strokeBy, 32) 75 (by decide +kernel) rfl (by decide +kernel)
theorem kC_X7_holds : Cond.code yX7_holds cX7_holds 7 (some .int) ∈ TT := t4 102 (by decide +kernel) (by decide +kernel)
theorem yJ_X7_holds : Cond.instanceMethod yX7_holds ∈ TT := t4 100 (by decide +kernel) (by decide +kernel)
theorem yY_X7_holds : Cond.selects RX7 yX7_holds yX7_holds ∈ TT := t4 101 (by decide +kernel) (by decide +kernel)
theorem kC_X7_isBond : Cond.code yX7_isBond cX7_isBond 5 (some .boolean) ∈ TT := t4 106 (by decide +kernel) (by decide +kernel)
theorem yJ_X7_isBond : Cond.instanceMethod yX7_isBond ∈ TT := t4 105 (by decide +kernel) (by decide +kernel)
theorem yY_X7_isBond : Cond.selects RX7 yX7_isBond yX7_isBond ∈ TT := t0 (yX7_isBond, 32) 76 (by decide +kernel) rfl (by decide +kernel)
theorem kC_X7_alone : Cond.code yX7_alone cX7_alone 7 (some .int) ∈ TT := t4 110 (by decide +kernel) (by decide +kernel)
theorem yJ_X7_alone : Cond.instanceMethod yX7_alone ∈ TT := t4 108 (by decide +kernel) (by decide +kernel)
theorem yY_X7_alone : Cond.selects RX7 yX7_alone yX7_alone ∈ TT := t4 109 (by decide +kernel) (by decide +kernel)
theorem kC_X7_neck : Cond.code yX7_neck cX7_neck 8 (some .int) ∈ TT := t4 114 (by decide +kernel) (by decide +kernel)
theorem yJ_X7_neck : Cond.instanceMethod yX7_neck ∈ TT := t4 112 (by decide +kernel) (by decide +kernel)
theorem yY_X7_neck : Cond.selects RX7 yX7_neck yX7_neck ∈ TT := t4 113 (by decide +kernel) (by decide +kernel)
theorem kC_X7_reading : Cond.code yX7_reading cX7_reading 4 (some .int) ∈ TT := t4 118 (by decide +kernel) (by decide +kernel)
theorem yJ_X7_reading : Cond.instanceMethod yX7_reading ∈ TT := t4 116 (by decide +kernel) (by decide +kernel)
theorem yY_X7_reading : Cond.selects RX7 yX7_reading yX7_reading ∈ TT := t4 117 (by decide +kernel) (by decide +kernel)
theorem kC_X7_back : Cond.code yX7_back cX7_back 2 (some .int) ∈ TT := t4 122 (by decide +kernel) (by decide +kernel)
theorem yJ_X7_back : Cond.instanceMethod yX7_back ∈ TT := t4 120 (by decide +kernel) (by decide +kernel)
theorem yY_X7_back : Cond.selects RX7 yX7_back yX7_back ∈ TT := t4 121 (by decide +kernel) (by decide +kernel)
theorem kC_X7_weights : Cond.code yX7_weights cX7_weights 5 (some .int) ∈ TT := t4 126 (by decide +kernel) (by decide +kernel)
theorem yJ_X7_weights : Cond.instanceMethod yX7_weights ∈ TT := t4 124 (by decide +kernel) (by decide +kernel)
theorem yY_X7_weights : Cond.selects RX7 yX7_weights yX7_weights ∈ TT := t4 125 (by decide +kernel) (by decide +kernel)
theorem kC_X7_areSo : Cond.code yX7_areSo cX7_areSo 3 (some .boolean) ∈ TT := t4 130 (by decide +kernel) (by decide +kernel)
theorem yJ_X7_areSo : Cond.instanceMethod yX7_areSo ∈ TT := t4 129 (by decide +kernel) (by decide +kernel)
theorem yY_X7_areSo : Cond.selects RX7 yX7_areSo yX7_areSo ∈ TT := t0 (yX7_areSo, 32) 77 (by decide +kernel) rfl (by decide +kernel)
theorem kC_X7_kinds : Cond.code yX7_kinds cX7_kinds 5 (some .int) ∈ TT := t4 134 (by decide +kernel) (by decide +kernel)
theorem yJ_X7_kinds : Cond.instanceMethod yX7_kinds ∈ TT := t4 132 (by decide +kernel) (by decide +kernel)
theorem yY_X7_kinds : Cond.selects RX7 yX7_kinds yX7_kinds ∈ TT := t4 133 (by decide +kernel) (by decide +kernel)
theorem kC_X7_strengths : Cond.code yX7_strengths cX7_strengths 5 (some .int) ∈ TT := t4 138 (by decide +kernel) (by decide +kernel)
theorem yJ_X7_strengths : Cond.instanceMethod yX7_strengths ∈ TT := t4 136 (by decide +kernel) (by decide +kernel)
theorem yY_X7_strengths : Cond.selects RX7 yX7_strengths yX7_strengths ∈ TT := t4 137 (by decide +kernel) (by decide +kernel)
theorem kC_X7_odds : Cond.code yX7_odds cX7_odds 11 (some .long) ∈ TT := t4 142 (by decide +kernel) (by decide +kernel)
theorem yJ_X7_odds : Cond.instanceMethod yX7_odds ∈ TT := t4 140 (by decide +kernel) (by decide +kernel)
theorem yY_X7_odds : Cond.selects RX7 yX7_odds yX7_odds ∈ TT := t4 141 (by decide +kernel) (by decide +kernel)
theorem kC_X7_lost : Cond.code yX7_lost cX7_lost 0 (some .long) ∈ TT := t4 145 (by decide +kernel) (by decide +kernel)
theorem yY_X7_lost : Cond.static yX7_lost ∈ TT := t4 144 (by decide +kernel) (by decide +kernel)
theorem kC_X7_bits : Cond.code yX7_bits cX7_bits 3 (some .int) ∈ TT := t4 149 (by decide +kernel) (by decide +kernel)
theorem yY_X7_bits : Cond.static yX7_bits ∈ TT := t4 148 (by decide +kernel) (by decide +kernel)
theorem kC_X7_share : Cond.code yX7_share cX7_share 11 (some .long) ∈ TT := t4 152 (by decide +kernel) (by decide +kernel)
theorem yY_X7_share : Cond.static yX7_share ∈ TT := t4 151 (by decide +kernel) (by decide +kernel)
theorem kC_X7_sheet : Cond.code yX7_sheet cX7_sheet 5 (some .int) ∈ TT := t4 156 (by decide +kernel) (by decide +kernel)
theorem yJ_X7_sheet : Cond.instanceMethod yX7_sheet ∈ TT := t4 154 (by decide +kernel) (by decide +kernel)
theorem yY_X7_sheet : Cond.selects RX7 yX7_sheet yX7_sheet ∈ TT := t4 155 (by decide +kernel) (by decide +kernel)
theorem kC_X7_lose : Cond.code yX7_lose cX7_lose 3 (some .int) ∈ TT := t4 160 (by decide +kernel) (by decide +kernel)
theorem yJ_X7_lose : Cond.instanceMethod yX7_lose ∈ TT := t4 158 (by decide +kernel) (by decide +kernel)
theorem yY_X7_lose : Cond.selects RX7 yX7_lose yX7_lose ∈ TT := t4 159 (by decide +kernel) (by decide +kernel)
theorem kC_X7_put : Cond.code yX7_put cX7_put 4 (some .int) ∈ TT := t4 164 (by decide +kernel) (by decide +kernel)
theorem yJ_X7_put : Cond.instanceMethod yX7_put ∈ TT := t4 162 (by decide +kernel) (by decide +kernel)
theorem yY_X7_put : Cond.selects RX7 yX7_put yX7_put ∈ TT := t4 163 (by decide +kernel) (by decide +kernel)
theorem kC_X7_noCell : Cond.code yX7_noCell cX7_noCell 3 (some .int) ∈ TT := t4 168 (by decide +kernel) (by decide +kernel)
theorem yJ_X7_noCell : Cond.instanceMethod yX7_noCell ∈ TT := t4 167 (by decide +kernel) (by decide +kernel)
theorem yY_X7_noCell : Cond.selects RX7 yX7_noCell yX7_noCell ∈ TT := t0 (yX7_noCell, 32) 78 (by decide +kernel) rfl (by decide +kernel)
theorem kC_X7_cell : Cond.code yX7_cell cX7_cell 4 (some .long) ∈ TT := t4 172 (by decide +kernel) (by decide +kernel)
theorem yJ_X7_cell : Cond.instanceMethod yX7_cell ∈ TT := t4 170 (by decide +kernel) (by decide +kernel)
theorem yY_X7_cell : Cond.selects RX7 yX7_cell yX7_cell ∈ TT := t4 171 (by decide +kernel) (by decide +kernel)
theorem kC_X7_failedLong : Cond.code yX7_failedLong cX7_failedLong 2 (some .long) ∈ TT := t4 176 (by decide +kernel) (by decide +kernel)
theorem yJ_X7_failedLong : Cond.instanceMethod yX7_failedLong ∈ TT := t4 175 (by decide +kernel) (by decide +kernel)
theorem yY_X7_failedLong : Cond.selects RX7 yX7_failedLong yX7_failedLong ∈ TT := t0 (yX7_failedLong, 32) 79 (by decide +kernel) rfl (by decide +kernel)
theorem kC_X7_copy : Cond.code yX7_copy cX7_copy 7 (some .int) ∈ TT := t4 180 (by decide +kernel) (by decide +kernel)
theorem yJ_X7_copy : Cond.instanceMethod yX7_copy ∈ TT := t4 178 (by decide +kernel) (by decide +kernel)
theorem yY_X7_copy : Cond.selects RX7 yX7_copy yX7_copy ∈ TT := t4 179 (by decide +kernel) (by decide +kernel)
theorem kC_X7_tell : Cond.code yX7_tell cX7_tell 4 (some .int) ∈ TT := t4 184 (by decide +kernel) (by decide +kernel)
theorem yJ_X7_tell : Cond.instanceMethod yX7_tell ∈ TT := t4 182 (by decide +kernel) (by decide +kernel)
theorem yY_X7_tell : Cond.selects RX7 yX7_tell yX7_tell ∈ TT := t4 183 (by decide +kernel) (by decide +kernel)
theorem kC_X7_traced : Cond.code yX7_traced cX7_traced 2 none ∈ TT := t4 188 (by decide +kernel) (by decide +kernel)
theorem yJ_X7_traced : Cond.instanceMethod yX7_traced ∈ TT := t4 187 (by decide +kernel) (by decide +kernel)
theorem yY_X7_traced : Cond.selects RX7 yX7_traced yX7_traced ∈ TT := t0 (yX7_traced, 32) 80 (by decide +kernel) rfl (by decide +kernel)
theorem kC_X7_signed : Cond.code yX7_signed cX7_signed 2 (some .int) ∈ TT := t4 192 (by decide +kernel) (by decide +kernel)
theorem yJ_X7_signed : Cond.instanceMethod yX7_signed ∈ TT := t4 190 (by decide +kernel) (by decide +kernel)
theorem yY_X7_signed : Cond.selects RX7 yX7_signed yX7_signed ∈ TT := t4 191 (by decide +kernel) (by decide +kernel)
theorem kC_X7_as : Cond.code yX7_as cX7_as 3 (some .int) ∈ TT := t4 196 (by decide +kernel) (by decide +kernel)
theorem yJ_X7_as : Cond.instanceMethod yX7_as ∈ TT := t4 194 (by decide +kernel) (by decide +kernel)
theorem yY_X7_as : Cond.selects RX7 yX7_as yX7_as ∈ TT := t4 195 (by decide +kernel) (by decide +kernel)
theorem kC_X7_trace : Cond.code yX7_trace cX7_trace 1 (some .int) ∈ TT := t4 200 (by decide +kernel) (by decide +kernel)
theorem yJ_X7_trace : Cond.instanceMethod yX7_trace ∈ TT := t4 198 (by decide +kernel) (by decide +kernel)
theorem yY_X7_trace : Cond.selects RX7 yX7_trace yX7_trace ∈ TT := t4 199 (by decide +kernel) (by decide +kernel)
theorem kC_X7_fault : Cond.code yX7_fault cX7_fault 1 (some .int) ∈ TT := t4 204 (by decide +kernel) (by decide +kernel)
theorem yJ_X7_fault : Cond.instanceMethod yX7_fault ∈ TT := t4 202 (by decide +kernel) (by decide +kernel)
theorem yY_X7_fault : Cond.selects RX7 yX7_fault yX7_fault ∈ TT := t4 203 (by decide +kernel) (by decide +kernel)
theorem kC_X7_many : Cond.code yX7_many cX7_many 2 (some .int) ∈ TT := t4 208 (by decide +kernel) (by decide +kernel)
theorem yJ_X7_many : Cond.instanceMethod yX7_many ∈ TT := t4 206 (by decide +kernel) (by decide +kernel)
theorem yY_X7_many : Cond.selects RX7 yX7_many yX7_many ∈ TT := t4 207 (by decide +kernel) (by decide +kernel)
theorem tU0_0 : u_lay RX0 TX0 0 ∈ TT := t1 131 (by decide +kernel) (by decide +kernel)
theorem tU0_1 : u_lay RX0 TX0 1 ∈ TT := t1 133 (by decide +kernel) (by decide +kernel)
theorem tU0_2 : u_lay RX0 TX0 2 ∈ TT := t1 135 (by decide +kernel) (by decide +kernel)
theorem inT0 : ∀ w ∈ u_ws RX0 TX0 3, w ∈ TT := by
  intro w hw
  obtain ⟨k, hk, rfl⟩ := List.mem_map.mp hw
  have hk := List.mem_range.mp hk
  match k, hk with
  | 0, _ => exact tU0_0
  | 1, _ => exact tU0_1
  | 2, _ => exact tU0_2
  | k + 3, hk => exact absurd hk (by omega)
theorem tU1_0 : u_lay RX1 TX1 0 ∈ TT := t1 59 (by decide +kernel) (by decide +kernel)
theorem tU1_1 : u_lay RX1 TX1 1 ∈ TT := t1 61 (by decide +kernel) (by decide +kernel)
theorem tU1_2 : u_lay RX1 TX1 2 ∈ TT := t1 63 (by decide +kernel) (by decide +kernel)
theorem tU1_3 : u_lay RX1 TX1 3 ∈ TT := t1 65 (by decide +kernel) (by decide +kernel)
theorem inT1 : ∀ w ∈ u_ws RX1 TX1 4, w ∈ TT := by
  intro w hw
  obtain ⟨k, hk, rfl⟩ := List.mem_map.mp hw
  have hk := List.mem_range.mp hk
  match k, hk with
  | 0, _ => exact tU1_0
  | 1, _ => exact tU1_1
  | 2, _ => exact tU1_2
  | 3, _ => exact tU1_3
  | k + 4, hk => exact absurd hk (by omega)
theorem tU2_0 : u_lay RX2 TX2 0 ∈ TT := t1 106 (by decide +kernel) (by decide +kernel)
theorem tU2_1 : u_lay RX2 TX2 1 ∈ TT := t1 108 (by decide +kernel) (by decide +kernel)
theorem tU2_2 : u_lay RX2 TX2 2 ∈ TT := t1 110 (by decide +kernel) (by decide +kernel)
theorem tU2_3 : u_lay RX2 TX2 3 ∈ TT := t1 112 (by decide +kernel) (by decide +kernel)
theorem tU2_4 : u_lay RX2 TX2 4 ∈ TT := t1 114 (by decide +kernel) (by decide +kernel)
theorem tU2_5 : u_lay RX2 TX2 5 ∈ TT := t1 116 (by decide +kernel) (by decide +kernel)
theorem inT2 : ∀ w ∈ u_ws RX2 TX2 6, w ∈ TT := by
  intro w hw
  obtain ⟨k, hk, rfl⟩ := List.mem_map.mp hw
  have hk := List.mem_range.mp hk
  match k, hk with
  | 0, _ => exact tU2_0
  | 1, _ => exact tU2_1
  | 2, _ => exact tU2_2
  | 3, _ => exact tU2_3
  | 4, _ => exact tU2_4
  | 5, _ => exact tU2_5
  | k + 6, hk => exact absurd hk (by omega)
theorem tU3_0 : u_lay RX3 TX3 0 ∈ TT := t1 79 (by decide +kernel) (by decide +kernel)
theorem tU3_1 : u_lay RX3 TX3 1 ∈ TT := t1 81 (by decide +kernel) (by decide +kernel)
theorem tU3_2 : u_lay RX3 TX3 2 ∈ TT := t1 83 (by decide +kernel) (by decide +kernel)
theorem tU3_3 : u_lay RX3 TX3 3 ∈ TT := t1 85 (by decide +kernel) (by decide +kernel)
theorem inT3 : ∀ w ∈ u_ws RX3 TX3 4, w ∈ TT := by
  intro w hw
  obtain ⟨k, hk, rfl⟩ := List.mem_map.mp hw
  have hk := List.mem_range.mp hk
  match k, hk with
  | 0, _ => exact tU3_0
  | 1, _ => exact tU3_1
  | 2, _ => exact tU3_2
  | 3, _ => exact tU3_3
  | k + 4, hk => exact absurd hk (by omega)
theorem tU4_0 : u_lay RX4 TX4 0 ∈ TT := t1 149 (by decide +kernel) (by decide +kernel)
theorem tU4_1 : u_lay RX4 TX4 1 ∈ TT := t1 151 (by decide +kernel) (by decide +kernel)
theorem tU4_2 : u_lay RX4 TX4 2 ∈ TT := t1 153 (by decide +kernel) (by decide +kernel)
theorem inT4 : ∀ w ∈ u_ws RX4 TX4 3, w ∈ TT := by
  intro w hw
  obtain ⟨k, hk, rfl⟩ := List.mem_map.mp hw
  have hk := List.mem_range.mp hk
  match k, hk with
  | 0, _ => exact tU4_0
  | 1, _ => exact tU4_1
  | 2, _ => exact tU4_2
  | k + 3, hk => exact absurd hk (by omega)
theorem tU5_0 : u_lay RX5 TX5 0 ∈ TT := t1 35 (by decide +kernel) (by decide +kernel)
theorem tU5_1 : u_lay RX5 TX5 1 ∈ TT := t1 37 (by decide +kernel) (by decide +kernel)
theorem tU5_2 : u_lay RX5 TX5 2 ∈ TT := t1 39 (by decide +kernel) (by decide +kernel)
theorem tU5_3 : u_lay RX5 TX5 3 ∈ TT := t1 41 (by decide +kernel) (by decide +kernel)
theorem inT5 : ∀ w ∈ u_ws RX5 TX5 4, w ∈ TT := by
  intro w hw
  obtain ⟨k, hk, rfl⟩ := List.mem_map.mp hw
  have hk := List.mem_range.mp hk
  match k, hk with
  | 0, _ => exact tU5_0
  | 1, _ => exact tU5_1
  | 2, _ => exact tU5_2
  | 3, _ => exact tU5_3
  | k + 4, hk => exact absurd hk (by omega)
theorem tU6_0 : u_lay RX6 TX6 0 ∈ TT := t1 166 (by decide +kernel) (by decide +kernel)
theorem tU6_1 : u_lay RX6 TX6 1 ∈ TT := t1 168 (by decide +kernel) (by decide +kernel)
theorem tU6_2 : u_lay RX6 TX6 2 ∈ TT := t1 170 (by decide +kernel) (by decide +kernel)
theorem tU6_3 : u_lay RX6 TX6 3 ∈ TT := t1 172 (by decide +kernel) (by decide +kernel)
theorem tU6_4 : u_lay RX6 TX6 4 ∈ TT := t1 174 (by decide +kernel) (by decide +kernel)
theorem tU6_5 : u_lay RX6 TX6 5 ∈ TT := t1 176 (by decide +kernel) (by decide +kernel)
theorem tU6_6 : u_lay RX6 TX6 6 ∈ TT := t1 178 (by decide +kernel) (by decide +kernel)
theorem tU6_7 : u_lay RX6 TX6 7 ∈ TT := t1 180 (by decide +kernel) (by decide +kernel)
theorem tU6_8 : u_lay RX6 TX6 8 ∈ TT := t1 182 (by decide +kernel) (by decide +kernel)
theorem tU6_9 : u_lay RX6 TX6 9 ∈ TT := t1 184 (by decide +kernel) (by decide +kernel)
theorem inT6 : ∀ w ∈ u_ws RX6 TX6 10, w ∈ TT := by
  intro w hw
  obtain ⟨k, hk, rfl⟩ := List.mem_map.mp hw
  have hk := List.mem_range.mp hk
  match k, hk with
  | 0, _ => exact tU6_0
  | 1, _ => exact tU6_1
  | 2, _ => exact tU6_2
  | 3, _ => exact tU6_3
  | 4, _ => exact tU6_4
  | 5, _ => exact tU6_5
  | 6, _ => exact tU6_6
  | 7, _ => exact tU6_7
  | 8, _ => exact tU6_8
  | 9, _ => exact tU6_9
  | k + 10, hk => exact absurd hk (by omega)
theorem tU7_0 : u_lay RX7 TX7 0 ∈ TT := t3 119 (by decide +kernel) (by decide +kernel)
theorem tU7_1 : u_lay RX7 TX7 1 ∈ TT := t3 121 (by decide +kernel) (by decide +kernel)
theorem tU7_2 : u_lay RX7 TX7 2 ∈ TT := t3 123 (by decide +kernel) (by decide +kernel)
theorem tU7_3 : u_lay RX7 TX7 3 ∈ TT := t3 125 (by decide +kernel) (by decide +kernel)
theorem tU7_4 : u_lay RX7 TX7 4 ∈ TT := t3 127 (by decide +kernel) (by decide +kernel)
theorem tU7_5 : u_lay RX7 TX7 5 ∈ TT := t3 129 (by decide +kernel) (by decide +kernel)
theorem tU7_6 : u_lay RX7 TX7 6 ∈ TT := t3 131 (by decide +kernel) (by decide +kernel)
theorem tU7_7 : u_lay RX7 TX7 7 ∈ TT := t3 133 (by decide +kernel) (by decide +kernel)
theorem tU7_8 : u_lay RX7 TX7 8 ∈ TT := t3 135 (by decide +kernel) (by decide +kernel)
theorem tU7_9 : u_lay RX7 TX7 9 ∈ TT := t3 137 (by decide +kernel) (by decide +kernel)
theorem tU7_10 : u_lay RX7 TX7 10 ∈ TT := t3 139 (by decide +kernel) (by decide +kernel)
theorem tU7_11 : u_lay RX7 TX7 11 ∈ TT := t3 141 (by decide +kernel) (by decide +kernel)
theorem tU7_12 : u_lay RX7 TX7 12 ∈ TT := t3 143 (by decide +kernel) (by decide +kernel)
theorem tU7_13 : u_lay RX7 TX7 13 ∈ TT := t3 145 (by decide +kernel) (by decide +kernel)
theorem tU7_14 : u_lay RX7 TX7 14 ∈ TT := t3 147 (by decide +kernel) (by decide +kernel)
theorem tU7_15 : u_lay RX7 TX7 15 ∈ TT := t3 149 (by decide +kernel) (by decide +kernel)
theorem tU7_16 : u_lay RX7 TX7 16 ∈ TT := t3 151 (by decide +kernel) (by decide +kernel)
theorem tU7_17 : u_lay RX7 TX7 17 ∈ TT := t3 153 (by decide +kernel) (by decide +kernel)
theorem tU7_18 : u_lay RX7 TX7 18 ∈ TT := t3 155 (by decide +kernel) (by decide +kernel)
theorem tU7_19 : u_lay RX7 TX7 19 ∈ TT := t3 157 (by decide +kernel) (by decide +kernel)
theorem tU7_20 : u_lay RX7 TX7 20 ∈ TT := t3 159 (by decide +kernel) (by decide +kernel)
theorem tU7_21 : u_lay RX7 TX7 21 ∈ TT := t3 161 (by decide +kernel) (by decide +kernel)
theorem tU7_22 : u_lay RX7 TX7 22 ∈ TT := t3 163 (by decide +kernel) (by decide +kernel)
theorem tU7_23 : u_lay RX7 TX7 23 ∈ TT := t3 165 (by decide +kernel) (by decide +kernel)
theorem tU7_24 : u_lay RX7 TX7 24 ∈ TT := t3 167 (by decide +kernel) (by decide +kernel)
theorem tU7_25 : u_lay RX7 TX7 25 ∈ TT := t3 169 (by decide +kernel) (by decide +kernel)
theorem tU7_26 : u_lay RX7 TX7 26 ∈ TT := t3 171 (by decide +kernel) (by decide +kernel)
theorem tU7_27 : u_lay RX7 TX7 27 ∈ TT := t3 173 (by decide +kernel) (by decide +kernel)
theorem tU7_28 : u_lay RX7 TX7 28 ∈ TT := t3 175 (by decide +kernel) (by decide +kernel)
theorem tU7_29 : u_lay RX7 TX7 29 ∈ TT := t3 177 (by decide +kernel) (by decide +kernel)
theorem tU7_30 : u_lay RX7 TX7 30 ∈ TT := t3 179 (by decide +kernel) (by decide +kernel)
theorem tU7_31 : u_lay RX7 TX7 31 ∈ TT := t3 181 (by decide +kernel) (by decide +kernel)
theorem inT7 : ∀ w ∈ u_ws RX7 TX7 32, w ∈ TT := by
  intro w hw
  obtain ⟨k, hk, rfl⟩ := List.mem_map.mp hw
  have hk := List.mem_range.mp hk
  match k, hk with
  | 0, _ => exact tU7_0
  | 1, _ => exact tU7_1
  | 2, _ => exact tU7_2
  | 3, _ => exact tU7_3
  | 4, _ => exact tU7_4
  | 5, _ => exact tU7_5
  | 6, _ => exact tU7_6
  | 7, _ => exact tU7_7
  | 8, _ => exact tU7_8
  | 9, _ => exact tU7_9
  | 10, _ => exact tU7_10
  | 11, _ => exact tU7_11
  | 12, _ => exact tU7_12
  | 13, _ => exact tU7_13
  | 14, _ => exact tU7_14
  | 15, _ => exact tU7_15
  | 16, _ => exact tU7_16
  | 17, _ => exact tU7_17
  | 18, _ => exact tU7_18
  | 19, _ => exact tU7_19
  | 20, _ => exact tU7_20
  | 21, _ => exact tU7_21
  | 22, _ => exact tU7_22
  | 23, _ => exact tU7_23
  | 24, _ => exact tU7_24
  | 25, _ => exact tU7_25
  | 26, _ => exact tU7_26
  | 27, _ => exact tU7_27
  | 28, _ => exact tU7_28
  | 29, _ => exact tU7_29
  | 30, _ => exact tU7_30
  | 31, _ => exact tU7_31
  | k + 32, hk => exact absurd hk (by omega)
theorem tnat : Cond.native arraycopyName ∈ TT := t1 220 (by decide +kernel) (by decide +kernel)
theorem tsac : Cond.static arraycopyName ∈ TT := t1 219 (by decide +kernel) (by decide +kernel)
theorem tobj : Cond.instanceMethod objectInit ∈ TT := t1 19 (by decide +kernel) (by decide +kernel)
theorem tobjc : Cond.code objectInit ⟨#[0xb1]⟩ 1 none ∈ TT := t1 20 (by decide +kernel) (by decide +kernel)
/-- the words for what nest mates have of one another -/
def nestL : List Cond := [.fieldLinkNest RX6 251 RX5 "place" "I" RX6,
  .fieldLinkNest RX6 247 RX5 "isWrong" "Z" RX6,
  .fieldLinkNest RX6 120 RX1 "strengths" "[I" RX6,
  .fieldLinkNest RX6 267 RX1 "at" "I" RX6,
  .fieldLinkNest RX6 270 RX1 "cut" "I" RX6,
  .fieldLinkNest RX6 117 RX1 "firstWrong" "I" RX6,
  .fieldLinkNest RX6 159 RX3 "count" "I" RX6,
  .fieldLinkNest RX1 25 RX2 "strengths" "[I" RX6,
  .fieldLinkNest RX3 32 RX2 "strengths" "[I" RX6,
  .fieldLinkNest RX6 93 RX2 "strengths" "[I" RX6,
  .fieldLinkNest RX6 222 RX2 "wide" "I" RX6,
  .fieldLinkNest RX6 103 RX2 "frost" "I" RX6,
  .fieldLinkNest RX6 78 RX0 "kinds" "[I" RX6,
  .fieldLinkNest RX6 82 RX0 "weights" "[I" RX6,
  .fieldLinkNest RX6 221 RX0 "count" "I" RX6,
  .fieldLinkNest RX5 26 RX4 "numbers" "[I" RX6,
  .fieldLinkNest RX6 200 RX4 "numbers" "[I" RX6,
  .fieldLinkNest RX6 225 RX4 "lane" "I" RX6,
  .methodLinkNest RX6 19 yX5_init RX6,
  .methodLinkNest RX6 26 yX1_init RX6,
  .methodLinkNest RX6 33 yX3_init RX6,
  .methodLinkNest RX6 40 yX2_init RX6,
  .methodLinkNest RX6 47 yX0_init RX6,
  .methodLinkNest RX6 65 yX4_init RX6,
  .methodLinkNest RX6 186 yX4_isNothing RX6,
  .methodLinkNest RX6 232 yX4_has RX6,
  .methodLinkNest RX4 28 yX6_isWithin RX6,
  .methodLinkNest RX6 235 yX5_begin RX6,
  .methodLinkNest RX6 239 yX2_take RX6,
  .methodLinkNest RX2 31 yX5_sign RX6,
  .methodLinkNest RX5 41 yX6_isWithin RX6,
  .methodLinkNest RX2 37 yX5_digit RX6,
  .methodLinkNest RX6 243 yX0_take RX6,
  .methodLinkNest RX0 22 yX5_goesOn RX6,
  .methodLinkNest RX0 28 yX5_sign RX6,
  .methodLinkNest RX0 32 yX5_kind RX6,
  .methodLinkNest RX0 36 yX5_digit RX6,
  .methodLinkNest RX6 244 yX5_end RX6,
  .methodLinkNest RX6 74 yX0_has RX6,
  .methodLinkNest RX0 40 yX6_isWithin RX6,
  .methodLinkNest RX6 85 yX0_load RX6,
  .methodLinkNest RX6 88 yX2_bearing RX6,
  .methodLinkNest RX6 92 yX2_has RX6,
  .methodLinkNest RX2 45 yX6_isWithin RX6,
  .methodLinkNest RX6 151 yX2_cells RX6,
  .methodLinkNest RX6 260 yX1_begin RX6,
  .methodLinkNest RX6 263 yX1_stroke RX6,
  .methodLinkNest RX1 34 yX2_led RX6,
  .methodLinkNest RX2 57 yX6_isIn RX6,
  .methodLinkNest RX6 127 yX2_strengthen RX6,
  .methodLinkNest RX6 131 yX2_count RX6,
  .methodLinkNest RX6 137 yX2_shortest RX6,
  .methodLinkNest RX6 140 yX2_strokeOfBond RX6,
  .methodLinkNest RX6 144 yX2_reach RX6,
  .methodLinkNest RX6 155 yX3_add RX6,
  .methodLinkNest RX6 161 yX3_areSo RX6,
  .methodLinkNest RX3 26 yX0_load RX6,
  .methodLinkNest RX6 167 yX2_all RX6,
  .methodLinkNest RX6 273 yX4_begin RX6,
  .methodLinkNest RX6 190 yX4_clear RX6,
  .methodLinkNest RX6 276 yX4_set RX6]
theorem nFX6_251 : Cond.fieldLinkNest RX6 251 RX5 "place" "I" RX6 ∈ nestL := List.mem_of_getElem? (i := 0) rfl
theorem nFX6_247 : Cond.fieldLinkNest RX6 247 RX5 "isWrong" "Z" RX6 ∈ nestL := List.mem_of_getElem? (i := 1) rfl
theorem nFX6_120 : Cond.fieldLinkNest RX6 120 RX1 "strengths" "[I" RX6 ∈ nestL := List.mem_of_getElem? (i := 2) rfl
theorem nFX6_267 : Cond.fieldLinkNest RX6 267 RX1 "at" "I" RX6 ∈ nestL := List.mem_of_getElem? (i := 3) rfl
theorem nFX6_270 : Cond.fieldLinkNest RX6 270 RX1 "cut" "I" RX6 ∈ nestL := List.mem_of_getElem? (i := 4) rfl
theorem nFX6_117 : Cond.fieldLinkNest RX6 117 RX1 "firstWrong" "I" RX6 ∈ nestL := List.mem_of_getElem? (i := 5) rfl
theorem nFX6_159 : Cond.fieldLinkNest RX6 159 RX3 "count" "I" RX6 ∈ nestL := List.mem_of_getElem? (i := 6) rfl
theorem nFX1_25 : Cond.fieldLinkNest RX1 25 RX2 "strengths" "[I" RX6 ∈ nestL := List.mem_of_getElem? (i := 7) rfl
theorem nFX3_32 : Cond.fieldLinkNest RX3 32 RX2 "strengths" "[I" RX6 ∈ nestL := List.mem_of_getElem? (i := 8) rfl
theorem nFX6_93 : Cond.fieldLinkNest RX6 93 RX2 "strengths" "[I" RX6 ∈ nestL := List.mem_of_getElem? (i := 9) rfl
theorem nFX6_222 : Cond.fieldLinkNest RX6 222 RX2 "wide" "I" RX6 ∈ nestL := List.mem_of_getElem? (i := 10) rfl
theorem nFX6_103 : Cond.fieldLinkNest RX6 103 RX2 "frost" "I" RX6 ∈ nestL := List.mem_of_getElem? (i := 11) rfl
theorem nFX6_78 : Cond.fieldLinkNest RX6 78 RX0 "kinds" "[I" RX6 ∈ nestL := List.mem_of_getElem? (i := 12) rfl
theorem nFX6_82 : Cond.fieldLinkNest RX6 82 RX0 "weights" "[I" RX6 ∈ nestL := List.mem_of_getElem? (i := 13) rfl
theorem nFX6_221 : Cond.fieldLinkNest RX6 221 RX0 "count" "I" RX6 ∈ nestL := List.mem_of_getElem? (i := 14) rfl
theorem nFX5_26 : Cond.fieldLinkNest RX5 26 RX4 "numbers" "[I" RX6 ∈ nestL := List.mem_of_getElem? (i := 15) rfl
theorem nFX6_200 : Cond.fieldLinkNest RX6 200 RX4 "numbers" "[I" RX6 ∈ nestL := List.mem_of_getElem? (i := 16) rfl
theorem nFX6_225 : Cond.fieldLinkNest RX6 225 RX4 "lane" "I" RX6 ∈ nestL := List.mem_of_getElem? (i := 17) rfl
theorem nMX6_19 : Cond.methodLinkNest RX6 19 yX5_init RX6 ∈ nestL := List.mem_of_getElem? (i := 18) rfl
theorem nMX6_26 : Cond.methodLinkNest RX6 26 yX1_init RX6 ∈ nestL := List.mem_of_getElem? (i := 19) rfl
theorem nMX6_33 : Cond.methodLinkNest RX6 33 yX3_init RX6 ∈ nestL := List.mem_of_getElem? (i := 20) rfl
theorem nMX6_40 : Cond.methodLinkNest RX6 40 yX2_init RX6 ∈ nestL := List.mem_of_getElem? (i := 21) rfl
theorem nMX6_47 : Cond.methodLinkNest RX6 47 yX0_init RX6 ∈ nestL := List.mem_of_getElem? (i := 22) rfl
theorem nMX6_65 : Cond.methodLinkNest RX6 65 yX4_init RX6 ∈ nestL := List.mem_of_getElem? (i := 23) rfl
theorem nMX6_186 : Cond.methodLinkNest RX6 186 yX4_isNothing RX6 ∈ nestL := List.mem_of_getElem? (i := 24) rfl
theorem nMX6_232 : Cond.methodLinkNest RX6 232 yX4_has RX6 ∈ nestL := List.mem_of_getElem? (i := 25) rfl
theorem nMX4_28 : Cond.methodLinkNest RX4 28 yX6_isWithin RX6 ∈ nestL := List.mem_of_getElem? (i := 26) rfl
theorem nMX6_235 : Cond.methodLinkNest RX6 235 yX5_begin RX6 ∈ nestL := List.mem_of_getElem? (i := 27) rfl
theorem nMX6_239 : Cond.methodLinkNest RX6 239 yX2_take RX6 ∈ nestL := List.mem_of_getElem? (i := 28) rfl
theorem nMX2_31 : Cond.methodLinkNest RX2 31 yX5_sign RX6 ∈ nestL := List.mem_of_getElem? (i := 29) rfl
theorem nMX5_41 : Cond.methodLinkNest RX5 41 yX6_isWithin RX6 ∈ nestL := List.mem_of_getElem? (i := 30) rfl
theorem nMX2_37 : Cond.methodLinkNest RX2 37 yX5_digit RX6 ∈ nestL := List.mem_of_getElem? (i := 31) rfl
theorem nMX6_243 : Cond.methodLinkNest RX6 243 yX0_take RX6 ∈ nestL := List.mem_of_getElem? (i := 32) rfl
theorem nMX0_22 : Cond.methodLinkNest RX0 22 yX5_goesOn RX6 ∈ nestL := List.mem_of_getElem? (i := 33) rfl
theorem nMX0_28 : Cond.methodLinkNest RX0 28 yX5_sign RX6 ∈ nestL := List.mem_of_getElem? (i := 34) rfl
theorem nMX0_32 : Cond.methodLinkNest RX0 32 yX5_kind RX6 ∈ nestL := List.mem_of_getElem? (i := 35) rfl
theorem nMX0_36 : Cond.methodLinkNest RX0 36 yX5_digit RX6 ∈ nestL := List.mem_of_getElem? (i := 36) rfl
theorem nMX6_244 : Cond.methodLinkNest RX6 244 yX5_end RX6 ∈ nestL := List.mem_of_getElem? (i := 37) rfl
theorem nMX6_74 : Cond.methodLinkNest RX6 74 yX0_has RX6 ∈ nestL := List.mem_of_getElem? (i := 38) rfl
theorem nMX0_40 : Cond.methodLinkNest RX0 40 yX6_isWithin RX6 ∈ nestL := List.mem_of_getElem? (i := 39) rfl
theorem nMX6_85 : Cond.methodLinkNest RX6 85 yX0_load RX6 ∈ nestL := List.mem_of_getElem? (i := 40) rfl
theorem nMX6_88 : Cond.methodLinkNest RX6 88 yX2_bearing RX6 ∈ nestL := List.mem_of_getElem? (i := 41) rfl
theorem nMX6_92 : Cond.methodLinkNest RX6 92 yX2_has RX6 ∈ nestL := List.mem_of_getElem? (i := 42) rfl
theorem nMX2_45 : Cond.methodLinkNest RX2 45 yX6_isWithin RX6 ∈ nestL := List.mem_of_getElem? (i := 43) rfl
theorem nMX6_151 : Cond.methodLinkNest RX6 151 yX2_cells RX6 ∈ nestL := List.mem_of_getElem? (i := 44) rfl
theorem nMX6_260 : Cond.methodLinkNest RX6 260 yX1_begin RX6 ∈ nestL := List.mem_of_getElem? (i := 45) rfl
theorem nMX6_263 : Cond.methodLinkNest RX6 263 yX1_stroke RX6 ∈ nestL := List.mem_of_getElem? (i := 46) rfl
theorem nMX1_34 : Cond.methodLinkNest RX1 34 yX2_led RX6 ∈ nestL := List.mem_of_getElem? (i := 47) rfl
theorem nMX2_57 : Cond.methodLinkNest RX2 57 yX6_isIn RX6 ∈ nestL := List.mem_of_getElem? (i := 48) rfl
theorem nMX6_127 : Cond.methodLinkNest RX6 127 yX2_strengthen RX6 ∈ nestL := List.mem_of_getElem? (i := 49) rfl
theorem nMX6_131 : Cond.methodLinkNest RX6 131 yX2_count RX6 ∈ nestL := List.mem_of_getElem? (i := 50) rfl
theorem nMX6_137 : Cond.methodLinkNest RX6 137 yX2_shortest RX6 ∈ nestL := List.mem_of_getElem? (i := 51) rfl
theorem nMX6_140 : Cond.methodLinkNest RX6 140 yX2_strokeOfBond RX6 ∈ nestL := List.mem_of_getElem? (i := 52) rfl
theorem nMX6_144 : Cond.methodLinkNest RX6 144 yX2_reach RX6 ∈ nestL := List.mem_of_getElem? (i := 53) rfl
theorem nMX6_155 : Cond.methodLinkNest RX6 155 yX3_add RX6 ∈ nestL := List.mem_of_getElem? (i := 54) rfl
theorem nMX6_161 : Cond.methodLinkNest RX6 161 yX3_areSo RX6 ∈ nestL := List.mem_of_getElem? (i := 55) rfl
theorem nMX3_26 : Cond.methodLinkNest RX3 26 yX0_load RX6 ∈ nestL := List.mem_of_getElem? (i := 56) rfl
theorem nMX6_167 : Cond.methodLinkNest RX6 167 yX2_all RX6 ∈ nestL := List.mem_of_getElem? (i := 57) rfl
theorem nMX6_273 : Cond.methodLinkNest RX6 273 yX4_begin RX6 ∈ nestL := List.mem_of_getElem? (i := 58) rfl
theorem nMX6_190 : Cond.methodLinkNest RX6 190 yX4_clear RX6 ∈ nestL := List.mem_of_getElem? (i := 59) rfl
theorem nMX6_276 : Cond.methodLinkNest RX6 276 yX4_set RX6 ∈ nestL := List.mem_of_getElem? (i := 60) rfl
set_option maxRecDepth 100000 in
theorem nestL_in : ∀ w ∈ nestL, w ∈ lw_tbl := by
  intro w hw
  have h : nestL = [32, 34, 52, 54, 56, 58, 78, 96, 97, 98, 101, 103, 126, 128, 130, 144, 145, 147, 25, 47, 70, 91, 121, 139, 205, 209, 213, 214, 221, 225, 237, 238, 242, 246, 247, 248, 253, 254, 270, 274, 275, 279, 291, 295, 308, 328, 333, 337, 341, 357, 367, 383, 395, 413, 429, 441, 445, 459, 478, 489, 501].filterMap (fun i => tables_1[i]?) := by decide +kernel
  rw [h] at hw
  obtain ⟨i, -, hi⟩ := List.mem_filterMap.mp hw
  exact List.mem_append_right _ (List.mem_of_getElem? hi)
end
section
/-! the frame of every walk here: what a method's body stands on (FX), its world (HP), its contract (MF) -/
abbrev GT : Type := va_G × ClassId × ClassId × ClassId
abbrev tyG (G : GT) : List (ClassId × FieldType) := [(G.2.1, .int), (G.2.2.1, .boolean), (G.2.2.2, .object "SkateBonds$Sheet")]
def isNest : Cond → Bool
  | .fieldLinkNest .. => true
  | .methodLinkNest .. => true
  | _ => false
def NW (U : State) : Prop := ∀ w ∈ nestL, va_Nw w U
theorem nest_ok : nestL.all isNest = true := by decide +kernel
theorem NW.warm {s U : State} (hW : s.WarmedH U.vm) (h : NW s) : NW U := by
  intro w hw
  have h1 := List.all_eq_true.mp nest_ok w hw
  have h2 := h w hw
  cases w <;> first | exact va_Nw.warmF hW h2 | exact va_Nw.warmM hW h2 | (simp [isNest] at h1; done)
theorem NW.calling {U : State} {g : JFrame} {mk : MethodId} {a : Array Value} (h : NW U) : NW (U.calling g mk a) := fun w hw => by
  have h1 := List.all_eq_true.mp nest_ok w hw
  have h2 := h w hw
  have e : (U.calling g mk a).vm = U.vm := rfl
  cases w <;> first | exact va_Nw.same rfl e.symm h2 | (simp [isNest] at h1; done)

def FX (G : GT) (own : String) (cc : ByteArray) (nL : Nat) (ret : Option FieldType) (p : Program) (s : State) (m : MethodId) (args : Array Value) (meth : Method) (c : Code) (A : Nat → Prop) : Prop :=
  p.tables.exec = Jvm.exec ∧ c.code = cc ∧ meth.sig.returnType = ret ∧ (∀ w ∈ TT, w.before args s = true) ∧ s.vm.findClass own = some m.cls ∧ meth.locks = false ∧ c.maxLocals = nL ∧ va_K G.1 vwCl (tyG G) s ∧ NW s ∧ (∀ q : Nat, s.heap.size ≤ q → A q)
def HP (G : GT) (A : Nat → Prop) (w : va_W) (s : State) (H : Heap) (locs : List Loc) : Prop := va_P G.1 vwCl w H ∧ va_D A w ∧ va_S A s.heap H locs
def PRE (G : GT) (w : va_W) (sz : Nat) : State → Prop := fun U => U.heap.size = sz ∧ va_P G.1 vwCl w U.heap ∧ va_K G.1 vwCl (tyG G) U ∧ va_D (fun _ => True) w ∧ NW U
def POST (G : GT) (A : Nat → Prop) (w : va_W) : State → Prop := fun t => va_P G.1 vwCl w t.heap ∧ va_D A w
abbrev wsY (y : MethodName) (b : ByteArray) (nL : Nat) (ret : Option FieldType) : List Cond := .code y b nL ret :: TT
def QF (R : Option Value) (B : State → Prop) (A : Nat → Prop) : Array Value → State → Outcome → State → Prop := fun _ st oc t => (oc = .returned R ∧ B t) ∧ va_F A st t
/-- a method's contract: in the world w, with these arguments, it answers R, and leaves the world W1 -/
def MF (l : Launch) (G : GT) (y : MethodName) (b : ByteArray) (nL : Nat) (ret : Option FieldType) (rm : Room) (av : List Value) (w : va_W) (R : Option Value) (W1 : va_W) : Prop :=
  ∀ sz : Nat, Met l y (wsY y b nL ret) rm (va_Pc av (PRE G w sz)) (QF R (POST G (va_A w sz) W1) (va_A w sz)) 0 0 (va_A w sz)
abbrev ZZ (G : GT) (A : Nat → Prop) (R : Option Value) (W1 : va_W) (below : List Frame) (args : Array Value) (s : State) : State → Prop := MQ below (QF R (POST G A W1) A) args s 0 0 A
theorem MF.of {l : Launch} {G : GT} {y : MethodName} {b : ByteArray} {nL : Nat} {ret : Option FieldType} {rm : Room} {av : List Value} {w : va_W} {R : Option Value} {W1 : va_W} (hy : plainName y.cls = true) (hlen : (lg_sl av).length ≤ nL)
    (h : ∀ (p : Program) (e : Env) (s : State) (m : MethodId) (args : Array Value) (below : List Frame) (meth : Method) (c : Code) (A : Nat → Prop) (ls : Array Slot), FX G y.cls b nL ret p s m args meth c A → HP G A w s s.heap [] → lv_has ls nL (lv_args 0 av) → (y.name = "<init>" → meth.name = "<init>") →
      W p l e rm s m args below meth c s.heap [] 0 0 (ZZ G A R W1 below args s) (F0 m 0 ls [])) : MF l G y b nL ret rm av w R W1 := by
  intro sz
  refine Met.ofW (cc := b) (maxL := nL) (ret := ret) hy rfl ?_
  intro p e s m args below meth c s₁ B hml hv
  obtain ⟨rfl, hsz, hP, hK, hD0, hN⟩ := hv
  have hts := atoms_spec (ws := wsY y b nL ret) B.pre
  subst hsz
  have hA : ∀ q : Nat, s.heap.size ≤ q → va_A w s.heap.size q := fun q h => Or.inr h
  have hl := lv_entry av (n := nL) hlen
  rw [lg_entry_eq]
  exact h p e s m av.toArray below meth c (va_A w s.heap.size) _ ⟨B.exec, B.bytes, B.returns, fun w hw => hts w (List.mem_cons_of_mem _ hw), findClass_of_methodNamed B.named, B.notSynchronized, hml, hK, hN, hA⟩ ⟨hP, hD0.self, va_S.rf⟩ hl (fun e => e ▸ (name_of_methodNamed B.named B.method).1)
/-- a contract whose world behind it has parts of which nothing is said -/
def MFJ (l : Launch) (G : GT) (y : MethodName) (b : ByteArray) (nL : Nat) (ret : Option FieldType) (rm : Room) (av : List Value) (w : va_W) (R : Option Value) {T : Type} (W1 : T → va_W) : Prop :=
  ∀ sz : Nat, Met l y (wsY y b nL ret) rm (va_Pc av (PRE G w sz)) (QF R (fun t => ∃ j : T, POST G (va_A w sz) (W1 j) t) (va_A w sz)) 0 0 (va_A w sz)
abbrev ZJ (G : GT) (A : Nat → Prop) (R : Option Value) {T : Type} (W1 : T → va_W) (below : List Frame) (args : Array Value) (s : State) : State → Prop := MQ below (QF R (fun t => ∃ j : T, POST G A (W1 j) t) A) args s 0 0 A
theorem MFJ.of {l : Launch} {G : GT} {y : MethodName} {b : ByteArray} {nL : Nat} {ret : Option FieldType} {rm : Room} {av : List Value} {w : va_W} {R : Option Value} {T : Type} {W1 : T → va_W} (hy : plainName y.cls = true) (hlen : (lg_sl av).length ≤ nL)
    (h : ∀ (p : Program) (e : Env) (s : State) (m : MethodId) (args : Array Value) (below : List Frame) (meth : Method) (c : Code) (A : Nat → Prop) (ls : Array Slot), FX G y.cls b nL ret p s m args meth c A → HP G A w s s.heap [] → lv_has ls nL (lv_args 0 av) → (y.name = "<init>" → meth.name = "<init>") →
      W p l e rm s m args below meth c s.heap [] 0 0 (ZJ G A R W1 below args s) (F0 m 0 ls [])) : MFJ l G y b nL ret rm av w R W1 := by
  intro sz
  refine Met.ofW (cc := b) (maxL := nL) (ret := ret) hy rfl ?_
  intro p e s m args below meth c s₁ B hml hv
  obtain ⟨rfl, hsz, hP, hK, hD0, hN⟩ := hv
  have hts := atoms_spec (ws := wsY y b nL ret) B.pre
  subst hsz
  have hA : ∀ q : Nat, s.heap.size ≤ q → va_A w s.heap.size q := fun q h => Or.inr h
  have hl := lv_entry av (n := nL) hlen
  rw [lg_entry_eq]
  exact h p e s m av.toArray below meth c (va_A w s.heap.size) _ ⟨B.exec, B.bytes, B.returns, fun w hw => hts w (List.mem_cons_of_mem _ hw), findClass_of_methodNamed B.named, B.notSynchronized, hml, hK, hN, hA⟩ ⟨hP, hD0.self, va_S.rf⟩ hl (fun e => e ▸ (name_of_methodNamed B.named B.method).1)
section BASE
variable {p : Program} {l : Launch} {e : Env} {R : Room} {s : State} {m : MethodId} {args : Array Value} {below : List Frame} {meth : Method} {c : Code} {H : Heap} {locs : List Loc} {cells slots : Nat} {Q : State → Prop}
variable {G : GT} {own : String} {cc : ByteArray} {nL : Nat} {ret : Option FieldType} {A : Nat → Prop} {w w' : va_W} {pc : Nat} {ls : Array Slot} {rest st0 : List Value} {a : Nat}
theorem FX.hx (f : FX G own cc nL ret p s m args meth c A) : p.tables.exec = Jvm.exec := f.1
theorem FX.hb (f : FX G own cc nL ret p s m args meth c A) : c.code = cc := f.2.1
theorem FX.hr (f : FX G own cc nL ret p s m args meth c A) : meth.sig.returnType = ret := f.2.2.1
theorem FX.hts (f : FX G own cc nL ret p s m args meth c A) : ∀ w ∈ TT, w.before args s = true := f.2.2.2.1
theorem FX.hown (f : FX G own cc nL ret p s m args meth c A) : s.vm.findClass own = some m.cls := f.2.2.2.2.1
theorem FX.hlocks (f : FX G own cc nL ret p s m args meth c A) : meth.locks = false := f.2.2.2.2.2.1
theorem FX.hml (f : FX G own cc nL ret p s m args meth c A) : c.maxLocals = nL := f.2.2.2.2.2.2.1
theorem FX.hK (f : FX G own cc nL ret p s m args meth c A) : va_K G.1 vwCl (tyG G) s := f.2.2.2.2.2.2.2.1
theorem FX.hN (f : FX G own cc nL ret p s m args meth c A) : NW s := f.2.2.2.2.2.2.2.2.1
theorem FX.hA (f : FX G own cc nL ret p s m args meth c A) : ∀ q : Nat, s.heap.size ≤ q → A q := f.2.2.2.2.2.2.2.2.2
/-- reading a field, own class or nest mate -/
theorem r_get (fx : FX G own cc nL ret p s m args meth c A) (hh : HP G A w s H locs) {ref C : String} {T : u_T} {N ci index : Nat} (hin : ∀ w ∈ u_ws C T N, w ∈ TT) (hc : vwCl[ci]? = some (C, T, N)) (k : Nat) (hk : k < N) (hlink : Cond.fieldLink own index ref (T k).2.1 (T k).2.2.1 ∈ TT) (hsame : (T k).1 = ref)
    (q0 : Nat) {fs : List Value} (he : w[q0]? = some (a, .inr (ci, fs))) {v : Value} (hv : fs[k]? = some v) (hdg : decode cc pc = .ok (.getfield index, 3))
    (kk : W p l e R s m args below meth c H locs cells slots Q (F0 m (pc + 3) ls (v :: rest))) : W p l e R s m args below meth c H locs cells slots Q (F0 m pc ls (.ref a :: rest)) :=
  va_get fx.hx fx.hb fx.hts hin fx.hown fx.hK hh.1 q0 he hc k hk (fx.hts _ hlink) (fun x h => by rw [← hsame]; exact h) hv hdg kk
theorem r_getN (fx : FX G own cc nL ret p s m args meth c A) (hh : HP G A w s H locs) {ref C host : String} {T : u_T} {N ci index : Nat} (hin : ∀ w ∈ u_ws C T N, w ∈ TT) (hc : vwCl[ci]? = some (C, T, N)) (k : Nat) (hk : k < N) (hlink : Cond.fieldLinkNest own index ref (T k).2.1 (T k).2.2.1 host ∈ nestL) (hsame : (T k).1 = ref)
    (q0 : Nat) {fs : List Value} (he : w[q0]? = some (a, .inr (ci, fs))) {v : Value} (hv : fs[k]? = some v) (hdg : decode cc pc = .ok (.getfield index, 3))
    (kk : W p l e R s m args below meth c H locs cells slots Q (F0 m (pc + 3) ls (v :: rest))) : W p l e R s m args below meth c H locs cells slots Q (F0 m pc ls (.ref a :: rest)) :=
  va_getN fx.hx fx.hb fx.hts hin fx.hown fx.hK hh.1 q0 he hc k hk (va_Nw.use rfl (fx.hN _ hlink)) (fun x h => by rw [← hsame]; exact h) hv hdg kk
theorem r_put (fx : FX G own cc nL ret p s m args meth c A) (hh : HP G A w s H locs) {ref C : String} {T : u_T} {N ci index : Nat} (hin : ∀ w ∈ u_ws C T N, w ∈ TT) (ty0 : Nat → FieldType) (hty : ∀ k, k < N → parseFieldDescriptor (T k).2.2.1 = some (ty0 k)) (hnm : ∀ a, a < N → ∀ b, b < N → a ≠ b → (T a).2.1 ≠ (T b).2.1) (hc : vwCl[ci]? = some (C, T, N)) (k : Nat) (hk : k < N) (hlink : Cond.fieldLink own index ref (T k).2.1 (T k).2.2.1 ∈ TT) (hsame : (T k).1 = ref) (hfin : (T k).2.2.2 = false)
    (q0 : Nat) {fs : List Value} (he : w[q0]? = some (a, .inr (ci, fs))) {v : Value} (hn : narrow (ty0 k) v = v) (hfit : fits (ty0 k) v = true) (hl : k < fs.length) (hw : w.set q0 (a, .inr (ci, fs.set k v)) = w') (hdg : decode cc pc = .ok (.putfield index, 3))
    (kk : ∀ (H1 : Heap) (locs1 : List Loc), HP G A w' s H1 locs1 → W p l e R s m args below meth c H1 locs1 cells slots Q (F0 m (pc + 3) ls rest)) : W p l e R s m args below meth c H locs cells slots Q (F0 m pc ls (v :: .ref a :: rest)) :=
  va_put fx.hx fx.hb fx.hts hin ty0 hty hnm fx.hown fx.hK hh.1 hh.2.1 hh.2.2 q0 he hc k hk (fx.hts _ hlink) (fun x h => by rw [← hsame]; exact h) hfin (hty k hk) hn hfit hl hdg (fun H1 locs1 p1 p2 p3 => kk H1 locs1 ⟨hw ▸ p1, hw ▸ p2, p3⟩)
theorem r_putN (fx : FX G own cc nL ret p s m args meth c A) (hh : HP G A w s H locs) {ref C host : String} {T : u_T} {N ci index : Nat} (hin : ∀ w ∈ u_ws C T N, w ∈ TT) (ty0 : Nat → FieldType) (hty : ∀ k, k < N → parseFieldDescriptor (T k).2.2.1 = some (ty0 k)) (hnm : ∀ a, a < N → ∀ b, b < N → a ≠ b → (T a).2.1 ≠ (T b).2.1) (hc : vwCl[ci]? = some (C, T, N)) (k : Nat) (hk : k < N) (hlink : Cond.fieldLinkNest own index ref (T k).2.1 (T k).2.2.1 host ∈ nestL) (hsame : (T k).1 = ref) (hfin : (T k).2.2.2 = false)
    (q0 : Nat) {fs : List Value} (he : w[q0]? = some (a, .inr (ci, fs))) {v : Value} (hn : narrow (ty0 k) v = v) (hfit : fits (ty0 k) v = true) (hl : k < fs.length) (hw : w.set q0 (a, .inr (ci, fs.set k v)) = w') (hdg : decode cc pc = .ok (.putfield index, 3))
    (kk : ∀ (H1 : Heap) (locs1 : List Loc), HP G A w' s H1 locs1 → W p l e R s m args below meth c H1 locs1 cells slots Q (F0 m (pc + 3) ls rest)) : W p l e R s m args below meth c H locs cells slots Q (F0 m pc ls (v :: .ref a :: rest)) :=
  va_putN fx.hx fx.hb fx.hts hin ty0 hty hnm fx.hown fx.hK hh.1 hh.2.1 hh.2.2 q0 he hc k hk (va_Nw.use rfl (fx.hN _ hlink)) (fun x h => by rw [← hsame]; exact h) hfin (hty k hk) hn hfit hl hdg (fun H1 locs1 p1 p2 p3 => kk H1 locs1 ⟨hw ▸ p1, hw ▸ p2, p3⟩)
theorem r_putF (fx : FX G own cc nL ret p s m args meth c A) (hh : HP G A w s H locs) (hin2 : meth.name = "<init>") {ref C : String} {T : u_T} {N ci index : Nat} (hin : ∀ w ∈ u_ws C T N, w ∈ TT) (ty0 : Nat → FieldType) (hty : ∀ k, k < N → parseFieldDescriptor (T k).2.2.1 = some (ty0 k)) (hnm : ∀ a, a < N → ∀ b, b < N → a ≠ b → (T a).2.1 ≠ (T b).2.1) (hc : vwCl[ci]? = some (C, T, N)) (k : Nat) (hk : k < N) (hlink : Cond.fieldLink own index ref (T k).2.1 (T k).2.2.1 ∈ TT) (hsame : (T k).1 = ref) (hfin : (T k).2.2.2 = true) (hdecl : (T k).1 = own)
    (q0 : Nat) {fs : List Value} (he : w[q0]? = some (a, .inr (ci, fs))) {v : Value} (hn : narrow (ty0 k) v = v) (hfit : fits (ty0 k) v = true) (hl : k < fs.length) (hw : w.set q0 (a, .inr (ci, fs.set k v)) = w') (hdg : decode cc pc = .ok (.putfield index, 3))
    (kk : ∀ (H1 : Heap) (locs1 : List Loc), HP G A w' s H1 locs1 → W p l e R s m args below meth c H1 locs1 cells slots Q (F0 m (pc + 3) ls rest)) : W p l e R s m args below meth c H locs cells slots Q (F0 m pc ls (v :: .ref a :: rest)) :=
  va_putF fx.hx fx.hb fx.hts hin ty0 hty hnm fx.hown fx.hK hh.1 hh.2.1 hh.2.2 q0 he hc k hk (fx.hts _ hlink) (fun x h => by rw [← hsame]; exact h) hfin hin2 hdecl (hty k hk) hn hfit hl hdg (fun H1 locs1 p1 p2 p3 => kk H1 locs1 ⟨hw ▸ p1, hw ▸ p2, p3⟩)
theorem r_iald (fx : FX G own cc nL ret p s m args meth c A) (hh : HP G A w s H locs) (q0 : Nat) {n : Nat} {f : Nat → Int32} (ha : w[q0]? = some (a, .inl (G.2.1, n, .inl f))) {i : Int32} (hin : vp_in i n) (hdg : decode cc pc = .ok (.iaload, 1))
    (kk : W p l e R s m args below meth c H locs cells slots Q (F0 m (pc + 1) ls (.int (f i.toNatClampNeg) :: rest))) : W p l e R s m args below meth c H locs cells slots Q (F0 m pc ls (.int i :: .ref a :: rest)) :=
  va_iald fx.hx fx.hb fx.hK hh.1 q0 0 ha rfl hin hdg kk
theorem r_zald (fx : FX G own cc nL ret p s m args meth c A) (hh : HP G A w s H locs) (q0 : Nat) {n : Nat} {f : Nat → Int32} (ha : w[q0]? = some (a, .inl (G.2.2.1, n, .inl f))) {i : Int32} (hin : vp_in i n) (hdg : decode cc pc = .ok (.baload, 1))
    (kk : W p l e R s m args below meth c H locs cells slots Q (F0 m (pc + 1) ls (.int (f i.toNatClampNeg) :: rest))) : W p l e R s m args below meth c H locs cells slots Q (F0 m pc ls (.int i :: .ref a :: rest)) :=
  va_zald fx.hx fx.hb fx.hK hh.1 q0 1 ha rfl hin hdg kk
theorem r_aald (fx : FX G own cc nL ret p s m args meth c A) (hh : HP G A w s H locs) (q0 : Nat) {n : Nat} {f : Nat → Option Nat} (ha : w[q0]? = some (a, .inl (G.2.2.2, n, .inr (.inr (.inr (.inr f)))))) {i : Int32} (hin : vp_in i n) (hdg : decode cc pc = .ok (.aaload, 1))
    (kk : W p l e R s m args below meth c H locs cells slots Q (F0 m (pc + 1) ls (va_rf (f i.toNatClampNeg) :: rest))) : W p l e R s m args below meth c H locs cells slots Q (F0 m pc ls (.int i :: .ref a :: rest)) :=
  va_aldq fx.hx fx.hb fx.hK hh.1 q0 2 ha rfl hin hdg kk
theorem r_iast (fx : FX G own cc nL ret p s m args meth c A) (hh : HP G A w s H locs) (q0 : Nat) {n : Nat} {f : Nat → Int32} (ha : w[q0]? = some (a, .inl (G.2.1, n, .inl f))) {i x : Int32} (hin : vp_in i n) (hw : w.set q0 (a, .inl (G.2.1, n, .inl (upd f i.toNatClampNeg x))) = w') (hdg : decode cc pc = .ok (.iastore, 1))
    (kk : ∀ (H1 : Heap) (locs1 : List Loc), HP G A w' s H1 locs1 → W p l e R s m args below meth c H1 locs1 cells slots Q (F0 m (pc + 1) ls rest)) : W p l e R s m args below meth c H locs cells slots Q (F0 m pc ls (.int x :: .int i :: .ref a :: rest)) :=
  va_iast fx.hx fx.hb fx.hK hh.1 hh.2.1 hh.2.2 q0 0 ha rfl hin hdg (fun H1 locs1 p1 p2 p3 => kk H1 locs1 ⟨hw ▸ p1, hw ▸ p2, p3⟩)
theorem r_zast (fx : FX G own cc nL ret p s m args meth c A) (hh : HP G A w s H locs) (q0 : Nat) {n : Nat} {f : Nat → Int32} (ha : w[q0]? = some (a, .inl (G.2.2.1, n, .inl f))) {i x : Int32} (hin : vp_in i n) (hw : w.set q0 (a, .inl (G.2.2.1, n, .inl (upd f i.toNatClampNeg (vp_nar .boolean x)))) = w') (hdg : decode cc pc = .ok (.bastore, 1))
    (kk : ∀ (H1 : Heap) (locs1 : List Loc), HP G A w' s H1 locs1 → W p l e R s m args below meth c H1 locs1 cells slots Q (F0 m (pc + 1) ls rest)) : W p l e R s m args below meth c H locs cells slots Q (F0 m pc ls (.int x :: .int i :: .ref a :: rest)) :=
  va_zast fx.hx fx.hb fx.hK hh.1 hh.2.1 hh.2.2 q0 1 ha rfl hin hdg (fun H1 locs1 p1 p2 p3 => kk H1 locs1 ⟨hw ▸ p1, hw ▸ p2, p3⟩)
theorem r_alen (fx : FX G own cc nL ret p s m args meth c A) (hh : HP G A w s H locs) (q0 : Nat) {x : vp_A} (ha : w[q0]? = some (a, .inl (G.2.1, x))) {v : Int32} (hv : Int32.ofNat x.1 = v) (hdg : decode cc pc = .ok (.arraylength, 1))
    (kk : W p l e R s m args below meth c H locs cells slots Q (F0 m (pc + 1) ls (.int v :: rest))) : W p l e R s m args below meth c H locs cells slots Q (F0 m pc ls (.ref a :: rest)) :=
  va_alen fx.hx fx.hb fx.hK hh.1 q0 0 ha (ty := .int) rfl hv hdg kk
/-- another order of the same world, or a part of it -/
theorem HP.perm (hh : HP G A w s H locs) (is : List Nat) (hn : va_nd is = true) (hs : is.map (fun i => w[i]?) = w'.map some) : HP G A w' s H locs := by
  refine ⟨?_, hh.2.1.sub is hn hs, hh.2.2⟩
  intro k q hk
  have h1 : (is.map (fun i => w[i]?))[k]? = some (some q) := by rw [hs, List.getElem?_map, hk]; rfl
  rw [List.getElem?_map] at h1
  cases hi : is[k]? with
  | none => rw [hi] at h1; cases h1
  | some i => rw [hi] at h1; exact hh.1 i q (Option.some.inj h1)
theorem FX.pay (f : FX G own cc nL ret p s m args meth c A) : ∀ w ∈ TT, ∀ (a' : Array Value) (U : State), s.WarmedH U.vm → w.before a' U = true :=
  pay_in f.hts (fun w hw => ⟨hw, good_of_word (tt_good hw)⟩)
/-- what the tables say of a method that is called -/
def YB (y : MethodName) (b : ByteArray) (nLy : Nat) (rety : Option FieldType) (n : Nat) : Prop :=
  Cond.code y b nLy rety ∈ TT ∧ Cond.initialized y.cls ∈ TT ∧ (y.cls ≠ "java/lang/invoke/MethodHandle" ∧ y.cls ≠ "java/lang/invoke/VarHandle") ∧ ((parseMethodDescriptor y.desc).map (fun d => d.parameters.length) = some n)
def YV (y : MethodName) (b : ByteArray) (nLy : Nat) (rety : Option FieldType) (n : Nat) : Prop := YB y b nLy rety n ∧ Cond.instanceMethod y ∈ TT ∧ Cond.selects y.cls y y ∈ TT
def YS (y : MethodName) (b : ByteArray) (nLy : Nat) (rety : Option FieldType) (n : Nat) : Prop := YB y b nLy rety n ∧ Cond.static y ∈ TT
theorem YB.len {y : MethodName} {b : ByteArray} {nLy n : Nat} {rety : Option FieldType} (h : YB y b nLy rety n) : ∀ sig, parseMethodDescriptor y.desc = some sig → n = sig.parameters.length := fun sig hs => by
  have h2 := h.2.2.2
  rw [hs] at h2
  exact (Option.some.inj h2).symm
theorem callB_T (fx : FX G own cc nL ret p s m args meth c A) {y : MethodName} {b : ByteArray} {nLy n idx : Nat} {rety : Option FieldType} {rm : Room} (hy : YB y b nLy rety n) (hl : Cond.methodLink own idx y ∈ TT) (hrm : rm.cells = 0 ∧ rm.slots = 0 ∧ rm.frames + 1 ≤ R.frames ∧ 8 + (nLy + 11) + rm.locals ≤ R.locals) :
    CallB R s args own idx y b nLy rety (wsY y b nLy rety) rm 0 0 n := by
  refine ⟨hrm.1, hrm.2.1, hrm.2.2.1, hrm.2.2.2, fun w hw a' U hW => ?_, List.mem_cons_self, fx.hts _ hy.1, fx.hts _ hy.2.1, hy.2.2.1, hy.len, fx.hts _ hl⟩
  rcases List.mem_cons.mp hw with h | h
  · rw [h]; exact fx.pay _ hy.1 a' U hW
  · exact fx.pay w h a' U hW
theorem callN_T (fx : FX G own cc nL ret p s m args meth c A) {y : MethodName} {b : ByteArray} {nLy n idx : Nat} {rety : Option FieldType} {rm : Room} {host : String} (hy : YB y b nLy rety n) (hl : Cond.methodLinkNest own idx y host ∈ nestL) (hrm : rm.cells = 0 ∧ rm.slots = 0 ∧ rm.frames + 1 ≤ R.frames ∧ 8 + (nLy + 11) + rm.locals ≤ R.locals) :
    va_CN R s args own idx y host b nLy rety (wsY y b nLy rety) rm 0 0 n := by
  refine ⟨⟨hrm.1, hrm.2.1, hrm.2.2.1, hrm.2.2.2, fun w hw a' U hW => ?_, List.mem_cons_self⟩, fx.hts _ hy.1, fx.hts _ hy.2.1, hy.2.2.1, hy.len, va_Nw.use rfl (fx.hN _ hl)⟩
  rcases List.mem_cons.mp hw with h | h
  · rw [h]; exact fx.pay _ hy.1 a' U hW
  · exact fx.pay w h a' U hW
theorem PRE.blind {av : List Value} {sz : Nat} : FrameBlind (va_Pc av (PRE G w sz)) := fun a U g mk q => ⟨q.1, q.2.1, q.2.2.1, va_K.moved (u := U) (U := U.calling g mk a) (Vm.Alike.refl U.vm) q.2.2.2.1, q.2.2.2.2.1, q.2.2.2.2.2.calling⟩
/-- behind a call -/
theorem call_any {wc wr Wc : va_W} {Rc : Option Value} {av : Array Value} (fx : FX G own cc nL ret p s m args meth c A) (hh : HP G A w s H locs) (isC isR isB : List Nat) (hC : isC.map (fun i => w[i]?) = wc.map some) (hR : isR.map (fun i => w[i]?) = wr.map some) (hB : isB.map (fun i => (wr ++ Wc)[i]?) = w'.map some) (hnd : (va_nd isR && (va_nd isB && isR.all (fun i => decide (i ∉ isC)))) = true)
    (hr : va_Run p l e R s m args below meth c H locs cells slots 0 0 (F0 m pc ls st0) rest (QF Rc (POST G (va_A wc H.size) Wc) (va_A wc H.size) av) (va_A wc H.size))
    (kk : ∀ (H1 : Heap) (locs1 : List Loc), HP G A w' s H1 locs1 → W p l e R s m args below meth c H1 locs1 cells slots Q (F0 m (pc + 3) ls (Rc.toList ++ rest))) : W p l e R s m args below meth c H locs cells slots Q (F0 m pc ls st0) := by
  have hF := va_free (wc := wc) hh.2.1 hh.2.2 fx.hA isC hC
  simp only [Bool.and_eq_true, List.all_eq_true, decide_eq_true_eq] at hnd
  intro T hT X
  obtain ⟨v, st₀, t, T', L, h0, X', hL, e1, e2, ⟨⟨hv, hb⟩, hz, hk⟩, st⟩ := hr T hT X
  cases hv
  rw [h0] at hz hk
  obtain ⟨hP2, hD2⟩ := va_join hh.1 hh.2.1 isC isR hC hR hnd.1 hnd.2.2 hk hF hb.1 hb.2
  have hS2 : va_S A s.heap t.heap (locs ++ L) := ⟨Nat.le_trans hh.2.2.1 hz, fun q h1 h2 => by rw [hk q (Nat.lt_of_lt_of_le h1 hh.2.2.1) (fun z => h2 (hF q z))]; exact hh.2.2.2.1 q h1 h2, fun q hq => by
      rcases List.mem_append.mp hq with h | h
      · exact hh.2.2.2.2 q h
      · exact hF _ (hL q h)⟩
  have hh2 : HP G A (wr ++ Wc) s t.heap (locs ++ L) := ⟨hP2, hD2, hS2⟩
  obtain ⟨t2, a1, b1⟩ := kk t.heap (locs ++ L) (hh2.perm isB hnd.2.1 hB) T' e1 X'
  exact ⟨t2, st t2 a1, b1⟩
theorem call_anyJ {wc wr : va_W} {T : Type} {Wc w2 : T → va_W} {Rc : Option Value} {av : Array Value} (fx : FX G own cc nL ret p s m args meth c A) (hh : HP G A w s H locs) (isC isR isB : List Nat) (hC : isC.map (fun i => w[i]?) = wc.map some) (hR : isR.map (fun i => w[i]?) = wr.map some) (hB : ∀ j : T, isB.map (fun i => (wr ++ Wc j)[i]?) = (w2 j).map some) (hnd : (va_nd isR && (va_nd isB && isR.all (fun i => decide (i ∉ isC)))) = true)
    (hr : va_Run p l e R s m args below meth c H locs cells slots 0 0 (F0 m pc ls st0) rest (QF Rc (fun t => ∃ j : T, POST G (va_A wc H.size) (Wc j) t) (va_A wc H.size) av) (va_A wc H.size))
    (kk : ∀ (j : T) (H1 : Heap) (locs1 : List Loc), HP G A (w2 j) s H1 locs1 → W p l e R s m args below meth c H1 locs1 cells slots Q (F0 m (pc + 3) ls (Rc.toList ++ rest))) : W p l e R s m args below meth c H locs cells slots Q (F0 m pc ls st0) := by
  have hF := va_free (wc := wc) hh.2.1 hh.2.2 fx.hA isC hC
  simp only [Bool.and_eq_true, List.all_eq_true, decide_eq_true_eq] at hnd
  intro T hT X
  obtain ⟨v, st₀, t, T', L, h0, X', hL, e1, e2, ⟨⟨hv, j, hb⟩, hz, hk⟩, st⟩ := hr T hT X
  cases hv
  rw [h0] at hz hk
  obtain ⟨hP2, hD2⟩ := va_join hh.1 hh.2.1 isC isR hC hR hnd.1 hnd.2.2 hk hF hb.1 hb.2
  have hS2 : va_S A s.heap t.heap (locs ++ L) := ⟨Nat.le_trans hh.2.2.1 hz, fun q h1 h2 => by rw [hk q (Nat.lt_of_lt_of_le h1 hh.2.2.1) (fun z => h2 (hF q z))]; exact hh.2.2.2.1 q h1 h2, fun q hq => by
      rcases List.mem_append.mp hq with h | h
      · exact hh.2.2.2.2 q h
      · exact hF _ (hL q h)⟩
  have hh2 : HP G A (wr ++ Wc j) s t.heap (locs ++ L) := ⟨hP2, hD2, hS2⟩
  obtain ⟨t2, a1, b1⟩ := kk j t.heap (locs ++ L) (hh2.perm isB hnd.2.1 (hB j)) T' e1 X'
  exact ⟨t2, st t2 a1, b1⟩
theorem PRE.pre {wc : va_W} (fx : FX G own cc nL ret p s m args meth c A) (hh : HP G A w s H locs) (isC : List Nat) (hn : va_nd isC = true) (hC : isC.map (fun i => w[i]?) = wc.map some) : ∀ U : State, U.heap = H → s.WarmedH U.vm → PRE G wc H.size U := fun U hU hW => by
  have h2 := hh.perm isC hn hC
  exact ⟨by rw [hU], by rw [hU]; exact h2.1, va_K.moved hW.alike fx.hK, h2.2.1.weaken (fun _ _ _ _ => trivial), fx.hN.warm hW⟩
/-- a call of an instance method, and of a static one; their nest mates' -/
theorem cl_V (fx : FX G own cc nL ret p s m args meth c A) (hh : HP G A w s H locs) (hsz : ls.size = nL) {y : MethodName} {b : ByteArray} {nLy n idx : Nat} {rety : Option FieldType} {rm : Room} {As : List Value} {wc Wc wr : va_W} {Rc : Option Value}
    (hM : MF l G y b nLy rety rm (.ref a :: As) wc Rc Wc) (hy : YV y b nLy rety n) (hl : Cond.methodLink own idx y ∈ TT) (hrm : rm.cells = 0 ∧ rm.slots = 0 ∧ rm.frames + 1 ≤ R.frames ∧ 8 + (nLy + 11) + rm.locals ≤ R.locals) (q0 ci : Nat) {fs : List Value} {r : vw_C} (he : w[q0]? = some (a, .inr (ci, fs))) (hc : vwCl[ci]? = some r) (hrc : r.1 = y.cls)
    (isC isR isB : List Nat) (hC : isC.map (fun i => w[i]?) = wc.map some) (hR : isR.map (fun i => w[i]?) = wr.map some) (hB : isB.map (fun i => (wr ++ Wc)[i]?) = w'.map some) (hnd : (va_nd isR && (va_nd isB && isR.all (fun i => decide (i ∉ isC)))) = true) (hnc : va_nd isC = true)
    (hn : As.length = n) (hst : st0 = As.reverse ++ .ref a :: rest) (hcat : (rest.map fun v => v.category).sum ≤ 8) (hcs : cells ≤ R.cells ∧ slots ≤ R.slots) (hdg : decode cc pc = .ok (.invokevirtual idx, 3))
    (kk : ∀ (H1 : Heap) (locs1 : List Loc), HP G A w' s H1 locs1 → W p l e R s m args below meth c H1 locs1 cells slots Q (F0 m (pc + 3) ls (Rc.toList ++ rest))) : W p l e R s m args below meth c H locs cells slots Q (F0 m pc ls st0) := by
  have hrv : ∃ cellB : Cell, H[a]? = some cellB ∧ cellB.vm.isStatics = false ∧ s.vm.findClass y.cls = some cellB.cls := hrc ▸ va_recv fx.hK hh.1 hc he
  exact call_any fx hh isC isR isB hC hR hB hnd (va_runV (C := y.cls) (g := F0 m pc ls st0) ⟨fx.hx, fx.hb, fx.hml, fx.hown, fx.hts⟩ (hM H.size) ⟨callB_T fx hy.1 hl hrm, fx.hts _ hy.2.1, fx.hts _ hy.2.2⟩ ⟨PRE.blind, hrv, fun U hU hW => ⟨rfl, PRE.pre fx hh isC hnc hC U hU hW⟩⟩ rfl hn hsz hst (lv_room hcat) hdg hcs) kk
theorem cl_VN (fx : FX G own cc nL ret p s m args meth c A) (hh : HP G A w s H locs) (hsz : ls.size = nL) {y : MethodName} {b : ByteArray} {nLy n idx : Nat} {rety : Option FieldType} {rm : Room} {As : List Value} {wc Wc wr : va_W} {Rc : Option Value} {host : String}
    (hM : MF l G y b nLy rety rm (.ref a :: As) wc Rc Wc) (hy : YV y b nLy rety n) (hl : Cond.methodLinkNest own idx y host ∈ nestL) (hrm : rm.cells = 0 ∧ rm.slots = 0 ∧ rm.frames + 1 ≤ R.frames ∧ 8 + (nLy + 11) + rm.locals ≤ R.locals) (q0 ci : Nat) {fs : List Value} {r : vw_C} (he : w[q0]? = some (a, .inr (ci, fs))) (hc : vwCl[ci]? = some r) (hrc : r.1 = y.cls)
    (isC isR isB : List Nat) (hC : isC.map (fun i => w[i]?) = wc.map some) (hR : isR.map (fun i => w[i]?) = wr.map some) (hB : isB.map (fun i => (wr ++ Wc)[i]?) = w'.map some) (hnd : (va_nd isR && (va_nd isB && isR.all (fun i => decide (i ∉ isC)))) = true) (hnc : va_nd isC = true)
    (hn : As.length = n) (hst : st0 = As.reverse ++ .ref a :: rest) (hcat : (rest.map fun v => v.category).sum ≤ 8) (hcs : cells ≤ R.cells ∧ slots ≤ R.slots) (hdg : decode cc pc = .ok (.invokevirtual idx, 3))
    (kk : ∀ (H1 : Heap) (locs1 : List Loc), HP G A w' s H1 locs1 → W p l e R s m args below meth c H1 locs1 cells slots Q (F0 m (pc + 3) ls (Rc.toList ++ rest))) : W p l e R s m args below meth c H locs cells slots Q (F0 m pc ls st0) := by
  have hrv : ∃ cellB : Cell, H[a]? = some cellB ∧ cellB.vm.isStatics = false ∧ s.vm.findClass y.cls = some cellB.cls := hrc ▸ va_recv fx.hK hh.1 hc he
  exact call_any fx hh isC isR isB hC hR hB hnd (va_runVN (C := y.cls) (g := F0 m pc ls st0) ⟨fx.hx, fx.hb, fx.hml, fx.hown, fx.hts⟩ (hM H.size) ⟨callN_T fx hy.1 hl hrm, fx.hts _ hy.2.1, fx.hts _ hy.2.2⟩ ⟨PRE.blind, hrv, fun U hU hW => ⟨rfl, PRE.pre fx hh isC hnc hC U hU hW⟩⟩ rfl hn hsz hst (lv_room hcat) hdg hcs) kk
theorem cl_S (fx : FX G own cc nL ret p s m args meth c A) (hh : HP G A w s H locs) (hsz : ls.size = nL) {y : MethodName} {b : ByteArray} {nLy n idx : Nat} {rety : Option FieldType} {rm : Room} {As : List Value} {wc Wc wr : va_W} {Rc : Option Value}
    (hM : MF l G y b nLy rety rm As wc Rc Wc) (hy : YS y b nLy rety n) (hl : Cond.methodLink own idx y ∈ TT) (hrm : rm.cells = 0 ∧ rm.slots = 0 ∧ rm.frames + 1 ≤ R.frames ∧ 8 + (nLy + 11) + rm.locals ≤ R.locals)
    (isC isR isB : List Nat) (hC : isC.map (fun i => w[i]?) = wc.map some) (hR : isR.map (fun i => w[i]?) = wr.map some) (hB : isB.map (fun i => (wr ++ Wc)[i]?) = w'.map some) (hnd : (va_nd isR && (va_nd isB && isR.all (fun i => decide (i ∉ isC)))) = true) (hnc : va_nd isC = true)
    (hn : As.length = n) (hst : st0 = As.reverse ++ rest) (hcat : (rest.map fun v => v.category).sum ≤ 8) (hcs : cells ≤ R.cells ∧ slots ≤ R.slots) (hdg : decode cc pc = .ok (.invokestatic idx, 3))
    (kk : ∀ (H1 : Heap) (locs1 : List Loc), HP G A w' s H1 locs1 → W p l e R s m args below meth c H1 locs1 cells slots Q (F0 m (pc + 3) ls (Rc.toList ++ rest))) : W p l e R s m args below meth c H locs cells slots Q (F0 m pc ls st0) :=
  call_any fx hh isC isR isB hC hR hB hnd (va_runS (g := F0 m pc ls st0) ⟨fx.hx, fx.hb, fx.hml, fx.hown, fx.hts⟩ (hM H.size) ⟨callB_T fx hy.1 hl hrm, fx.hts _ hy.2⟩ ⟨PRE.blind, fun U hU hW => ⟨rfl, PRE.pre fx hh isC hnc hC U hU hW⟩⟩ rfl hn hsz hst (lv_room hcat) hdg hcs) kk
theorem cl_SN (fx : FX G own cc nL ret p s m args meth c A) (hh : HP G A w s H locs) (hsz : ls.size = nL) {y : MethodName} {b : ByteArray} {nLy n idx : Nat} {rety : Option FieldType} {rm : Room} {As : List Value} {wc Wc wr : va_W} {Rc : Option Value} {host : String}
    (hM : MF l G y b nLy rety rm As wc Rc Wc) (hy : YS y b nLy rety n) (hl : Cond.methodLinkNest own idx y host ∈ nestL) (hrm : rm.cells = 0 ∧ rm.slots = 0 ∧ rm.frames + 1 ≤ R.frames ∧ 8 + (nLy + 11) + rm.locals ≤ R.locals)
    (isC isR isB : List Nat) (hC : isC.map (fun i => w[i]?) = wc.map some) (hR : isR.map (fun i => w[i]?) = wr.map some) (hB : isB.map (fun i => (wr ++ Wc)[i]?) = w'.map some) (hnd : (va_nd isR && (va_nd isB && isR.all (fun i => decide (i ∉ isC)))) = true) (hnc : va_nd isC = true)
    (hn : As.length = n) (hst : st0 = As.reverse ++ rest) (hcat : (rest.map fun v => v.category).sum ≤ 8) (hcs : cells ≤ R.cells ∧ slots ≤ R.slots) (hdg : decode cc pc = .ok (.invokestatic idx, 3))
    (kk : ∀ (H1 : Heap) (locs1 : List Loc), HP G A w' s H1 locs1 → W p l e R s m args below meth c H1 locs1 cells slots Q (F0 m (pc + 3) ls (Rc.toList ++ rest))) : W p l e R s m args below meth c H locs cells slots Q (F0 m pc ls st0) :=
  call_any fx hh isC isR isB hC hR hB hnd (va_runSN (g := F0 m pc ls st0) ⟨fx.hx, fx.hb, fx.hml, fx.hown, fx.hts⟩ (hM H.size) ⟨callN_T fx hy.1 hl hrm, fx.hts _ hy.2, trivial⟩ ⟨PRE.blind, fun U hU hW => ⟨rfl, PRE.pre fx hh isC hnc hC U hU hW⟩⟩ rfl hn hsz hst (lv_room hcat) hdg hcs) kk
theorem cl_VJ (fx : FX G own cc nL ret p s m args meth c A) (hh : HP G A w s H locs) (hsz : ls.size = nL) {y : MethodName} {b : ByteArray} {nLy n idx : Nat} {rety : Option FieldType} {rm : Room} {As : List Value} {wc wr : va_W} {T : Type} {Wc w2 : T → va_W} {Rc : Option Value}
    (hM : MFJ l G y b nLy rety rm (.ref a :: As) wc Rc Wc) (hy : YV y b nLy rety n) (hl : Cond.methodLink own idx y ∈ TT) (hrm : rm.cells = 0 ∧ rm.slots = 0 ∧ rm.frames + 1 ≤ R.frames ∧ 8 + (nLy + 11) + rm.locals ≤ R.locals) (q0 ci : Nat) {fs : List Value} {r : vw_C} (he : w[q0]? = some (a, .inr (ci, fs))) (hc : vwCl[ci]? = some r) (hrc : r.1 = y.cls)
    (isC isR isB : List Nat) (hC : isC.map (fun i => w[i]?) = wc.map some) (hR : isR.map (fun i => w[i]?) = wr.map some) (hB : ∀ j : T, isB.map (fun i => (wr ++ Wc j)[i]?) = (w2 j).map some) (hnd : (va_nd isR && (va_nd isB && isR.all (fun i => decide (i ∉ isC)))) = true) (hnc : va_nd isC = true)
    (hn : As.length = n) (hst : st0 = As.reverse ++ .ref a :: rest) (hcat : (rest.map fun v => v.category).sum ≤ 8) (hcs : cells ≤ R.cells ∧ slots ≤ R.slots) (hdg : decode cc pc = .ok (.invokevirtual idx, 3))
    (kk : ∀ (j : T) (H1 : Heap) (locs1 : List Loc), HP G A (w2 j) s H1 locs1 → W p l e R s m args below meth c H1 locs1 cells slots Q (F0 m (pc + 3) ls (Rc.toList ++ rest))) : W p l e R s m args below meth c H locs cells slots Q (F0 m pc ls st0) := by
  have hrv : ∃ cellB : Cell, H[a]? = some cellB ∧ cellB.vm.isStatics = false ∧ s.vm.findClass y.cls = some cellB.cls := hrc ▸ va_recv fx.hK hh.1 hc he
  exact call_anyJ fx hh isC isR isB hC hR hB hnd (va_runV (C := y.cls) (g := F0 m pc ls st0) ⟨fx.hx, fx.hb, fx.hml, fx.hown, fx.hts⟩ (hM H.size) ⟨callB_T fx hy.1 hl hrm, fx.hts _ hy.2.1, fx.hts _ hy.2.2⟩ ⟨PRE.blind, hrv, fun U hU hW => ⟨rfl, PRE.pre fx hh isC hnc hC U hU hW⟩⟩ rfl hn hsz hst (lv_room hcat) hdg hcs) kk
/-- the ends -/
theorem HP.post (hh : HP G A w s H locs) {args' : Array Value} {R0 : Option Value} : ∀ t : State, t.heap = H → s.WarmedH t.vm → QF R0 (POST G A w) A args' s (.returned R0) t := fun t ht _ => ⟨⟨rfl, by rw [POST, ht]; exact ⟨hh.1, hh.2.1⟩⟩, hh.2.2.F ht⟩
theorem r_iret (fx : FX G own cc nL (some .int) p s m args meth c A) (hh : HP G A w s H locs) {v : Int32} (hdg : decode cc pc = .ok (.ireturn, 1)) : W p l e R s m args below meth c H locs 0 0 (ZZ G A (some (.int v)) w below args s) (F0 m pc ls [.int v]) :=
  W.iret fx.hx fx.hb fx.hr hh.post hh.2.2.2.2 hdg fx.hlocks
theorem r_zret (fx : FX G own cc nL (some .boolean) p s m args meth c A) (hh : HP G A w s H locs) {v : Int32} (hn : narrow .boolean (.int v) = .int v) (hdg : decode cc pc = .ok (.ireturn, 1)) : W p l e R s m args below meth c H locs 0 0 (ZZ G A (some (.int v)) w below args s) (F0 m pc ls [.int v]) :=
  W.zret fx.hx fx.hb fx.hr hn hh.post hh.2.2.2.2 hdg fx.hlocks
theorem r_lret (fx : FX G own cc nL (some .long) p s m args meth c A) (hh : HP G A w s H locs) {v : Int64} (hdg : decode cc pc = .ok (.lreturn, 1)) : W p l e R s m args below meth c H locs 0 0 (ZZ G A (some (.long v)) w below args s) (F0 m pc ls [.long v]) :=
  W.lret fx.hx fx.hb fx.hr hh.post hh.2.2.2.2 hdg fx.hlocks
theorem r_vret (fx : FX G own cc nL none p s m args meth c A) (hh : HP G A w s H locs) (hdg : decode cc pc = .ok (.return_, 1)) : W p l e R s m args below meth c H locs 0 0 (ZZ G A none w below args s) (F0 m pc ls []) :=
  W.vret fx.hx fx.hb fx.hr hh.post hh.2.2.2.2 hdg fx.hlocks
theorem r_aret {C : String} (fx : FX G own cc nL (some (.object C)) p s m args meth c A) (hh : HP G A w s H locs) {v : Value} (hv : v = .null ∨ ∃ a, v = .ref a) (hdg : decode cc pc = .ok (.areturn, 1)) : W p l e R s m args below meth c H locs 0 0 (ZZ G A (some v) w below args s) (F0 m pc ls [v]) :=
  W.aret fx.hx fx.hb fx.hr (Or.inl ⟨C, rfl⟩) hv hh.post hh.2.2.2.2 hdg fx.hlocks
theorem HP.postJ {T : Type} {W1 : T → va_W} (j : T) (hh : HP G A (W1 j) s H locs) {args' : Array Value} {R0 : Option Value} : ∀ t : State, t.heap = H → s.WarmedH t.vm → QF R0 (fun t => ∃ j : T, POST G A (W1 j) t) A args' s (.returned R0) t := fun t ht _ => ⟨⟨rfl, j, by rw [POST, ht]; exact ⟨hh.1, hh.2.1⟩⟩, hh.2.2.F ht⟩
theorem r_iretJ {T : Type} {W1 : T → va_W} (j : T) (fx : FX G own cc nL (some .int) p s m args meth c A) (hh : HP G A (W1 j) s H locs) {v : Int32} (hdg : decode cc pc = .ok (.ireturn, 1)) : W p l e R s m args below meth c H locs 0 0 (ZJ G A (some (.int v)) W1 below args s) (F0 m pc ls [.int v]) :=
  W.iret fx.hx fx.hb fx.hr (HP.postJ j hh) hh.2.2.2.2 hdg fx.hlocks
theorem r_zretJ {T : Type} {W1 : T → va_W} (j : T) (fx : FX G own cc nL (some .boolean) p s m args meth c A) (hh : HP G A (W1 j) s H locs) {v : Int32} (hn : narrow .boolean (.int v) = .int v) (hdg : decode cc pc = .ok (.ireturn, 1)) : W p l e R s m args below meth c H locs 0 0 (ZJ G A (some (.int v)) W1 below args s) (F0 m pc ls [.int v]) :=
  W.zret fx.hx fx.hb fx.hr hn (HP.postJ j hh) hh.2.2.2.2 hdg fx.hlocks
theorem r_lretJ {T : Type} {W1 : T → va_W} (j : T) (fx : FX G own cc nL (some .long) p s m args meth c A) (hh : HP G A (W1 j) s H locs) {v : Int64} (hdg : decode cc pc = .ok (.lreturn, 1)) : W p l e R s m args below meth c H locs 0 0 (ZJ G A (some (.long v)) W1 below args s) (F0 m pc ls [.long v]) :=
  W.lret fx.hx fx.hb fx.hr (HP.postJ j hh) hh.2.2.2.2 hdg fx.hlocks
theorem r_vretJ {T : Type} {W1 : T → va_W} (j : T) (fx : FX G own cc nL none p s m args meth c A) (hh : HP G A (W1 j) s H locs) (hdg : decode cc pc = .ok (.return_, 1)) : W p l e R s m args below meth c H locs 0 0 (ZJ G A none W1 below args s) (F0 m pc ls []) :=
  W.vret fx.hx fx.hb fx.hr (HP.postJ j hh) hh.2.2.2.2 hdg fx.hlocks
end BASE
end
section
theorem nar01 {v : Int32} (h : v = 0 ∨ v = 1) : narrow .boolean (.int v) = .int v := by
  rcases h with h | h <;> subst h <;> rfl
theorem fit01 {v : Int32} (h : v = 0 ∨ v = 1) : fits .boolean (.int v) = true := by
  rcases h with h | h <;> subst h <;> rfl
theorem sw_ne {x k : Int32} {b : Int} (h : ¬ x = k) (hk : k.toInt = b) : x.toInt ≠ b := fun e => h (Int32.toInt_inj.mp (e.trans hk.symm))
theorem sw_look2 {x d a b p q : Int} (h0 : x ≠ a) (h1 : x ≠ b) : Op.lookupswitch.offset [(a, p), (b, q)] d x = d := by
  simp [Op.lookupswitch.offset, Ne.symm h0, Ne.symm h1, h0, h1]
section CPY
variable {p : Program} {l : Launch} {e : Env} {R : Room} {s : State} {m : MethodId} {args : Array Value} {below : List Frame} {meth : Method} {c : Code} {H : Heap} {locs : List Loc} {cells slots : Nat} {Q : State → Prop}
variable {G : GT} {own : String} {cc : ByteArray} {nL : Nat} {ret : Option FieldType} {A : Nat → Prop} {w w' : va_W} {pc : Nat} {ls : Array Slot} {rest st0 : List Value} {a a0 : Nat}
theorem r_copyi (fx : FX G own cc nL ret p s m args meth c A) (hh : HP G A w s H locs) (hsz : ls.size = nL) {idx : Nat} (hl : Cond.methodLink own idx arraycopyName ∈ TT) (q0 q1 : Nat) {n0 n1 : Nat} {f g : Nat → Int32} (ha0 : w[q0]? = some (a0, .inl (G.2.1, n0, .inl f))) (ha1 : w[q1]? = some (a, .inl (G.2.1, n1, .inl g)))
    {sp dp n : Int32} (h1 : ¬ sp < 0) (h2 : ¬ dp < 0) (h3 : ¬ n < 0) (h4 : sp.toNatClampNeg + n.toNatClampNeg ≤ n0) (h5 : dp.toNatClampNeg + n.toNatClampNeg ≤ n1) (hw : w.set q1 (a, .inl (G.2.1, n1, .inl (va_cpy f g sp.toNatClampNeg dp.toNatClampNeg n.toNatClampNeg))) = w')
    (hfr : 1 ≤ R.frames) (hlo : (rest.map fun v => v.category).sum + (nativeFrameWords "java/lang/System" "arraycopy" 5 + 11) ≤ R.locals) (hdg : decode cc pc = .ok (.invokestatic idx, 3))
    (kk : ∀ (H1 : Heap) (locs1 : List Loc), HP G A w' s H1 locs1 → W p l e R s m args below meth c H1 locs1 cells slots Q (F0 m (pc + 3) ls rest)) : W p l e R s m args below meth c H locs cells slots Q (F0 m pc ls (.int n :: .int dp :: .ref a :: .int sp :: .ref a0 :: rest)) :=
  va_copyi fx.hx fx.hb (fx.hml.trans hsz.symm) fx.hown (fx.hts _ hl) (fx.hts _ tnat) (fx.hts _ tsac) (fx.hts _ tZJ10) fx.hK hh.1 hh.2.1 hh.2.2 q0 q1 0 0 ha0 ha1 (ty := .int) rfl rfl rfl h1 h2 h3 h4 h5 (fun _ _ => rfl) hfr hlo hdg (fun H1 locs1 p1 p2 p3 => kk H1 locs1 ⟨hw ▸ p1, hw ▸ p2, p3⟩)
end CPY
theorem yV_X6_canal : YV yX6_canal cX6_canal 5 (some .int) 4 := ⟨⟨kC_X6_canal, tZX6, ⟨by decide +kernel, by decide +kernel⟩, by decide +kernel⟩, yJ_X6_canal, yY_X6_canal⟩
theorem yV_X6_takeText : YV yX6_takeText cX6_takeText 7 (some .int) 4 := ⟨⟨kC_X6_takeText, tZX6, ⟨by decide +kernel, by decide +kernel⟩, by decide +kernel⟩, yJ_X6_takeText, yY_X6_takeText⟩
theorem yV_X6_sheetAt : YV yX6_sheetAt cX6_sheetAt 2 (some (.object "SkateBonds$Sheet")) 1 := ⟨⟨kC_X6_sheetAt, tZX6, ⟨by decide +kernel, by decide +kernel⟩, by decide +kernel⟩, yJ_X6_sheetAt, yY_X6_sheetAt⟩
theorem yS_X6_isWithin : YS yX6_isWithin cX6_isWithin 3 (some .boolean) 3 := ⟨⟨kC_X6_isWithin, tZX6, ⟨by decide +kernel, by decide +kernel⟩, by decide +kernel⟩, yY_X6_isWithin⟩
theorem yS_X6_refusalOfLane : YS yX6_refusalOfLane cX6_refusalOfLane 2 (some .int) 2 := ⟨⟨kC_X6_refusalOfLane, tZX6, ⟨by decide +kernel, by decide +kernel⟩, by decide +kernel⟩, yY_X6_refusalOfLane⟩
theorem yV_X4_isNothing : YV yX4_isNothing cX4_isNothing 1 (some .boolean) 0 := ⟨⟨kC_X4_isNothing, tZX4, ⟨by decide +kernel, by decide +kernel⟩, by decide +kernel⟩, yJ_X4_isNothing, yY_X4_isNothing⟩
theorem yV_X4_has : YV yX4_has cX4_has 3 (some .boolean) 2 := ⟨⟨kC_X4_has, tZX4, ⟨by decide +kernel, by decide +kernel⟩, by decide +kernel⟩, yJ_X4_has, yY_X4_has⟩
theorem yV_X5_begin : YV yX5_begin cX5_begin 4 none 3 := ⟨⟨kC_X5_begin, tZX5, ⟨by decide +kernel, by decide +kernel⟩, by decide +kernel⟩, yJ_X5_begin, yY_X5_begin⟩
theorem yV_X2_take : YV yX2_take cX2_take 4 none 1 := ⟨⟨kC_X2_take, tZX2, ⟨by decide +kernel, by decide +kernel⟩, by decide +kernel⟩, yJ_X2_take, yY_X2_take⟩
theorem yV_X5_sign : YV yX5_sign cX5_sign 2 none 1 := ⟨⟨kC_X5_sign, tZX5, ⟨by decide +kernel, by decide +kernel⟩, by decide +kernel⟩, yJ_X5_sign, yY_X5_sign⟩
theorem yV_X5_take : YV yX5_take cX5_take 3 (some .int) 2 := ⟨⟨kC_X5_take, tZX5, ⟨by decide +kernel, by decide +kernel⟩, by decide +kernel⟩, yJ_X5_take, yY_X5_take⟩
theorem yV_X5_goesOn : YV yX5_goesOn cX5_goesOn 1 (some .boolean) 0 := ⟨⟨kC_X5_goesOn, tZX5, ⟨by decide +kernel, by decide +kernel⟩, by decide +kernel⟩, yJ_X5_goesOn, yY_X5_goesOn⟩
theorem yV_X5_digit : YV yX5_digit cX5_digit 3 (some .int) 2 := ⟨⟨kC_X5_digit, tZX5, ⟨by decide +kernel, by decide +kernel⟩, by decide +kernel⟩, yJ_X5_digit, yY_X5_digit⟩
theorem yV_X0_take : YV yX0_take cX0_take 3 none 1 := ⟨⟨kC_X0_take, tZX0, ⟨by decide +kernel, by decide +kernel⟩, by decide +kernel⟩, yJ_X0_take, yY_X0_take⟩
theorem yV_X5_kind : YV yX5_kind cX5_kind 2 (some .int) 0 := ⟨⟨kC_X5_kind, tZX5, ⟨by decide +kernel, by decide +kernel⟩, by decide +kernel⟩, yJ_X5_kind, yY_X5_kind⟩
theorem yV_X5_end : YV yX5_end cX5_end 1 none 0 := ⟨⟨kC_X5_end, tZX5, ⟨by decide +kernel, by decide +kernel⟩, by decide +kernel⟩, yJ_X5_end, yY_X5_end⟩
theorem yV_X6_changeToDraft : YV yX6_changeToDraft cX6_changeToDraft 3 none 0 := ⟨⟨kC_X6_changeToDraft, tZX6, ⟨by decide +kernel, by decide +kernel⟩, by decide +kernel⟩, yJ_X6_changeToDraft, yY_X6_changeToDraft⟩
theorem yV_X6_keepFault : YV yX6_keepFault cX6_keepFault 2 (some .int) 1 := ⟨⟨kC_X6_keepFault, tZX6, ⟨by decide +kernel, by decide +kernel⟩, by decide +kernel⟩, yJ_X6_keepFault, yY_X6_keepFault⟩
theorem yV_X6_ofSkater : YV yX6_ofSkater cX6_ofSkater 3 (some .int) 2 := ⟨⟨kC_X6_ofSkater, tZX6, ⟨by decide +kernel, by decide +kernel⟩, by decide +kernel⟩, yJ_X6_ofSkater, yY_X6_ofSkater⟩
theorem yV_X0_has : YV yX0_has cX0_has 2 (some .boolean) 1 := ⟨⟨kC_X0_has, tZX0, ⟨by decide +kernel, by decide +kernel⟩, by decide +kernel⟩, yJ_X0_has, yY_X0_has⟩
theorem yV_X0_load : YV yX0_load cX0_load 2 (some .int) 1 := ⟨⟨kC_X0_load, tZX0, ⟨by decide +kernel, by decide +kernel⟩, by decide +kernel⟩, yJ_X0_load, yY_X0_load⟩
theorem yV_X2_bearing : YV yX2_bearing cX2_bearing 5 (some .int) 2 := ⟨⟨kC_X2_bearing, tZX2, ⟨by decide +kernel, by decide +kernel⟩, by decide +kernel⟩, yJ_X2_bearing, yY_X2_bearing⟩
theorem yV_X2_cells : YV yX2_cells cX2_cells 1 (some .int) 0 := ⟨⟨kC_X2_cells, tZX2, ⟨by decide +kernel, by decide +kernel⟩, by decide +kernel⟩, yJ_X2_cells, yY_X2_cells⟩
theorem yV_X6_strength : YV yX6_strength cX6_strength 2 (some .int) 1 := ⟨⟨kC_X6_strength, tZX6, ⟨by decide +kernel, by decide +kernel⟩, by decide +kernel⟩, yJ_X6_strength, yY_X6_strength⟩
theorem yV_X2_has : YV yX2_has cX2_has 2 (some .boolean) 1 := ⟨⟨kC_X2_has, tZX2, ⟨by decide +kernel, by decide +kernel⟩, by decide +kernel⟩, yJ_X2_has, yY_X2_has⟩
theorem yV_X6_freeze : YV yX6_freeze cX6_freeze 4 (some .int) 2 := ⟨⟨kC_X6_freeze, tZX6, ⟨by decide +kernel, by decide +kernel⟩, by decide +kernel⟩, yJ_X6_freeze, yY_X6_freeze⟩
theorem yV_X6_frost : YV yX6_frost cX6_frost 4 (some .int) 1 := ⟨⟨kC_X6_frost, tZX6, ⟨by decide +kernel, by decide +kernel⟩, by decide +kernel⟩, yJ_X6_frost, yY_X6_frost⟩
theorem yV_X6_refusalOfWeather : YV yX6_refusalOfWeather cX6_refusalOfWeather 2 (some .int) 1 := ⟨⟨kC_X6_refusalOfWeather, tZX6, ⟨by decide +kernel, by decide +kernel⟩, by decide +kernel⟩, yJ_X6_refusalOfWeather, yY_X6_refusalOfWeather⟩
theorem yV_X6_deed : YV yX6_deed cX6_deed 10 (some .int) 8 := ⟨⟨kC_X6_deed, tZX6, ⟨by decide +kernel, by decide +kernel⟩, by decide +kernel⟩, yJ_X6_deed, yY_X6_deed⟩
theorem yV_X6_isDeedKnown : YV yX6_isDeedKnown cX6_isDeedKnown 5 (some .boolean) 4 := ⟨⟨kC_X6_isDeedKnown, tZX6, ⟨by decide +kernel, by decide +kernel⟩, by decide +kernel⟩, yJ_X6_isDeedKnown, yY_X6_isDeedKnown⟩
theorem yV_X6_isPair : YV yX6_isPair cX6_isPair 3 (some .boolean) 2 := ⟨⟨kC_X6_isPair, tZX6, ⟨by decide +kernel, by decide +kernel⟩, by decide +kernel⟩, yJ_X6_isPair, yY_X6_isPair⟩
theorem yV_X6_tryDeed : YV yX6_tryDeed cX6_tryDeed 11 (some .int) 7 := ⟨⟨kC_X6_tryDeed, tZX6, ⟨by decide +kernel, by decide +kernel⟩, by decide +kernel⟩, yJ_X6_tryDeed, yY_X6_tryDeed⟩
theorem yS_X6_refusalOfPart : YS yX6_refusalOfPart cX6_refusalOfPart 5 (some .int) 4 := ⟨⟨kC_X6_refusalOfPart, tZX6, ⟨by decide +kernel, by decide +kernel⟩, by decide +kernel⟩, yY_X6_refusalOfPart⟩
theorem yV_X1_begin : YV yX1_begin cX1_begin 3 none 2 := ⟨⟨kC_X1_begin, tZX1, ⟨by decide +kernel, by decide +kernel⟩, by decide +kernel⟩, yJ_X1_begin, yY_X1_begin⟩
theorem yV_X1_stroke : YV yX1_stroke cX1_stroke 6 none 4 := ⟨⟨kC_X1_stroke, tZX1, ⟨by decide +kernel, by decide +kernel⟩, by decide +kernel⟩, yJ_X1_stroke, yY_X1_stroke⟩
theorem yV_X2_led : YV yX2_led cX2_led 3 (some .int) 2 := ⟨⟨kC_X2_led, tZX2, ⟨by decide +kernel, by decide +kernel⟩, by decide +kernel⟩, yJ_X2_led, yY_X2_led⟩
theorem yS_X6_isIn : YS yX6_isIn cX6_isIn 2 (some .boolean) 2 := ⟨⟨kC_X6_isIn, tZX6, ⟨by decide +kernel, by decide +kernel⟩, by decide +kernel⟩, yY_X6_isIn⟩
theorem yV_X6_ofTrial : YV yX6_ofTrial cX6_ofTrial 3 (some .int) 2 := ⟨⟨kC_X6_ofTrial, tZX6, ⟨by decide +kernel, by decide +kernel⟩, by decide +kernel⟩, yJ_X6_ofTrial, yY_X6_ofTrial⟩
theorem yV_X6_write : YV yX6_write cX6_write 9 (some .int) 7 := ⟨⟨kC_X6_write, tZX6, ⟨by decide +kernel, by decide +kernel⟩, by decide +kernel⟩, yJ_X6_write, yY_X6_write⟩
theorem yV_X6_nights : YV yX6_nights cX6_nights 3 (some .int) 1 := ⟨⟨kC_X6_nights, tZX6, ⟨by decide +kernel, by decide +kernel⟩, by decide +kernel⟩, yJ_X6_nights, yY_X6_nights⟩
theorem yV_X2_strengthen : YV yX2_strengthen cX2_strengthen 3 none 1 := ⟨⟨kC_X2_strengthen, tZX2, ⟨by decide +kernel, by decide +kernel⟩, by decide +kernel⟩, yJ_X2_strengthen, yY_X2_strengthen⟩
theorem yS_J9_min_7cf53 : YS yJ9_min_7cf53 cJ9_min_7cf53 2 (some .int) 2 := ⟨⟨kC_J9_min_7cf53, tZJ9, ⟨by decide +kernel, by decide +kernel⟩, by decide +kernel⟩, yY_J9_min_7cf53⟩
theorem yS_J9_max_7cf53 : YS yJ9_max_7cf53 cJ9_max_7cf53 2 (some .int) 2 := ⟨⟨kC_J9_max_7cf53, tZJ9, ⟨by decide +kernel, by decide +kernel⟩, by decide +kernel⟩, yY_J9_max_7cf53⟩
theorem yV_X2_count : YV yX2_count cX2_count 4 (some .int) 1 := ⟨⟨kC_X2_count, tZX2, ⟨by decide +kernel, by decide +kernel⟩, by decide +kernel⟩, yJ_X2_count, yY_X2_count⟩
theorem yV_X6_thaw : YV yX6_thaw cX6_thaw 3 (some .int) 1 := ⟨⟨kC_X6_thaw, tZX6, ⟨by decide +kernel, by decide +kernel⟩, by decide +kernel⟩, yJ_X6_thaw, yY_X6_thaw⟩
theorem yV_X6_bond : YV yX6_bond cX6_bond 9 (some .int) 5 := ⟨⟨kC_X6_bond, tZX6, ⟨by decide +kernel, by decide +kernel⟩, by decide +kernel⟩, yJ_X6_bond, yY_X6_bond⟩
theorem yV_X6_isBondKnown : YV yX6_isBondKnown cX6_isBondKnown 5 (some .boolean) 4 := ⟨⟨kC_X6_isBondKnown, tZX6, ⟨by decide +kernel, by decide +kernel⟩, by decide +kernel⟩, yJ_X6_isBondKnown, yY_X6_isBondKnown⟩
theorem yV_X2_shortest : YV yX2_shortest cX2_shortest 8 (some .int) 4 := ⟨⟨kC_X2_shortest, tZX2, ⟨by decide +kernel, by decide +kernel⟩, by decide +kernel⟩, yJ_X2_shortest, yY_X2_shortest⟩
theorem yV_X2_nextTo : YV yX2_nextTo cX2_nextTo 4 (some .int) 1 := ⟨⟨kC_X2_nextTo, tZX2, ⟨by decide +kernel, by decide +kernel⟩, by decide +kernel⟩, yJ_X2_nextTo, yY_X2_nextTo⟩
theorem yV_X2_all : YV yX2_all cX2_all 1 (some .int) 0 := ⟨⟨kC_X2_all, tZX2, ⟨by decide +kernel, by decide +kernel⟩, by decide +kernel⟩, yJ_X2_all, yY_X2_all⟩
theorem yV_X2_strokeOfBond : YV yX2_strokeOfBond cX2_strokeOfBond 10 (some .int) 5 := ⟨⟨kC_X2_strokeOfBond, tZX2, ⟨by decide +kernel, by decide +kernel⟩, by decide +kernel⟩, yJ_X2_strokeOfBond, yY_X2_strokeOfBond⟩
theorem yV_X2_beginOfBond : YV yX2_beginOfBond cX2_beginOfBond 8 (some .int) 4 := ⟨⟨kC_X2_beginOfBond, tZX2, ⟨by decide +kernel, by decide +kernel⟩, by decide +kernel⟩, yJ_X2_beginOfBond, yY_X2_beginOfBond⟩
theorem yV_X6_holds : YV yX6_holds cX6_holds 8 (some .int) 4 := ⟨⟨kC_X6_holds, tZX6, ⟨by decide +kernel, by decide +kernel⟩, by decide +kernel⟩, yJ_X6_holds, yY_X6_holds⟩
theorem yV_X6_alone : YV yX6_alone cX6_alone 3 (some .int) 2 := ⟨⟨kC_X6_alone, tZX6, ⟨by decide +kernel, by decide +kernel⟩, by decide +kernel⟩, yJ_X6_alone, yY_X6_alone⟩
theorem yV_X2_reach : YV yX2_reach cX2_reach 5 (some .int) 2 := ⟨⟨kC_X2_reach, tZX2, ⟨by decide +kernel, by decide +kernel⟩, by decide +kernel⟩, yJ_X2_reach, yY_X2_reach⟩
theorem yV_X6_neck : YV yX6_neck cX6_neck 6 (some .int) 4 := ⟨⟨kC_X6_neck, tZX6, ⟨by decide +kernel, by decide +kernel⟩, by decide +kernel⟩, yJ_X6_neck, yY_X6_neck⟩
theorem yV_X6_isBond : YV yX6_isBond cX6_isBond 8 (some .boolean) 5 := ⟨⟨kC_X6_isBond, tZX6, ⟨by decide +kernel, by decide +kernel⟩, by decide +kernel⟩, yJ_X6_isBond, yY_X6_isBond⟩
theorem yV_X6_reading : YV yX6_reading cX6_reading 4 (some .int) 3 := ⟨⟨kC_X6_reading, tZX6, ⟨by decide +kernel, by decide +kernel⟩, by decide +kernel⟩, yJ_X6_reading, yY_X6_reading⟩
theorem yV_X3_add : YV yX3_add cX3_add 4 (some .int) 3 := ⟨⟨kC_X3_add, tZX3, ⟨by decide +kernel, by decide +kernel⟩, by decide +kernel⟩, yJ_X3_add, yY_X3_add⟩
theorem yV_X6_back : YV yX6_back cX6_back 2 (some .int) 1 := ⟨⟨kC_X6_back, tZX6, ⟨by decide +kernel, by decide +kernel⟩, by decide +kernel⟩, yJ_X6_back, yY_X6_back⟩
theorem yV_X6_weights : YV yX6_weights cX6_weights 5 (some .int) 1 := ⟨⟨kC_X6_weights, tZX6, ⟨by decide +kernel, by decide +kernel⟩, by decide +kernel⟩, yJ_X6_weights, yY_X6_weights⟩
theorem yV_X3_areSo : YV yX3_areSo cX3_areSo 5 (some .boolean) 2 := ⟨⟨kC_X3_areSo, tZX3, ⟨by decide +kernel, by decide +kernel⟩, by decide +kernel⟩, yJ_X3_areSo, yY_X3_areSo⟩
theorem yV_X6_kinds : YV yX6_kinds cX6_kinds 5 (some .int) 1 := ⟨⟨kC_X6_kinds, tZX6, ⟨by decide +kernel, by decide +kernel⟩, by decide +kernel⟩, yJ_X6_kinds, yY_X6_kinds⟩
theorem yV_X6_strengths : YV yX6_strengths cX6_strengths 5 (some .int) 1 := ⟨⟨kC_X6_strengths, tZX6, ⟨by decide +kernel, by decide +kernel⟩, by decide +kernel⟩, yJ_X6_strengths, yY_X6_strengths⟩
theorem yV_X6_odds : YV yX6_odds cX6_odds 11 (some .long) 6 := ⟨⟨kC_X6_odds, tZX6, ⟨by decide +kernel, by decide +kernel⟩, by decide +kernel⟩, yJ_X6_odds, yY_X6_odds⟩
theorem yS_J6_bitCount_0f7a4 : YS yJ6_bitCount_0f7a4 cJ6_bitCount_0f7a4 1 (some .int) 1 := ⟨⟨kC_J6_bitCount_0f7a4, tZJ6, ⟨by decide +kernel, by decide +kernel⟩, by decide +kernel⟩, yY_J6_bitCount_0f7a4⟩
theorem yV_X6_bondsAsBreaking : YV yX6_bondsAsBreaking cX6_bondsAsBreaking 9 (some .int) 5 := ⟨⟨kC_X6_bondsAsBreaking, tZX6, ⟨by decide +kernel, by decide +kernel⟩, by decide +kernel⟩, yJ_X6_bondsAsBreaking, yY_X6_bondsAsBreaking⟩
theorem yV_X6_sheet : YV yX6_sheet cX6_sheet 4 (some .int) 3 := ⟨⟨kC_X6_sheet, tZX6, ⟨by decide +kernel, by decide +kernel⟩, by decide +kernel⟩, yJ_X6_sheet, yY_X6_sheet⟩
theorem yV_X6_newRow : YV yX6_newRow cX6_newRow 5 (some .int) 3 := ⟨⟨kC_X6_newRow, tZX6, ⟨by decide +kernel, by decide +kernel⟩, by decide +kernel⟩, yJ_X6_newRow, yY_X6_newRow⟩
theorem yV_X4_begin : YV yX4_begin cX4_begin 3 none 2 := ⟨⟨kC_X4_begin, tZX4, ⟨by decide +kernel, by decide +kernel⟩, by decide +kernel⟩, yJ_X4_begin, yY_X4_begin⟩
theorem yS_J7_fill_53178 : YS yJ7_fill_53178 cJ7_fill_53178 4 none 2 := ⟨⟨kC_J7_fill_53178, tZJ7, ⟨by decide +kernel, by decide +kernel⟩, by decide +kernel⟩, yY_J7_fill_53178⟩
theorem yV_X6_lose : YV yX6_lose cX6_lose 4 (some .int) 1 := ⟨⟨kC_X6_lose, tZX6, ⟨by decide +kernel, by decide +kernel⟩, by decide +kernel⟩, yJ_X6_lose, yY_X6_lose⟩
theorem yV_X4_clear : YV yX4_clear cX4_clear 1 none 0 := ⟨⟨kC_X4_clear, tZX4, ⟨by decide +kernel, by decide +kernel⟩, by decide +kernel⟩, yJ_X4_clear, yY_X4_clear⟩
theorem yV_X6_put : YV yX6_put cX6_put 4 (some .int) 3 := ⟨⟨kC_X6_put, tZX6, ⟨by decide +kernel, by decide +kernel⟩, by decide +kernel⟩, yJ_X6_put, yY_X6_put⟩
theorem yV_X6_putNumber : YV yX6_putNumber cX6_putNumber 5 (some .int) 3 := ⟨⟨kC_X6_putNumber, tZX6, ⟨by decide +kernel, by decide +kernel⟩, by decide +kernel⟩, yJ_X6_putNumber, yY_X6_putNumber⟩
theorem yV_X4_set : YV yX4_set cX4_set 3 none 2 := ⟨⟨kC_X4_set, tZX4, ⟨by decide +kernel, by decide +kernel⟩, by decide +kernel⟩, yJ_X4_set, yY_X4_set⟩
theorem yV_X6_cell : YV yX6_cell cX6_cell 6 (some .long) 3 := ⟨⟨kC_X6_cell, tZX6, ⟨by decide +kernel, by decide +kernel⟩, by decide +kernel⟩, yJ_X6_cell, yY_X6_cell⟩
theorem yV_X6_copy : YV yX6_copy cX6_copy 6 (some .int) 5 := ⟨⟨kC_X6_copy, tZX6, ⟨by decide +kernel, by decide +kernel⟩, by decide +kernel⟩, yJ_X6_copy, yY_X6_copy⟩
theorem yV_X6_copyNumbers : YV yX6_copyNumbers cX6_copyNumbers 8 (some .int) 5 := ⟨⟨kC_X6_copyNumbers, tZX6, ⟨by decide +kernel, by decide +kernel⟩, by decide +kernel⟩, yJ_X6_copyNumbers, yY_X6_copyNumbers⟩
theorem yV_X6_tell : YV yX6_tell cX6_tell 3 (some .int) 1 := ⟨⟨kC_X6_tell, tZX6, ⟨by decide +kernel, by decide +kernel⟩, by decide +kernel⟩, yJ_X6_tell, yY_X6_tell⟩
theorem yV_X6_bankerGives : YV yX6_bankerGives cX6_bankerGives 3 (some .int) 1 := ⟨⟨kC_X6_bankerGives, tZX6, ⟨by decide +kernel, by decide +kernel⟩, by decide +kernel⟩, yJ_X6_bankerGives, yY_X6_bankerGives⟩
theorem yV_X6_leave : YV yX6_leave cX6_leave 2 none 1 := ⟨⟨kC_X6_leave, tZX6, ⟨by decide +kernel, by decide +kernel⟩, by decide +kernel⟩, yJ_X6_leave, yY_X6_leave⟩
theorem yV_X6_clerkGives : YV yX6_clerkGives cX6_clerkGives 2 (some .int) 1 := ⟨⟨kC_X6_clerkGives, tZX6, ⟨by decide +kernel, by decide +kernel⟩, by decide +kernel⟩, yJ_X6_clerkGives, yY_X6_clerkGives⟩
theorem yV_X6_skaterGives : YV yX6_skaterGives cX6_skaterGives 2 (some .int) 1 := ⟨⟨kC_X6_skaterGives, tZX6, ⟨by decide +kernel, by decide +kernel⟩, by decide +kernel⟩, yJ_X6_skaterGives, yY_X6_skaterGives⟩
theorem yV_X6_signed : YV yX6_signed cX6_signed 2 (some .int) 1 := ⟨⟨kC_X6_signed, tZX6, ⟨by decide +kernel, by decide +kernel⟩, by decide +kernel⟩, yJ_X6_signed, yY_X6_signed⟩
theorem yV_X6_as : YV yX6_as cX6_as 3 (some .int) 2 := ⟨⟨kC_X6_as, tZX6, ⟨by decide +kernel, by decide +kernel⟩, by decide +kernel⟩, yJ_X6_as, yY_X6_as⟩
theorem yV_X6_takeAs : YV yX6_takeAs cX6_takeAs 3 (some .int) 2 := ⟨⟨kC_X6_takeAs, tZX6, ⟨by decide +kernel, by decide +kernel⟩, by decide +kernel⟩, yJ_X6_takeAs, yY_X6_takeAs⟩
theorem yV_X6_trace : YV yX6_trace cX6_trace 1 (some .int) 0 := ⟨⟨kC_X6_trace, tZX6, ⟨by decide +kernel, by decide +kernel⟩, by decide +kernel⟩, yJ_X6_trace, yY_X6_trace⟩
theorem yV_X6_fault : YV yX6_fault cX6_fault 1 (some .int) 0 := ⟨⟨kC_X6_fault, tZX6, ⟨by decide +kernel, by decide +kernel⟩, by decide +kernel⟩, yJ_X6_fault, yY_X6_fault⟩
theorem yV_X6_many : YV yX6_many cX6_many 2 (some .int) 1 := ⟨⟨kC_X6_many, tZX6, ⟨by decide +kernel, by decide +kernel⟩, by decide +kernel⟩, yJ_X6_many, yY_X6_many⟩
theorem yV_X7_canal : YV yX7_canal cX7_canal 7 (some .int) 4 := ⟨⟨kC_X7_canal, tZX7, ⟨by decide +kernel, by decide +kernel⟩, by decide +kernel⟩, yJ_X7_canal, yY_X7_canal⟩
theorem yS_X7_noSheet : YS yX7_noSheet cX7_noSheet 1 (some .boolean) 1 := ⟨⟨kC_X7_noSheet, tZX7, ⟨by decide +kernel, by decide +kernel⟩, by decide +kernel⟩, yY_X7_noSheet⟩
theorem yS_X7_in : YS yX7_in cX7_in 6 (some .boolean) 3 := ⟨⟨kC_X7_in, tZX7, ⟨by decide +kernel, by decide +kernel⟩, by decide +kernel⟩, yY_X7_in⟩
theorem yV_X7_refused : YV yX7_refused cX7_refused 2 (some .int) 1 := ⟨⟨kC_X7_refused, tZX7, ⟨by decide +kernel, by decide +kernel⟩, by decide +kernel⟩, yJ_X7_refused, yY_X7_refused⟩
theorem yV_X7_cellsBarred : YV yX7_cellsBarred cX7_cellsBarred 6 (some .int) 4 := ⟨⟨kC_X7_cellsBarred, tZX7, ⟨by decide +kernel, by decide +kernel⟩, by decide +kernel⟩, yJ_X7_cellsBarred, yY_X7_cellsBarred⟩
theorem yV_X7_failed : YV yX7_failed cX7_failed 2 (some .int) 1 := ⟨⟨kC_X7_failed, tZX7, ⟨by decide +kernel, by decide +kernel⟩, by decide +kernel⟩, yJ_X7_failed, yY_X7_failed⟩
theorem yS_X7_isBeyond : YS yX7_isBeyond cX7_isBeyond 4 (some .boolean) 3 := ⟨⟨kC_X7_isBeyond, tZX7, ⟨by decide +kernel, by decide +kernel⟩, by decide +kernel⟩, yY_X7_isBeyond⟩
theorem yV_X7_readsCanal : YV yX7_readsCanal cX7_readsCanal 5 (some .boolean) 2 := ⟨⟨kC_X7_readsCanal, tZX7, ⟨by decide +kernel, by decide +kernel⟩, by decide +kernel⟩, yJ_X7_readsCanal, yY_X7_readsCanal⟩
theorem yV_X7_codeAt : YV yX7_codeAt cX7_codeAt 3 (some .int) 2 := ⟨⟨kC_X7_codeAt, tZX7, ⟨by decide +kernel, by decide +kernel⟩, by decide +kernel⟩, yJ_X7_codeAt, yY_X7_codeAt⟩
theorem yV_X7_figure : YV yX7_figure cX7_figure 7 (some .int) 4 := ⟨⟨kC_X7_figure, tZX7, ⟨by decide +kernel, by decide +kernel⟩, by decide +kernel⟩, yJ_X7_figure, yY_X7_figure⟩
theorem yV_X7_readsPlace : YV yX7_readsPlace cX7_readsPlace 4 (some .boolean) 3 := ⟨⟨kC_X7_readsPlace, tZX7, ⟨by decide +kernel, by decide +kernel⟩, by decide +kernel⟩, yJ_X7_readsPlace, yY_X7_readsPlace⟩
theorem yV_X7_readsSkater : YV yX7_readsSkater cX7_readsSkater 5 (some .boolean) 2 := ⟨⟨kC_X7_readsSkater, tZX7, ⟨by decide +kernel, by decide +kernel⟩, by decide +kernel⟩, yJ_X7_readsSkater, yY_X7_readsSkater⟩
theorem yV_X7_cells : YV yX7_cells cX7_cells 1 (some .int) 0 := ⟨⟨kC_X7_cells, tZX7, ⟨by decide +kernel, by decide +kernel⟩, by decide +kernel⟩, yJ_X7_cells, yY_X7_cells⟩
theorem yV_X7_ofSkater : YV yX7_ofSkater cX7_ofSkater 3 (some .int) 2 := ⟨⟨kC_X7_ofSkater, tZX7, ⟨by decide +kernel, by decide +kernel⟩, by decide +kernel⟩, yJ_X7_ofSkater, yY_X7_ofSkater⟩
theorem yV_X7_noSkater : YV yX7_noSkater cX7_noSkater 2 (some .boolean) 1 := ⟨⟨kC_X7_noSkater, tZX7, ⟨by decide +kernel, by decide +kernel⟩, by decide +kernel⟩, yJ_X7_noSkater, yY_X7_noSkater⟩
theorem yV_X7_loadOf : YV yX7_loadOf cX7_loadOf 3 (some .int) 1 := ⟨⟨kC_X7_loadOf, tZX7, ⟨by decide +kernel, by decide +kernel⟩, by decide +kernel⟩, yJ_X7_loadOf, yY_X7_loadOf⟩
theorem yV_X7_bearingOf : YV yX7_bearingOf cX7_bearingOf 4 (some .int) 1 := ⟨⟨kC_X7_bearingOf, tZX7, ⟨by decide +kernel, by decide +kernel⟩, by decide +kernel⟩, yJ_X7_bearingOf, yY_X7_bearingOf⟩
theorem yV_X7_bears : YV yX7_bears cX7_bears 4 (some .boolean) 2 := ⟨⟨kC_X7_bears, tZX7, ⟨by decide +kernel, by decide +kernel⟩, by decide +kernel⟩, yJ_X7_bears, yY_X7_bears⟩
theorem yS_X7_isIn : YS yX7_isIn cX7_isIn 2 (some .boolean) 2 := ⟨⟨kC_X7_isIn, tZX7, ⟨by decide +kernel, by decide +kernel⟩, by decide +kernel⟩, yY_X7_isIn⟩
theorem yV_X7_strength : YV yX7_strength cX7_strength 2 (some .int) 1 := ⟨⟨kC_X7_strength, tZX7, ⟨by decide +kernel, by decide +kernel⟩, by decide +kernel⟩, yJ_X7_strength, yY_X7_strength⟩
theorem yV_X7_noPlace : YV yX7_noPlace cX7_noPlace 2 (some .boolean) 1 := ⟨⟨kC_X7_noPlace, tZX7, ⟨by decide +kernel, by decide +kernel⟩, by decide +kernel⟩, yJ_X7_noPlace, yY_X7_noPlace⟩
theorem yV_X7_freeze : YV yX7_freeze cX7_freeze 4 (some .int) 2 := ⟨⟨kC_X7_freeze, tZX7, ⟨by decide +kernel, by decide +kernel⟩, by decide +kernel⟩, yJ_X7_freeze, yY_X7_freeze⟩
theorem yV_X7_frost : YV yX7_frost cX7_frost 3 (some .int) 1 := ⟨⟨kC_X7_frost, tZX7, ⟨by decide +kernel, by decide +kernel⟩, by decide +kernel⟩, yJ_X7_frost, yY_X7_frost⟩
theorem yV_X7_deed : YV yX7_deed cX7_deed 11 (some .int) 8 := ⟨⟨kC_X7_deed, tZX7, ⟨by decide +kernel, by decide +kernel⟩, by decide +kernel⟩, yJ_X7_deed, yY_X7_deed⟩
theorem yV_X7_noTwo : YV yX7_noTwo cX7_noTwo 3 (some .boolean) 2 := ⟨⟨kC_X7_noTwo, tZX7, ⟨by decide +kernel, by decide +kernel⟩, by decide +kernel⟩, yJ_X7_noTwo, yY_X7_noTwo⟩
theorem yV_X7_strokesBarred : YV yX7_strokesBarred cX7_strokesBarred 7 (some .int) 4 := ⟨⟨kC_X7_strokesBarred, tZX7, ⟨by decide +kernel, by decide +kernel⟩, by decide +kernel⟩, yJ_X7_strokesBarred, yY_X7_strokesBarred⟩
theorem yV_X7_keep : YV yX7_keep cX7_keep 2 none 0 := ⟨⟨kC_X7_keep, tZX7, ⟨by decide +kernel, by decide +kernel⟩, by decide +kernel⟩, yJ_X7_keep, yY_X7_keep⟩
theorem yV_X7_goDeed : YV yX7_goDeed cX7_goDeed 8 none 5 := ⟨⟨kC_X7_goDeed, tZX7, ⟨by decide +kernel, by decide +kernel⟩, by decide +kernel⟩, yJ_X7_goDeed, yY_X7_goDeed⟩
theorem yV_X7_beside : YV yX7_beside cX7_beside 5 (some .int) 2 := ⟨⟨kC_X7_beside, tZX7, ⟨by decide +kernel, by decide +kernel⟩, by decide +kernel⟩, yJ_X7_beside, yY_X7_beside⟩
theorem yV_X7_putBack : YV yX7_putBack cX7_putBack 2 none 0 := ⟨⟨kC_X7_putBack, tZX7, ⟨by decide +kernel, by decide +kernel⟩, by decide +kernel⟩, yJ_X7_putBack, yY_X7_putBack⟩
theorem yV_X7_write : YV yX7_write cX7_write 9 (some .int) 7 := ⟨⟨kC_X7_write, tZX7, ⟨by decide +kernel, by decide +kernel⟩, by decide +kernel⟩, yJ_X7_write, yY_X7_write⟩
theorem yV_X7_nights : YV yX7_nights cX7_nights 4 (some .int) 1 := ⟨⟨kC_X7_nights, tZX7, ⟨by decide +kernel, by decide +kernel⟩, by decide +kernel⟩, yJ_X7_nights, yY_X7_nights⟩
theorem yV_X7_countOf : YV yX7_countOf cX7_countOf 4 (some .int) 1 := ⟨⟨kC_X7_countOf, tZX7, ⟨by decide +kernel, by decide +kernel⟩, by decide +kernel⟩, yJ_X7_countOf, yY_X7_countOf⟩
theorem yV_X7_thaw : YV yX7_thaw cX7_thaw 4 (some .int) 1 := ⟨⟨kC_X7_thaw, tZX7, ⟨by decide +kernel, by decide +kernel⟩, by decide +kernel⟩, yJ_X7_thaw, yY_X7_thaw⟩
theorem yV_X7_bond : YV yX7_bond cX7_bond 9 (some .int) 5 := ⟨⟨kC_X7_bond, tZX7, ⟨by decide +kernel, by decide +kernel⟩, by decide +kernel⟩, yJ_X7_bond, yY_X7_bond⟩
theorem yV_X7_goBond : YV yX7_goBond cX7_goBond 8 none 3 := ⟨⟨kC_X7_goBond, tZX7, ⟨by decide +kernel, by decide +kernel⟩, by decide +kernel⟩, yJ_X7_goBond, yY_X7_goBond⟩
theorem yV_X7_leftBy : YV yX7_leftBy cX7_leftBy 11 (some .int) 3 := ⟨⟨kC_X7_leftBy, tZX7, ⟨by decide +kernel, by decide +kernel⟩, by decide +kernel⟩, yJ_X7_leftBy, yY_X7_leftBy⟩
theorem yV_X7_strokeBy : YV yX7_strokeBy cX7_strokeBy 10 (some .int) 4 := ⟨⟨kC_X7_strokeBy, tZX7, ⟨by decide +kernel, by decide +kernel⟩, by decide +kernel⟩, yJ_X7_strokeBy, yY_X7_strokeBy⟩
theorem yV_X7_holds : YV yX7_holds cX7_holds 7 (some .int) 4 := ⟨⟨kC_X7_holds, tZX7, ⟨by decide +kernel, by decide +kernel⟩, by decide +kernel⟩, yJ_X7_holds, yY_X7_holds⟩
theorem yV_X7_isBond : YV yX7_isBond cX7_isBond 5 (some .boolean) 4 := ⟨⟨kC_X7_isBond, tZX7, ⟨by decide +kernel, by decide +kernel⟩, by decide +kernel⟩, yJ_X7_isBond, yY_X7_isBond⟩
theorem yV_X7_alone : YV yX7_alone cX7_alone 7 (some .int) 2 := ⟨⟨kC_X7_alone, tZX7, ⟨by decide +kernel, by decide +kernel⟩, by decide +kernel⟩, yJ_X7_alone, yY_X7_alone⟩
theorem yV_X7_neck : YV yX7_neck cX7_neck 8 (some .int) 4 := ⟨⟨kC_X7_neck, tZX7, ⟨by decide +kernel, by decide +kernel⟩, by decide +kernel⟩, yJ_X7_neck, yY_X7_neck⟩
theorem yV_X7_reading : YV yX7_reading cX7_reading 4 (some .int) 3 := ⟨⟨kC_X7_reading, tZX7, ⟨by decide +kernel, by decide +kernel⟩, by decide +kernel⟩, yJ_X7_reading, yY_X7_reading⟩
theorem yV_X7_back : YV yX7_back cX7_back 2 (some .int) 1 := ⟨⟨kC_X7_back, tZX7, ⟨by decide +kernel, by decide +kernel⟩, by decide +kernel⟩, yJ_X7_back, yY_X7_back⟩
theorem yV_X7_weights : YV yX7_weights cX7_weights 5 (some .int) 1 := ⟨⟨kC_X7_weights, tZX7, ⟨by decide +kernel, by decide +kernel⟩, by decide +kernel⟩, yJ_X7_weights, yY_X7_weights⟩
theorem yV_X7_areSo : YV yX7_areSo cX7_areSo 3 (some .boolean) 0 := ⟨⟨kC_X7_areSo, tZX7, ⟨by decide +kernel, by decide +kernel⟩, by decide +kernel⟩, yJ_X7_areSo, yY_X7_areSo⟩
theorem yV_X7_kinds : YV yX7_kinds cX7_kinds 5 (some .int) 1 := ⟨⟨kC_X7_kinds, tZX7, ⟨by decide +kernel, by decide +kernel⟩, by decide +kernel⟩, yJ_X7_kinds, yY_X7_kinds⟩
theorem yV_X7_strengths : YV yX7_strengths cX7_strengths 5 (some .int) 1 := ⟨⟨kC_X7_strengths, tZX7, ⟨by decide +kernel, by decide +kernel⟩, by decide +kernel⟩, yJ_X7_strengths, yY_X7_strengths⟩
theorem yV_X7_odds : YV yX7_odds cX7_odds 11 (some .long) 6 := ⟨⟨kC_X7_odds, tZX7, ⟨by decide +kernel, by decide +kernel⟩, by decide +kernel⟩, yJ_X7_odds, yY_X7_odds⟩
theorem yS_X7_lost : YS yX7_lost cX7_lost 0 (some .long) 0 := ⟨⟨kC_X7_lost, tZX7, ⟨by decide +kernel, by decide +kernel⟩, by decide +kernel⟩, yY_X7_lost⟩
theorem yS_X7_bits : YS yX7_bits cX7_bits 3 (some .int) 1 := ⟨⟨kC_X7_bits, tZX7, ⟨by decide +kernel, by decide +kernel⟩, by decide +kernel⟩, yY_X7_bits⟩
theorem yS_X7_share : YS yX7_share cX7_share 11 (some .long) 3 := ⟨⟨kC_X7_share, tZX7, ⟨by decide +kernel, by decide +kernel⟩, by decide +kernel⟩, yY_X7_share⟩
theorem yV_X7_sheet : YV yX7_sheet cX7_sheet 5 (some .int) 3 := ⟨⟨kC_X7_sheet, tZX7, ⟨by decide +kernel, by decide +kernel⟩, by decide +kernel⟩, yJ_X7_sheet, yY_X7_sheet⟩
theorem yV_X7_lose : YV yX7_lose cX7_lose 3 (some .int) 1 := ⟨⟨kC_X7_lose, tZX7, ⟨by decide +kernel, by decide +kernel⟩, by decide +kernel⟩, yJ_X7_lose, yY_X7_lose⟩
theorem yV_X7_put : YV yX7_put cX7_put 4 (some .int) 3 := ⟨⟨kC_X7_put, tZX7, ⟨by decide +kernel, by decide +kernel⟩, by decide +kernel⟩, yJ_X7_put, yY_X7_put⟩
theorem yV_X7_noCell : YV yX7_noCell cX7_noCell 3 (some .int) 2 := ⟨⟨kC_X7_noCell, tZX7, ⟨by decide +kernel, by decide +kernel⟩, by decide +kernel⟩, yJ_X7_noCell, yY_X7_noCell⟩
theorem yV_X7_cell : YV yX7_cell cX7_cell 4 (some .long) 3 := ⟨⟨kC_X7_cell, tZX7, ⟨by decide +kernel, by decide +kernel⟩, by decide +kernel⟩, yJ_X7_cell, yY_X7_cell⟩
theorem yV_X7_failedLong : YV yX7_failedLong cX7_failedLong 2 (some .long) 1 := ⟨⟨kC_X7_failedLong, tZX7, ⟨by decide +kernel, by decide +kernel⟩, by decide +kernel⟩, yJ_X7_failedLong, yY_X7_failedLong⟩
theorem yV_X7_copy : YV yX7_copy cX7_copy 7 (some .int) 5 := ⟨⟨kC_X7_copy, tZX7, ⟨by decide +kernel, by decide +kernel⟩, by decide +kernel⟩, yJ_X7_copy, yY_X7_copy⟩
theorem yV_X7_tell : YV yX7_tell cX7_tell 4 (some .int) 1 := ⟨⟨kC_X7_tell, tZX7, ⟨by decide +kernel, by decide +kernel⟩, by decide +kernel⟩, yJ_X7_tell, yY_X7_tell⟩
theorem yV_X7_traced : YV yX7_traced cX7_traced 2 none 1 := ⟨⟨kC_X7_traced, tZX7, ⟨by decide +kernel, by decide +kernel⟩, by decide +kernel⟩, yJ_X7_traced, yY_X7_traced⟩
theorem yV_X7_signed : YV yX7_signed cX7_signed 2 (some .int) 1 := ⟨⟨kC_X7_signed, tZX7, ⟨by decide +kernel, by decide +kernel⟩, by decide +kernel⟩, yJ_X7_signed, yY_X7_signed⟩
theorem yV_X7_as : YV yX7_as cX7_as 3 (some .int) 2 := ⟨⟨kC_X7_as, tZX7, ⟨by decide +kernel, by decide +kernel⟩, by decide +kernel⟩, yJ_X7_as, yY_X7_as⟩
theorem yV_X7_trace : YV yX7_trace cX7_trace 1 (some .int) 0 := ⟨⟨kC_X7_trace, tZX7, ⟨by decide +kernel, by decide +kernel⟩, by decide +kernel⟩, yJ_X7_trace, yY_X7_trace⟩
theorem yV_X7_fault : YV yX7_fault cX7_fault 1 (some .int) 0 := ⟨⟨kC_X7_fault, tZX7, ⟨by decide +kernel, by decide +kernel⟩, by decide +kernel⟩, yJ_X7_fault, yY_X7_fault⟩
theorem yV_X7_many : YV yX7_many cX7_many 2 (some .int) 1 := ⟨⟨kC_X7_many, tZX7, ⟨by decide +kernel, by decide +kernel⟩, by decide +kernel⟩, yJ_X7_many, yY_X7_many⟩
end
section
/-! the pure words of the class's methods -/
def s_in (v a b : Int32) : Int32 := if a ≤ v ∧ v ≤ b then 1 else 0
def s_isIn (set k : Int32) : Int32 := if (set >>> (k &&& 31)) &&& 1 = 1 then 1 else 0
def s_ush (x k : Int32) : Int32 := (x.toUInt32 >>> (k.toUInt32 &&& Int32.toUInt32 31)).toInt32
def s_bc1 (x : Int32) : Int32 := x - (s_ush x 1 &&& 1431655765)
def s_bc2 (x : Int32) : Int32 := (x &&& 858993459) + (s_ush x 2 &&& 858993459)
def s_bc3 (x : Int32) : Int32 := (x + s_ush x 4) &&& 252645135
def s_bc4 (x : Int32) : Int32 := x + s_ush x 8
def s_bc5 (x : Int32) : Int32 := x + s_ush x 16
def s_bitCount (x : Int32) : Int32 := s_bc5 (s_bc4 (s_bc3 (s_bc2 (s_bc1 x)))) &&& 63
def s_fill (v : Int32) (g : Nat → Int32) : Nat → Int32 := fun k => if k < 60 then v else g k
/-- a canal's high and wide, or none -/
def okD (hi wi : Int32) : Prop := ∃ a b : Nat, a ≤ 4 ∧ b ≤ 5 ∧ hi = nI a ∧ wi = nI b
/-- n cells from i on of a row of N -/
def okRun (i n : Int32) (N : Nat) : Prop := ¬ i < 0 ∧ ¬ n < 0 ∧ i.toNatClampNeg + n.toNatClampNeg ≤ N
def s_load (ck cwt : Nat → Int32) (a : Int32) : Int32 := if ck a.toNatClampNeg = 1 then cwt a.toNatClampNeg + 1 else if ck a.toNatClampNeg = 2 then 2 * (cwt a.toNatClampNeg + 1) else cwt a.toNatClampNeg
def s_all (hi wi : Int32) : Int32 := ((1 : Int32) <<< ((hi * wi) &&& 31)) - 1
def s_cl (x : Int32) : Int32 := if x < 0 then 0 else if 9 < x then 9 else x
def s_strengthen (n : Nat) (more : Int32) (str : Nat → Int32) : Nat → Int32 := fun k => if k < n then s_cl (str k + more) else str k
def s_count (str : Nat → Int32) (v : Int32) : Nat → Int32
  | 0 => 0
  | n + 1 => s_count str v n + (if str n = v then 1 else 0)
def s_bearing (str : Nat → Int32) (load days : Int32) : Nat → Int32
  | 0 => 0
  | n + 1 => s_bearing str load days n ||| (if load ≤ str n - days then (1 : Int32) <<< (nI n &&& 31) else 0)
def s_led (hi wi fc lc ce stroke : Int32) : Int32 :=
  if stroke = 0 then (if wi ≤ ce then ce - wi else -9)
  else if stroke = 1 then (if s_isIn lc ce = 0 then ce + 1 else -9)
  else if stroke = 2 then (if ce + wi < hi * wi then ce + wi else -9)
  else if stroke = 3 then (if s_isIn fc ce = 0 then ce - 1 else -9)
  else -9
def s_next (hi wi fc lc set : Int32) : Int32 :=
  (((set &&& (lc ^^^ (-1))) <<< (1 &&& 31)) ||| ((set &&& (fc ^^^ (-1))) >>> (1 &&& 31)) ||| ((set <<< (wi &&& 31)) ||| (set >>> (wi &&& 31)))) &&& s_all hi wi
def s_reachN (hi wi fc lc bears : Int32) : Nat → Int32 → Int32
  | 0, set => set
  | n + 1, set => s_reachN hi wi fc lc bears n (set ||| (s_next hi wi fc lc set &&& bears))
termination_by k _ => k
def s_reach (hi wi fc lc fro bears : Int32) : Int32 := s_reachN hi wi fc lc bears 19 ((1 : Int32) <<< (fro &&& 31))
/-- the search: n rounds are left, so many strokes are made -/
def s_shortN (hi wi fc lc to bf bs : Int32) : Nat → Nat → Int32 → Int32 → Int32
  | 0, _, _, _ => -9
  | n + 1, k, there, seen => if there = 0 then -9 else if s_isIn there to = 0 then
      (s_shortN hi wi fc lc to bf bs n (k + 1) (s_next hi wi fc lc there &&& (if k % 2 = 0 then bf else bs) &&& (seen ^^^ (-1))) (seen ||| (s_next hi wi fc lc there &&& (if k % 2 = 0 then bf else bs) &&& (seen ^^^ (-1)))))
    else nI k
termination_by k _ _ _ => k
def s_shortest (hi wi fc lc fro to bf bs : Int32) : Int32 := s_shortN hi wi fc lc to bf bs 20 0 ((1 : Int32) <<< (fro &&& 31)) ((1 : Int32) <<< (fro &&& 31))
/-- whether a bond begins with this stroke -/
abbrev s_isBegin (hi wi fc lc fro to bf bs stroke : Int32) : Prop := ¬ s_led hi wi fc lc fro stroke = -9 ∧ ¬ s_isIn bf (s_led hi wi fc lc fro stroke) = 0 ∧ s_shortest hi wi fc lc (s_led hi wi fc lc fro stroke) to bs bf = s_shortest hi wi fc lc fro to bf bs - 1
def s_begin (hi wi fc lc fro to bf bs : Int32) : Int32 :=
  if s_isBegin hi wi fc lc fro to bf bs 0 then 0 else if s_isBegin hi wi fc lc fro to bf bs 1 then 1 else if s_isBegin hi wi fc lc fro to bf bs 2 then 2 else if s_isBegin hi wi fc lc fro to bf bs 3 then 3 else -9
def s_strokeN (hi wi fc lc to bf bs : Int32) : Nat → Nat → Int32 → Int32 → Int32
  | 0, _, _, st => st
  | n + 1, t, ce, st => if ce = -9 then st else
      s_strokeN hi wi fc lc to bf bs n (t + 1) (s_led hi wi fc lc ce (s_begin hi wi fc lc ce to (if t % 2 = 0 then bf else bs) (if t % 2 = 0 then bs else bf))) (s_begin hi wi fc lc ce to (if t % 2 = 0 then bf else bs) (if t % 2 = 0 then bs else bf))
def s_strokeOf (hi wi fc lc k fro to bf bs : Int32) : Int32 := s_strokeN hi wi fc lc to bf bs (k.toNatClampNeg + 1) 0 fro (-9)
-- a deed
def s_cp20 (f g : Nat → Int32) : Nat → Int32 := fun k => if k < 20 then f k else g k
abbrev s_stW (nx load : Int32) (d : Nat → Int32) : Prop := nx = -9 ∨ d nx.toNatClampNeg < load
def s_stAt (nx load : Int32) (d : Nat → Int32) (dat : Int32) : Int32 := if s_stW nx load d then dat else nx
def s_stCut (nx load : Int32) (d : Nat → Int32) (dcut : Int32) : Int32 := if s_stW nx load d then dcut else dcut ||| ((1 : Int32) <<< (nx &&& 31))
def s_stFw (nx load : Int32) (d : Nat → Int32) (dfw number : Int32) : Int32 := if s_stW nx load d then number else dfw
def s_stStr (nx load : Int32) (d : Nat → Int32) : Nat → Int32 := if s_stW nx load d then d else upd d nx.toNatClampNeg (d nx.toNatClampNeg - 1)
-- readings
def okR (rc : Int32) (rs rl : Nat → Int32) : Prop := ∃ n : Nat, n ≤ 8 ∧ rc = nI n ∧ ∀ k, k < n → vp_in (rs k) 4 ∧ vp_in (rl k) 20
def s_addR (rc : Int32) : Int32 := if 8 ≤ rc then -4 else rc
def s_addC (rc : Int32) : Int32 := if 8 ≤ rc then rc else rc + 1
def s_addF (rc : Int32) (f : Nat → Int32) (v : Int32) : Nat → Int32 := if 8 ≤ rc then f else upd f rc.toNatClampNeg v
def s_areSo (rs rl rb str ck cwt : Nat → Int32) (n : Nat) : Int32 := if ∀ k, k < n → (if s_load ck cwt (rs k) ≤ str (rl k).toNatClampNeg then (1 : Int32) else 0) = rb k then 1 else 0
-- sheets
def s_nothing (sla : Int32) : Int32 := if sla = -1 then 1 else 0
def s_shas (sle i n : Int32) : Int32 := if s_in i 0 sle = 0 then 0 else s_in n 0 (sle - i)
def s_cut (sla v : Int32) : Int32 := if sla = 0 then v.toInt8.toInt32 else if sla = 1 then v.toInt16.toInt32 else v
-- texts
def s_cpT (sn xc : Nat → Int32) (i n : Int32) : Nat → Int32 := va_cpy sn xc i.toNatClampNeg (0 : Int32).toNatClampNeg n.toNatClampNeg
def okT (xl xp : Int32) : Prop := ∃ a b : Nat, b ≤ 60 ∧ a ≤ b ∧ xl = nI b ∧ xp = nI a
abbrev s_go (xl xp xw : Int32) : Prop := xw = 0 ∧ xp < xl
def s_goesOn (xl xp xw : Int32) : Int32 := if s_go xl xp xw then 1 else 0
abbrev s_takeOk (xl xp xw : Int32) (xc : Nat → Int32) (least most : Int32) : Prop := s_go xl xp xw ∧ least ≤ xc xp.toNatClampNeg ∧ xc xp.toNatClampNeg ≤ most
def s_takeR (xl xp xw : Int32) (xc : Nat → Int32) (least most : Int32) : Int32 := if s_takeOk xl xp xw xc least most then xc xp.toNatClampNeg - least else 0
def s_takeP (xl xp xw : Int32) (xc : Nat → Int32) (least most : Int32) : Int32 := if s_takeOk xl xp xw xc least most then xp + 1 else xp
def s_takeW (xl xp xw : Int32) (xc : Nat → Int32) (least most : Int32) : Int32 := if s_takeOk xl xp xw xc least most then xw else 1
def s_kindCode (xl xp xw : Int32) (xc : Nat → Int32) : Int32 := if s_go xl xp xw then xc xp.toNatClampNeg else 0
def s_kindC (xl xp xw : Int32) (xc : Nat → Int32) : Int32 := if s_kindCode xl xp xw xc = 107 then 107 else if s_kindCode xl xp xw xc = 98 then 98 else 115
def s_kindR (xl xp xw : Int32) (xc : Nat → Int32) : Int32 := if s_kindCode xl xp xw xc = 107 then 1 else if s_kindCode xl xp xw xc = 98 then 2 else 0
def s_endW (xl xp xw : Int32) : Int32 := if xw = 0 then (if xp < xl then 1 else 0) else 1
/-- where a text stands (place, wrong), behind a code that is taken -/
abbrev tT : Type := Int32 × Int32
def tkS (xl : Int32) (xc : Nat → Int32) (least most : Int32) (t : tT) : tT := (s_takeP xl t.1 t.2 xc least most, s_takeW xl t.1 t.2 xc least most)
def tkR (xl : Int32) (xc : Nat → Int32) (least most : Int32) (t : tT) : Int32 := s_takeR xl t.1 t.2 xc least most
def dgS (xl : Int32) (xc : Nat → Int32) (least most : Int32) (t : tT) : tT := tkS xl xc (48 + least) (48 + most) t
def dgR (xl : Int32) (xc : Nat → Int32) (least most : Int32) (t : tT) : Int32 := least + tkR xl xc (48 + least) (48 + most) t
/-- c columns of a row of cells from base on -/
def colN (xl : Int32) (xc : Nat → Int32) (base : Nat) (t : tT) (str : Nat → Int32) : Nat → tT × (Nat → Int32)
  | 0 => (t, str)
  | c + 1 => (dgS xl xc 0 9 (colN xl xc base t str c).1, upd (colN xl xc base t str c).2 (base + c) (dgR xl xc 0 9 (colN xl xc base t str c).1))
/-- r rows: the text, the strengths, the first column -/
def rowN (xl : Int32) (xc : Nat → Int32) (w : Nat) (t : tT) (str : Nat → Int32) : Nat → tT × (Nat → Int32) × Int32
  | 0 => (t, str, 0)
  | r + 1 => ((colN xl xc (r * w) (tkS xl xc 59 59 (rowN xl xc w t str r).1) (rowN xl xc w t str r).2.1 w).1, (colN xl xc (r * w) (tkS xl xc 59 59 (rowN xl xc w t str r).1) (rowN xl xc w t str r).2.1 w).2, (rowN xl xc w t str r).2.2 ||| ((1 : Int32) <<< ((nI r * nI w) &&& 31)))
def it1 (xl : Int32) (xc : Nat → Int32) (t : tT) : tT := tkS xl xc 99 99 t
def it2 (xl : Int32) (xc : Nat → Int32) (t : tT) : tT := dgS xl xc 1 4 (it1 xl xc t)
def it3 (xl : Int32) (xc : Nat → Int32) (t : tT) : tT := dgS xl xc 2 5 (it2 xl xc t)
def it4 (xl : Int32) (xc : Nat → Int32) (t : tT) : tT := dgS xl xc 0 9 (it3 xl xc t)
def itHi (xl : Int32) (xc : Nat → Int32) (t : tT) : Int32 := dgR xl xc 1 4 (it1 xl xc t)
def itWi (xl : Int32) (xc : Nat → Int32) (t : tT) : Int32 := dgR xl xc 2 5 (it2 xl xc t)
def itFr (xl : Int32) (xc : Nat → Int32) (t : tT) : Int32 := dgR xl xc 0 9 (it3 xl xc t)
def itRow (xl : Int32) (xc : Nat → Int32) (t : tT) (str : Nat → Int32) : tT × (Nat → Int32) × Int32 := rowN xl xc (itWi xl xc t).toNatClampNeg (it4 xl xc t) str (itHi xl xc t).toNatClampNeg
/-- the skaters of a text -/
abbrev cT : Type := tT × (Nat → Int32) × (Nat → Int32) × Int32
def crw (xl : Int32) (xc : Nat → Int32) (a : Nat) (q : cT) : cT :=
  (dgS xl xc 1 9 (tkS xl xc (s_kindC xl (tkS xl xc 44 44 q.1).1 (tkS xl xc 44 44 q.1).2 xc) (s_kindC xl (tkS xl xc 44 44 q.1).1 (tkS xl xc 44 44 q.1).2 xc) (tkS xl xc 44 44 q.1)),
   upd q.2.1 a (s_kindR xl (tkS xl xc 44 44 q.1).1 (tkS xl xc 44 44 q.1).2 xc),
   upd q.2.2.1 a (dgR xl xc 1 9 (tkS xl xc (s_kindC xl (tkS xl xc 44 44 q.1).1 (tkS xl xc 44 44 q.1).2 xc) (s_kindC xl (tkS xl xc 44 44 q.1).1 (tkS xl xc 44 44 q.1).2 xc) (tkS xl xc 44 44 q.1))),
   nI (a + 1))
def crwN (xl : Int32) (xc : Nat → Int32) : Nat → Nat → cT → cT
  | 0, _, q => q
  | n + 1, a, q => if a < 2 ∨ s_go xl q.1.1 q.1.2 then crwN xl xc n (a + 1) (crw xl xc a q) else q
termination_by k _ _ => k
def crwAll (xl : Int32) (xc : Nat → Int32) (t : tT) (ck cwt : Nat → Int32) : cT := crwN xl xc 4 0 (t, ck, cwt, 0)
/-! the pure words of the reference's methods -/
def q_in (v a b : Int64) : Int32 := if a ≤ v ∧ v ≤ b then 1 else 0
def q_inN (v n : Int32) : Int32 := if 0 ≤ v ∧ v < n then 1 else 0
def q_bitsN : Nat → Int32 → Int32 → Int32
  | 0, n, _ => n
  | k + 1, n, left => if 0 < left then q_bitsN k (n + (left &&& 1)) (left >>> (1 &&& 31)) else n
termination_by k _ _ => k
def q_bits (set : Int32) : Int32 := q_bitsN 32 0 set
/-- the greatest common divisor by remainders, k rounds at most -/
def q_gcdN : Nat → Int64 → Int64 → Int64
  | 0, x, _ => x
  | k + 1, x, y => if y = 0 then x else q_gcdN k y (x - x / y * y)
termination_by k _ _ => k
def q_share (up down : Int64) (which : Int32) : Int64 := (if which = 0 then up else down) / q_gcdN 64 up down
def q_noPlace (hi wi ce : Int32) : Int32 := if 0 ≤ ce ∧ ce < hi * wi then 0 else 1
def q_noSk (sk a : Int32) : Int32 := if 0 ≤ a ∧ a < sk then 0 else 1
def q_noTwo (sk a b : Int32) : Int32 := if q_noSk sk a = 0 ∧ q_noSk sk b = 0 ∧ ¬ a = b then 0 else 1
def q_noSheet (k : Int32) : Int32 := if 0 ≤ k ∧ k ≤ 3 then 0 else 1
-- the reading of a text
def q_code (ra fro n : Int32) (sh : Nat → Int32) : Int32 := if ra < n then sh (fro + ra).toNatClampNeg else -9
def okC (ra fro n : Int32) : Prop := ra < n → vp_in (fro + ra) 240
abbrev q_figOk (ra fro n : Int32) (sh : Nat → Int32) (lo mo : Int32) : Prop := lo ≤ q_code ra fro n sh - 48 ∧ q_code ra fro n sh - 48 ≤ mo
def q_figR (ra fro n : Int32) (sh : Nat → Int32) (lo mo : Int32) : Int32 := if q_figOk ra fro n sh lo mo then q_code ra fro n sh - 48 else -9
def q_figP (ra fro n : Int32) (sh : Nat → Int32) (lo mo : Int32) : Int32 := if q_figOk ra fro n sh lo mo then ra + 1 else ra
/-- the place behind the ; of a row, if one is due -/
def q_semi (ra fro n : Int32) (sh : Nat → Int32) (due : Bool) : Int32 := if due = true ∧ q_code ra fro n sh = 59 then ra + 1 else ra
abbrev q_semiBad (ra fro n : Int32) (sh : Nat → Int32) (due : Bool) : Prop := due = true ∧ ¬ q_code ra fro n sh = 59
def q_due (rw ce : Int32) : Bool := decide (ce - ce / rw * rw = 0)
def q_plP (ra fro n : Int32) (sh : Nat → Int32) (rw ce : Int32) : Int32 := if q_semiBad ra fro n sh (q_due rw ce) then ra else q_figP (q_semi ra fro n sh (q_due rw ce)) fro n sh 0 9
def q_plS (ra fro n : Int32) (sh : Nat → Int32) (rw ce : Int32) (rstr : Nat → Int32) : Nat → Int32 := if q_semiBad ra fro n sh (q_due rw ce) then rstr else upd rstr ce.toNatClampNeg (q_figR (q_semi ra fro n sh (q_due rw ce)) fro n sh 0 9)
def q_plR (ra fro n : Int32) (sh : Nat → Int32) (rw ce : Int32) : Int32 := if q_semiBad ra fro n sh (q_due rw ce) then 0 else if 0 ≤ q_figR (q_semi ra fro n sh (q_due rw ce)) fro n sh 0 9 then 1 else 0
abbrev q_isK (k : Int32) : Prop := k = 115 ∨ k = 107 ∨ k = 98
def q_kindOf (k : Int32) : Int32 := if k = 115 then 0 else if k = 107 then 1 else 2
/-- how far a skater's text goes: 0 no comma, 1 no kind, 2 no weight, 3 whole -/
def q_skW (ra fro n : Int32) (sh : Nat → Int32) (rs : Int32) : Nat := if rs = 4 ∨ ¬ q_code ra fro n sh = 44 then 0 else if ¬ q_isK (q_code (ra + 1) fro n sh) then 1 else if q_figR (ra + 1 + 1) fro n sh 1 9 < 0 then 2 else 3
def q_skP (ra fro n : Int32) (sh : Nat → Int32) (rs : Int32) : Int32 := if q_skW ra fro n sh rs = 0 then ra else if q_skW ra fro n sh rs = 1 then ra + 1 else q_figP (ra + 1 + 1) fro n sh 1 9
def q_skR (ra fro n : Int32) (sh : Nat → Int32) (rs : Int32) : Int32 := if q_skW ra fro n sh rs = 3 then 1 else 0
def q_skN (ra fro n : Int32) (sh : Nat → Int32) (rs : Int32) : Int32 := if q_skW ra fro n sh rs = 3 then rs + 1 else rs
def q_skK (ra fro n : Int32) (sh : Nat → Int32) (rs : Int32) (rk : Nat → Int32) : Nat → Int32 := if q_skW ra fro n sh rs = 3 then upd rk rs.toNatClampNeg (q_kindOf (q_code (ra + 1) fro n sh)) else rk
def q_skV (ra fro n : Int32) (sh : Nat → Int32) (rs : Int32) (rw : Nat → Int32) : Nat → Int32 := if q_skW ra fro n sh rs = 3 then upd rw rs.toNatClampNeg (q_figR (ra + 1 + 1) fro n sh 1 9) else rw
/-- cells: place, strengths, whether it went well; k cells from ce on at the most -/
abbrev qT : Type := Int32 × (Nat → Int32) × Int32
def q_cellsN (fro n : Int32) (sh : Nat → Int32) (rw : Int32) : Nat → Nat → qT → qT
  | 0, _, q => q
  | k + 1, ce, q => if q.2.2 = 0 then q else q_cellsN fro n sh rw k (ce + 1) (q_plP q.1 fro n sh rw (nI ce), q_plS q.1 fro n sh rw (nI ce) q.2.1, q_plR q.1 fro n sh rw (nI ce))
termination_by k _ _ => k
/-- skaters: place, kinds, weights, how many, whether it went well -/
abbrev qU : Type := Int32 × (Nat → Int32) × (Nat → Int32) × Int32 × Int32
def q_skatN (fro n : Int32) (sh : Nat → Int32) : Nat → qU → qU
  | 0, q => q
  | k + 1, q => if ¬ q.2.2.2.2 = 0 ∧ (q.2.2.2.1 < 2 ∨ q.1 < n) then q_skatN fro n sh k (q_skP q.1 fro n sh q.2.2.2.1, q_skK q.1 fro n sh q.2.2.2.1 q.2.1, q_skV q.1 fro n sh q.2.2.2.1 q.2.2.1, q_skN q.1 fro n sh q.2.2.2.1, q_skR q.1 fro n sh q.2.2.2.1) else q
termination_by k _ => k
def q_h0 (fro n : Int32) (sh : Nat → Int32) : Int32 := if q_code 0 fro n sh = 99 then 1 else 0
def q_hi (fro n : Int32) (sh : Nat → Int32) : Int32 := if q_code 0 fro n sh = 99 then q_figR 1 fro n sh 1 4 else -9
def q_h1 (fro n : Int32) (sh : Nat → Int32) : Int32 := if q_code 0 fro n sh = 99 then q_figP 1 fro n sh 1 4 else 0
def q_wi (fro n : Int32) (sh : Nat → Int32) : Int32 := if 0 < q_hi fro n sh then q_figR (q_h1 fro n sh) fro n sh 2 5 else -9
def q_h2 (fro n : Int32) (sh : Nat → Int32) : Int32 := if 0 < q_hi fro n sh then q_figP (q_h1 fro n sh) fro n sh 2 5 else q_h1 fro n sh
def q_fr (fro n : Int32) (sh : Nat → Int32) : Int32 := if 0 < q_wi fro n sh then q_figR (q_h2 fro n sh) fro n sh 0 9 else -9
def q_h3 (fro n : Int32) (sh : Nat → Int32) : Int32 := if 0 < q_wi fro n sh then q_figP (q_h2 fro n sh) fro n sh 0 9 else q_h2 fro n sh
def q_ce (fro n : Int32) (sh : Nat → Int32) (rstr : Nat → Int32) : qT := q_cellsN fro n sh (q_wi fro n sh) (if 0 ≤ q_fr fro n sh then (q_hi fro n sh * q_wi fro n sh).toNatClampNeg else 0) 0 (q_h3 fro n sh, rstr, if 0 ≤ q_fr fro n sh then 1 else 0)
def q_sk (fro n : Int32) (sh : Nat → Int32) (rstr rk rw : Nat → Int32) : qU := q_skatN fro n sh 5 ((q_ce fro n sh rstr).1, rk, rw, 0, (q_ce fro n sh rstr).2.2)
/-- what bars n cells from i on of a sheet of a lane: 0 nothing, else the fault -/
def q_barred (sz sl : Nat → Int32) (k lane i : Int32) (n : Int64) : Int32 :=
  if 0 ≤ sz k.toNatClampNeg ∧ ¬ sl k.toNatClampNeg = lane then 2 else if sz k.toNatClampNeg < 0 then 1 else if n < 0 then 4 else if i < 0 ∨ (sz k.toNatClampNeg).toInt64 < i.toInt64 + n then 3 else 0
def q_bRes (c : Int32) : Int32 := if c = 0 then 0 else -10 - c
def q_bFault (c f0 : Int32) : Int32 := if c = 0 then f0 else c
def q_beyond (i : Int32) (n : Int64) (all : Int32) : Int32 := if i < 0 ∨ n < 0 ∨ all.toInt64 < i.toInt64 + n then 1 else 0
def q_load (kd wt : Nat → Int32) (a : Int32) : Int32 := if kd a.toNatClampNeg = 0 then wt a.toNatClampNeg else if kd a.toNatClampNeg = 1 then wt a.toNatClampNeg + 1 else 2 * (wt a.toNatClampNeg + 1)
def q_bears (br th : Int32) (str kd wt : Nat → Int32) (ce a : Int32) : Int32 := if s_isIn br ce = 0 ∧ q_load kd wt a ≤ str ce.toNatClampNeg - th then 1 else 0
def q_bearing (br th : Int32) (str kd wt : Nat → Int32) (a : Int32) : Nat → Int32
  | 0 => 0
  | n + 1 => q_bearing br th str kd wt a n ||| (if q_bears br th str kd wt (nI n) a = 0 then 0 else (1 : Int32) <<< (nI n &&& 31))
def q_row (wi ce st : Int32) : Int32 := ce / wi + (if st = 0 then -1 else if st = 2 then 1 else 0)
def q_col (wi ce st : Int32) : Int32 := (ce - ce / wi * wi) + (if st = 3 then -1 else if st = 1 then 1 else 0)
def q_beside (hi wi ce st : Int32) : Int32 := if (0 ≤ q_row wi ce st ∧ q_row wi ce st < hi) ∧ 0 ≤ q_col wi ce st ∧ q_col wi ce st < wi then q_row wi ce st * wi + q_col wi ce st else -9
/-- a deed: first wrong, where it stands, what is cut, strengths -/
abbrev dS : Type := Int32 × Int32 × Int32 × (Nat → Int32)
abbrev q_dBad (hi wi br th : Int32) (kd wt sh : Nat → Int32) (fro a : Int32) (x : Nat) (q : dS) : Prop := q_beside hi wi q.2.1 (sh (fro + nI x).toNatClampNeg) < 0 ∨ q_bears br th q.2.2.2 kd wt (q_beside hi wi q.2.1 (sh (fro + nI x).toNatClampNeg)) a = 0
def q_dStep (hi wi br th : Int32) (kd wt sh : Nat → Int32) (fro a : Int32) (x : Nat) (q : dS) : dS :=
  if q_dBad hi wi br th kd wt sh fro a x q then (nI x, q.2) else
    (q.1, q_beside hi wi q.2.1 (sh (fro + nI x).toNatClampNeg), q.2.2.1 ||| ((1 : Int32) <<< (q_beside hi wi q.2.1 (sh (fro + nI x).toNatClampNeg) &&& 31)), upd q.2.2.2 (q_beside hi wi q.2.1 (sh (fro + nI x).toNatClampNeg)).toNatClampNeg (q.2.2.2 (q_beside hi wi q.2.1 (sh (fro + nI x).toNatClampNeg)).toNatClampNeg - 1))
def q_deedN (hi wi br th : Int32) (kd wt sh : Nat → Int32) (fro a b ce : Int32) (str : Nat → Int32) : Nat → dS
  | 0 => (-9, ce, 0, str)
  | x + 1 => if (q_deedN hi wi br th kd wt sh fro a b ce str x).1 < 0 then q_dStep hi wi br th kd wt sh fro (if x % 2 = 0 then a else b) x (q_deedN hi wi br th kd wt sh fro a b ce str x) else q_deedN hi wi br th kd wt sh fro a b ce str x
/-- the first of n cells that is no stroke bars a deed -/
def q_noStroke (sh : Nat → Int32) (fro : Int32) (n : Nat) : Bool := decide (∃ x, x < n ∧ ¬ (0 ≤ sh (fro + nI x).toNatClampNeg ∧ sh (fro + nI x).toNatClampNeg ≤ 3))
-- bonds
abbrev q_can (hi wi br th : Int32) (str kd wt : Nat → Int32) (a b ce turn st : Int32) : Prop := 0 ≤ q_beside hi wi ce st ∧ ¬ q_bears br th str kd wt (q_beside hi wi ce st) (if turn = 0 then a else b) = 0
def q_its (hi wi br th : Int32) (str kd wt L : Nat → Int32) (a b ce turn st : Int32) : Int32 := if q_can hi wi br th str kd wt a b ce turn st then L (q_beside hi wi ce st + 20 * (1 - turn)).toNatClampNeg else -9
def q_best (best its : Int32) : Int32 := if 0 ≤ its ∧ (best < 0 ∨ its + 1 < best) then its + 1 else best
def q_leftN (hi wi br th : Int32) (str kd wt L : Nat → Int32) (a b ce turn : Int32) : Nat → Int32
  | 0 => -9
  | k + 1 => q_best (q_leftN hi wi br th str kd wt L a b ce turn k) (q_its hi wi br th str kd wt L a b ce turn (nI k))
termination_by k => k
def q_leftBy (hi wi br th : Int32) (str kd wt L : Nat → Int32) (a b place : Int32) : Int32 := q_leftN hi wi br th str kd wt L a b (place - place / 20 * 20) (place / 20) 4
def q_init (to : Int32) : Nat → Int32 := fun p => if p < 40 then (if nI (p % 20) = to then 0 else -9) else 0
def q_initN (to : Int32) (L : Nat → Int32) (n : Nat) : Nat → Int32 := fun p => if p < n then (if nI (p % 20) = to then 0 else -9) else L p
def q_one (hi wi br th : Int32) (str kd wt : Nat → Int32) (a b : Int32) (r p : Nat) (L : Nat → Int32) : Int32 :=
  if nI (p % 20) < hi * wi ∧ L p < 0 then (if q_leftBy hi wi br th str kd wt L a b (nI p) = nI r then q_leftBy hi wi br th str kd wt L a b (nI p) else L p) else (if -9 = nI r then -9 else L p)
def q_placesN (hi wi br th : Int32) (str kd wt : Nat → Int32) (a b : Int32) (r : Nat) (L : Nat → Int32) : Nat → Nat → Int32
  | 0 => L
  | p + 1 => upd (q_placesN hi wi br th str kd wt a b r L p) p (q_one hi wi br th str kd wt a b r p (q_placesN hi wi br th str kd wt a b r L p))
termination_by k => k
def q_roundsN (hi wi br th : Int32) (str kd wt : Nat → Int32) (a b : Int32) (L : Nat → Int32) : Nat → Nat → Int32
  | 0 => L
  | r + 1 => q_placesN hi wi br th str kd wt a b (r + 1) (q_roundsN hi wi br th str kd wt a b L r) 40
termination_by k => k
def q_bondL (hi wi br th : Int32) (str kd wt L0 : Nat → Int32) (a b to : Int32) : Nat → Int32 := q_roundsN hi wi br th str kd wt a b (q_initN to L0 40) 40
def q_isBond (hi wi br th : Int32) (str kd wt L0 : Nat → Int32) (a b fro to : Int32) : Int32 := if 0 ≤ q_bondL hi wi br th str kd wt L0 a b to fro.toNatClampNeg then 1 else 0
abbrev q_stIs (hi wi br th : Int32) (str kd wt L : Nat → Int32) (a b ce turn st : Int32) : Prop := q_can hi wi br th str kd wt a b ce turn st ∧ L (q_beside hi wi ce st + 20 * (1 - turn)).toNatClampNeg = L (ce + 20 * turn).toNatClampNeg - 1
def q_strokeN (hi wi br th : Int32) (str kd wt L : Nat → Int32) (a b ce turn : Int32) : Nat → Int32
  | 0 => -9
  | k + 1 => if q_stIs hi wi br th str kd wt L a b ce turn (3 - nI k) then 3 - nI k else q_strokeN hi wi br th str kd wt L a b ce turn k
termination_by k => k
def q_strokeBy (hi wi br th : Int32) (str kd wt L : Nat → Int32) (a b ce turn : Int32) : Int32 := q_strokeN hi wi br th str kd wt L a b ce turn 4
def q_walkN (hi wi br th : Int32) (str kd wt L : Nat → Int32) (a b fro : Int32) : Nat → Int32
  | 0 => fro
  | x + 1 => q_beside hi wi (q_walkN hi wi br th str kd wt L a b fro x) (q_strokeBy hi wi br th str kd wt L a b (q_walkN hi wi br th str kd wt L a b fro x) (nI (x % 2)))
def q_countOf (str : Nat → Int32) (v : Int32) (n : Nat) : Int32 := s_count str v n
/-- one try of alone: step ce of 4 * cells -/
def q_alStep (hi wi br th : Int32) (str kd wt : Nat → Int32) (a : Int32) (x : Nat) (set : Int32) : Int32 := set ||| (if ¬ s_isIn set (nI (x / 4)) = 0 ∧ 0 ≤ q_beside hi wi (nI (x / 4)) (nI (x % 4)) ∧ ¬ q_bears br th str kd wt (q_beside hi wi (nI (x / 4)) (nI (x % 4))) a = 0 then (1 : Int32) <<< (q_beside hi wi (nI (x / 4)) (nI (x % 4)) &&& 31) else 0)
def q_alN (hi wi br th : Int32) (str kd wt : Nat → Int32) (a : Int32) : Nat → Int32 → Int32
  | 0, set => set
  | x + 1, set => q_alStep hi wi br th str kd wt a x (q_alN hi wi br th str kd wt a x set)
termination_by k _ => k
def q_alR (hi wi br th : Int32) (str kd wt : Nat → Int32) (a : Int32) (n : Nat) : Nat → Int32 → Int32
  | 0, set => set
  | r + 1, set => q_alN hi wi br th str kd wt a (4 * n) (q_alR hi wi br th str kd wt a n r set)
termination_by k _ => k
-- readings
def q_areSo (br th : Int32) (str kd wt rs rl rb : Nat → Int32) (n : Nat) : Int32 := if ∀ k, k < n → q_bears br th str kd wt (rl k) (rs k) = rb k then 1 else 0
def q_noCell (sz : Nat → Int32) (k ii : Int32) : Int32 := if sz k.toNatClampNeg < 0 then 1 else if 0 ≤ ii ∧ ii < sz k.toNatClampNeg then 0 else 3
/-- what bars the strokes of a deed -/
def q_sbBad (sz sl sh : Nat → Int32) (k lane i n : Int32) : Bool := q_noStroke sh (60 * k + i) n.toNatClampNeg
def q_sbRes (sz sl sh : Nat → Int32) (k lane i n : Int32) : Int32 := if q_barred sz sl k lane i n.toInt64 = 0 then (if q_sbBad sz sl sh k lane i n = true then -2 else 0) else -10 - q_barred sz sl k lane i n.toInt64
def q_sbFault (sz sl sh : Nat → Int32) (k lane i n : Int32) : Int32 := if q_barred sz sl k lane i n.toInt64 = 0 then 0 else q_barred sz sl k lane i n.toInt64
/-- every sheet has at most 60 numbers -/
def okSz (sz : Nat → Int32) : Prop := ∀ k, k < 4 → sz k ≤ 60
def okN (rs : Int32) : Prop := ∃ a : Nat, a ≤ 4 ∧ rs = nI a
def okSh (up down : Int64) : Prop := ∃ a b : Nat, a ≤ 256 ∧ b ≤ 256 ∧ 1 ≤ b ∧ up = lN a ∧ down = lN b
/-! the pure words of the reference's public methods -/
abbrev m_laneOk (lane : Int32) : Prop := 0 ≤ lane ∧ lane ≤ 2
abbrev m_cnGo (sz sl : Nat → Int32) (k lane i n : Int32) : Prop := q_noSheet k = 0 ∧ m_laneOk lane ∧ q_barred sz sl k lane i n.toInt64 = 0
abbrev m_cnOk (sz sl sh rstr rk rw : Nat → Int32) (k lane i n : Int32) : Prop := m_cnGo sz sl k lane i n ∧ ¬ (q_sk (60 * k + i) n sh rstr rk rw).2.2.2.2 = 0
def m_canalR (sz sl sh rstr rk rw : Nat → Int32) (k lane i n : Int32) : Int32 :=
  if ¬ q_noSheet k = 0 then -1 else if ¬ m_laneOk lane then -2 else if ¬ q_barred sz sl k lane i n.toInt64 = 0 then -10 - q_barred sz sl k lane i n.toInt64
  else if (q_sk (60 * k + i) n sh rstr rk rw).2.2.2.2 = 0 then -100 - (q_sk (60 * k + i) n sh rstr rk rw).1 else (q_sk (60 * k + i) n sh rstr rk rw).2.2.2.1
def m_canalF (sz sl : Nat → Int32) (k lane i n : Int32) : Int32 := if q_noSheet k = 0 ∧ m_laneOk lane then q_barred sz sl k lane i n.toInt64 else 0
def s_cpN (n : Nat) (f g : Nat → Int32) : Nat → Int32 := fun k => if k < n then f k else g k
def m_ofSkater (hi wi sk br th : Int32) (str kd wt : Nat → Int32) (a what : Int32) : Int32 :=
  if ¬ q_noSk sk a = 0 then -1 else if what = 0 then kd a.toNatClampNeg else if what = 1 then wt a.toNatClampNeg else if what = 2 then q_load kd wt a else if what = 3 then q_bearing br th str kd wt a (hi * wi).toNatClampNeg else -2
def m_strength (hi wi : Int32) (str : Nat → Int32) (ce : Int32) : Int32 := if q_noPlace hi wi ce = 0 then str ce.toNatClampNeg else -1
abbrev m_09 (v : Int32) : Prop := 0 ≤ v ∧ v ≤ 9
def m_freezeR (hi wi : Int32) (str : Nat → Int32) (ce v : Int32) : Int32 := if ¬ q_noPlace hi wi ce = 0 then -1 else if m_09 v then str ce.toNatClampNeg else -2
def m_freezeS (hi wi : Int32) (str : Nat → Int32) (ce v : Int32) : Nat → Int32 := if q_noPlace hi wi ce = 0 ∧ m_09 v then upd str ce.toNatClampNeg v else str
def m_wx (sk v r : Int32) : Int32 := if ¬ m_09 v then -2 else if sk = 0 then -3 else r
abbrev m_wxOk (sk v : Int32) : Prop := m_09 v ∧ ¬ sk = 0
def m_nightS (n : Nat) (more : Int32) (str : Nat → Int32) : Nat → Int32 := fun k => if k < n then (if 9 < str k + more then 9 else str k + more) else str k
def m_thawS (n : Nat) (less : Int32) (str : Nat → Int32) : Nat → Int32 := fun k => if k < n then (if str k - less < 0 then 0 else str k - less) else str k
abbrev m_dKnown (hi wi sk a b ce k : Int32) : Prop := q_noTwo sk a b = 0 ∧ q_noPlace hi wi ce = 0 ∧ q_noSheet k = 0
abbrev m_dIn (lane n : Int32) : Prop := m_laneOk lane ∧ 0 ≤ n ∧ n ≤ 40
abbrev m_dDo (hi wi sk : Int32) (sz sl sh : Nat → Int32) (a b ce k lane i n : Int32) : Prop := m_dKnown hi wi sk a b ce k ∧ m_dIn lane n ∧ q_sbRes sz sl sh k lane i n = 0
def m_deedN (hi wi br th : Int32) (str kd wt sh : Nat → Int32) (a b ce k i n : Int32) : dS := q_deedN hi wi br th kd wt sh (60 * k + i) a b ce str n.toNatClampNeg
def m_deedA (d : dS) (n what : Int32) : Int32 := if what = 1 then d.1 else if 0 ≤ d.1 then -100 - d.1 else if what = 0 then d.2.1 else if what = 2 then d.2.2.1 else if what = 3 then d.2.2.2 d.2.1.toNatClampNeg else (n + 1) / 2
def m_deedR (hi wi sk br th : Int32) (str kd wt sz sl sh : Nat → Int32) (a b ce k lane i n what : Int32) : Int32 :=
  if ¬ m_dKnown hi wi sk a b ce k then -1 else if ¬ (m_dIn lane n ∧ 0 ≤ what ∧ what ≤ 4) then -2 else if ¬ q_sbRes sz sl sh k lane i n = 0 then q_sbRes sz sl sh k lane i n else m_deedA (m_deedN hi wi br th str kd wt sh a b ce k i n) n what
def m_deedF (hi wi sk : Int32) (sz sl sh : Nat → Int32) (a b ce k lane i n what : Int32) : Int32 := if m_dKnown hi wi sk a b ce k ∧ m_dIn lane n ∧ 0 ≤ what ∧ what ≤ 4 then q_sbFault sz sl sh k lane i n else 0
def m_deedS (hi wi sk : Int32) (str sz sl sh kept : Nat → Int32) (a b ce k lane i n what : Int32) : Nat → Int32 := if m_dDo hi wi sk sz sl sh a b ce k lane i n ∧ 0 ≤ what ∧ what ≤ 4 then s_cp20 str (s_cp20 str str) else str
def m_writeR (hi wi sk br th : Int32) (str kd wt sz sl sh : Nat → Int32) (a b ce k lane i n : Int32) : Int32 :=
  if ¬ m_dKnown hi wi sk a b ce k then -1 else if ¬ m_dIn lane n then -2 else if ¬ q_sbRes sz sl sh k lane i n = 0 then q_sbRes sz sl sh k lane i n else if 0 ≤ (m_deedN hi wi br th str kd wt sh a b ce k i n).1 then -100 - (m_deedN hi wi br th str kd wt sh a b ce k i n).1 else n
def m_writeF (hi wi sk : Int32) (sz sl sh : Nat → Int32) (a b ce k lane i n : Int32) : Int32 := if m_dKnown hi wi sk a b ce k ∧ m_dIn lane n then q_sbFault sz sl sh k lane i n else 0
/-- the strengths behind a deed, from kept ones where it goes wrong -/
def m_writeS (hi wi sk br th : Int32) (str kd wt sz sl sh : Nat → Int32) (a b ce k lane i n : Int32) : Nat → Int32 :=
  if m_dDo hi wi sk sz sl sh a b ce k lane i n ∧ (m_deedN hi wi br th str kd wt sh a b ce k i n).1 < 0 then (m_deedN hi wi br th str kd wt sh a b ce k i n).2.2.2 else str
abbrev m_bKnown (hi wi sk a b fro to : Int32) : Prop := q_noTwo sk a b = 0 ∧ q_noPlace hi wi fro = 0 ∧ q_noPlace hi wi to = 0
def m_bondA (hi wi br th : Int32) (str kd wt L : Nat → Int32) (a b fro k : Int32) : Int32 :=
  if k < 0 then L fro.toNatClampNeg else if L fro.toNatClampNeg ≤ k then -9 else q_strokeBy hi wi br th str kd wt L a b (q_walkN hi wi br th str kd wt L a b fro k.toNatClampNeg) (nI (k.toNatClampNeg % 2))
def m_bondR (hi wi sk br th : Int32) (str kd wt L0 : Nat → Int32) (a b fro to k : Int32) : Int32 :=
  if ¬ m_bKnown hi wi sk a b fro to then -1 else if ¬ (-1 ≤ k ∧ k ≤ 39) then -2 else m_bondA hi wi br th str kd wt (q_bondL hi wi br th str kd wt L0 a b to) a b fro k
/-- the row of strokes stays on the ice as far as it is asked for -/
def m_bondOk (hi wi br th : Int32) (str kd wt L : Nat → Int32) (a b fro k : Int32) : Prop := ¬ k < 0 → ¬ L fro.toNatClampNeg ≤ k → ∀ x : Nat, x ≤ k.toNatClampNeg → vp_in (q_walkN hi wi br th str kd wt L a b fro x) 20
def m_holdsN (hi wi br : Int32) (str kd wt L0 : Nat → Int32) (a b fro to : Int32) : Nat → Int32
  | 0 => -9
  | d + 1 => if q_isBond hi wi br (nI d) str kd wt L0 a b fro to = 0 then m_holdsN hi wi br str kd wt L0 a b fro to d else nI d
termination_by k => k
def m_holdsR (hi wi sk br : Int32) (str kd wt L0 : Nat → Int32) (a b fro to : Int32) : Int32 := if ¬ m_bKnown hi wi sk a b fro to then -1 else m_holdsN hi wi br str kd wt L0 a b fro to 10
def m_aloneR (hi wi sk br th : Int32) (str kd wt : Nat → Int32) (a fro : Int32) : Int32 :=
  if ¬ (q_noSk sk a = 0 ∧ q_noPlace hi wi fro = 0) then -1 else q_alR hi wi br th str kd wt a (hi * wi).toNatClampNeg (hi * wi).toNatClampNeg ((1 : Int32) <<< (fro &&& 31))
/-- the least cell of n, counted down from the last, without which there is no bond -/
def m_neckN (hi wi th : Int32) (str kd wt L0 : Nat → Int32) (a b fro to : Int32) (n : Nat) : Nat → Int32
  | 0 => -9
  | x + 1 => if ¬ nI (n - 1 - x) = fro ∧ ¬ nI (n - 1 - x) = to ∧ q_isBond hi wi ((1 : Int32) <<< (nI (n - 1 - x) &&& 31)) th str kd wt L0 a b fro to = 0 then nI (n - 1 - x) else m_neckN hi wi th str kd wt L0 a b fro to n x
termination_by k => k
def m_neckR (hi wi sk br th : Int32) (str kd wt L0 : Nat → Int32) (a b fro to : Int32) : Int32 :=
  if ¬ m_bKnown hi wi sk a b fro to then -1 else if q_isBond hi wi br th str kd wt L0 a b fro to = 0 then -9 else m_neckN hi wi th str kd wt L0 a b fro to (hi * wi).toNatClampNeg (hi * wi).toNatClampNeg
def m_backR (rc k : Int32) : Int32 := if 0 ≤ k ∧ k ≤ rc then rc - k else -2
def m_backC (rc k : Int32) : Int32 := if 0 ≤ k ∧ k ≤ rc then rc - k else rc
abbrev m_rdOk (hi wi sk rc a ce : Int32) : Prop := q_noSk sk a = 0 ∧ q_noPlace hi wi ce = 0 ∧ ¬ rc = 8
def m_rdR (hi wi sk rc a ce : Int32) : Int32 := if ¬ (q_noSk sk a = 0 ∧ q_noPlace hi wi ce = 0) then -1 else if rc = 8 then -4 else rc
/-- what holds of n values, as bits from the value lo on -/
def m_setN (P : Int32 → Int32) (lo : Nat) : Nat → Int32
  | 0 => 0
  | n + 1 => m_setN P lo n ||| (if P (nI (lo + n)) = 0 then 0 else (1 : Int32) <<< (nI (lo + n) &&& 31))
termination_by k => k
def m_weightsR (sk br th : Int32) (str kd wt rs rl rb : Nat → Int32) (n : Nat) (a : Int32) : Int32 := if ¬ q_noSk sk a = 0 then -1 else m_setN (fun v => q_areSo br th str kd (upd wt a.toNatClampNeg v) rs rl rb n) 1 9
def m_kindsR (sk br th : Int32) (str kd wt rs rl rb : Nat → Int32) (n : Nat) (a : Int32) : Int32 := if ¬ q_noSk sk a = 0 then -1 else m_setN (fun v => q_areSo br th str (upd kd a.toNatClampNeg v) wt rs rl rb n) 0 3
def m_strengthsR (hi wi br th : Int32) (str kd wt rs rl rb : Nat → Int32) (n : Nat) (ce : Int32) : Int32 := if ¬ q_noPlace hi wi ce = 0 then -1 else m_setN (fun v => q_areSo br th (upd str ce.toNatClampNeg v) kd wt rs rl rb n) 0 10
/-- how many of the sets below some, and some itself, leave a bond; k rounds at most -/
def m_manyN (hi wi th : Int32) (str kd wt L0 : Nat → Int32) (a b fro to set : Int32) : Nat → Int32 → Int64 → Int64
  | 0, _, n => n
  | k + 1, sub, n => if sub = 0 then n + (if q_isBond hi wi sub th str kd wt L0 a b fro to = 0 then 0 else 1) else
      m_manyN hi wi th str kd wt L0 a b fro to set k ((sub - 1) &&& set) (n + (if q_isBond hi wi sub th str kd wt L0 a b fro to = 0 then 0 else 1))
termination_by k _ _ => k
def m_oddsR (hi wi sk th : Int32) (str kd wt L0 : Nat → Int32) (a b fro to set which : Int32) : Int64 :=
  if ¬ m_bKnown hi wi sk a b fro to then -9223372036854775808 else if ¬ ((0 ≤ set ∧ set.toInt64 ≤ ((1 : Int32) <<< ((hi * wi) &&& 31)).toInt64 - 1) ∧ q_bits set ≤ 8 ∧ 0 ≤ which ∧ which ≤ 1) then -9223372036854775808
  else q_share (m_manyN hi wi th str kd wt L0 a b fro to set 256 set 0) ((1 : Int64) <<< ((q_bits set).toInt64 &&& 63)) which
-- sheets
abbrev m_shOk (k lane n : Int32) : Prop := q_noSheet k = 0 ∧ m_laneOk lane ∧ n ≤ 60
def m_sheetR (k lane n : Int32) : Int32 := if ¬ q_noSheet k = 0 then -1 else if ¬ (m_laneOk lane ∧ n ≤ 60) then -2 else if n < 0 then -14 else 1
def m_sheetF (k lane n : Int32) : Int32 := if m_shOk k lane n ∧ n < 0 then 4 else 0
def m_sheetS (k lane n : Int32) (sh : Nat → Int32) : Nat → Int32 := if m_shOk k lane n ∧ ¬ n < 0 then (fun q => if 60 * k.toNatClampNeg ≤ q ∧ q < 60 * k.toNatClampNeg + n.toNatClampNeg then 0 else sh q) else sh
def m_loseR (sz : Nat → Int32) (k : Int32) : Int32 := if ¬ q_noSheet k = 0 then -1 else if sz k.toNatClampNeg < 0 then 0 else 1
def m_putR (sz : Nat → Int32) (k ii : Int32) : Int32 := if ¬ q_noSheet k = 0 then -1 else if ¬ q_noCell sz k ii = 0 then -10 - q_noCell sz k ii else 1
def m_putF (sz : Nat → Int32) (k ii : Int32) : Int32 := if q_noSheet k = 0 then q_noCell sz k ii else 0
def m_putS (sz sl sh : Nat → Int32) (k ii v : Int32) : Nat → Int32 := if q_noSheet k = 0 ∧ q_noCell sz k ii = 0 then upd sh (60 * k + ii).toNatClampNeg (s_cut (sl k.toNatClampNeg) v) else sh
def m_cellF (sz sl : Nat → Int32) (k ii lane : Int32) : Int32 := if ¬ (q_noSheet k = 0 ∧ m_laneOk lane) then 0 else if 0 ≤ sz k.toNatClampNeg ∧ ¬ sl k.toNatClampNeg = lane then 2 else q_noCell sz k ii
def m_cellR (sz sl sh : Nat → Int32) (k ii lane : Int32) : Int64 := if q_noSheet k = 0 ∧ m_laneOk lane ∧ m_cellF sz sl k ii lane = 0 then (sh (60 * k + ii).toNatClampNeg).toInt64 else -9223372036854775808
def m_cpBar (sz sl : Nat → Int32) (k i o j n : Int32) : Int32 := if sz k.toNatClampNeg < 0 ∨ sz o.toNatClampNeg < 0 then 1 else if ¬ sl k.toNatClampNeg = sl o.toNatClampNeg then 2 else if ¬ q_beyond i n.toInt64 (sz k.toNatClampNeg) = 0 ∨ ¬ q_beyond j n.toInt64 (sz o.toNatClampNeg) = 0 then 3 else 0
abbrev m_cpK (k o : Int32) : Prop := q_noSheet k = 0 ∧ q_noSheet o = 0
def m_copyR (sz sl : Nat → Int32) (k i o j n : Int32) : Int32 := if ¬ m_cpK k o then -1 else if ¬ m_cpBar sz sl k i o j n = 0 then -10 - m_cpBar sz sl k i o j n else n
def m_copyF (sz sl : Nat → Int32) (k i o j n : Int32) : Int32 := if m_cpK k o then m_cpBar sz sl k i o j n else 0
def m_copyS (sz sl sh : Nat → Int32) (k i o j n : Int32) : Nat → Int32 := if m_cpK k o ∧ m_cpBar sz sl k i o j n = 0 then (fun q => if (60 * o + j).toNatClampNeg ≤ q ∧ q < (60 * o + j).toNatClampNeg + n.toNatClampNeg then sh ((60 * k + i).toNatClampNeg + (q - (60 * o + j).toNatClampNeg)) else sh q) else sh
def m_tellR (sk : Int32) (kd wt : Nat → Int32) (a : Int32) : Int32 := if ¬ q_noSk sk a = 0 then -1 else if kd a.toNatClampNeg = 0 then wt a.toNatClampNeg else if kd a.toNatClampNeg = 1 then wt a.toNatClampNeg + 100 else 2 * wt a.toNatClampNeg + 100
def m_tellT (sk : Int32) (kd : Nat → Int32) (a tr : Int32) : Int32 := if ¬ q_noSk sk a = 0 then tr else
  if kd a.toNatClampNeg = 2 then 31 * (31 * (31 * (31 * tr + 3) + 2) + 1) + 1 else if 0 < kd a.toNatClampNeg then 31 * (31 * tr + 2) + 1 else 31 * tr + 1
def m_signedR (sk : Int32) (kd : Nat → Int32) (a : Int32) : Int32 := if ¬ q_noSk sk a = 0 then -1 else if kd a.toNatClampNeg = 2 then 60 else a
def m_signedT (sk : Int32) (kd : Nat → Int32) (a tr : Int32) : Int32 := if ¬ q_noSk sk a = 0 then tr else if kd a.toNatClampNeg = 2 then 31 * tr + 5 else 31 * tr + 4
def m_asR (sk : Int32) (kd : Nat → Int32) (a kind : Int32) : Int32 := if ¬ q_noSk sk a = 0 then -1 else if ¬ m_laneOk kind then -2 else if kind ≤ kd a.toNatClampNeg then 1 else -12
def m_asF (sk : Int32) (kd : Nat → Int32) (a kind : Int32) : Int32 := if q_noSk sk a = 0 ∧ m_laneOk kind ∧ ¬ kind ≤ kd a.toNatClampNeg then 2 else 0
def m_many (hi wi fr sk rc what : Int32) : Int32 := if what = 0 then sk else if what = 1 then hi * wi else if what = 2 then wi else if what = 3 then fr else if what = 4 then rc else -2
/-- the strengths behind deed(): put back from what was kept -/
def m_deedS4 (hi wi sk br th : Int32) (str kd wt sz sl sh kept : Nat → Int32) (a b ce k lane i n what : Int32) : Nat → Int32 :=
  if m_dDo hi wi sk sz sl sh a b ce k lane i n ∧ 0 ≤ what ∧ what ≤ 4 then s_cp20 (s_cp20 str kept) (m_deedN hi wi br th str kd wt sh a b ce k i n).2.2.2 else str
def m_writeS4 (hi wi sk br th : Int32) (str kd wt sz sl sh kept : Nat → Int32) (a b ce k lane i n : Int32) : Nat → Int32 :=
  if m_dDo hi wi sk sz sl sh a b ce k lane i n then (if (m_deedN hi wi br th str kd wt sh a b ce k i n).1 < 0 then (m_deedN hi wi br th str kd wt sh a b ce k i n).2.2.2 else s_cp20 (s_cp20 str kept) (m_deedN hi wi br th str kd wt sh a b ce k i n).2.2.2) else str
abbrev m_oddsDo (hi wi sk a b fro to set which : Int32) : Prop := m_bKnown hi wi sk a b fro to ∧ (0 ≤ set ∧ set.toInt64 ≤ ((1 : Int32) <<< ((hi * wi) &&& 31)).toInt64 - 1) ∧ q_bits set ≤ 8 ∧ 0 ≤ which ∧ which ≤ 1
/-! the pure words of the class's own methods -/
def s_shAt (sh : Nat → Option Nat) (k : Int32) : Option Nat := if s_in k 0 3 = 0 then none else sh k.toNatClampNeg
def x_kf (v : Int32) : Int32 := if s_in v (-14) (-11) = 0 then 0 else -10 - v
def x_pair (cnt a b : Int32) : Int32 := if ¬ s_in a 0 (cnt - 1) = 0 ∧ ¬ s_in b 0 (cnt - 1) = 0 ∧ ¬ a = b then 1 else 0
def x_rl (sla lane : Int32) : Int32 := if s_in lane 0 2 = 0 then -2 else if ¬ s_nothing sla = 0 then -11 else if sla = lane then 0 else -12
def x_rp (sla sle lane i n : Int32) : Int32 := if ¬ x_rl sla lane = 0 then x_rl sla lane else if s_shas sle i n = 0 then -13 else 0
def x_rw (hi wi v : Int32) : Int32 := if s_in v 0 9 = 0 then -2 else if hi * wi = 0 then -3 else 0
-- texts
abbrev x_ttGo (sla sle lane i n : Int32) : Prop := x_rl sla lane = 0 ∧ ¬ n < 0 ∧ ¬ s_shas sle i n = 0
def x_ttIce (sn xc : Nat → Int32) (i n : Int32) (str : Nat → Int32) : tT × (Nat → Int32) × Int32 := itRow n (s_cpT sn xc i n) (0, 0) str
def x_ttCrew (sn xc : Nat → Int32) (i n : Int32) (str ck cwt : Nat → Int32) : cT := crwAll n (s_cpT sn xc i n) (x_ttIce sn xc i n str).1 ck cwt
def x_ttEnd (sn xc : Nat → Int32) (i n : Int32) (str ck cwt : Nat → Int32) : Int32 := s_endW n (x_ttCrew sn xc i n str ck cwt).1.1 (x_ttCrew sn xc i n str ck cwt).1.2
abbrev x_ttOk (sla sle lane i n : Int32) (sn xc str ck cwt : Nat → Int32) : Prop := x_ttGo sla sle lane i n ∧ x_ttEnd sn xc i n str ck cwt = 0
def x_ttR (sla sle lane i n : Int32) (sn xc str ck cwt : Nat → Int32) : Int32 :=
  if ¬ x_rl sla lane = 0 then x_rl sla lane else if n < 0 then -14 else if s_shas sle i n = 0 then -13 else if ¬ x_ttEnd sn xc i n str ck cwt = 0 then -100 - (x_ttCrew sn xc i n str ck cwt).1.1 else (x_ttCrew sn xc i n str ck cwt).2.2.2
-- deeds
abbrev x_dK (hi wi cnt a b ce : Int32) : Prop := ¬ x_pair cnt a b = 0 ∧ ¬ s_in ce 0 (hi * wi - 1) = 0
def x_dKn (hi wi cnt a b ce : Int32) : Int32 := if x_dK hi wi cnt a b ce then 1 else 0
def x_noSt (sn : Nat → Int32) (i : Int32) (n : Nat) : Bool := decide (∃ x, x < n ∧ s_in (sn (i + nI x).toNatClampNeg) 0 3 = 0)
def x_tdR (hi wi cnt sla sle : Int32) (sn : Nat → Int32) (a b ce lane i n : Int32) : Int32 :=
  if ¬ x_dK hi wi cnt a b ce then -1 else if s_in n 0 40 = 0 then -2 else if ¬ x_rp sla sle lane i n = 0 then x_rp sla sle lane i n else if x_noSt sn i n.toNatClampNeg = true then -2 else 0
/-- a trial: where it stands, what is cut, first wrong, strengths -/
abbrev tS : Type := Int32 × Int32 × Int32 × (Nat → Int32)
def x_trStep (hi wi fc lc stroke load : Int32) (x : Nat) (q : tS) : tS :=
  (s_stAt (s_led hi wi fc lc q.1 stroke) load q.2.2.2 q.1, s_stCut (s_led hi wi fc lc q.1 stroke) load q.2.2.2 q.2.1, s_stFw (s_led hi wi fc lc q.1 stroke) load q.2.2.2 q.2.2.1 (nI x), s_stStr (s_led hi wi fc lc q.1 stroke) load q.2.2.2)
def x_trN (hi wi fc lc : Int32) (ck cwt sn str : Nat → Int32) (a b ce i : Int32) : Nat → tS
  | 0 => (ce, 0, -9, str)
  | x + 1 => if (x_trN hi wi fc lc ck cwt sn str a b ce i x).2.2.1 = -9 then x_trStep hi wi fc lc (sn (i + nI x).toNatClampNeg) (s_load ck cwt (if x % 2 = 0 then a else b)) x (x_trN hi wi fc lc ck cwt sn str a b ce i x) else x_trN hi wi fc lc ck cwt sn str a b ce i x
def x_tr (hi wi fc lc : Int32) (ck cwt sn str dstr : Nat → Int32) (a b ce i n : Int32) : tS := x_trN hi wi fc lc ck cwt sn (s_cp20 str dstr) a b ce i n.toNatClampNeg
def x_ofT (q : tS) (n what : Int32) : Int32 := if what = 1 then q.2.2.1 else if ¬ q.2.2.1 = -9 then -100 - q.2.2.1 else if what = 0 then q.1 else if what = 2 then q.2.1 else if what = 3 then q.2.2.2 q.1.toNatClampNeg else (n + 1) / 2
def x_deedR (hi wi fc lc cnt sla sle : Int32) (ck cwt sn str dstr : Nat → Int32) (a b ce lane i n what : Int32) : Int32 :=
  if s_in what 0 4 = 0 then (if x_dK hi wi cnt a b ce then -2 else -1) else if ¬ x_tdR hi wi cnt sla sle sn a b ce lane i n = 0 then x_tdR hi wi cnt sla sle sn a b ce lane i n else x_ofT (x_tr hi wi fc lc ck cwt sn str dstr a b ce i n) n what
def x_writeR (hi wi fc lc cnt sla sle : Int32) (ck cwt sn str dstr : Nat → Int32) (a b ce lane i n : Int32) : Int32 :=
  if ¬ x_tdR hi wi cnt sla sle sn a b ce lane i n = 0 then x_tdR hi wi cnt sla sle sn a b ce lane i n else if ¬ (x_tr hi wi fc lc ck cwt sn str dstr a b ce i n).2.2.1 = -9 then -100 - (x_tr hi wi fc lc ck cwt sn str dstr a b ce i n).2.2.1 else n
def x_writeS (hi wi fc lc cnt sla sle : Int32) (ck cwt sn str dstr : Nat → Int32) (a b ce lane i n : Int32) : Nat → Int32 :=
  if x_tdR hi wi cnt sla sle sn a b ce lane i n = 0 ∧ (x_tr hi wi fc lc ck cwt sn str dstr a b ce i n).2.2.1 = -9 then s_cp20 (x_tr hi wi fc lc ck cwt sn str dstr a b ce i n).2.2.2 str else str
-- the canal
def x_ofSk (hi wi cnt : Int32) (str ck cwt : Nat → Int32) (a what : Int32) : Int32 :=
  if s_in a 0 (cnt - 1) = 0 then -1 else if what = 0 then ck a.toNatClampNeg else if what = 1 then cwt a.toNatClampNeg else if what = 2 then s_load ck cwt a else if what = 3 then s_bearing str (s_load ck cwt a) 0 (hi * wi).toNatClampNeg else -2
def x_strength (hi wi : Int32) (str : Nat → Int32) (ce : Int32) : Int32 := if s_in ce 0 (hi * wi - 1) = 0 then -1 else str ce.toNatClampNeg
abbrev x_frOk (hi wi ce v : Int32) : Prop := ¬ s_in ce 0 (hi * wi - 1) = 0 ∧ ¬ s_in v 0 9 = 0
def x_freezeR (hi wi : Int32) (str : Nat → Int32) (ce v : Int32) : Int32 := if s_in ce 0 (hi * wi - 1) = 0 then -1 else if s_in v 0 9 = 0 then -2 else str ce.toNatClampNeg
def x_wx (hi wi v r : Int32) : Int32 := if x_rw hi wi v = 0 then r else x_rw hi wi v
-- bonds
abbrev x_bK (hi wi cnt a b fro to : Int32) : Prop := ¬ x_pair cnt a b = 0 ∧ ¬ s_in fro 0 (hi * wi - 1) = 0 ∧ ¬ s_in to 0 (hi * wi - 1) = 0
def x_bKn (hi wi cnt a b fro to : Int32) : Int32 := if x_bK hi wi cnt a b fro to then 1 else 0
def x_brg (hi wi : Int32) (str ck cwt : Nat → Int32) (a days : Int32) : Int32 := s_bearing str (s_load ck cwt a) days (hi * wi).toNatClampNeg
def x_isBd (hi wi fc lc : Int32) (str ck cwt : Nat → Int32) (a b fro to broken : Int32) : Int32 :=
  if s_shortest hi wi fc lc fro to (x_brg hi wi str ck cwt a 0 &&& (broken ^^^ (-1))) (x_brg hi wi str ck cwt b 0 &&& (broken ^^^ (-1))) = -9 then 0 else 1
def x_bondR (hi wi fc lc cnt : Int32) (str ck cwt : Nat → Int32) (a b fro to k : Int32) : Int32 :=
  if ¬ x_bK hi wi cnt a b fro to then -1 else if s_in k (-1) 39 = 0 then -2 else if k = -1 then s_shortest hi wi fc lc fro to (x_brg hi wi str ck cwt a 0) (x_brg hi wi str ck cwt b 0)
  else if k < s_shortest hi wi fc lc fro to (x_brg hi wi str ck cwt a 0) (x_brg hi wi str ck cwt b 0) then s_strokeOf hi wi fc lc k fro to (x_brg hi wi str ck cwt a 0) (x_brg hi wi str ck cwt b 0) else -9
def x_holdsN (hi wi fc lc : Int32) (str ck cwt : Nat → Int32) (a b fro to : Int32) : Nat → Int32
  | 0 => -9
  | d + 1 => if s_shortest hi wi fc lc fro to (x_brg hi wi str ck cwt a (nI d)) (x_brg hi wi str ck cwt b (nI d)) = -9 then x_holdsN hi wi fc lc str ck cwt a b fro to d else nI d
termination_by d => d
def x_holdsR (hi wi fc lc cnt : Int32) (str ck cwt : Nat → Int32) (a b fro to : Int32) : Int32 := if ¬ x_bK hi wi cnt a b fro to then -1 else x_holdsN hi wi fc lc str ck cwt a b fro to 10
def x_aloneR (hi wi fc lc cnt : Int32) (str ck cwt : Nat → Int32) (a fro : Int32) : Int32 := if s_in a 0 (cnt - 1) = 0 ∨ s_in fro 0 (hi * wi - 1) = 0 then -1 else s_reach hi wi fc lc fro (x_brg hi wi str ck cwt a 0)
/-- the first of k cells from ce on without which there is no bond -/
def x_neckN (hi wi fc lc : Int32) (str ck cwt : Nat → Int32) (a b fro to : Int32) : Nat → Nat → Int32
  | 0, _ => -9
  | k + 1, ce => if ¬ nI ce = fro ∧ ¬ nI ce = to ∧ x_isBd hi wi fc lc str ck cwt a b fro to ((1 : Int32) <<< (nI ce &&& 31)) = 0 then nI ce else x_neckN hi wi fc lc str ck cwt a b fro to k (ce + 1)
def x_neckR (hi wi fc lc cnt : Int32) (str ck cwt : Nat → Int32) (a b fro to : Int32) : Int32 :=
  if ¬ x_bK hi wi cnt a b fro to then -1 else if x_isBd hi wi fc lc str ck cwt a b fro to 0 = 0 then -9 else x_neckN hi wi fc lc str ck cwt a b fro to (hi * wi).toNatClampNeg 0
-- readings
def x_rdR (hi wi cnt rc a ce : Int32) : Int32 := if s_in a 0 (cnt - 1) = 0 ∨ s_in ce 0 (hi * wi - 1) = 0 then -1 else s_addR rc
abbrev x_rdOk (hi wi cnt a ce : Int32) : Prop := ¬ (s_in a 0 (cnt - 1) = 0 ∨ s_in ce 0 (hi * wi - 1) = 0)
def x_backR (rc k : Int32) : Int32 := if s_in k 0 rc = 0 then -2 else rc - k
def x_backC (rc k : Int32) : Int32 := if s_in k 0 rc = 0 then rc else rc - k
def x_weightsR (cnt : Int32) (rs rl rb str ck cwt : Nat → Int32) (n : Nat) (a : Int32) : Int32 := if s_in a 0 (cnt - 1) = 0 then -1 else m_setN (fun v => s_areSo rs rl rb str ck (upd cwt a.toNatClampNeg v) n) 1 9
def x_kindsR (cnt : Int32) (rs rl rb str ck cwt : Nat → Int32) (n : Nat) (a : Int32) : Int32 := if s_in a 0 (cnt - 1) = 0 then -1 else m_setN (fun v => s_areSo rs rl rb str (upd ck a.toNatClampNeg v) cwt n) 0 3
def x_strengthsR (hi wi : Int32) (rs rl rb str ck cwt : Nat → Int32) (n : Nat) (ce : Int32) : Int32 := if s_in ce 0 (hi * wi - 1) = 0 then -1 else m_setN (fun v => s_areSo rs rl rb (upd str ce.toNatClampNeg v) ck cwt n) 0 10
/-- how many of the first k sets of breaking cells leave a bond, and the next one -/
def x_nextSub (set broken : Int32) : Int32 := (broken - set) &&& set
def x_subN (set : Int32) : Nat → Int32
  | 0 => 0
  | k + 1 => x_nextSub set (x_subN set k)
def x_bondsN (hi wi fc lc : Int32) (str ck cwt : Nat → Int32) (a b fro to set : Int32) : Nat → Int32
  | 0 => 0
  | k + 1 => x_bondsN hi wi fc lc str ck cwt a b fro to set k + x_isBd hi wi fc lc str ck cwt a b fro to (x_subN set k)
def x_bonds (hi wi fc lc : Int32) (str ck cwt : Nat → Int32) (a b fro to set : Int32) : Int32 := x_bondsN hi wi fc lc str ck cwt a b fro to set ((1 : Int32) <<< (s_bitCount set &&& 31)).toNatClampNeg
/-- halves: upper, lower, k rounds at most -/
def x_halfN : Nat → Int32 → Int32 → Int32 × Int32
  | 0, u, d => (u, d)
  | k + 1, u, d => if 1 < d ∧ u - u / 2 * 2 = 0 then x_halfN k (u / 2) (d / 2) else (u, d)
termination_by k _ _ => k
abbrev x_oddsOk (hi wi cnt a b fro to set which : Int32) : Prop := x_bK hi wi cnt a b fro to ∧ (set &&& (s_all hi wi ^^^ (-1)) = 0 ∧ s_bitCount set ≤ 8) ∧ ¬ s_in which 0 1 = 0
def x_half (hi wi fc lc : Int32) (str ck cwt : Nat → Int32) (a b fro to set : Int32) : Int32 × Int32 := x_halfN 8 (x_bonds hi wi fc lc str ck cwt a b fro to set) ((1 : Int32) <<< (s_bitCount set &&& 31))
def x_oddsR (hi wi fc lc cnt : Int32) (str ck cwt : Nat → Int32) (a b fro to set which : Int32) : Int64 :=
  if x_oddsOk hi wi cnt a b fro to set which then (if which = 0 then (x_half hi wi fc lc str ck cwt a b fro to set).1 else (x_half hi wi fc lc str ck cwt a b fro to set).2).toInt64 else -9223372036854775808
-- sheets
def x_nrR (lane n : Int32) : Int32 := if s_in lane 0 2 = 0 ∨ 60 < n then -2 else if n < 0 then -14 else 1
abbrev x_nrOk (lane n : Int32) : Prop := ¬ s_in lane 0 2 = 0 ∧ ¬ 60 < n ∧ ¬ n < 0
def x_pnR (sla sle ii : Int32) : Int32 := if ¬ s_nothing sla = 0 then -11 else if s_shas sle ii 1 = 0 then -13 else 1
abbrev x_pnOk (sla sle ii : Int32) : Prop := s_nothing sla = 0 ∧ ¬ s_shas sle ii 1 = 0
def x_cellR (sla sle : Int32) (sn : Nat → Int32) (lane ii : Int32) : Int64 := if x_rp sla sle lane ii 1 = 0 then (sn ii.toNatClampNeg).toInt64 else -9223372036854775808
abbrev x_cpOk (sla sle ula ule i j n : Int32) : Prop := (s_nothing sla = 0 ∧ s_nothing ula = 0) ∧ sla = ula ∧ ¬ s_shas sle i n = 0 ∧ ¬ s_shas ule j n = 0
def x_cpR (sla sle ula ule i j n : Int32) : Int32 := if ¬ (s_nothing sla = 0 ∧ s_nothing ula = 0) then -11 else if ¬ sla = ula then -12 else if s_shas sle i n = 0 ∨ s_shas ule j n = 0 then -13 else n
def x_cpS (sla sle ula ule : Int32) (sn un : Nat → Int32) (i j n : Int32) : Nat → Int32 := if x_cpOk sla sle ula ule i j n then va_cpy sn un i.toNatClampNeg j.toNatClampNeg n.toNatClampNeg else un
-- telling
def x_tellR (cnt : Int32) (ck cwt : Nat → Int32) (a : Int32) : Int32 := if s_in a 0 (cnt - 1) = 0 then -1 else if ck a.toNatClampNeg = 1 then cwt a.toNatClampNeg + 100 else if ck a.toNatClampNeg = 2 then cwt a.toNatClampNeg + 100 + cwt a.toNatClampNeg else cwt a.toNatClampNeg
def x_tellT (cnt : Int32) (ck : Nat → Int32) (a tr : Int32) : Int32 := if s_in a 0 (cnt - 1) = 0 then tr else if ck a.toNatClampNeg = 1 then 31 * (31 * tr + 2) + 1 else if ck a.toNatClampNeg = 2 then 31 * (31 * (31 * (31 * tr + 3) + 2) + 1) + 1 else 31 * tr + 1
def x_signR (cnt : Int32) (ck : Nat → Int32) (a : Int32) : Int32 := if s_in a 0 (cnt - 1) = 0 then -1 else if ck a.toNatClampNeg = 2 then 60 else a
def x_signT (cnt : Int32) (ck : Nat → Int32) (a tr : Int32) : Int32 := if s_in a 0 (cnt - 1) = 0 then tr else if ck a.toNatClampNeg = 2 then 31 * tr + 5 else 31 * tr + 4
def x_asR (cnt : Int32) (ck : Nat → Int32) (a kind : Int32) : Int32 := if s_in a 0 (cnt - 1) = 0 then -1 else if s_in kind 0 2 = 0 then -2 else if ck a.toNatClampNeg < kind then -12 else 1
def x_many (hi wi fr cnt rc what : Int32) : Int32 := if what = 0 then cnt else if what = 1 then hi * wi else if what = 2 then wi else if what = 3 then fr else if what = 4 then rc else -2
/-- every stroke of a trial leads to a cell of the ice, or off it; the run of strokes lies in its row -/
def okTrial (hi wi fc lc : Int32) (ck cwt sn str : Nat → Int32) (a b ce i n sle : Int32) : Prop := ∀ x : Nat, x < n.toNatClampNeg → okRun i n 60 → (∀ y, y < n.toNatClampNeg → s_in (sn (i + nI y).toNatClampNeg) 0 3 = 1) → (x_trN hi wi fc lc ck cwt sn str a b ce i x).2.2.1 = -9 → (s_led hi wi fc lc (x_trN hi wi fc lc ck cwt sn str a b ce i x).1 (sn (i + nI x).toNatClampNeg) = -9 ∨ vp_in (s_led hi wi fc lc (x_trN hi wi fc lc ck cwt sn str a b ce i x).1 (sn (i + nI x).toNatClampNeg)) 20)
end
section
/-! the contracts, as words -/
abbrev rm_X6_isWithin : Room := { frames := 0, cells := 0, slots := 0, locals := 0 }
abbrev rm_X6_isIn : Room := { frames := 0, cells := 0, slots := 0, locals := 0 }
abbrev rm_J6_bitCount_0f7a4 : Room := { frames := 0, cells := 0, slots := 0, locals := 0 }
abbrev rm_J7_fill_53178 : Room := { frames := 0, cells := 0, slots := 0, locals := 0 }
abbrev rm_X0_has : Room := { frames := 1, cells := 0, slots := 0, locals := 22 }
abbrev rm_X0_load : Room := { frames := 0, cells := 0, slots := 0, locals := 0 }
abbrev rm_X2_cells : Room := { frames := 0, cells := 0, slots := 0, locals := 0 }
abbrev rm_X2_all : Room := { frames := 1, cells := 0, slots := 0, locals := 20 }
abbrev rm_X2_has : Room := { frames := 1, cells := 0, slots := 0, locals := 22 }
abbrev rm_X2_strengthen : Room := { frames := 1, cells := 0, slots := 0, locals := 40 }
abbrev rm_X2_count : Room := { frames := 1, cells := 0, slots := 0, locals := 20 }
abbrev rm_X2_bearing : Room := { frames := 1, cells := 0, slots := 0, locals := 20 }
abbrev rm_X2_led : Room := { frames := 1, cells := 0, slots := 0, locals := 21 }
abbrev rm_X2_nextTo : Room := { frames := 2, cells := 0, slots := 0, locals := 40 }
abbrev rm_X2_reach : Room := { frames := 3, cells := 0, slots := 0, locals := 63 }
abbrev rm_X2_shortest : Room := { frames := 3, cells := 0, slots := 0, locals := 63 }
abbrev rm_X2_beginOfBond : Room := { frames := 4, cells := 0, slots := 0, locals := 90 }
abbrev rm_X2_strokeOfBond : Room := { frames := 5, cells := 0, slots := 0, locals := 117 }
abbrev rm_X1_begin : Room := { frames := 1, cells := 0, slots := 0, locals := 40 }
abbrev rm_X1_stroke : Room := { frames := 2, cells := 0, slots := 0, locals := 43 }
abbrev rm_X3_add : Room := { frames := 0, cells := 0, slots := 0, locals := 0 }
abbrev rm_X3_areSo : Room := { frames := 1, cells := 0, slots := 0, locals := 21 }
abbrev rm_X4_begin : Room := { frames := 1, cells := 0, slots := 0, locals := 23 }
abbrev rm_X4_clear : Room := { frames := 0, cells := 0, slots := 0, locals := 0 }
abbrev rm_X4_isNothing : Room := { frames := 0, cells := 0, slots := 0, locals := 0 }
abbrev rm_X4_has : Room := { frames := 1, cells := 0, slots := 0, locals := 22 }
abbrev rm_X4_set : Room := { frames := 0, cells := 0, slots := 0, locals := 0 }
abbrev rm_X5_begin : Room := { frames := 1, cells := 0, slots := 0, locals := 40 }
abbrev rm_X5_goesOn : Room := { frames := 0, cells := 0, slots := 0, locals := 0 }
abbrev rm_X5_take : Room := { frames := 1, cells := 0, slots := 0, locals := 22 }
abbrev rm_X5_digit : Room := { frames := 2, cells := 0, slots := 0, locals := 44 }
abbrev rm_X5_sign : Room := { frames := 2, cells := 0, slots := 0, locals := 44 }
abbrev rm_X5_kind : Room := { frames := 3, cells := 0, slots := 0, locals := 65 }
abbrev rm_X5_end : Room := { frames := 0, cells := 0, slots := 0, locals := 0 }
abbrev rm_X2_take : Room := { frames := 3, cells := 0, slots := 0, locals := 66 }
abbrev rm_X0_take : Room := { frames := 4, cells := 0, slots := 0, locals := 86 }
abbrev rm_X7_in : Room := { frames := 0, cells := 0, slots := 0, locals := 0 }
abbrev rm_X7_lost : Room := { frames := 0, cells := 0, slots := 0, locals := 0 }
abbrev rm_X7_isIn : Room := { frames := 0, cells := 0, slots := 0, locals := 0 }
abbrev rm_X7_bits : Room := { frames := 0, cells := 0, slots := 0, locals := 0 }
abbrev rm_X7_share : Room := { frames := 0, cells := 0, slots := 0, locals := 0 }
abbrev rm_X7_noSheet : Room := { frames := 1, cells := 0, slots := 0, locals := 25 }
abbrev rm_X7_isBeyond : Room := { frames := 0, cells := 0, slots := 0, locals := 0 }
abbrev rm_X7_refused : Room := { frames := 0, cells := 0, slots := 0, locals := 0 }
abbrev rm_X7_failed : Room := { frames := 0, cells := 0, slots := 0, locals := 0 }
abbrev rm_X7_failedLong : Room := { frames := 1, cells := 0, slots := 0, locals := 19 }
abbrev rm_X7_cells : Room := { frames := 0, cells := 0, slots := 0, locals := 0 }
abbrev rm_X7_noPlace : Room := { frames := 1, cells := 0, slots := 0, locals := 25 }
abbrev rm_X7_noSkater : Room := { frames := 1, cells := 0, slots := 0, locals := 25 }
abbrev rm_X7_noTwo : Room := { frames := 2, cells := 0, slots := 0, locals := 46 }
abbrev rm_X7_codeAt : Room := { frames := 0, cells := 0, slots := 0, locals := 0 }
abbrev rm_X7_figure : Room := { frames := 1, cells := 0, slots := 0, locals := 25 }
abbrev rm_X7_readsPlace : Room := { frames := 2, cells := 0, slots := 0, locals := 51 }
abbrev rm_X7_readsSkater : Room := { frames := 2, cells := 0, slots := 0, locals := 51 }
abbrev rm_X7_readsCanal : Room := { frames := 3, cells := 0, slots := 0, locals := 75 }
abbrev rm_X7_cellsBarred : Room := { frames := 1, cells := 0, slots := 0, locals := 23 }
abbrev rm_X7_loadOf : Room := { frames := 0, cells := 0, slots := 0, locals := 0 }
abbrev rm_X7_bears : Room := { frames := 1, cells := 0, slots := 0, locals := 22 }
abbrev rm_X7_bearingOf : Room := { frames := 2, cells := 0, slots := 0, locals := 45 }
abbrev rm_X7_beside : Room := { frames := 1, cells := 0, slots := 0, locals := 25 }
abbrev rm_X7_goDeed : Room := { frames := 2, cells := 0, slots := 0, locals := 49 }
abbrev rm_X7_keep : Room := { frames := 0, cells := 0, slots := 0, locals := 0 }
abbrev rm_X7_putBack : Room := { frames := 0, cells := 0, slots := 0, locals := 0 }
abbrev rm_X7_strokesBarred : Room := { frames := 2, cells := 0, slots := 0, locals := 48 }
abbrev rm_X7_countOf : Room := { frames := 1, cells := 0, slots := 0, locals := 20 }
abbrev rm_X7_leftBy : Room := { frames := 2, cells := 0, slots := 0, locals := 49 }
abbrev rm_X7_goBond : Room := { frames := 3, cells := 0, slots := 0, locals := 79 }
abbrev rm_X7_isBond : Room := { frames := 4, cells := 0, slots := 0, locals := 106 }
abbrev rm_X7_strokeBy : Room := { frames := 2, cells := 0, slots := 0, locals := 49 }
abbrev rm_X7_areSo : Room := { frames := 2, cells := 0, slots := 0, locals := 45 }
abbrev rm_X7_noCell : Room := { frames := 1, cells := 0, slots := 0, locals := 25 }
abbrev rm_X7_traced : Room := { frames := 0, cells := 0, slots := 0, locals := 0 }
abbrev rm_X7_canal : Room := { frames := 4, cells := 0, slots := 0, locals := 99 }
abbrev rm_X7_ofSkater : Room := { frames := 3, cells := 0, slots := 0, locals := 68 }
abbrev rm_X7_strength : Room := { frames := 2, cells := 0, slots := 0, locals := 46 }
abbrev rm_X7_freeze : Room := { frames := 2, cells := 0, slots := 0, locals := 46 }
abbrev rm_X7_frost : Room := { frames := 1, cells := 0, slots := 0, locals := 25 }
abbrev rm_X7_deed : Room := { frames := 3, cells := 0, slots := 0, locals := 76 }
abbrev rm_X7_write : Room := { frames := 3, cells := 0, slots := 0, locals := 76 }
abbrev rm_X7_nights : Room := { frames := 2, cells := 0, slots := 0, locals := 43 }
abbrev rm_X7_thaw : Room := { frames := 2, cells := 0, slots := 0, locals := 43 }
abbrev rm_X7_bond : Room := { frames := 4, cells := 0, slots := 0, locals := 106 }
abbrev rm_X7_holds : Room := { frames := 5, cells := 0, slots := 0, locals := 130 }
abbrev rm_X7_alone : Room := { frames := 2, cells := 0, slots := 0, locals := 49 }
abbrev rm_X7_neck : Room := { frames := 5, cells := 0, slots := 0, locals := 130 }
abbrev rm_X7_reading : Room := { frames := 2, cells := 0, slots := 0, locals := 46 }
abbrev rm_X7_back : Room := { frames := 1, cells := 0, slots := 0, locals := 25 }
abbrev rm_X7_weights : Room := { frames := 3, cells := 0, slots := 0, locals := 67 }
abbrev rm_X7_kinds : Room := { frames := 3, cells := 0, slots := 0, locals := 67 }
abbrev rm_X7_strengths : Room := { frames := 3, cells := 0, slots := 0, locals := 67 }
abbrev rm_X7_odds : Room := { frames := 5, cells := 0, slots := 0, locals := 130 }
abbrev rm_X7_sheet : Room := { frames := 2, cells := 0, slots := 0, locals := 45 }
abbrev rm_X7_lose : Room := { frames := 2, cells := 0, slots := 0, locals := 45 }
abbrev rm_X7_put : Room := { frames := 2, cells := 0, slots := 0, locals := 47 }
abbrev rm_X7_cell : Room := { frames := 2, cells := 0, slots := 0, locals := 47 }
abbrev rm_X7_copy : Room := { frames := 2, cells := 0, slots := 0, locals := 45 }
abbrev rm_X7_tell : Room := { frames := 2, cells := 0, slots := 0, locals := 46 }
abbrev rm_X7_signed : Room := { frames := 2, cells := 0, slots := 0, locals := 46 }
abbrev rm_X7_as : Room := { frames := 2, cells := 0, slots := 0, locals := 46 }
abbrev rm_X7_trace : Room := { frames := 0, cells := 0, slots := 0, locals := 0 }
abbrev rm_X7_fault : Room := { frames := 0, cells := 0, slots := 0, locals := 0 }
abbrev rm_X7_many : Room := { frames := 1, cells := 0, slots := 0, locals := 20 }
abbrev rm_X6_keepFault : Room := { frames := 1, cells := 0, slots := 0, locals := 22 }
abbrev rm_X6_sheetAt : Room := { frames := 1, cells := 0, slots := 0, locals := 22 }
abbrev rm_X6_refusalOfLane : Room := { frames := 1, cells := 0, slots := 0, locals := 22 }
abbrev rm_X6_refusalOfPart : Room := { frames := 2, cells := 0, slots := 0, locals := 44 }
abbrev rm_X6_refusalOfWeather : Room := { frames := 1, cells := 0, slots := 0, locals := 22 }
abbrev rm_X6_isPair : Room := { frames := 2, cells := 0, slots := 0, locals := 43 }
abbrev rm_X6_changeToDraft : Room := { frames := 0, cells := 0, slots := 0, locals := 0 }
abbrev rm_X6_takeText : Room := { frames := 5, cells := 0, slots := 0, locals := 108 }
abbrev rm_X6_isDeedKnown : Room := { frames := 3, cells := 0, slots := 0, locals := 65 }
abbrev rm_X6_tryDeed : Room := { frames := 4, cells := 0, slots := 0, locals := 89 }
abbrev rm_X6_ofTrial : Room := { frames := 0, cells := 0, slots := 0, locals := 0 }
abbrev rm_X6_isBondKnown : Room := { frames := 3, cells := 0, slots := 0, locals := 65 }
abbrev rm_X6_isBond : Room := { frames := 4, cells := 0, slots := 0, locals := 90 }
abbrev rm_X6_bondsAsBreaking : Room := { frames := 5, cells := 0, slots := 0, locals := 117 }
abbrev rm_X6_newRow : Room := { frames := 2, cells := 0, slots := 0, locals := 45 }
abbrev rm_X6_putNumber : Room := { frames := 2, cells := 0, slots := 0, locals := 44 }
abbrev rm_X6_copyNumbers : Room := { frames := 2, cells := 0, slots := 0, locals := 44 }
abbrev rm_X6_leave : Room := { frames := 0, cells := 0, slots := 0, locals := 0 }
abbrev rm_X6_skaterGives : Room := { frames := 1, cells := 0, slots := 0, locals := 21 }
abbrev rm_X6_clerkGives : Room := { frames := 2, cells := 0, slots := 0, locals := 42 }
abbrev rm_X6_bankerGives : Room := { frames := 3, cells := 0, slots := 0, locals := 63 }
abbrev rm_X6_takeAs : Room := { frames := 2, cells := 0, slots := 0, locals := 43 }
abbrev rm_X6_canal : Room := { frames := 6, cells := 0, slots := 0, locals := 134 }
abbrev rm_X6_ofSkater : Room := { frames := 2, cells := 0, slots := 0, locals := 44 }
abbrev rm_X6_strength : Room := { frames := 2, cells := 0, slots := 0, locals := 43 }
abbrev rm_X6_freeze : Room := { frames := 2, cells := 0, slots := 0, locals := 43 }
abbrev rm_X6_frost : Room := { frames := 2, cells := 0, slots := 0, locals := 43 }
abbrev rm_X6_deed : Room := { frames := 5, cells := 0, slots := 0, locals := 119 }
abbrev rm_X6_write : Room := { frames := 5, cells := 0, slots := 0, locals := 119 }
abbrev rm_X6_nights : Room := { frames := 2, cells := 0, slots := 0, locals := 62 }
abbrev rm_X6_thaw : Room := { frames := 2, cells := 0, slots := 0, locals := 62 }
abbrev rm_X6_bond : Room := { frames := 6, cells := 0, slots := 0, locals := 146 }
abbrev rm_X6_holds : Room := { frames := 4, cells := 0, slots := 0, locals := 90 }
abbrev rm_X6_alone : Room := { frames := 4, cells := 0, slots := 0, locals := 87 }
abbrev rm_X6_neck : Room := { frames := 5, cells := 0, slots := 0, locals := 117 }
abbrev rm_X6_reading : Room := { frames := 2, cells := 0, slots := 0, locals := 43 }
abbrev rm_X6_back : Room := { frames := 1, cells := 0, slots := 0, locals := 22 }
abbrev rm_X6_weights : Room := { frames := 2, cells := 0, slots := 0, locals := 45 }
abbrev rm_X6_kinds : Room := { frames := 2, cells := 0, slots := 0, locals := 45 }
abbrev rm_X6_strengths : Room := { frames := 2, cells := 0, slots := 0, locals := 45 }
abbrev rm_X6_odds : Room := { frames := 6, cells := 0, slots := 0, locals := 145 }
abbrev rm_X6_sheet : Room := { frames := 3, cells := 0, slots := 0, locals := 69 }
abbrev rm_X6_lose : Room := { frames := 2, cells := 0, slots := 0, locals := 43 }
abbrev rm_X6_put : Room := { frames := 3, cells := 0, slots := 0, locals := 68 }
abbrev rm_X6_cell : Room := { frames := 3, cells := 0, slots := 0, locals := 68 }
abbrev rm_X6_copy : Room := { frames := 3, cells := 0, slots := 0, locals := 71 }
abbrev rm_X6_tell : Room := { frames := 4, cells := 0, slots := 0, locals := 85 }
abbrev rm_X6_signed : Room := { frames := 2, cells := 0, slots := 0, locals := 43 }
abbrev rm_X6_as : Room := { frames := 3, cells := 0, slots := 0, locals := 65 }
abbrev rm_X6_trace : Room := { frames := 0, cells := 0, slots := 0, locals := 0 }
abbrev rm_X6_fault : Room := { frames := 0, cells := 0, slots := 0, locals := 0 }
abbrev rm_X6_many : Room := { frames := 1, cells := 0, slots := 0, locals := 20 }
def K_X6_isWithin (l : Launch) (G : GT) : Prop := ∀ (v : Int32) (a : Int32) (b : Int32), MF l G yX6_isWithin cX6_isWithin 3 (some .boolean) rm_X6_isWithin [.int v, .int a, .int b] [] (some (.int (s_in v a b))) []
def K_X6_isIn (l : Launch) (G : GT) : Prop := ∀ (set : Int32) (k : Int32), MF l G yX6_isIn cX6_isIn 2 (some .boolean) rm_X6_isIn [.int set, .int k] [] (some (.int (s_isIn set k))) []
def K_J6_bitCount_0f7a4 (l : Launch) (G : GT) : Prop := ∀ (x : Int32), MF l G yJ6_bitCount_0f7a4 cJ6_bitCount_0f7a4 1 (some .int) rm_J6_bitCount_0f7a4 [.int x] [] (some (.int (s_bitCount x))) []
def K_J7_fill_53178 (l : Launch) (G : GT) : Prop := ∀ (q0 : Nat) (v : Int32) (g : Nat → Int32), MF l G yJ7_fill_53178 cJ7_fill_53178 4 none rm_J7_fill_53178 [.ref q0, .int v] [(q0, .inl (G.2.1, 60, .inl g))] none [(q0, .inl (G.2.1, 60, .inl (s_fill v g)))]
def K_X0_has (l : Launch) (G : GT) : Prop := ∀ (c0 : Nat) (c1 : Nat) (c2 : Nat) (cnt : Int32) (a : Int32), MF l G yX0_has cX0_has 2 (some .boolean) rm_X0_has [.ref c0, .int a] [(c0, .inr (0, [.ref c1, .ref c2, .int cnt]))] (some (.int (s_in a 0 (cnt - 1)))) [(c0, .inr (0, [.ref c1, .ref c2, .int cnt]))]
def K_X0_load (l : Launch) (G : GT) : Prop := ∀ (c0 : Nat) (c1 : Nat) (c2 : Nat) (cnt : Int32) (a : Int32) (ck : Nat → Int32) (cwt : Nat → Int32), (vp_in a 4) → MF l G yX0_load cX0_load 2 (some .int) rm_X0_load [.ref c0, .int a] [(c0, .inr (0, [.ref c1, .ref c2, .int cnt])), (c1, .inl (G.2.1, 4, .inl ck)), (c2, .inl (G.2.1, 4, .inl cwt))] (some (.int (s_load ck cwt a))) [(c0, .inr (0, [.ref c1, .ref c2, .int cnt])), (c1, .inl (G.2.1, 4, .inl ck)), (c2, .inl (G.2.1, 4, .inl cwt))]
def K_X2_cells (l : Launch) (G : GT) : Prop := ∀ (i0 : Nat) (i1 : Nat) (hi : Int32) (wi : Int32) (fr : Int32) (fc : Int32) (lc : Int32), MF l G yX2_cells cX2_cells 1 (some .int) rm_X2_cells [.ref i0] [(i0, .inr (2, [.ref i1, .int hi, .int wi, .int fr, .int fc, .int lc]))] (some (.int (hi * wi))) [(i0, .inr (2, [.ref i1, .int hi, .int wi, .int fr, .int fc, .int lc]))]
def K_X2_all (l : Launch) (G : GT) : Prop := ∀ (i0 : Nat) (i1 : Nat) (hi : Int32) (wi : Int32) (fr : Int32) (fc : Int32) (lc : Int32), MF l G yX2_all cX2_all 1 (some .int) rm_X2_all [.ref i0] [(i0, .inr (2, [.ref i1, .int hi, .int wi, .int fr, .int fc, .int lc]))] (some (.int (s_all hi wi))) [(i0, .inr (2, [.ref i1, .int hi, .int wi, .int fr, .int fc, .int lc]))]
def K_X2_has (l : Launch) (G : GT) : Prop := ∀ (i0 : Nat) (i1 : Nat) (hi : Int32) (wi : Int32) (fr : Int32) (fc : Int32) (lc : Int32) (ce : Int32), MF l G yX2_has cX2_has 2 (some .boolean) rm_X2_has [.ref i0, .int ce] [(i0, .inr (2, [.ref i1, .int hi, .int wi, .int fr, .int fc, .int lc]))] (some (.int (s_in ce 0 (hi * wi - 1)))) [(i0, .inr (2, [.ref i1, .int hi, .int wi, .int fr, .int fc, .int lc]))]
def K_X2_strengthen (l : Launch) (G : GT) : Prop := ∀ (i0 : Nat) (i1 : Nat) (hi : Int32) (wi : Int32) (fr : Int32) (fc : Int32) (lc : Int32) (more : Int32) (str : Nat → Int32), (okD hi wi) → MF l G yX2_strengthen cX2_strengthen 3 none rm_X2_strengthen [.ref i0, .int more] [(i0, .inr (2, [.ref i1, .int hi, .int wi, .int fr, .int fc, .int lc])), (i1, .inl (G.2.1, 20, .inl str))] none [(i0, .inr (2, [.ref i1, .int hi, .int wi, .int fr, .int fc, .int lc])), (i1, .inl (G.2.1, 20, .inl (s_strengthen (hi * wi).toNatClampNeg more str)))]
def K_X2_count (l : Launch) (G : GT) : Prop := ∀ (i0 : Nat) (i1 : Nat) (hi : Int32) (wi : Int32) (fr : Int32) (fc : Int32) (lc : Int32) (strong : Int32) (str : Nat → Int32), (okD hi wi) → MF l G yX2_count cX2_count 4 (some .int) rm_X2_count [.ref i0, .int strong] [(i0, .inr (2, [.ref i1, .int hi, .int wi, .int fr, .int fc, .int lc])), (i1, .inl (G.2.1, 20, .inl str))] (some (.int (s_count str strong (hi * wi).toNatClampNeg))) [(i0, .inr (2, [.ref i1, .int hi, .int wi, .int fr, .int fc, .int lc])), (i1, .inl (G.2.1, 20, .inl str))]
def K_X2_bearing (l : Launch) (G : GT) : Prop := ∀ (i0 : Nat) (i1 : Nat) (hi : Int32) (wi : Int32) (fr : Int32) (fc : Int32) (lc : Int32) (load : Int32) (days : Int32) (str : Nat → Int32), (okD hi wi) → MF l G yX2_bearing cX2_bearing 5 (some .int) rm_X2_bearing [.ref i0, .int load, .int days] [(i0, .inr (2, [.ref i1, .int hi, .int wi, .int fr, .int fc, .int lc])), (i1, .inl (G.2.1, 20, .inl str))] (some (.int (s_bearing str load days (hi * wi).toNatClampNeg))) [(i0, .inr (2, [.ref i1, .int hi, .int wi, .int fr, .int fc, .int lc])), (i1, .inl (G.2.1, 20, .inl str))]
def K_X2_led (l : Launch) (G : GT) : Prop := ∀ (i0 : Nat) (i1 : Nat) (hi : Int32) (wi : Int32) (fr : Int32) (fc : Int32) (lc : Int32) (ce : Int32) (stroke : Int32), MF l G yX2_led cX2_led 3 (some .int) rm_X2_led [.ref i0, .int ce, .int stroke] [(i0, .inr (2, [.ref i1, .int hi, .int wi, .int fr, .int fc, .int lc]))] (some (.int (s_led hi wi fc lc ce stroke))) [(i0, .inr (2, [.ref i1, .int hi, .int wi, .int fr, .int fc, .int lc]))]
def K_X2_nextTo (l : Launch) (G : GT) : Prop := ∀ (i0 : Nat) (i1 : Nat) (hi : Int32) (wi : Int32) (fr : Int32) (fc : Int32) (lc : Int32) (set : Int32), MF l G yX2_nextTo cX2_nextTo 4 (some .int) rm_X2_nextTo [.ref i0, .int set] [(i0, .inr (2, [.ref i1, .int hi, .int wi, .int fr, .int fc, .int lc]))] (some (.int (s_next hi wi fc lc set))) [(i0, .inr (2, [.ref i1, .int hi, .int wi, .int fr, .int fc, .int lc]))]
def K_X2_reach (l : Launch) (G : GT) : Prop := ∀ (i0 : Nat) (i1 : Nat) (hi : Int32) (wi : Int32) (fr : Int32) (fc : Int32) (lc : Int32) (fro : Int32) (bears : Int32), MF l G yX2_reach cX2_reach 5 (some .int) rm_X2_reach [.ref i0, .int fro, .int bears] [(i0, .inr (2, [.ref i1, .int hi, .int wi, .int fr, .int fc, .int lc]))] (some (.int (s_reach hi wi fc lc fro bears))) [(i0, .inr (2, [.ref i1, .int hi, .int wi, .int fr, .int fc, .int lc]))]
def K_X2_shortest (l : Launch) (G : GT) : Prop := ∀ (i0 : Nat) (i1 : Nat) (hi : Int32) (wi : Int32) (fr : Int32) (fc : Int32) (lc : Int32) (fro : Int32) (to : Int32) (bf : Int32) (bs : Int32), MF l G yX2_shortest cX2_shortest 8 (some .int) rm_X2_shortest [.ref i0, .int fro, .int to, .int bf, .int bs] [(i0, .inr (2, [.ref i1, .int hi, .int wi, .int fr, .int fc, .int lc]))] (some (.int (s_shortest hi wi fc lc fro to bf bs))) [(i0, .inr (2, [.ref i1, .int hi, .int wi, .int fr, .int fc, .int lc]))]
def K_X2_beginOfBond (l : Launch) (G : GT) : Prop := ∀ (i0 : Nat) (i1 : Nat) (hi : Int32) (wi : Int32) (fr : Int32) (fc : Int32) (lc : Int32) (fro : Int32) (to : Int32) (bf : Int32) (bs : Int32), MF l G yX2_beginOfBond cX2_beginOfBond 8 (some .int) rm_X2_beginOfBond [.ref i0, .int fro, .int to, .int bf, .int bs] [(i0, .inr (2, [.ref i1, .int hi, .int wi, .int fr, .int fc, .int lc]))] (some (.int (s_begin hi wi fc lc fro to bf bs))) [(i0, .inr (2, [.ref i1, .int hi, .int wi, .int fr, .int fc, .int lc]))]
def K_X2_strokeOfBond (l : Launch) (G : GT) : Prop := ∀ (i0 : Nat) (i1 : Nat) (hi : Int32) (wi : Int32) (fr : Int32) (fc : Int32) (lc : Int32) (k : Int32) (fro : Int32) (to : Int32) (bf : Int32) (bs : Int32), MF l G yX2_strokeOfBond cX2_strokeOfBond 10 (some .int) rm_X2_strokeOfBond [.ref i0, .int k, .int fro, .int to, .int bf, .int bs] [(i0, .inr (2, [.ref i1, .int hi, .int wi, .int fr, .int fc, .int lc]))] (some (.int (s_strokeOf hi wi fc lc k fro to bf bs))) [(i0, .inr (2, [.ref i1, .int hi, .int wi, .int fr, .int fc, .int lc]))]
def K_X1_begin (l : Launch) (G : GT) : Prop := ∀ (d0 : Nat) (d1 : Nat) (i0 : Nat) (i1 : Nat) (dat : Int32) (dcut : Int32) (dfw : Int32) (hi : Int32) (wi : Int32) (fr : Int32) (fc : Int32) (lc : Int32) (fro : Int32) (dstr : Nat → Int32) (str : Nat → Int32), MF l G yX1_begin cX1_begin 3 none rm_X1_begin [.ref d0, .ref i0, .int fro] [(d0, .inr (1, [.ref d1, .int dat, .int dcut, .int dfw])), (d1, .inl (G.2.1, 20, .inl dstr)), (i0, .inr (2, [.ref i1, .int hi, .int wi, .int fr, .int fc, .int lc])), (i1, .inl (G.2.1, 20, .inl str))] none [(d0, .inr (1, [.ref d1, .int fro, .int 0, .int (-9)])), (d1, .inl (G.2.1, 20, .inl (s_cp20 str dstr))), (i0, .inr (2, [.ref i1, .int hi, .int wi, .int fr, .int fc, .int lc])), (i1, .inl (G.2.1, 20, .inl str))]
def K_X1_stroke (l : Launch) (G : GT) : Prop := ∀ (d0 : Nat) (d1 : Nat) (i0 : Nat) (i1 : Nat) (dat : Int32) (dcut : Int32) (dfw : Int32) (hi : Int32) (wi : Int32) (fr : Int32) (fc : Int32) (lc : Int32) (number : Int32) (stroke : Int32) (load : Int32) (dstr : Nat → Int32), (s_led hi wi fc lc dat stroke = -9 ∨ vp_in (s_led hi wi fc lc dat stroke) 20) → MF l G yX1_stroke cX1_stroke 6 none rm_X1_stroke [.ref d0, .ref i0, .int number, .int stroke, .int load] [(d0, .inr (1, [.ref d1, .int dat, .int dcut, .int dfw])), (d1, .inl (G.2.1, 20, .inl dstr)), (i0, .inr (2, [.ref i1, .int hi, .int wi, .int fr, .int fc, .int lc]))] none [(d0, .inr (1, [.ref d1, .int (s_stAt (s_led hi wi fc lc dat stroke) load dstr dat), .int (s_stCut (s_led hi wi fc lc dat stroke) load dstr dcut), .int (s_stFw (s_led hi wi fc lc dat stroke) load dstr dfw number)])), (d1, .inl (G.2.1, 20, .inl (s_stStr (s_led hi wi fc lc dat stroke) load dstr))), (i0, .inr (2, [.ref i1, .int hi, .int wi, .int fr, .int fc, .int lc]))]
def K_X3_add (l : Launch) (G : GT) : Prop := ∀ (r0 : Nat) (r1 : Nat) (r2 : Nat) (r3 : Nat) (rc : Int32) (a : Int32) (ce : Int32) (bore : Int32) (rs : Nat → Int32) (rl : Nat → Int32) (rb : Nat → Int32), (rc < 8 → vp_in rc 8) → MF l G yX3_add cX3_add 4 (some .int) rm_X3_add [.ref r0, .int a, .int ce, .int bore] [(r0, .inr (3, [.ref r1, .ref r2, .ref r3, .int rc])), (r1, .inl (G.2.1, 8, .inl rs)), (r2, .inl (G.2.1, 8, .inl rl)), (r3, .inl (G.2.2.1, 8, .inl rb))] (some (.int (s_addR rc))) [(r0, .inr (3, [.ref r1, .ref r2, .ref r3, .int (s_addC rc)])), (r1, .inl (G.2.1, 8, .inl (s_addF rc rs a))), (r2, .inl (G.2.1, 8, .inl (s_addF rc rl ce))), (r3, .inl (G.2.2.1, 8, .inl (s_addF rc rb (vp_nar .boolean bore))))]
def K_X3_areSo (l : Launch) (G : GT) : Prop := ∀ (r0 : Nat) (r1 : Nat) (r2 : Nat) (r3 : Nat) (i0 : Nat) (i1 : Nat) (c0 : Nat) (c1 : Nat) (c2 : Nat) (rc : Int32) (hi : Int32) (wi : Int32) (fr : Int32) (fc : Int32) (lc : Int32) (cnt : Int32) (rs : Nat → Int32) (rl : Nat → Int32) (rb : Nat → Int32) (str : Nat → Int32) (ck : Nat → Int32) (cwt : Nat → Int32), (okR rc rs rl) → MF l G yX3_areSo cX3_areSo 5 (some .boolean) rm_X3_areSo [.ref r0, .ref i0, .ref c0] [(r0, .inr (3, [.ref r1, .ref r2, .ref r3, .int rc])), (r1, .inl (G.2.1, 8, .inl rs)), (r2, .inl (G.2.1, 8, .inl rl)), (r3, .inl (G.2.2.1, 8, .inl rb)), (i0, .inr (2, [.ref i1, .int hi, .int wi, .int fr, .int fc, .int lc])), (i1, .inl (G.2.1, 20, .inl str)), (c0, .inr (0, [.ref c1, .ref c2, .int cnt])), (c1, .inl (G.2.1, 4, .inl ck)), (c2, .inl (G.2.1, 4, .inl cwt))] (some (.int (s_areSo rs rl rb str ck cwt rc.toNatClampNeg))) [(r0, .inr (3, [.ref r1, .ref r2, .ref r3, .int rc])), (r1, .inl (G.2.1, 8, .inl rs)), (r2, .inl (G.2.1, 8, .inl rl)), (r3, .inl (G.2.2.1, 8, .inl rb)), (i0, .inr (2, [.ref i1, .int hi, .int wi, .int fr, .int fc, .int lc])), (i1, .inl (G.2.1, 20, .inl str)), (c0, .inr (0, [.ref c1, .ref c2, .int cnt])), (c1, .inl (G.2.1, 4, .inl ck)), (c2, .inl (G.2.1, 4, .inl cwt))]
def K_X4_begin (l : Launch) (G : GT) : Prop := ∀ (s0 : Nat) (s1 : Nat) (sla : Int32) (sle : Int32) (nl : Int32) (ne : Int32) (sn : Nat → Int32), MF l G yX4_begin cX4_begin 3 none rm_X4_begin [.ref s0, .int nl, .int ne] [(s0, .inr (4, [.ref s1, .int sla, .int sle])), (s1, .inl (G.2.1, 60, .inl sn))] none [(s0, .inr (4, [.ref s1, .int nl, .int ne])), (s1, .inl (G.2.1, 60, .inl (s_fill 0 sn)))]
def K_X4_clear (l : Launch) (G : GT) : Prop := ∀ (s0 : Nat) (s1 : Nat) (sla : Int32) (sle : Int32), MF l G yX4_clear cX4_clear 1 none rm_X4_clear [.ref s0] [(s0, .inr (4, [.ref s1, .int sla, .int sle]))] none [(s0, .inr (4, [.ref s1, .int (-1), .int 0]))]
def K_X4_isNothing (l : Launch) (G : GT) : Prop := ∀ (s0 : Nat) (s1 : Nat) (sla : Int32) (sle : Int32), MF l G yX4_isNothing cX4_isNothing 1 (some .boolean) rm_X4_isNothing [.ref s0] [(s0, .inr (4, [.ref s1, .int sla, .int sle]))] (some (.int (s_nothing sla))) [(s0, .inr (4, [.ref s1, .int sla, .int sle]))]
def K_X4_has (l : Launch) (G : GT) : Prop := ∀ (s0 : Nat) (s1 : Nat) (sla : Int32) (sle : Int32) (i : Int32) (n : Int32), MF l G yX4_has cX4_has 3 (some .boolean) rm_X4_has [.ref s0, .int i, .int n] [(s0, .inr (4, [.ref s1, .int sla, .int sle]))] (some (.int (s_shas sle i n))) [(s0, .inr (4, [.ref s1, .int sla, .int sle]))]
def K_X4_set (l : Launch) (G : GT) : Prop := ∀ (s0 : Nat) (s1 : Nat) (sla : Int32) (sle : Int32) (i : Int32) (v : Int32) (sn : Nat → Int32), (vp_in i 60) → MF l G yX4_set cX4_set 3 none rm_X4_set [.ref s0, .int i, .int v] [(s0, .inr (4, [.ref s1, .int sla, .int sle])), (s1, .inl (G.2.1, 60, .inl sn))] none [(s0, .inr (4, [.ref s1, .int sla, .int sle])), (s1, .inl (G.2.1, 60, .inl (upd sn i.toNatClampNeg (s_cut sla v))))]
def K_X5_begin (l : Launch) (G : GT) : Prop := ∀ (x0 : Nat) (x1 : Nat) (s0 : Nat) (s1 : Nat) (xl : Int32) (xp : Int32) (xw : Int32) (sla : Int32) (sle : Int32) (i : Int32) (n : Int32) (xc : Nat → Int32) (sn : Nat → Int32), (okRun i n 60) → MF l G yX5_begin cX5_begin 4 none rm_X5_begin [.ref x0, .ref s0, .int i, .int n] [(x0, .inr (5, [.ref x1, .int xl, .int xp, .int xw])), (x1, .inl (G.2.1, 60, .inl xc)), (s0, .inr (4, [.ref s1, .int sla, .int sle])), (s1, .inl (G.2.1, 60, .inl sn))] none [(x0, .inr (5, [.ref x1, .int n, .int 0, .int 0])), (x1, .inl (G.2.1, 60, .inl (s_cpT sn xc i n))), (s0, .inr (4, [.ref s1, .int sla, .int sle])), (s1, .inl (G.2.1, 60, .inl sn))]
def K_X5_goesOn (l : Launch) (G : GT) : Prop := ∀ (x0 : Nat) (x1 : Nat) (xl : Int32) (xp : Int32) (xw : Int32), MF l G yX5_goesOn cX5_goesOn 1 (some .boolean) rm_X5_goesOn [.ref x0] [(x0, .inr (5, [.ref x1, .int xl, .int xp, .int xw]))] (some (.int (s_goesOn xl xp xw))) [(x0, .inr (5, [.ref x1, .int xl, .int xp, .int xw]))]
def K_X5_take (l : Launch) (G : GT) : Prop := ∀ (x0 : Nat) (x1 : Nat) (xl : Int32) (xp : Int32) (xw : Int32) (least : Int32) (most : Int32) (xc : Nat → Int32), (okT xl xp) → MF l G yX5_take cX5_take 3 (some .int) rm_X5_take [.ref x0, .int least, .int most] [(x0, .inr (5, [.ref x1, .int xl, .int xp, .int xw])), (x1, .inl (G.2.1, 60, .inl xc))] (some (.int (s_takeR xl xp xw xc least most))) [(x0, .inr (5, [.ref x1, .int xl, .int (s_takeP xl xp xw xc least most), .int (s_takeW xl xp xw xc least most)])), (x1, .inl (G.2.1, 60, .inl xc))]
def K_X5_digit (l : Launch) (G : GT) : Prop := ∀ (x0 : Nat) (x1 : Nat) (xl : Int32) (xp : Int32) (xw : Int32) (least : Int32) (most : Int32) (xc : Nat → Int32), (okT xl xp) → MF l G yX5_digit cX5_digit 3 (some .int) rm_X5_digit [.ref x0, .int least, .int most] [(x0, .inr (5, [.ref x1, .int xl, .int xp, .int xw])), (x1, .inl (G.2.1, 60, .inl xc))] (some (.int (least + s_takeR xl xp xw xc (48 + least) (48 + most)))) [(x0, .inr (5, [.ref x1, .int xl, .int (s_takeP xl xp xw xc (48 + least) (48 + most)), .int (s_takeW xl xp xw xc (48 + least) (48 + most))])), (x1, .inl (G.2.1, 60, .inl xc))]
def K_X5_sign (l : Launch) (G : GT) : Prop := ∀ (x0 : Nat) (x1 : Nat) (xl : Int32) (xp : Int32) (xw : Int32) (code : Int32) (xc : Nat → Int32), (okT xl xp) → MF l G yX5_sign cX5_sign 2 none rm_X5_sign [.ref x0, .int code] [(x0, .inr (5, [.ref x1, .int xl, .int xp, .int xw])), (x1, .inl (G.2.1, 60, .inl xc))] none [(x0, .inr (5, [.ref x1, .int xl, .int (s_takeP xl xp xw xc code code), .int (s_takeW xl xp xw xc code code)])), (x1, .inl (G.2.1, 60, .inl xc))]
def K_X5_kind (l : Launch) (G : GT) : Prop := ∀ (x0 : Nat) (x1 : Nat) (xl : Int32) (xp : Int32) (xw : Int32) (xc : Nat → Int32), (okT xl xp) → MF l G yX5_kind cX5_kind 2 (some .int) rm_X5_kind [.ref x0] [(x0, .inr (5, [.ref x1, .int xl, .int xp, .int xw])), (x1, .inl (G.2.1, 60, .inl xc))] (some (.int (s_kindR xl xp xw xc))) [(x0, .inr (5, [.ref x1, .int xl, .int (s_takeP xl xp xw xc (s_kindC xl xp xw xc) (s_kindC xl xp xw xc)), .int (s_takeW xl xp xw xc (s_kindC xl xp xw xc) (s_kindC xl xp xw xc))])), (x1, .inl (G.2.1, 60, .inl xc))]
def K_X5_end (l : Launch) (G : GT) : Prop := ∀ (x0 : Nat) (x1 : Nat) (xl : Int32) (xp : Int32) (xw : Int32), MF l G yX5_end cX5_end 1 none rm_X5_end [.ref x0] [(x0, .inr (5, [.ref x1, .int xl, .int xp, .int xw]))] none [(x0, .inr (5, [.ref x1, .int xl, .int xp, .int (s_endW xl xp xw)]))]
def K_X2_take (l : Launch) (G : GT) : Prop := ∀ (i0 : Nat) (i1 : Nat) (x0 : Nat) (x1 : Nat) (hi : Int32) (wi : Int32) (fr : Int32) (fc : Int32) (lc : Int32) (xl : Int32) (xp : Int32) (xw : Int32) (str : Nat → Int32) (xc : Nat → Int32), (okT xl xp) → MF l G yX2_take cX2_take 4 none rm_X2_take [.ref i0, .ref x0] [(i0, .inr (2, [.ref i1, .int hi, .int wi, .int fr, .int fc, .int lc])), (i1, .inl (G.2.1, 20, .inl str)), (x0, .inr (5, [.ref x1, .int xl, .int xp, .int xw])), (x1, .inl (G.2.1, 60, .inl xc))] none [(i0, .inr (2, [.ref i1, .int (itHi xl xc (xp, xw)), .int (itWi xl xc (xp, xw)), .int (itFr xl xc (xp, xw)), .int ((itRow xl xc (xp, xw) str).2.2), .int ((itRow xl xc (xp, xw) str).2.2 <<< ((itWi xl xc (xp, xw) - 1) &&& 31))])), (i1, .inl (G.2.1, 20, .inl ((itRow xl xc (xp, xw) str).2.1))), (x0, .inr (5, [.ref x1, .int xl, .int ((itRow xl xc (xp, xw) str).1.1), .int ((itRow xl xc (xp, xw) str).1.2)])), (x1, .inl (G.2.1, 60, .inl xc))]
def K_X0_take (l : Launch) (G : GT) : Prop := ∀ (c0 : Nat) (c1 : Nat) (c2 : Nat) (x0 : Nat) (x1 : Nat) (cnt : Int32) (xl : Int32) (xp : Int32) (xw : Int32) (ck : Nat → Int32) (cwt : Nat → Int32) (xc : Nat → Int32), (okT xl xp) → MF l G yX0_take cX0_take 3 none rm_X0_take [.ref c0, .ref x0] [(c0, .inr (0, [.ref c1, .ref c2, .int cnt])), (c1, .inl (G.2.1, 4, .inl ck)), (c2, .inl (G.2.1, 4, .inl cwt)), (x0, .inr (5, [.ref x1, .int xl, .int xp, .int xw])), (x1, .inl (G.2.1, 60, .inl xc))] none [(c0, .inr (0, [.ref c1, .ref c2, .int ((crwAll xl xc (xp, xw) ck cwt).2.2.2)])), (c1, .inl (G.2.1, 4, .inl ((crwAll xl xc (xp, xw) ck cwt).2.1))), (c2, .inl (G.2.1, 4, .inl ((crwAll xl xc (xp, xw) ck cwt).2.2.1))), (x0, .inr (5, [.ref x1, .int xl, .int ((crwAll xl xc (xp, xw) ck cwt).1.1), .int ((crwAll xl xc (xp, xw) ck cwt).1.2)])), (x1, .inl (G.2.1, 60, .inl xc))]
def K_X7_in (l : Launch) (G : GT) : Prop := ∀ (v : Int64) (a : Int64) (b : Int64), MF l G yX7_in cX7_in 6 (some .boolean) rm_X7_in [.long v, .long a, .long b] [] (some (.int (q_in v a b))) []
def K_X7_lost (l : Launch) (G : GT) : Prop := MF l G yX7_lost cX7_lost 0 (some .long) rm_X7_lost [] [] (some (.long (-9223372036854775808 : Int64))) []
def K_X7_isIn (l : Launch) (G : GT) : Prop := ∀ (set : Int32) (k : Int32), MF l G yX7_isIn cX7_isIn 2 (some .boolean) rm_X7_isIn [.int set, .int k] [] (some (.int (s_isIn set k))) []
def K_X7_bits (l : Launch) (G : GT) : Prop := ∀ (set : Int32), MF l G yX7_bits cX7_bits 3 (some .int) rm_X7_bits [.int set] [] (some (.int (q_bits set))) []
def K_X7_share (l : Launch) (G : GT) : Prop := ∀ (up : Int64) (down : Int64) (which : Int32), (okSh up down) → MF l G yX7_share cX7_share 11 (some .long) rm_X7_share [.long up, .long down, .int which] [] (some (.long (q_share up down which))) []
def K_X7_noSheet (l : Launch) (G : GT) : Prop := ∀ (k : Int32), MF l G yX7_noSheet cX7_noSheet 1 (some .boolean) rm_X7_noSheet [.int k] [] (some (.int (q_noSheet k))) []
def K_X7_isBeyond (l : Launch) (G : GT) : Prop := ∀ (i : Int32) (n : Int64) (all : Int32), MF l G yX7_isBeyond cX7_isBeyond 4 (some .boolean) rm_X7_isBeyond [.int i, .long n, .int all] [] (some (.int (q_beyond i n all))) []
def K_X7_refused (l : Launch) (G : GT) : Prop := ∀ (m0 : Nat) (a4 : Nat) (a6 : Nat) (a7 : Nat) (a15 : Nat) (a16 : Nat) (a17 : Nat) (a21 : Nat) (a22 : Nat) (a24 : Nat) (a25 : Nat) (a26 : Nat) (a27 : Nat) (a28 : Nat) (a29 : Nat) (a30 : Nat) (f0 : Int32) (f1 : Int32) (f2 : Int32) (f3 : Int32) (f5 : Int32) (f8 : Int32) (f9 : Int32) (f10 : Int32) (f11 : Int32) (f12 : Int32) (f13 : Int32) (f14 : Int32) (f18 : Int32) (f19 : Int32) (f20 : Int32) (f23 : Int32) (f31 : Int32) (g4 : Nat → Int32) (g6 : Nat → Int32) (g7 : Nat → Int32) (g15 : Nat → Int32) (g16 : Nat → Int32) (g17 : Nat → Int32) (g21 : Nat → Int32) (g22 : Nat → Int32) (g24 : Nat → Int32) (g25 : Nat → Int32) (g26 : Nat → Int32) (g27 : Nat → Int32) (g28 : Nat → Int32) (g29 : Nat → Int32) (g30 : Nat → Int32) (code : Int32), MF l G yX7_refused cX7_refused 2 (some .int) rm_X7_refused [.ref m0, .int code] [(m0, .inr (7, [.int f0, .int f1, .int f2, .int f3, .ref a4, .int f5, .ref a6, .ref a7, .int f8, .int f9, .int f10, .int f11, .int f12, .int f13, .int f14, .ref a15, .ref a16, .ref a17, .int f18, .int f19, .int f20, .ref a21, .ref a22, .int f23, .ref a24, .ref a25, .ref a26, .ref a27, .ref a28, .ref a29, .ref a30, .int f31])), (a4, .inl (G.2.1, 20, .inl g4)), (a6, .inl (G.2.1, 4, .inl g6)), (a7, .inl (G.2.1, 4, .inl g7)), (a15, .inl (G.2.1, 20, .inl g15)), (a16, .inl (G.2.1, 4, .inl g16)), (a17, .inl (G.2.1, 4, .inl g17)), (a21, .inl (G.2.1, 20, .inl g21)), (a22, .inl (G.2.1, 40, .inl g22)), (a24, .inl (G.2.1, 8, .inl g24)), (a25, .inl (G.2.1, 8, .inl g25)), (a26, .inl (G.2.2.1, 8, .inl g26)), (a27, .inl (G.2.1, 4, .inl g27)), (a28, .inl (G.2.1, 4, .inl g28)), (a29, .inl (G.2.1, 240, .inl g29)), (a30, .inl (G.2.1, 60, .inl g30))] (some (.int code)) [(m0, .inr (7, [.int 0, .int f1, .int f2, .int f3, .ref a4, .int f5, .ref a6, .ref a7, .int f8, .int f9, .int f10, .int f11, .int f12, .int f13, .int f14, .ref a15, .ref a16, .ref a17, .int f18, .int f19, .int f20, .ref a21, .ref a22, .int f23, .ref a24, .ref a25, .ref a26, .ref a27, .ref a28, .ref a29, .ref a30, .int f31])), (a4, .inl (G.2.1, 20, .inl g4)), (a6, .inl (G.2.1, 4, .inl g6)), (a7, .inl (G.2.1, 4, .inl g7)), (a15, .inl (G.2.1, 20, .inl g15)), (a16, .inl (G.2.1, 4, .inl g16)), (a17, .inl (G.2.1, 4, .inl g17)), (a21, .inl (G.2.1, 20, .inl g21)), (a22, .inl (G.2.1, 40, .inl g22)), (a24, .inl (G.2.1, 8, .inl g24)), (a25, .inl (G.2.1, 8, .inl g25)), (a26, .inl (G.2.2.1, 8, .inl g26)), (a27, .inl (G.2.1, 4, .inl g27)), (a28, .inl (G.2.1, 4, .inl g28)), (a29, .inl (G.2.1, 240, .inl g29)), (a30, .inl (G.2.1, 60, .inl g30))]
def K_X7_failed (l : Launch) (G : GT) : Prop := ∀ (m0 : Nat) (a4 : Nat) (a6 : Nat) (a7 : Nat) (a15 : Nat) (a16 : Nat) (a17 : Nat) (a21 : Nat) (a22 : Nat) (a24 : Nat) (a25 : Nat) (a26 : Nat) (a27 : Nat) (a28 : Nat) (a29 : Nat) (a30 : Nat) (f0 : Int32) (f1 : Int32) (f2 : Int32) (f3 : Int32) (f5 : Int32) (f8 : Int32) (f9 : Int32) (f10 : Int32) (f11 : Int32) (f12 : Int32) (f13 : Int32) (f14 : Int32) (f18 : Int32) (f19 : Int32) (f20 : Int32) (f23 : Int32) (f31 : Int32) (g4 : Nat → Int32) (g6 : Nat → Int32) (g7 : Nat → Int32) (g15 : Nat → Int32) (g16 : Nat → Int32) (g17 : Nat → Int32) (g21 : Nat → Int32) (g22 : Nat → Int32) (g24 : Nat → Int32) (g25 : Nat → Int32) (g26 : Nat → Int32) (g27 : Nat → Int32) (g28 : Nat → Int32) (g29 : Nat → Int32) (g30 : Nat → Int32) (f : Int32), MF l G yX7_failed cX7_failed 2 (some .int) rm_X7_failed [.ref m0, .int f] [(m0, .inr (7, [.int f0, .int f1, .int f2, .int f3, .ref a4, .int f5, .ref a6, .ref a7, .int f8, .int f9, .int f10, .int f11, .int f12, .int f13, .int f14, .ref a15, .ref a16, .ref a17, .int f18, .int f19, .int f20, .ref a21, .ref a22, .int f23, .ref a24, .ref a25, .ref a26, .ref a27, .ref a28, .ref a29, .ref a30, .int f31])), (a4, .inl (G.2.1, 20, .inl g4)), (a6, .inl (G.2.1, 4, .inl g6)), (a7, .inl (G.2.1, 4, .inl g7)), (a15, .inl (G.2.1, 20, .inl g15)), (a16, .inl (G.2.1, 4, .inl g16)), (a17, .inl (G.2.1, 4, .inl g17)), (a21, .inl (G.2.1, 20, .inl g21)), (a22, .inl (G.2.1, 40, .inl g22)), (a24, .inl (G.2.1, 8, .inl g24)), (a25, .inl (G.2.1, 8, .inl g25)), (a26, .inl (G.2.2.1, 8, .inl g26)), (a27, .inl (G.2.1, 4, .inl g27)), (a28, .inl (G.2.1, 4, .inl g28)), (a29, .inl (G.2.1, 240, .inl g29)), (a30, .inl (G.2.1, 60, .inl g30))] (some (.int ((-10) - f))) [(m0, .inr (7, [.int f, .int f1, .int f2, .int f3, .ref a4, .int f5, .ref a6, .ref a7, .int f8, .int f9, .int f10, .int f11, .int f12, .int f13, .int f14, .ref a15, .ref a16, .ref a17, .int f18, .int f19, .int f20, .ref a21, .ref a22, .int f23, .ref a24, .ref a25, .ref a26, .ref a27, .ref a28, .ref a29, .ref a30, .int f31])), (a4, .inl (G.2.1, 20, .inl g4)), (a6, .inl (G.2.1, 4, .inl g6)), (a7, .inl (G.2.1, 4, .inl g7)), (a15, .inl (G.2.1, 20, .inl g15)), (a16, .inl (G.2.1, 4, .inl g16)), (a17, .inl (G.2.1, 4, .inl g17)), (a21, .inl (G.2.1, 20, .inl g21)), (a22, .inl (G.2.1, 40, .inl g22)), (a24, .inl (G.2.1, 8, .inl g24)), (a25, .inl (G.2.1, 8, .inl g25)), (a26, .inl (G.2.2.1, 8, .inl g26)), (a27, .inl (G.2.1, 4, .inl g27)), (a28, .inl (G.2.1, 4, .inl g28)), (a29, .inl (G.2.1, 240, .inl g29)), (a30, .inl (G.2.1, 60, .inl g30))]
def K_X7_failedLong (l : Launch) (G : GT) : Prop := ∀ (m0 : Nat) (a4 : Nat) (a6 : Nat) (a7 : Nat) (a15 : Nat) (a16 : Nat) (a17 : Nat) (a21 : Nat) (a22 : Nat) (a24 : Nat) (a25 : Nat) (a26 : Nat) (a27 : Nat) (a28 : Nat) (a29 : Nat) (a30 : Nat) (f0 : Int32) (f1 : Int32) (f2 : Int32) (f3 : Int32) (f5 : Int32) (f8 : Int32) (f9 : Int32) (f10 : Int32) (f11 : Int32) (f12 : Int32) (f13 : Int32) (f14 : Int32) (f18 : Int32) (f19 : Int32) (f20 : Int32) (f23 : Int32) (f31 : Int32) (g4 : Nat → Int32) (g6 : Nat → Int32) (g7 : Nat → Int32) (g15 : Nat → Int32) (g16 : Nat → Int32) (g17 : Nat → Int32) (g21 : Nat → Int32) (g22 : Nat → Int32) (g24 : Nat → Int32) (g25 : Nat → Int32) (g26 : Nat → Int32) (g27 : Nat → Int32) (g28 : Nat → Int32) (g29 : Nat → Int32) (g30 : Nat → Int32) (f : Int32), MF l G yX7_failedLong cX7_failedLong 2 (some .long) rm_X7_failedLong [.ref m0, .int f] [(m0, .inr (7, [.int f0, .int f1, .int f2, .int f3, .ref a4, .int f5, .ref a6, .ref a7, .int f8, .int f9, .int f10, .int f11, .int f12, .int f13, .int f14, .ref a15, .ref a16, .ref a17, .int f18, .int f19, .int f20, .ref a21, .ref a22, .int f23, .ref a24, .ref a25, .ref a26, .ref a27, .ref a28, .ref a29, .ref a30, .int f31])), (a4, .inl (G.2.1, 20, .inl g4)), (a6, .inl (G.2.1, 4, .inl g6)), (a7, .inl (G.2.1, 4, .inl g7)), (a15, .inl (G.2.1, 20, .inl g15)), (a16, .inl (G.2.1, 4, .inl g16)), (a17, .inl (G.2.1, 4, .inl g17)), (a21, .inl (G.2.1, 20, .inl g21)), (a22, .inl (G.2.1, 40, .inl g22)), (a24, .inl (G.2.1, 8, .inl g24)), (a25, .inl (G.2.1, 8, .inl g25)), (a26, .inl (G.2.2.1, 8, .inl g26)), (a27, .inl (G.2.1, 4, .inl g27)), (a28, .inl (G.2.1, 4, .inl g28)), (a29, .inl (G.2.1, 240, .inl g29)), (a30, .inl (G.2.1, 60, .inl g30))] (some (.long (-9223372036854775808 : Int64))) [(m0, .inr (7, [.int f, .int f1, .int f2, .int f3, .ref a4, .int f5, .ref a6, .ref a7, .int f8, .int f9, .int f10, .int f11, .int f12, .int f13, .int f14, .ref a15, .ref a16, .ref a17, .int f18, .int f19, .int f20, .ref a21, .ref a22, .int f23, .ref a24, .ref a25, .ref a26, .ref a27, .ref a28, .ref a29, .ref a30, .int f31])), (a4, .inl (G.2.1, 20, .inl g4)), (a6, .inl (G.2.1, 4, .inl g6)), (a7, .inl (G.2.1, 4, .inl g7)), (a15, .inl (G.2.1, 20, .inl g15)), (a16, .inl (G.2.1, 4, .inl g16)), (a17, .inl (G.2.1, 4, .inl g17)), (a21, .inl (G.2.1, 20, .inl g21)), (a22, .inl (G.2.1, 40, .inl g22)), (a24, .inl (G.2.1, 8, .inl g24)), (a25, .inl (G.2.1, 8, .inl g25)), (a26, .inl (G.2.2.1, 8, .inl g26)), (a27, .inl (G.2.1, 4, .inl g27)), (a28, .inl (G.2.1, 4, .inl g28)), (a29, .inl (G.2.1, 240, .inl g29)), (a30, .inl (G.2.1, 60, .inl g30))]
def K_X7_cells (l : Launch) (G : GT) : Prop := ∀ (m0 : Nat) (a4 : Nat) (a6 : Nat) (a7 : Nat) (a15 : Nat) (a16 : Nat) (a17 : Nat) (a21 : Nat) (a22 : Nat) (a24 : Nat) (a25 : Nat) (a26 : Nat) (a27 : Nat) (a28 : Nat) (a29 : Nat) (a30 : Nat) (f0 : Int32) (f1 : Int32) (f2 : Int32) (f3 : Int32) (f5 : Int32) (f8 : Int32) (f9 : Int32) (f10 : Int32) (f11 : Int32) (f12 : Int32) (f13 : Int32) (f14 : Int32) (f18 : Int32) (f19 : Int32) (f20 : Int32) (f23 : Int32) (f31 : Int32) (g4 : Nat → Int32) (g6 : Nat → Int32) (g7 : Nat → Int32) (g15 : Nat → Int32) (g16 : Nat → Int32) (g17 : Nat → Int32) (g21 : Nat → Int32) (g22 : Nat → Int32) (g24 : Nat → Int32) (g25 : Nat → Int32) (g26 : Nat → Int32) (g27 : Nat → Int32) (g28 : Nat → Int32) (g29 : Nat → Int32) (g30 : Nat → Int32), MF l G yX7_cells cX7_cells 1 (some .int) rm_X7_cells [.ref m0] [(m0, .inr (7, [.int f0, .int f1, .int f2, .int f3, .ref a4, .int f5, .ref a6, .ref a7, .int f8, .int f9, .int f10, .int f11, .int f12, .int f13, .int f14, .ref a15, .ref a16, .ref a17, .int f18, .int f19, .int f20, .ref a21, .ref a22, .int f23, .ref a24, .ref a25, .ref a26, .ref a27, .ref a28, .ref a29, .ref a30, .int f31])), (a4, .inl (G.2.1, 20, .inl g4)), (a6, .inl (G.2.1, 4, .inl g6)), (a7, .inl (G.2.1, 4, .inl g7)), (a15, .inl (G.2.1, 20, .inl g15)), (a16, .inl (G.2.1, 4, .inl g16)), (a17, .inl (G.2.1, 4, .inl g17)), (a21, .inl (G.2.1, 20, .inl g21)), (a22, .inl (G.2.1, 40, .inl g22)), (a24, .inl (G.2.1, 8, .inl g24)), (a25, .inl (G.2.1, 8, .inl g25)), (a26, .inl (G.2.2.1, 8, .inl g26)), (a27, .inl (G.2.1, 4, .inl g27)), (a28, .inl (G.2.1, 4, .inl g28)), (a29, .inl (G.2.1, 240, .inl g29)), (a30, .inl (G.2.1, 60, .inl g30))] (some (.int (f1 * f2))) [(m0, .inr (7, [.int f0, .int f1, .int f2, .int f3, .ref a4, .int f5, .ref a6, .ref a7, .int f8, .int f9, .int f10, .int f11, .int f12, .int f13, .int f14, .ref a15, .ref a16, .ref a17, .int f18, .int f19, .int f20, .ref a21, .ref a22, .int f23, .ref a24, .ref a25, .ref a26, .ref a27, .ref a28, .ref a29, .ref a30, .int f31])), (a4, .inl (G.2.1, 20, .inl g4)), (a6, .inl (G.2.1, 4, .inl g6)), (a7, .inl (G.2.1, 4, .inl g7)), (a15, .inl (G.2.1, 20, .inl g15)), (a16, .inl (G.2.1, 4, .inl g16)), (a17, .inl (G.2.1, 4, .inl g17)), (a21, .inl (G.2.1, 20, .inl g21)), (a22, .inl (G.2.1, 40, .inl g22)), (a24, .inl (G.2.1, 8, .inl g24)), (a25, .inl (G.2.1, 8, .inl g25)), (a26, .inl (G.2.2.1, 8, .inl g26)), (a27, .inl (G.2.1, 4, .inl g27)), (a28, .inl (G.2.1, 4, .inl g28)), (a29, .inl (G.2.1, 240, .inl g29)), (a30, .inl (G.2.1, 60, .inl g30))]
def K_X7_noPlace (l : Launch) (G : GT) : Prop := ∀ (m0 : Nat) (a4 : Nat) (a6 : Nat) (a7 : Nat) (a15 : Nat) (a16 : Nat) (a17 : Nat) (a21 : Nat) (a22 : Nat) (a24 : Nat) (a25 : Nat) (a26 : Nat) (a27 : Nat) (a28 : Nat) (a29 : Nat) (a30 : Nat) (f0 : Int32) (f1 : Int32) (f2 : Int32) (f3 : Int32) (f5 : Int32) (f8 : Int32) (f9 : Int32) (f10 : Int32) (f11 : Int32) (f12 : Int32) (f13 : Int32) (f14 : Int32) (f18 : Int32) (f19 : Int32) (f20 : Int32) (f23 : Int32) (f31 : Int32) (g4 : Nat → Int32) (g6 : Nat → Int32) (g7 : Nat → Int32) (g15 : Nat → Int32) (g16 : Nat → Int32) (g17 : Nat → Int32) (g21 : Nat → Int32) (g22 : Nat → Int32) (g24 : Nat → Int32) (g25 : Nat → Int32) (g26 : Nat → Int32) (g27 : Nat → Int32) (g28 : Nat → Int32) (g29 : Nat → Int32) (g30 : Nat → Int32) (ce : Int32), MF l G yX7_noPlace cX7_noPlace 2 (some .boolean) rm_X7_noPlace [.ref m0, .int ce] [(m0, .inr (7, [.int f0, .int f1, .int f2, .int f3, .ref a4, .int f5, .ref a6, .ref a7, .int f8, .int f9, .int f10, .int f11, .int f12, .int f13, .int f14, .ref a15, .ref a16, .ref a17, .int f18, .int f19, .int f20, .ref a21, .ref a22, .int f23, .ref a24, .ref a25, .ref a26, .ref a27, .ref a28, .ref a29, .ref a30, .int f31])), (a4, .inl (G.2.1, 20, .inl g4)), (a6, .inl (G.2.1, 4, .inl g6)), (a7, .inl (G.2.1, 4, .inl g7)), (a15, .inl (G.2.1, 20, .inl g15)), (a16, .inl (G.2.1, 4, .inl g16)), (a17, .inl (G.2.1, 4, .inl g17)), (a21, .inl (G.2.1, 20, .inl g21)), (a22, .inl (G.2.1, 40, .inl g22)), (a24, .inl (G.2.1, 8, .inl g24)), (a25, .inl (G.2.1, 8, .inl g25)), (a26, .inl (G.2.2.1, 8, .inl g26)), (a27, .inl (G.2.1, 4, .inl g27)), (a28, .inl (G.2.1, 4, .inl g28)), (a29, .inl (G.2.1, 240, .inl g29)), (a30, .inl (G.2.1, 60, .inl g30))] (some (.int (q_noPlace f1 f2 ce))) [(m0, .inr (7, [.int f0, .int f1, .int f2, .int f3, .ref a4, .int f5, .ref a6, .ref a7, .int f8, .int f9, .int f10, .int f11, .int f12, .int f13, .int f14, .ref a15, .ref a16, .ref a17, .int f18, .int f19, .int f20, .ref a21, .ref a22, .int f23, .ref a24, .ref a25, .ref a26, .ref a27, .ref a28, .ref a29, .ref a30, .int f31])), (a4, .inl (G.2.1, 20, .inl g4)), (a6, .inl (G.2.1, 4, .inl g6)), (a7, .inl (G.2.1, 4, .inl g7)), (a15, .inl (G.2.1, 20, .inl g15)), (a16, .inl (G.2.1, 4, .inl g16)), (a17, .inl (G.2.1, 4, .inl g17)), (a21, .inl (G.2.1, 20, .inl g21)), (a22, .inl (G.2.1, 40, .inl g22)), (a24, .inl (G.2.1, 8, .inl g24)), (a25, .inl (G.2.1, 8, .inl g25)), (a26, .inl (G.2.2.1, 8, .inl g26)), (a27, .inl (G.2.1, 4, .inl g27)), (a28, .inl (G.2.1, 4, .inl g28)), (a29, .inl (G.2.1, 240, .inl g29)), (a30, .inl (G.2.1, 60, .inl g30))]
def K_X7_noSkater (l : Launch) (G : GT) : Prop := ∀ (m0 : Nat) (a4 : Nat) (a6 : Nat) (a7 : Nat) (a15 : Nat) (a16 : Nat) (a17 : Nat) (a21 : Nat) (a22 : Nat) (a24 : Nat) (a25 : Nat) (a26 : Nat) (a27 : Nat) (a28 : Nat) (a29 : Nat) (a30 : Nat) (f0 : Int32) (f1 : Int32) (f2 : Int32) (f3 : Int32) (f5 : Int32) (f8 : Int32) (f9 : Int32) (f10 : Int32) (f11 : Int32) (f12 : Int32) (f13 : Int32) (f14 : Int32) (f18 : Int32) (f19 : Int32) (f20 : Int32) (f23 : Int32) (f31 : Int32) (g4 : Nat → Int32) (g6 : Nat → Int32) (g7 : Nat → Int32) (g15 : Nat → Int32) (g16 : Nat → Int32) (g17 : Nat → Int32) (g21 : Nat → Int32) (g22 : Nat → Int32) (g24 : Nat → Int32) (g25 : Nat → Int32) (g26 : Nat → Int32) (g27 : Nat → Int32) (g28 : Nat → Int32) (g29 : Nat → Int32) (g30 : Nat → Int32) (a : Int32), MF l G yX7_noSkater cX7_noSkater 2 (some .boolean) rm_X7_noSkater [.ref m0, .int a] [(m0, .inr (7, [.int f0, .int f1, .int f2, .int f3, .ref a4, .int f5, .ref a6, .ref a7, .int f8, .int f9, .int f10, .int f11, .int f12, .int f13, .int f14, .ref a15, .ref a16, .ref a17, .int f18, .int f19, .int f20, .ref a21, .ref a22, .int f23, .ref a24, .ref a25, .ref a26, .ref a27, .ref a28, .ref a29, .ref a30, .int f31])), (a4, .inl (G.2.1, 20, .inl g4)), (a6, .inl (G.2.1, 4, .inl g6)), (a7, .inl (G.2.1, 4, .inl g7)), (a15, .inl (G.2.1, 20, .inl g15)), (a16, .inl (G.2.1, 4, .inl g16)), (a17, .inl (G.2.1, 4, .inl g17)), (a21, .inl (G.2.1, 20, .inl g21)), (a22, .inl (G.2.1, 40, .inl g22)), (a24, .inl (G.2.1, 8, .inl g24)), (a25, .inl (G.2.1, 8, .inl g25)), (a26, .inl (G.2.2.1, 8, .inl g26)), (a27, .inl (G.2.1, 4, .inl g27)), (a28, .inl (G.2.1, 4, .inl g28)), (a29, .inl (G.2.1, 240, .inl g29)), (a30, .inl (G.2.1, 60, .inl g30))] (some (.int (q_noSk f5 a))) [(m0, .inr (7, [.int f0, .int f1, .int f2, .int f3, .ref a4, .int f5, .ref a6, .ref a7, .int f8, .int f9, .int f10, .int f11, .int f12, .int f13, .int f14, .ref a15, .ref a16, .ref a17, .int f18, .int f19, .int f20, .ref a21, .ref a22, .int f23, .ref a24, .ref a25, .ref a26, .ref a27, .ref a28, .ref a29, .ref a30, .int f31])), (a4, .inl (G.2.1, 20, .inl g4)), (a6, .inl (G.2.1, 4, .inl g6)), (a7, .inl (G.2.1, 4, .inl g7)), (a15, .inl (G.2.1, 20, .inl g15)), (a16, .inl (G.2.1, 4, .inl g16)), (a17, .inl (G.2.1, 4, .inl g17)), (a21, .inl (G.2.1, 20, .inl g21)), (a22, .inl (G.2.1, 40, .inl g22)), (a24, .inl (G.2.1, 8, .inl g24)), (a25, .inl (G.2.1, 8, .inl g25)), (a26, .inl (G.2.2.1, 8, .inl g26)), (a27, .inl (G.2.1, 4, .inl g27)), (a28, .inl (G.2.1, 4, .inl g28)), (a29, .inl (G.2.1, 240, .inl g29)), (a30, .inl (G.2.1, 60, .inl g30))]
def K_X7_noTwo (l : Launch) (G : GT) : Prop := ∀ (m0 : Nat) (a4 : Nat) (a6 : Nat) (a7 : Nat) (a15 : Nat) (a16 : Nat) (a17 : Nat) (a21 : Nat) (a22 : Nat) (a24 : Nat) (a25 : Nat) (a26 : Nat) (a27 : Nat) (a28 : Nat) (a29 : Nat) (a30 : Nat) (f0 : Int32) (f1 : Int32) (f2 : Int32) (f3 : Int32) (f5 : Int32) (f8 : Int32) (f9 : Int32) (f10 : Int32) (f11 : Int32) (f12 : Int32) (f13 : Int32) (f14 : Int32) (f18 : Int32) (f19 : Int32) (f20 : Int32) (f23 : Int32) (f31 : Int32) (g4 : Nat → Int32) (g6 : Nat → Int32) (g7 : Nat → Int32) (g15 : Nat → Int32) (g16 : Nat → Int32) (g17 : Nat → Int32) (g21 : Nat → Int32) (g22 : Nat → Int32) (g24 : Nat → Int32) (g25 : Nat → Int32) (g26 : Nat → Int32) (g27 : Nat → Int32) (g28 : Nat → Int32) (g29 : Nat → Int32) (g30 : Nat → Int32) (a : Int32) (b : Int32), MF l G yX7_noTwo cX7_noTwo 3 (some .boolean) rm_X7_noTwo [.ref m0, .int a, .int b] [(m0, .inr (7, [.int f0, .int f1, .int f2, .int f3, .ref a4, .int f5, .ref a6, .ref a7, .int f8, .int f9, .int f10, .int f11, .int f12, .int f13, .int f14, .ref a15, .ref a16, .ref a17, .int f18, .int f19, .int f20, .ref a21, .ref a22, .int f23, .ref a24, .ref a25, .ref a26, .ref a27, .ref a28, .ref a29, .ref a30, .int f31])), (a4, .inl (G.2.1, 20, .inl g4)), (a6, .inl (G.2.1, 4, .inl g6)), (a7, .inl (G.2.1, 4, .inl g7)), (a15, .inl (G.2.1, 20, .inl g15)), (a16, .inl (G.2.1, 4, .inl g16)), (a17, .inl (G.2.1, 4, .inl g17)), (a21, .inl (G.2.1, 20, .inl g21)), (a22, .inl (G.2.1, 40, .inl g22)), (a24, .inl (G.2.1, 8, .inl g24)), (a25, .inl (G.2.1, 8, .inl g25)), (a26, .inl (G.2.2.1, 8, .inl g26)), (a27, .inl (G.2.1, 4, .inl g27)), (a28, .inl (G.2.1, 4, .inl g28)), (a29, .inl (G.2.1, 240, .inl g29)), (a30, .inl (G.2.1, 60, .inl g30))] (some (.int (q_noTwo f5 a b))) [(m0, .inr (7, [.int f0, .int f1, .int f2, .int f3, .ref a4, .int f5, .ref a6, .ref a7, .int f8, .int f9, .int f10, .int f11, .int f12, .int f13, .int f14, .ref a15, .ref a16, .ref a17, .int f18, .int f19, .int f20, .ref a21, .ref a22, .int f23, .ref a24, .ref a25, .ref a26, .ref a27, .ref a28, .ref a29, .ref a30, .int f31])), (a4, .inl (G.2.1, 20, .inl g4)), (a6, .inl (G.2.1, 4, .inl g6)), (a7, .inl (G.2.1, 4, .inl g7)), (a15, .inl (G.2.1, 20, .inl g15)), (a16, .inl (G.2.1, 4, .inl g16)), (a17, .inl (G.2.1, 4, .inl g17)), (a21, .inl (G.2.1, 20, .inl g21)), (a22, .inl (G.2.1, 40, .inl g22)), (a24, .inl (G.2.1, 8, .inl g24)), (a25, .inl (G.2.1, 8, .inl g25)), (a26, .inl (G.2.2.1, 8, .inl g26)), (a27, .inl (G.2.1, 4, .inl g27)), (a28, .inl (G.2.1, 4, .inl g28)), (a29, .inl (G.2.1, 240, .inl g29)), (a30, .inl (G.2.1, 60, .inl g30))]
def K_X7_codeAt (l : Launch) (G : GT) : Prop := ∀ (m0 : Nat) (a4 : Nat) (a6 : Nat) (a7 : Nat) (a15 : Nat) (a16 : Nat) (a17 : Nat) (a21 : Nat) (a22 : Nat) (a24 : Nat) (a25 : Nat) (a26 : Nat) (a27 : Nat) (a28 : Nat) (a29 : Nat) (a30 : Nat) (f0 : Int32) (f1 : Int32) (f2 : Int32) (f3 : Int32) (f5 : Int32) (f8 : Int32) (f9 : Int32) (f10 : Int32) (f11 : Int32) (f12 : Int32) (f13 : Int32) (f14 : Int32) (f18 : Int32) (f19 : Int32) (f20 : Int32) (f23 : Int32) (f31 : Int32) (g4 : Nat → Int32) (g6 : Nat → Int32) (g7 : Nat → Int32) (g15 : Nat → Int32) (g16 : Nat → Int32) (g17 : Nat → Int32) (g21 : Nat → Int32) (g22 : Nat → Int32) (g24 : Nat → Int32) (g25 : Nat → Int32) (g26 : Nat → Int32) (g27 : Nat → Int32) (g28 : Nat → Int32) (g29 : Nat → Int32) (g30 : Nat → Int32) (fro : Int32) (n : Int32), (okC f10 fro n) → MF l G yX7_codeAt cX7_codeAt 3 (some .int) rm_X7_codeAt [.ref m0, .int fro, .int n] [(m0, .inr (7, [.int f0, .int f1, .int f2, .int f3, .ref a4, .int f5, .ref a6, .ref a7, .int f8, .int f9, .int f10, .int f11, .int f12, .int f13, .int f14, .ref a15, .ref a16, .ref a17, .int f18, .int f19, .int f20, .ref a21, .ref a22, .int f23, .ref a24, .ref a25, .ref a26, .ref a27, .ref a28, .ref a29, .ref a30, .int f31])), (a4, .inl (G.2.1, 20, .inl g4)), (a6, .inl (G.2.1, 4, .inl g6)), (a7, .inl (G.2.1, 4, .inl g7)), (a15, .inl (G.2.1, 20, .inl g15)), (a16, .inl (G.2.1, 4, .inl g16)), (a17, .inl (G.2.1, 4, .inl g17)), (a21, .inl (G.2.1, 20, .inl g21)), (a22, .inl (G.2.1, 40, .inl g22)), (a24, .inl (G.2.1, 8, .inl g24)), (a25, .inl (G.2.1, 8, .inl g25)), (a26, .inl (G.2.2.1, 8, .inl g26)), (a27, .inl (G.2.1, 4, .inl g27)), (a28, .inl (G.2.1, 4, .inl g28)), (a29, .inl (G.2.1, 240, .inl g29)), (a30, .inl (G.2.1, 60, .inl g30))] (some (.int (q_code f10 fro n g29))) [(m0, .inr (7, [.int f0, .int f1, .int f2, .int f3, .ref a4, .int f5, .ref a6, .ref a7, .int f8, .int f9, .int f10, .int f11, .int f12, .int f13, .int f14, .ref a15, .ref a16, .ref a17, .int f18, .int f19, .int f20, .ref a21, .ref a22, .int f23, .ref a24, .ref a25, .ref a26, .ref a27, .ref a28, .ref a29, .ref a30, .int f31])), (a4, .inl (G.2.1, 20, .inl g4)), (a6, .inl (G.2.1, 4, .inl g6)), (a7, .inl (G.2.1, 4, .inl g7)), (a15, .inl (G.2.1, 20, .inl g15)), (a16, .inl (G.2.1, 4, .inl g16)), (a17, .inl (G.2.1, 4, .inl g17)), (a21, .inl (G.2.1, 20, .inl g21)), (a22, .inl (G.2.1, 40, .inl g22)), (a24, .inl (G.2.1, 8, .inl g24)), (a25, .inl (G.2.1, 8, .inl g25)), (a26, .inl (G.2.2.1, 8, .inl g26)), (a27, .inl (G.2.1, 4, .inl g27)), (a28, .inl (G.2.1, 4, .inl g28)), (a29, .inl (G.2.1, 240, .inl g29)), (a30, .inl (G.2.1, 60, .inl g30))]
def K_X7_figure (l : Launch) (G : GT) : Prop := ∀ (m0 : Nat) (a4 : Nat) (a6 : Nat) (a7 : Nat) (a15 : Nat) (a16 : Nat) (a17 : Nat) (a21 : Nat) (a22 : Nat) (a24 : Nat) (a25 : Nat) (a26 : Nat) (a27 : Nat) (a28 : Nat) (a29 : Nat) (a30 : Nat) (f0 : Int32) (f1 : Int32) (f2 : Int32) (f3 : Int32) (f5 : Int32) (f8 : Int32) (f9 : Int32) (f10 : Int32) (f11 : Int32) (f12 : Int32) (f13 : Int32) (f14 : Int32) (f18 : Int32) (f19 : Int32) (f20 : Int32) (f23 : Int32) (f31 : Int32) (g4 : Nat → Int32) (g6 : Nat → Int32) (g7 : Nat → Int32) (g15 : Nat → Int32) (g16 : Nat → Int32) (g17 : Nat → Int32) (g21 : Nat → Int32) (g22 : Nat → Int32) (g24 : Nat → Int32) (g25 : Nat → Int32) (g26 : Nat → Int32) (g27 : Nat → Int32) (g28 : Nat → Int32) (g29 : Nat → Int32) (g30 : Nat → Int32) (fro : Int32) (n : Int32) (lo : Int32) (mo : Int32), (okC f10 fro n) → MF l G yX7_figure cX7_figure 7 (some .int) rm_X7_figure [.ref m0, .int fro, .int n, .int lo, .int mo] [(m0, .inr (7, [.int f0, .int f1, .int f2, .int f3, .ref a4, .int f5, .ref a6, .ref a7, .int f8, .int f9, .int f10, .int f11, .int f12, .int f13, .int f14, .ref a15, .ref a16, .ref a17, .int f18, .int f19, .int f20, .ref a21, .ref a22, .int f23, .ref a24, .ref a25, .ref a26, .ref a27, .ref a28, .ref a29, .ref a30, .int f31])), (a4, .inl (G.2.1, 20, .inl g4)), (a6, .inl (G.2.1, 4, .inl g6)), (a7, .inl (G.2.1, 4, .inl g7)), (a15, .inl (G.2.1, 20, .inl g15)), (a16, .inl (G.2.1, 4, .inl g16)), (a17, .inl (G.2.1, 4, .inl g17)), (a21, .inl (G.2.1, 20, .inl g21)), (a22, .inl (G.2.1, 40, .inl g22)), (a24, .inl (G.2.1, 8, .inl g24)), (a25, .inl (G.2.1, 8, .inl g25)), (a26, .inl (G.2.2.1, 8, .inl g26)), (a27, .inl (G.2.1, 4, .inl g27)), (a28, .inl (G.2.1, 4, .inl g28)), (a29, .inl (G.2.1, 240, .inl g29)), (a30, .inl (G.2.1, 60, .inl g30))] (some (.int (q_figR f10 fro n g29 lo mo))) [(m0, .inr (7, [.int f0, .int f1, .int f2, .int f3, .ref a4, .int f5, .ref a6, .ref a7, .int f8, .int f9, .int (q_figP f10 fro n g29 lo mo), .int f11, .int f12, .int f13, .int f14, .ref a15, .ref a16, .ref a17, .int f18, .int f19, .int f20, .ref a21, .ref a22, .int f23, .ref a24, .ref a25, .ref a26, .ref a27, .ref a28, .ref a29, .ref a30, .int f31])), (a4, .inl (G.2.1, 20, .inl g4)), (a6, .inl (G.2.1, 4, .inl g6)), (a7, .inl (G.2.1, 4, .inl g7)), (a15, .inl (G.2.1, 20, .inl g15)), (a16, .inl (G.2.1, 4, .inl g16)), (a17, .inl (G.2.1, 4, .inl g17)), (a21, .inl (G.2.1, 20, .inl g21)), (a22, .inl (G.2.1, 40, .inl g22)), (a24, .inl (G.2.1, 8, .inl g24)), (a25, .inl (G.2.1, 8, .inl g25)), (a26, .inl (G.2.2.1, 8, .inl g26)), (a27, .inl (G.2.1, 4, .inl g27)), (a28, .inl (G.2.1, 4, .inl g28)), (a29, .inl (G.2.1, 240, .inl g29)), (a30, .inl (G.2.1, 60, .inl g30))]
def K_X7_readsPlace (l : Launch) (G : GT) : Prop := ∀ (m0 : Nat) (a4 : Nat) (a6 : Nat) (a7 : Nat) (a15 : Nat) (a16 : Nat) (a17 : Nat) (a21 : Nat) (a22 : Nat) (a24 : Nat) (a25 : Nat) (a26 : Nat) (a27 : Nat) (a28 : Nat) (a29 : Nat) (a30 : Nat) (f0 : Int32) (f1 : Int32) (f2 : Int32) (f3 : Int32) (f5 : Int32) (f8 : Int32) (f9 : Int32) (f10 : Int32) (f11 : Int32) (f12 : Int32) (f13 : Int32) (f14 : Int32) (f18 : Int32) (f19 : Int32) (f20 : Int32) (f23 : Int32) (f31 : Int32) (g4 : Nat → Int32) (g6 : Nat → Int32) (g7 : Nat → Int32) (g15 : Nat → Int32) (g16 : Nat → Int32) (g17 : Nat → Int32) (g21 : Nat → Int32) (g22 : Nat → Int32) (g24 : Nat → Int32) (g25 : Nat → Int32) (g26 : Nat → Int32) (g27 : Nat → Int32) (g28 : Nat → Int32) (g29 : Nat → Int32) (g30 : Nat → Int32) (fro : Int32) (n : Int32) (ce : Int32), (okC f10 fro n) → (okC (f10 + 1) fro n) → (¬ f12 = 0) → (vp_in ce 20) → MF l G yX7_readsPlace cX7_readsPlace 4 (some .boolean) rm_X7_readsPlace [.ref m0, .int fro, .int n, .int ce] [(m0, .inr (7, [.int f0, .int f1, .int f2, .int f3, .ref a4, .int f5, .ref a6, .ref a7, .int f8, .int f9, .int f10, .int f11, .int f12, .int f13, .int f14, .ref a15, .ref a16, .ref a17, .int f18, .int f19, .int f20, .ref a21, .ref a22, .int f23, .ref a24, .ref a25, .ref a26, .ref a27, .ref a28, .ref a29, .ref a30, .int f31])), (a4, .inl (G.2.1, 20, .inl g4)), (a6, .inl (G.2.1, 4, .inl g6)), (a7, .inl (G.2.1, 4, .inl g7)), (a15, .inl (G.2.1, 20, .inl g15)), (a16, .inl (G.2.1, 4, .inl g16)), (a17, .inl (G.2.1, 4, .inl g17)), (a21, .inl (G.2.1, 20, .inl g21)), (a22, .inl (G.2.1, 40, .inl g22)), (a24, .inl (G.2.1, 8, .inl g24)), (a25, .inl (G.2.1, 8, .inl g25)), (a26, .inl (G.2.2.1, 8, .inl g26)), (a27, .inl (G.2.1, 4, .inl g27)), (a28, .inl (G.2.1, 4, .inl g28)), (a29, .inl (G.2.1, 240, .inl g29)), (a30, .inl (G.2.1, 60, .inl g30))] (some (.int (q_plR f10 fro n g29 f12 ce))) [(m0, .inr (7, [.int f0, .int f1, .int f2, .int f3, .ref a4, .int f5, .ref a6, .ref a7, .int f8, .int f9, .int (q_plP f10 fro n g29 f12 ce), .int f11, .int f12, .int f13, .int f14, .ref a15, .ref a16, .ref a17, .int f18, .int f19, .int f20, .ref a21, .ref a22, .int f23, .ref a24, .ref a25, .ref a26, .ref a27, .ref a28, .ref a29, .ref a30, .int f31])), (a4, .inl (G.2.1, 20, .inl g4)), (a6, .inl (G.2.1, 4, .inl g6)), (a7, .inl (G.2.1, 4, .inl g7)), (a15, .inl (G.2.1, 20, .inl (q_plS f10 fro n g29 f12 ce g15))), (a16, .inl (G.2.1, 4, .inl g16)), (a17, .inl (G.2.1, 4, .inl g17)), (a21, .inl (G.2.1, 20, .inl g21)), (a22, .inl (G.2.1, 40, .inl g22)), (a24, .inl (G.2.1, 8, .inl g24)), (a25, .inl (G.2.1, 8, .inl g25)), (a26, .inl (G.2.2.1, 8, .inl g26)), (a27, .inl (G.2.1, 4, .inl g27)), (a28, .inl (G.2.1, 4, .inl g28)), (a29, .inl (G.2.1, 240, .inl g29)), (a30, .inl (G.2.1, 60, .inl g30))]
def K_X7_readsSkater (l : Launch) (G : GT) : Prop := ∀ (m0 : Nat) (a4 : Nat) (a6 : Nat) (a7 : Nat) (a15 : Nat) (a16 : Nat) (a17 : Nat) (a21 : Nat) (a22 : Nat) (a24 : Nat) (a25 : Nat) (a26 : Nat) (a27 : Nat) (a28 : Nat) (a29 : Nat) (a30 : Nat) (f0 : Int32) (f1 : Int32) (f2 : Int32) (f3 : Int32) (f5 : Int32) (f8 : Int32) (f9 : Int32) (f10 : Int32) (f11 : Int32) (f12 : Int32) (f13 : Int32) (f14 : Int32) (f18 : Int32) (f19 : Int32) (f20 : Int32) (f23 : Int32) (f31 : Int32) (g4 : Nat → Int32) (g6 : Nat → Int32) (g7 : Nat → Int32) (g15 : Nat → Int32) (g16 : Nat → Int32) (g17 : Nat → Int32) (g21 : Nat → Int32) (g22 : Nat → Int32) (g24 : Nat → Int32) (g25 : Nat → Int32) (g26 : Nat → Int32) (g27 : Nat → Int32) (g28 : Nat → Int32) (g29 : Nat → Int32) (g30 : Nat → Int32) (fro : Int32) (n : Int32), (okC f10 fro n) → (okC (f10 + 1) fro n) → (okC (f10 + 1 + 1) fro n) → (okN f14) → MF l G yX7_readsSkater cX7_readsSkater 5 (some .boolean) rm_X7_readsSkater [.ref m0, .int fro, .int n] [(m0, .inr (7, [.int f0, .int f1, .int f2, .int f3, .ref a4, .int f5, .ref a6, .ref a7, .int f8, .int f9, .int f10, .int f11, .int f12, .int f13, .int f14, .ref a15, .ref a16, .ref a17, .int f18, .int f19, .int f20, .ref a21, .ref a22, .int f23, .ref a24, .ref a25, .ref a26, .ref a27, .ref a28, .ref a29, .ref a30, .int f31])), (a4, .inl (G.2.1, 20, .inl g4)), (a6, .inl (G.2.1, 4, .inl g6)), (a7, .inl (G.2.1, 4, .inl g7)), (a15, .inl (G.2.1, 20, .inl g15)), (a16, .inl (G.2.1, 4, .inl g16)), (a17, .inl (G.2.1, 4, .inl g17)), (a21, .inl (G.2.1, 20, .inl g21)), (a22, .inl (G.2.1, 40, .inl g22)), (a24, .inl (G.2.1, 8, .inl g24)), (a25, .inl (G.2.1, 8, .inl g25)), (a26, .inl (G.2.2.1, 8, .inl g26)), (a27, .inl (G.2.1, 4, .inl g27)), (a28, .inl (G.2.1, 4, .inl g28)), (a29, .inl (G.2.1, 240, .inl g29)), (a30, .inl (G.2.1, 60, .inl g30))] (some (.int (q_skR f10 fro n g29 f14))) [(m0, .inr (7, [.int f0, .int f1, .int f2, .int f3, .ref a4, .int f5, .ref a6, .ref a7, .int f8, .int f9, .int (q_skP f10 fro n g29 f14), .int f11, .int f12, .int f13, .int (q_skN f10 fro n g29 f14), .ref a15, .ref a16, .ref a17, .int f18, .int f19, .int f20, .ref a21, .ref a22, .int f23, .ref a24, .ref a25, .ref a26, .ref a27, .ref a28, .ref a29, .ref a30, .int f31])), (a4, .inl (G.2.1, 20, .inl g4)), (a6, .inl (G.2.1, 4, .inl g6)), (a7, .inl (G.2.1, 4, .inl g7)), (a15, .inl (G.2.1, 20, .inl g15)), (a16, .inl (G.2.1, 4, .inl (q_skK f10 fro n g29 f14 g16))), (a17, .inl (G.2.1, 4, .inl (q_skV f10 fro n g29 f14 g17))), (a21, .inl (G.2.1, 20, .inl g21)), (a22, .inl (G.2.1, 40, .inl g22)), (a24, .inl (G.2.1, 8, .inl g24)), (a25, .inl (G.2.1, 8, .inl g25)), (a26, .inl (G.2.2.1, 8, .inl g26)), (a27, .inl (G.2.1, 4, .inl g27)), (a28, .inl (G.2.1, 4, .inl g28)), (a29, .inl (G.2.1, 240, .inl g29)), (a30, .inl (G.2.1, 60, .inl g30))]
def K_X7_readsCanal (l : Launch) (G : GT) : Prop := ∀ (m0 : Nat) (a4 : Nat) (a6 : Nat) (a7 : Nat) (a15 : Nat) (a16 : Nat) (a17 : Nat) (a21 : Nat) (a22 : Nat) (a24 : Nat) (a25 : Nat) (a26 : Nat) (a27 : Nat) (a28 : Nat) (a29 : Nat) (a30 : Nat) (f0 : Int32) (f1 : Int32) (f2 : Int32) (f3 : Int32) (f5 : Int32) (f8 : Int32) (f9 : Int32) (f10 : Int32) (f11 : Int32) (f12 : Int32) (f13 : Int32) (f14 : Int32) (f18 : Int32) (f19 : Int32) (f20 : Int32) (f23 : Int32) (f31 : Int32) (g4 : Nat → Int32) (g6 : Nat → Int32) (g7 : Nat → Int32) (g15 : Nat → Int32) (g16 : Nat → Int32) (g17 : Nat → Int32) (g21 : Nat → Int32) (g22 : Nat → Int32) (g24 : Nat → Int32) (g25 : Nat → Int32) (g26 : Nat → Int32) (g27 : Nat → Int32) (g28 : Nat → Int32) (g29 : Nat → Int32) (g30 : Nat → Int32) (fro : Int32) (n : Int32), (okRun fro n 240) → MF l G yX7_readsCanal cX7_readsCanal 5 (some .boolean) rm_X7_readsCanal [.ref m0, .int fro, .int n] [(m0, .inr (7, [.int f0, .int f1, .int f2, .int f3, .ref a4, .int f5, .ref a6, .ref a7, .int f8, .int f9, .int f10, .int f11, .int f12, .int f13, .int f14, .ref a15, .ref a16, .ref a17, .int f18, .int f19, .int f20, .ref a21, .ref a22, .int f23, .ref a24, .ref a25, .ref a26, .ref a27, .ref a28, .ref a29, .ref a30, .int f31])), (a4, .inl (G.2.1, 20, .inl g4)), (a6, .inl (G.2.1, 4, .inl g6)), (a7, .inl (G.2.1, 4, .inl g7)), (a15, .inl (G.2.1, 20, .inl g15)), (a16, .inl (G.2.1, 4, .inl g16)), (a17, .inl (G.2.1, 4, .inl g17)), (a21, .inl (G.2.1, 20, .inl g21)), (a22, .inl (G.2.1, 40, .inl g22)), (a24, .inl (G.2.1, 8, .inl g24)), (a25, .inl (G.2.1, 8, .inl g25)), (a26, .inl (G.2.2.1, 8, .inl g26)), (a27, .inl (G.2.1, 4, .inl g27)), (a28, .inl (G.2.1, 4, .inl g28)), (a29, .inl (G.2.1, 240, .inl g29)), (a30, .inl (G.2.1, 60, .inl g30))] (some (.int ((q_sk fro n g29 g15 g16 g17).2.2.2.2))) [(m0, .inr (7, [.int f0, .int f1, .int f2, .int f3, .ref a4, .int f5, .ref a6, .ref a7, .int f8, .int f9, .int ((q_sk fro n g29 g15 g16 g17).1), .int (q_hi fro n g29), .int (q_wi fro n g29), .int (q_fr fro n g29), .int ((q_sk fro n g29 g15 g16 g17).2.2.2.1), .ref a15, .ref a16, .ref a17, .int f18, .int f19, .int f20, .ref a21, .ref a22, .int f23, .ref a24, .ref a25, .ref a26, .ref a27, .ref a28, .ref a29, .ref a30, .int f31])), (a4, .inl (G.2.1, 20, .inl g4)), (a6, .inl (G.2.1, 4, .inl g6)), (a7, .inl (G.2.1, 4, .inl g7)), (a15, .inl (G.2.1, 20, .inl ((q_ce fro n g29 g15).2.1))), (a16, .inl (G.2.1, 4, .inl ((q_sk fro n g29 g15 g16 g17).2.1))), (a17, .inl (G.2.1, 4, .inl ((q_sk fro n g29 g15 g16 g17).2.2.1))), (a21, .inl (G.2.1, 20, .inl g21)), (a22, .inl (G.2.1, 40, .inl g22)), (a24, .inl (G.2.1, 8, .inl g24)), (a25, .inl (G.2.1, 8, .inl g25)), (a26, .inl (G.2.2.1, 8, .inl g26)), (a27, .inl (G.2.1, 4, .inl g27)), (a28, .inl (G.2.1, 4, .inl g28)), (a29, .inl (G.2.1, 240, .inl g29)), (a30, .inl (G.2.1, 60, .inl g30))]
def K_X7_cellsBarred (l : Launch) (G : GT) : Prop := ∀ (m0 : Nat) (a4 : Nat) (a6 : Nat) (a7 : Nat) (a15 : Nat) (a16 : Nat) (a17 : Nat) (a21 : Nat) (a22 : Nat) (a24 : Nat) (a25 : Nat) (a26 : Nat) (a27 : Nat) (a28 : Nat) (a29 : Nat) (a30 : Nat) (f0 : Int32) (f1 : Int32) (f2 : Int32) (f3 : Int32) (f5 : Int32) (f8 : Int32) (f9 : Int32) (f10 : Int32) (f11 : Int32) (f12 : Int32) (f13 : Int32) (f14 : Int32) (f18 : Int32) (f19 : Int32) (f20 : Int32) (f23 : Int32) (f31 : Int32) (g4 : Nat → Int32) (g6 : Nat → Int32) (g7 : Nat → Int32) (g15 : Nat → Int32) (g16 : Nat → Int32) (g17 : Nat → Int32) (g21 : Nat → Int32) (g22 : Nat → Int32) (g24 : Nat → Int32) (g25 : Nat → Int32) (g26 : Nat → Int32) (g27 : Nat → Int32) (g28 : Nat → Int32) (g29 : Nat → Int32) (g30 : Nat → Int32) (k : Int32) (lane : Int32) (i : Int32) (n : Int64), (vp_in k 4) → MF l G yX7_cellsBarred cX7_cellsBarred 6 (some .int) rm_X7_cellsBarred [.ref m0, .int k, .int lane, .int i, .long n] [(m0, .inr (7, [.int f0, .int f1, .int f2, .int f3, .ref a4, .int f5, .ref a6, .ref a7, .int f8, .int f9, .int f10, .int f11, .int f12, .int f13, .int f14, .ref a15, .ref a16, .ref a17, .int f18, .int f19, .int f20, .ref a21, .ref a22, .int f23, .ref a24, .ref a25, .ref a26, .ref a27, .ref a28, .ref a29, .ref a30, .int f31])), (a4, .inl (G.2.1, 20, .inl g4)), (a6, .inl (G.2.1, 4, .inl g6)), (a7, .inl (G.2.1, 4, .inl g7)), (a15, .inl (G.2.1, 20, .inl g15)), (a16, .inl (G.2.1, 4, .inl g16)), (a17, .inl (G.2.1, 4, .inl g17)), (a21, .inl (G.2.1, 20, .inl g21)), (a22, .inl (G.2.1, 40, .inl g22)), (a24, .inl (G.2.1, 8, .inl g24)), (a25, .inl (G.2.1, 8, .inl g25)), (a26, .inl (G.2.2.1, 8, .inl g26)), (a27, .inl (G.2.1, 4, .inl g27)), (a28, .inl (G.2.1, 4, .inl g28)), (a29, .inl (G.2.1, 240, .inl g29)), (a30, .inl (G.2.1, 60, .inl g30))] (some (.int (q_bRes (q_barred g27 g28 k lane i n)))) [(m0, .inr (7, [.int (q_bFault (q_barred g27 g28 k lane i n) f0), .int f1, .int f2, .int f3, .ref a4, .int f5, .ref a6, .ref a7, .int f8, .int f9, .int f10, .int f11, .int f12, .int f13, .int f14, .ref a15, .ref a16, .ref a17, .int f18, .int f19, .int f20, .ref a21, .ref a22, .int f23, .ref a24, .ref a25, .ref a26, .ref a27, .ref a28, .ref a29, .ref a30, .int f31])), (a4, .inl (G.2.1, 20, .inl g4)), (a6, .inl (G.2.1, 4, .inl g6)), (a7, .inl (G.2.1, 4, .inl g7)), (a15, .inl (G.2.1, 20, .inl g15)), (a16, .inl (G.2.1, 4, .inl g16)), (a17, .inl (G.2.1, 4, .inl g17)), (a21, .inl (G.2.1, 20, .inl g21)), (a22, .inl (G.2.1, 40, .inl g22)), (a24, .inl (G.2.1, 8, .inl g24)), (a25, .inl (G.2.1, 8, .inl g25)), (a26, .inl (G.2.2.1, 8, .inl g26)), (a27, .inl (G.2.1, 4, .inl g27)), (a28, .inl (G.2.1, 4, .inl g28)), (a29, .inl (G.2.1, 240, .inl g29)), (a30, .inl (G.2.1, 60, .inl g30))]
def K_X7_loadOf (l : Launch) (G : GT) : Prop := ∀ (m0 : Nat) (a4 : Nat) (a6 : Nat) (a7 : Nat) (a15 : Nat) (a16 : Nat) (a17 : Nat) (a21 : Nat) (a22 : Nat) (a24 : Nat) (a25 : Nat) (a26 : Nat) (a27 : Nat) (a28 : Nat) (a29 : Nat) (a30 : Nat) (f0 : Int32) (f1 : Int32) (f2 : Int32) (f3 : Int32) (f5 : Int32) (f8 : Int32) (f9 : Int32) (f10 : Int32) (f11 : Int32) (f12 : Int32) (f13 : Int32) (f14 : Int32) (f18 : Int32) (f19 : Int32) (f20 : Int32) (f23 : Int32) (f31 : Int32) (g4 : Nat → Int32) (g6 : Nat → Int32) (g7 : Nat → Int32) (g15 : Nat → Int32) (g16 : Nat → Int32) (g17 : Nat → Int32) (g21 : Nat → Int32) (g22 : Nat → Int32) (g24 : Nat → Int32) (g25 : Nat → Int32) (g26 : Nat → Int32) (g27 : Nat → Int32) (g28 : Nat → Int32) (g29 : Nat → Int32) (g30 : Nat → Int32) (a : Int32), (vp_in a 4) → MF l G yX7_loadOf cX7_loadOf 3 (some .int) rm_X7_loadOf [.ref m0, .int a] [(m0, .inr (7, [.int f0, .int f1, .int f2, .int f3, .ref a4, .int f5, .ref a6, .ref a7, .int f8, .int f9, .int f10, .int f11, .int f12, .int f13, .int f14, .ref a15, .ref a16, .ref a17, .int f18, .int f19, .int f20, .ref a21, .ref a22, .int f23, .ref a24, .ref a25, .ref a26, .ref a27, .ref a28, .ref a29, .ref a30, .int f31])), (a4, .inl (G.2.1, 20, .inl g4)), (a6, .inl (G.2.1, 4, .inl g6)), (a7, .inl (G.2.1, 4, .inl g7)), (a15, .inl (G.2.1, 20, .inl g15)), (a16, .inl (G.2.1, 4, .inl g16)), (a17, .inl (G.2.1, 4, .inl g17)), (a21, .inl (G.2.1, 20, .inl g21)), (a22, .inl (G.2.1, 40, .inl g22)), (a24, .inl (G.2.1, 8, .inl g24)), (a25, .inl (G.2.1, 8, .inl g25)), (a26, .inl (G.2.2.1, 8, .inl g26)), (a27, .inl (G.2.1, 4, .inl g27)), (a28, .inl (G.2.1, 4, .inl g28)), (a29, .inl (G.2.1, 240, .inl g29)), (a30, .inl (G.2.1, 60, .inl g30))] (some (.int (q_load g6 g7 a))) [(m0, .inr (7, [.int f0, .int f1, .int f2, .int f3, .ref a4, .int f5, .ref a6, .ref a7, .int f8, .int f9, .int f10, .int f11, .int f12, .int f13, .int f14, .ref a15, .ref a16, .ref a17, .int f18, .int f19, .int f20, .ref a21, .ref a22, .int f23, .ref a24, .ref a25, .ref a26, .ref a27, .ref a28, .ref a29, .ref a30, .int f31])), (a4, .inl (G.2.1, 20, .inl g4)), (a6, .inl (G.2.1, 4, .inl g6)), (a7, .inl (G.2.1, 4, .inl g7)), (a15, .inl (G.2.1, 20, .inl g15)), (a16, .inl (G.2.1, 4, .inl g16)), (a17, .inl (G.2.1, 4, .inl g17)), (a21, .inl (G.2.1, 20, .inl g21)), (a22, .inl (G.2.1, 40, .inl g22)), (a24, .inl (G.2.1, 8, .inl g24)), (a25, .inl (G.2.1, 8, .inl g25)), (a26, .inl (G.2.2.1, 8, .inl g26)), (a27, .inl (G.2.1, 4, .inl g27)), (a28, .inl (G.2.1, 4, .inl g28)), (a29, .inl (G.2.1, 240, .inl g29)), (a30, .inl (G.2.1, 60, .inl g30))]
def K_X7_bears (l : Launch) (G : GT) : Prop := ∀ (m0 : Nat) (a4 : Nat) (a6 : Nat) (a7 : Nat) (a15 : Nat) (a16 : Nat) (a17 : Nat) (a21 : Nat) (a22 : Nat) (a24 : Nat) (a25 : Nat) (a26 : Nat) (a27 : Nat) (a28 : Nat) (a29 : Nat) (a30 : Nat) (f0 : Int32) (f1 : Int32) (f2 : Int32) (f3 : Int32) (f5 : Int32) (f8 : Int32) (f9 : Int32) (f10 : Int32) (f11 : Int32) (f12 : Int32) (f13 : Int32) (f14 : Int32) (f18 : Int32) (f19 : Int32) (f20 : Int32) (f23 : Int32) (f31 : Int32) (g4 : Nat → Int32) (g6 : Nat → Int32) (g7 : Nat → Int32) (g15 : Nat → Int32) (g16 : Nat → Int32) (g17 : Nat → Int32) (g21 : Nat → Int32) (g22 : Nat → Int32) (g24 : Nat → Int32) (g25 : Nat → Int32) (g26 : Nat → Int32) (g27 : Nat → Int32) (g28 : Nat → Int32) (g29 : Nat → Int32) (g30 : Nat → Int32) (ce : Int32) (a : Int32), (vp_in ce 20) → (vp_in a 4) → MF l G yX7_bears cX7_bears 4 (some .boolean) rm_X7_bears [.ref m0, .int ce, .int a] [(m0, .inr (7, [.int f0, .int f1, .int f2, .int f3, .ref a4, .int f5, .ref a6, .ref a7, .int f8, .int f9, .int f10, .int f11, .int f12, .int f13, .int f14, .ref a15, .ref a16, .ref a17, .int f18, .int f19, .int f20, .ref a21, .ref a22, .int f23, .ref a24, .ref a25, .ref a26, .ref a27, .ref a28, .ref a29, .ref a30, .int f31])), (a4, .inl (G.2.1, 20, .inl g4)), (a6, .inl (G.2.1, 4, .inl g6)), (a7, .inl (G.2.1, 4, .inl g7)), (a15, .inl (G.2.1, 20, .inl g15)), (a16, .inl (G.2.1, 4, .inl g16)), (a17, .inl (G.2.1, 4, .inl g17)), (a21, .inl (G.2.1, 20, .inl g21)), (a22, .inl (G.2.1, 40, .inl g22)), (a24, .inl (G.2.1, 8, .inl g24)), (a25, .inl (G.2.1, 8, .inl g25)), (a26, .inl (G.2.2.1, 8, .inl g26)), (a27, .inl (G.2.1, 4, .inl g27)), (a28, .inl (G.2.1, 4, .inl g28)), (a29, .inl (G.2.1, 240, .inl g29)), (a30, .inl (G.2.1, 60, .inl g30))] (some (.int (q_bears f8 f9 g4 g6 g7 ce a))) [(m0, .inr (7, [.int f0, .int f1, .int f2, .int f3, .ref a4, .int f5, .ref a6, .ref a7, .int f8, .int f9, .int f10, .int f11, .int f12, .int f13, .int f14, .ref a15, .ref a16, .ref a17, .int f18, .int f19, .int f20, .ref a21, .ref a22, .int f23, .ref a24, .ref a25, .ref a26, .ref a27, .ref a28, .ref a29, .ref a30, .int f31])), (a4, .inl (G.2.1, 20, .inl g4)), (a6, .inl (G.2.1, 4, .inl g6)), (a7, .inl (G.2.1, 4, .inl g7)), (a15, .inl (G.2.1, 20, .inl g15)), (a16, .inl (G.2.1, 4, .inl g16)), (a17, .inl (G.2.1, 4, .inl g17)), (a21, .inl (G.2.1, 20, .inl g21)), (a22, .inl (G.2.1, 40, .inl g22)), (a24, .inl (G.2.1, 8, .inl g24)), (a25, .inl (G.2.1, 8, .inl g25)), (a26, .inl (G.2.2.1, 8, .inl g26)), (a27, .inl (G.2.1, 4, .inl g27)), (a28, .inl (G.2.1, 4, .inl g28)), (a29, .inl (G.2.1, 240, .inl g29)), (a30, .inl (G.2.1, 60, .inl g30))]
def K_X7_bearingOf (l : Launch) (G : GT) : Prop := ∀ (m0 : Nat) (a4 : Nat) (a6 : Nat) (a7 : Nat) (a15 : Nat) (a16 : Nat) (a17 : Nat) (a21 : Nat) (a22 : Nat) (a24 : Nat) (a25 : Nat) (a26 : Nat) (a27 : Nat) (a28 : Nat) (a29 : Nat) (a30 : Nat) (f0 : Int32) (f1 : Int32) (f2 : Int32) (f3 : Int32) (f5 : Int32) (f8 : Int32) (f9 : Int32) (f10 : Int32) (f11 : Int32) (f12 : Int32) (f13 : Int32) (f14 : Int32) (f18 : Int32) (f19 : Int32) (f20 : Int32) (f23 : Int32) (f31 : Int32) (g4 : Nat → Int32) (g6 : Nat → Int32) (g7 : Nat → Int32) (g15 : Nat → Int32) (g16 : Nat → Int32) (g17 : Nat → Int32) (g21 : Nat → Int32) (g22 : Nat → Int32) (g24 : Nat → Int32) (g25 : Nat → Int32) (g26 : Nat → Int32) (g27 : Nat → Int32) (g28 : Nat → Int32) (g29 : Nat → Int32) (g30 : Nat → Int32) (a : Int32), (okD f1 f2) → (vp_in a 4) → MF l G yX7_bearingOf cX7_bearingOf 4 (some .int) rm_X7_bearingOf [.ref m0, .int a] [(m0, .inr (7, [.int f0, .int f1, .int f2, .int f3, .ref a4, .int f5, .ref a6, .ref a7, .int f8, .int f9, .int f10, .int f11, .int f12, .int f13, .int f14, .ref a15, .ref a16, .ref a17, .int f18, .int f19, .int f20, .ref a21, .ref a22, .int f23, .ref a24, .ref a25, .ref a26, .ref a27, .ref a28, .ref a29, .ref a30, .int f31])), (a4, .inl (G.2.1, 20, .inl g4)), (a6, .inl (G.2.1, 4, .inl g6)), (a7, .inl (G.2.1, 4, .inl g7)), (a15, .inl (G.2.1, 20, .inl g15)), (a16, .inl (G.2.1, 4, .inl g16)), (a17, .inl (G.2.1, 4, .inl g17)), (a21, .inl (G.2.1, 20, .inl g21)), (a22, .inl (G.2.1, 40, .inl g22)), (a24, .inl (G.2.1, 8, .inl g24)), (a25, .inl (G.2.1, 8, .inl g25)), (a26, .inl (G.2.2.1, 8, .inl g26)), (a27, .inl (G.2.1, 4, .inl g27)), (a28, .inl (G.2.1, 4, .inl g28)), (a29, .inl (G.2.1, 240, .inl g29)), (a30, .inl (G.2.1, 60, .inl g30))] (some (.int (q_bearing f8 f9 g4 g6 g7 a (f1 * f2).toNatClampNeg))) [(m0, .inr (7, [.int f0, .int f1, .int f2, .int f3, .ref a4, .int f5, .ref a6, .ref a7, .int f8, .int f9, .int f10, .int f11, .int f12, .int f13, .int f14, .ref a15, .ref a16, .ref a17, .int f18, .int f19, .int f20, .ref a21, .ref a22, .int f23, .ref a24, .ref a25, .ref a26, .ref a27, .ref a28, .ref a29, .ref a30, .int f31])), (a4, .inl (G.2.1, 20, .inl g4)), (a6, .inl (G.2.1, 4, .inl g6)), (a7, .inl (G.2.1, 4, .inl g7)), (a15, .inl (G.2.1, 20, .inl g15)), (a16, .inl (G.2.1, 4, .inl g16)), (a17, .inl (G.2.1, 4, .inl g17)), (a21, .inl (G.2.1, 20, .inl g21)), (a22, .inl (G.2.1, 40, .inl g22)), (a24, .inl (G.2.1, 8, .inl g24)), (a25, .inl (G.2.1, 8, .inl g25)), (a26, .inl (G.2.2.1, 8, .inl g26)), (a27, .inl (G.2.1, 4, .inl g27)), (a28, .inl (G.2.1, 4, .inl g28)), (a29, .inl (G.2.1, 240, .inl g29)), (a30, .inl (G.2.1, 60, .inl g30))]
def K_X7_beside (l : Launch) (G : GT) : Prop := ∀ (m0 : Nat) (a4 : Nat) (a6 : Nat) (a7 : Nat) (a15 : Nat) (a16 : Nat) (a17 : Nat) (a21 : Nat) (a22 : Nat) (a24 : Nat) (a25 : Nat) (a26 : Nat) (a27 : Nat) (a28 : Nat) (a29 : Nat) (a30 : Nat) (f0 : Int32) (f1 : Int32) (f2 : Int32) (f3 : Int32) (f5 : Int32) (f8 : Int32) (f9 : Int32) (f10 : Int32) (f11 : Int32) (f12 : Int32) (f13 : Int32) (f14 : Int32) (f18 : Int32) (f19 : Int32) (f20 : Int32) (f23 : Int32) (f31 : Int32) (g4 : Nat → Int32) (g6 : Nat → Int32) (g7 : Nat → Int32) (g15 : Nat → Int32) (g16 : Nat → Int32) (g17 : Nat → Int32) (g21 : Nat → Int32) (g22 : Nat → Int32) (g24 : Nat → Int32) (g25 : Nat → Int32) (g26 : Nat → Int32) (g27 : Nat → Int32) (g28 : Nat → Int32) (g29 : Nat → Int32) (g30 : Nat → Int32) (ce : Int32) (st : Int32), (¬ f2 = 0) → MF l G yX7_beside cX7_beside 5 (some .int) rm_X7_beside [.ref m0, .int ce, .int st] [(m0, .inr (7, [.int f0, .int f1, .int f2, .int f3, .ref a4, .int f5, .ref a6, .ref a7, .int f8, .int f9, .int f10, .int f11, .int f12, .int f13, .int f14, .ref a15, .ref a16, .ref a17, .int f18, .int f19, .int f20, .ref a21, .ref a22, .int f23, .ref a24, .ref a25, .ref a26, .ref a27, .ref a28, .ref a29, .ref a30, .int f31])), (a4, .inl (G.2.1, 20, .inl g4)), (a6, .inl (G.2.1, 4, .inl g6)), (a7, .inl (G.2.1, 4, .inl g7)), (a15, .inl (G.2.1, 20, .inl g15)), (a16, .inl (G.2.1, 4, .inl g16)), (a17, .inl (G.2.1, 4, .inl g17)), (a21, .inl (G.2.1, 20, .inl g21)), (a22, .inl (G.2.1, 40, .inl g22)), (a24, .inl (G.2.1, 8, .inl g24)), (a25, .inl (G.2.1, 8, .inl g25)), (a26, .inl (G.2.2.1, 8, .inl g26)), (a27, .inl (G.2.1, 4, .inl g27)), (a28, .inl (G.2.1, 4, .inl g28)), (a29, .inl (G.2.1, 240, .inl g29)), (a30, .inl (G.2.1, 60, .inl g30))] (some (.int (q_beside f1 f2 ce st))) [(m0, .inr (7, [.int f0, .int f1, .int f2, .int f3, .ref a4, .int f5, .ref a6, .ref a7, .int f8, .int f9, .int f10, .int f11, .int f12, .int f13, .int f14, .ref a15, .ref a16, .ref a17, .int f18, .int f19, .int f20, .ref a21, .ref a22, .int f23, .ref a24, .ref a25, .ref a26, .ref a27, .ref a28, .ref a29, .ref a30, .int f31])), (a4, .inl (G.2.1, 20, .inl g4)), (a6, .inl (G.2.1, 4, .inl g6)), (a7, .inl (G.2.1, 4, .inl g7)), (a15, .inl (G.2.1, 20, .inl g15)), (a16, .inl (G.2.1, 4, .inl g16)), (a17, .inl (G.2.1, 4, .inl g17)), (a21, .inl (G.2.1, 20, .inl g21)), (a22, .inl (G.2.1, 40, .inl g22)), (a24, .inl (G.2.1, 8, .inl g24)), (a25, .inl (G.2.1, 8, .inl g25)), (a26, .inl (G.2.2.1, 8, .inl g26)), (a27, .inl (G.2.1, 4, .inl g27)), (a28, .inl (G.2.1, 4, .inl g28)), (a29, .inl (G.2.1, 240, .inl g29)), (a30, .inl (G.2.1, 60, .inl g30))]
def K_X7_goDeed (l : Launch) (G : GT) : Prop := ∀ (m0 : Nat) (a4 : Nat) (a6 : Nat) (a7 : Nat) (a15 : Nat) (a16 : Nat) (a17 : Nat) (a21 : Nat) (a22 : Nat) (a24 : Nat) (a25 : Nat) (a26 : Nat) (a27 : Nat) (a28 : Nat) (a29 : Nat) (a30 : Nat) (f0 : Int32) (f1 : Int32) (f2 : Int32) (f3 : Int32) (f5 : Int32) (f8 : Int32) (f9 : Int32) (f10 : Int32) (f11 : Int32) (f12 : Int32) (f13 : Int32) (f14 : Int32) (f18 : Int32) (f19 : Int32) (f20 : Int32) (f23 : Int32) (f31 : Int32) (g4 : Nat → Int32) (g6 : Nat → Int32) (g7 : Nat → Int32) (g15 : Nat → Int32) (g16 : Nat → Int32) (g17 : Nat → Int32) (g21 : Nat → Int32) (g22 : Nat → Int32) (g24 : Nat → Int32) (g25 : Nat → Int32) (g26 : Nat → Int32) (g27 : Nat → Int32) (g28 : Nat → Int32) (g29 : Nat → Int32) (g30 : Nat → Int32) (a : Int32) (b : Int32) (ce : Int32) (fro : Int32) (n : Int32), (okD f1 f2) → (¬ f2 = 0) → (vp_in a 4) → (vp_in b 4) → (okRun fro n 240) → MF l G yX7_goDeed cX7_goDeed 8 none rm_X7_goDeed [.ref m0, .int a, .int b, .int ce, .int fro, .int n] [(m0, .inr (7, [.int f0, .int f1, .int f2, .int f3, .ref a4, .int f5, .ref a6, .ref a7, .int f8, .int f9, .int f10, .int f11, .int f12, .int f13, .int f14, .ref a15, .ref a16, .ref a17, .int f18, .int f19, .int f20, .ref a21, .ref a22, .int f23, .ref a24, .ref a25, .ref a26, .ref a27, .ref a28, .ref a29, .ref a30, .int f31])), (a4, .inl (G.2.1, 20, .inl g4)), (a6, .inl (G.2.1, 4, .inl g6)), (a7, .inl (G.2.1, 4, .inl g7)), (a15, .inl (G.2.1, 20, .inl g15)), (a16, .inl (G.2.1, 4, .inl g16)), (a17, .inl (G.2.1, 4, .inl g17)), (a21, .inl (G.2.1, 20, .inl g21)), (a22, .inl (G.2.1, 40, .inl g22)), (a24, .inl (G.2.1, 8, .inl g24)), (a25, .inl (G.2.1, 8, .inl g25)), (a26, .inl (G.2.2.1, 8, .inl g26)), (a27, .inl (G.2.1, 4, .inl g27)), (a28, .inl (G.2.1, 4, .inl g28)), (a29, .inl (G.2.1, 240, .inl g29)), (a30, .inl (G.2.1, 60, .inl g30))] none [(m0, .inr (7, [.int f0, .int f1, .int f2, .int f3, .ref a4, .int f5, .ref a6, .ref a7, .int f8, .int f9, .int f10, .int f11, .int f12, .int f13, .int f14, .ref a15, .ref a16, .ref a17, .int ((q_deedN f1 f2 f8 f9 g6 g7 g29 fro a b ce g4 n.toNatClampNeg).1), .int ((q_deedN f1 f2 f8 f9 g6 g7 g29 fro a b ce g4 n.toNatClampNeg).2.1), .int ((q_deedN f1 f2 f8 f9 g6 g7 g29 fro a b ce g4 n.toNatClampNeg).2.2.1), .ref a21, .ref a22, .int f23, .ref a24, .ref a25, .ref a26, .ref a27, .ref a28, .ref a29, .ref a30, .int f31])), (a4, .inl (G.2.1, 20, .inl ((q_deedN f1 f2 f8 f9 g6 g7 g29 fro a b ce g4 n.toNatClampNeg).2.2.2))), (a6, .inl (G.2.1, 4, .inl g6)), (a7, .inl (G.2.1, 4, .inl g7)), (a15, .inl (G.2.1, 20, .inl g15)), (a16, .inl (G.2.1, 4, .inl g16)), (a17, .inl (G.2.1, 4, .inl g17)), (a21, .inl (G.2.1, 20, .inl g21)), (a22, .inl (G.2.1, 40, .inl g22)), (a24, .inl (G.2.1, 8, .inl g24)), (a25, .inl (G.2.1, 8, .inl g25)), (a26, .inl (G.2.2.1, 8, .inl g26)), (a27, .inl (G.2.1, 4, .inl g27)), (a28, .inl (G.2.1, 4, .inl g28)), (a29, .inl (G.2.1, 240, .inl g29)), (a30, .inl (G.2.1, 60, .inl g30))]
def K_X7_keep (l : Launch) (G : GT) : Prop := ∀ (m0 : Nat) (a4 : Nat) (a6 : Nat) (a7 : Nat) (a15 : Nat) (a16 : Nat) (a17 : Nat) (a21 : Nat) (a22 : Nat) (a24 : Nat) (a25 : Nat) (a26 : Nat) (a27 : Nat) (a28 : Nat) (a29 : Nat) (a30 : Nat) (f0 : Int32) (f1 : Int32) (f2 : Int32) (f3 : Int32) (f5 : Int32) (f8 : Int32) (f9 : Int32) (f10 : Int32) (f11 : Int32) (f12 : Int32) (f13 : Int32) (f14 : Int32) (f18 : Int32) (f19 : Int32) (f20 : Int32) (f23 : Int32) (f31 : Int32) (g4 : Nat → Int32) (g6 : Nat → Int32) (g7 : Nat → Int32) (g15 : Nat → Int32) (g16 : Nat → Int32) (g17 : Nat → Int32) (g21 : Nat → Int32) (g22 : Nat → Int32) (g24 : Nat → Int32) (g25 : Nat → Int32) (g26 : Nat → Int32) (g27 : Nat → Int32) (g28 : Nat → Int32) (g29 : Nat → Int32) (g30 : Nat → Int32), MF l G yX7_keep cX7_keep 2 none rm_X7_keep [.ref m0] [(m0, .inr (7, [.int f0, .int f1, .int f2, .int f3, .ref a4, .int f5, .ref a6, .ref a7, .int f8, .int f9, .int f10, .int f11, .int f12, .int f13, .int f14, .ref a15, .ref a16, .ref a17, .int f18, .int f19, .int f20, .ref a21, .ref a22, .int f23, .ref a24, .ref a25, .ref a26, .ref a27, .ref a28, .ref a29, .ref a30, .int f31])), (a4, .inl (G.2.1, 20, .inl g4)), (a6, .inl (G.2.1, 4, .inl g6)), (a7, .inl (G.2.1, 4, .inl g7)), (a15, .inl (G.2.1, 20, .inl g15)), (a16, .inl (G.2.1, 4, .inl g16)), (a17, .inl (G.2.1, 4, .inl g17)), (a21, .inl (G.2.1, 20, .inl g21)), (a22, .inl (G.2.1, 40, .inl g22)), (a24, .inl (G.2.1, 8, .inl g24)), (a25, .inl (G.2.1, 8, .inl g25)), (a26, .inl (G.2.2.1, 8, .inl g26)), (a27, .inl (G.2.1, 4, .inl g27)), (a28, .inl (G.2.1, 4, .inl g28)), (a29, .inl (G.2.1, 240, .inl g29)), (a30, .inl (G.2.1, 60, .inl g30))] none [(m0, .inr (7, [.int f0, .int f1, .int f2, .int f3, .ref a4, .int f5, .ref a6, .ref a7, .int f8, .int f9, .int f10, .int f11, .int f12, .int f13, .int f14, .ref a15, .ref a16, .ref a17, .int f18, .int f19, .int f20, .ref a21, .ref a22, .int f23, .ref a24, .ref a25, .ref a26, .ref a27, .ref a28, .ref a29, .ref a30, .int f31])), (a4, .inl (G.2.1, 20, .inl g4)), (a6, .inl (G.2.1, 4, .inl g6)), (a7, .inl (G.2.1, 4, .inl g7)), (a15, .inl (G.2.1, 20, .inl g15)), (a16, .inl (G.2.1, 4, .inl g16)), (a17, .inl (G.2.1, 4, .inl g17)), (a21, .inl (G.2.1, 20, .inl (s_cp20 g4 g21))), (a22, .inl (G.2.1, 40, .inl g22)), (a24, .inl (G.2.1, 8, .inl g24)), (a25, .inl (G.2.1, 8, .inl g25)), (a26, .inl (G.2.2.1, 8, .inl g26)), (a27, .inl (G.2.1, 4, .inl g27)), (a28, .inl (G.2.1, 4, .inl g28)), (a29, .inl (G.2.1, 240, .inl g29)), (a30, .inl (G.2.1, 60, .inl g30))]
def K_X7_putBack (l : Launch) (G : GT) : Prop := ∀ (m0 : Nat) (a4 : Nat) (a6 : Nat) (a7 : Nat) (a15 : Nat) (a16 : Nat) (a17 : Nat) (a21 : Nat) (a22 : Nat) (a24 : Nat) (a25 : Nat) (a26 : Nat) (a27 : Nat) (a28 : Nat) (a29 : Nat) (a30 : Nat) (f0 : Int32) (f1 : Int32) (f2 : Int32) (f3 : Int32) (f5 : Int32) (f8 : Int32) (f9 : Int32) (f10 : Int32) (f11 : Int32) (f12 : Int32) (f13 : Int32) (f14 : Int32) (f18 : Int32) (f19 : Int32) (f20 : Int32) (f23 : Int32) (f31 : Int32) (g4 : Nat → Int32) (g6 : Nat → Int32) (g7 : Nat → Int32) (g15 : Nat → Int32) (g16 : Nat → Int32) (g17 : Nat → Int32) (g21 : Nat → Int32) (g22 : Nat → Int32) (g24 : Nat → Int32) (g25 : Nat → Int32) (g26 : Nat → Int32) (g27 : Nat → Int32) (g28 : Nat → Int32) (g29 : Nat → Int32) (g30 : Nat → Int32), MF l G yX7_putBack cX7_putBack 2 none rm_X7_putBack [.ref m0] [(m0, .inr (7, [.int f0, .int f1, .int f2, .int f3, .ref a4, .int f5, .ref a6, .ref a7, .int f8, .int f9, .int f10, .int f11, .int f12, .int f13, .int f14, .ref a15, .ref a16, .ref a17, .int f18, .int f19, .int f20, .ref a21, .ref a22, .int f23, .ref a24, .ref a25, .ref a26, .ref a27, .ref a28, .ref a29, .ref a30, .int f31])), (a4, .inl (G.2.1, 20, .inl g4)), (a6, .inl (G.2.1, 4, .inl g6)), (a7, .inl (G.2.1, 4, .inl g7)), (a15, .inl (G.2.1, 20, .inl g15)), (a16, .inl (G.2.1, 4, .inl g16)), (a17, .inl (G.2.1, 4, .inl g17)), (a21, .inl (G.2.1, 20, .inl g21)), (a22, .inl (G.2.1, 40, .inl g22)), (a24, .inl (G.2.1, 8, .inl g24)), (a25, .inl (G.2.1, 8, .inl g25)), (a26, .inl (G.2.2.1, 8, .inl g26)), (a27, .inl (G.2.1, 4, .inl g27)), (a28, .inl (G.2.1, 4, .inl g28)), (a29, .inl (G.2.1, 240, .inl g29)), (a30, .inl (G.2.1, 60, .inl g30))] none [(m0, .inr (7, [.int f0, .int f1, .int f2, .int f3, .ref a4, .int f5, .ref a6, .ref a7, .int f8, .int f9, .int f10, .int f11, .int f12, .int f13, .int f14, .ref a15, .ref a16, .ref a17, .int f18, .int f19, .int f20, .ref a21, .ref a22, .int f23, .ref a24, .ref a25, .ref a26, .ref a27, .ref a28, .ref a29, .ref a30, .int f31])), (a4, .inl (G.2.1, 20, .inl (s_cp20 g21 g4))), (a6, .inl (G.2.1, 4, .inl g6)), (a7, .inl (G.2.1, 4, .inl g7)), (a15, .inl (G.2.1, 20, .inl g15)), (a16, .inl (G.2.1, 4, .inl g16)), (a17, .inl (G.2.1, 4, .inl g17)), (a21, .inl (G.2.1, 20, .inl g21)), (a22, .inl (G.2.1, 40, .inl g22)), (a24, .inl (G.2.1, 8, .inl g24)), (a25, .inl (G.2.1, 8, .inl g25)), (a26, .inl (G.2.2.1, 8, .inl g26)), (a27, .inl (G.2.1, 4, .inl g27)), (a28, .inl (G.2.1, 4, .inl g28)), (a29, .inl (G.2.1, 240, .inl g29)), (a30, .inl (G.2.1, 60, .inl g30))]
def K_X7_strokesBarred (l : Launch) (G : GT) : Prop := ∀ (m0 : Nat) (a4 : Nat) (a6 : Nat) (a7 : Nat) (a15 : Nat) (a16 : Nat) (a17 : Nat) (a21 : Nat) (a22 : Nat) (a24 : Nat) (a25 : Nat) (a26 : Nat) (a27 : Nat) (a28 : Nat) (a29 : Nat) (a30 : Nat) (f0 : Int32) (f1 : Int32) (f2 : Int32) (f3 : Int32) (f5 : Int32) (f8 : Int32) (f9 : Int32) (f10 : Int32) (f11 : Int32) (f12 : Int32) (f13 : Int32) (f14 : Int32) (f18 : Int32) (f19 : Int32) (f20 : Int32) (f23 : Int32) (f31 : Int32) (g4 : Nat → Int32) (g6 : Nat → Int32) (g7 : Nat → Int32) (g15 : Nat → Int32) (g16 : Nat → Int32) (g17 : Nat → Int32) (g21 : Nat → Int32) (g22 : Nat → Int32) (g24 : Nat → Int32) (g25 : Nat → Int32) (g26 : Nat → Int32) (g27 : Nat → Int32) (g28 : Nat → Int32) (g29 : Nat → Int32) (g30 : Nat → Int32) (k : Int32) (lane : Int32) (i : Int32) (n : Int32), (vp_in k 4) → (okSz g27) → MF l G yX7_strokesBarred cX7_strokesBarred 7 (some .int) rm_X7_strokesBarred [.ref m0, .int k, .int lane, .int i, .int n] [(m0, .inr (7, [.int f0, .int f1, .int f2, .int f3, .ref a4, .int f5, .ref a6, .ref a7, .int f8, .int f9, .int f10, .int f11, .int f12, .int f13, .int f14, .ref a15, .ref a16, .ref a17, .int f18, .int f19, .int f20, .ref a21, .ref a22, .int f23, .ref a24, .ref a25, .ref a26, .ref a27, .ref a28, .ref a29, .ref a30, .int f31])), (a4, .inl (G.2.1, 20, .inl g4)), (a6, .inl (G.2.1, 4, .inl g6)), (a7, .inl (G.2.1, 4, .inl g7)), (a15, .inl (G.2.1, 20, .inl g15)), (a16, .inl (G.2.1, 4, .inl g16)), (a17, .inl (G.2.1, 4, .inl g17)), (a21, .inl (G.2.1, 20, .inl g21)), (a22, .inl (G.2.1, 40, .inl g22)), (a24, .inl (G.2.1, 8, .inl g24)), (a25, .inl (G.2.1, 8, .inl g25)), (a26, .inl (G.2.2.1, 8, .inl g26)), (a27, .inl (G.2.1, 4, .inl g27)), (a28, .inl (G.2.1, 4, .inl g28)), (a29, .inl (G.2.1, 240, .inl g29)), (a30, .inl (G.2.1, 60, .inl g30))] (some (.int (q_sbRes g27 g28 g29 k lane i n))) [(m0, .inr (7, [.int (q_sbFault g27 g28 g29 k lane i n), .int f1, .int f2, .int f3, .ref a4, .int f5, .ref a6, .ref a7, .int f8, .int f9, .int f10, .int f11, .int f12, .int f13, .int f14, .ref a15, .ref a16, .ref a17, .int f18, .int f19, .int f20, .ref a21, .ref a22, .int f23, .ref a24, .ref a25, .ref a26, .ref a27, .ref a28, .ref a29, .ref a30, .int f31])), (a4, .inl (G.2.1, 20, .inl g4)), (a6, .inl (G.2.1, 4, .inl g6)), (a7, .inl (G.2.1, 4, .inl g7)), (a15, .inl (G.2.1, 20, .inl g15)), (a16, .inl (G.2.1, 4, .inl g16)), (a17, .inl (G.2.1, 4, .inl g17)), (a21, .inl (G.2.1, 20, .inl g21)), (a22, .inl (G.2.1, 40, .inl g22)), (a24, .inl (G.2.1, 8, .inl g24)), (a25, .inl (G.2.1, 8, .inl g25)), (a26, .inl (G.2.2.1, 8, .inl g26)), (a27, .inl (G.2.1, 4, .inl g27)), (a28, .inl (G.2.1, 4, .inl g28)), (a29, .inl (G.2.1, 240, .inl g29)), (a30, .inl (G.2.1, 60, .inl g30))]
def K_X7_countOf (l : Launch) (G : GT) : Prop := ∀ (m0 : Nat) (a4 : Nat) (a6 : Nat) (a7 : Nat) (a15 : Nat) (a16 : Nat) (a17 : Nat) (a21 : Nat) (a22 : Nat) (a24 : Nat) (a25 : Nat) (a26 : Nat) (a27 : Nat) (a28 : Nat) (a29 : Nat) (a30 : Nat) (f0 : Int32) (f1 : Int32) (f2 : Int32) (f3 : Int32) (f5 : Int32) (f8 : Int32) (f9 : Int32) (f10 : Int32) (f11 : Int32) (f12 : Int32) (f13 : Int32) (f14 : Int32) (f18 : Int32) (f19 : Int32) (f20 : Int32) (f23 : Int32) (f31 : Int32) (g4 : Nat → Int32) (g6 : Nat → Int32) (g7 : Nat → Int32) (g15 : Nat → Int32) (g16 : Nat → Int32) (g17 : Nat → Int32) (g21 : Nat → Int32) (g22 : Nat → Int32) (g24 : Nat → Int32) (g25 : Nat → Int32) (g26 : Nat → Int32) (g27 : Nat → Int32) (g28 : Nat → Int32) (g29 : Nat → Int32) (g30 : Nat → Int32) (v : Int32), (okD f1 f2) → MF l G yX7_countOf cX7_countOf 4 (some .int) rm_X7_countOf [.ref m0, .int v] [(m0, .inr (7, [.int f0, .int f1, .int f2, .int f3, .ref a4, .int f5, .ref a6, .ref a7, .int f8, .int f9, .int f10, .int f11, .int f12, .int f13, .int f14, .ref a15, .ref a16, .ref a17, .int f18, .int f19, .int f20, .ref a21, .ref a22, .int f23, .ref a24, .ref a25, .ref a26, .ref a27, .ref a28, .ref a29, .ref a30, .int f31])), (a4, .inl (G.2.1, 20, .inl g4)), (a6, .inl (G.2.1, 4, .inl g6)), (a7, .inl (G.2.1, 4, .inl g7)), (a15, .inl (G.2.1, 20, .inl g15)), (a16, .inl (G.2.1, 4, .inl g16)), (a17, .inl (G.2.1, 4, .inl g17)), (a21, .inl (G.2.1, 20, .inl g21)), (a22, .inl (G.2.1, 40, .inl g22)), (a24, .inl (G.2.1, 8, .inl g24)), (a25, .inl (G.2.1, 8, .inl g25)), (a26, .inl (G.2.2.1, 8, .inl g26)), (a27, .inl (G.2.1, 4, .inl g27)), (a28, .inl (G.2.1, 4, .inl g28)), (a29, .inl (G.2.1, 240, .inl g29)), (a30, .inl (G.2.1, 60, .inl g30))] (some (.int (s_count g4 v (f1 * f2).toNatClampNeg))) [(m0, .inr (7, [.int f0, .int f1, .int f2, .int f3, .ref a4, .int f5, .ref a6, .ref a7, .int f8, .int f9, .int f10, .int f11, .int f12, .int f13, .int f14, .ref a15, .ref a16, .ref a17, .int f18, .int f19, .int f20, .ref a21, .ref a22, .int f23, .ref a24, .ref a25, .ref a26, .ref a27, .ref a28, .ref a29, .ref a30, .int f31])), (a4, .inl (G.2.1, 20, .inl g4)), (a6, .inl (G.2.1, 4, .inl g6)), (a7, .inl (G.2.1, 4, .inl g7)), (a15, .inl (G.2.1, 20, .inl g15)), (a16, .inl (G.2.1, 4, .inl g16)), (a17, .inl (G.2.1, 4, .inl g17)), (a21, .inl (G.2.1, 20, .inl g21)), (a22, .inl (G.2.1, 40, .inl g22)), (a24, .inl (G.2.1, 8, .inl g24)), (a25, .inl (G.2.1, 8, .inl g25)), (a26, .inl (G.2.2.1, 8, .inl g26)), (a27, .inl (G.2.1, 4, .inl g27)), (a28, .inl (G.2.1, 4, .inl g28)), (a29, .inl (G.2.1, 240, .inl g29)), (a30, .inl (G.2.1, 60, .inl g30))]
def K_X7_leftBy (l : Launch) (G : GT) : Prop := ∀ (m0 : Nat) (a4 : Nat) (a6 : Nat) (a7 : Nat) (a15 : Nat) (a16 : Nat) (a17 : Nat) (a21 : Nat) (a22 : Nat) (a24 : Nat) (a25 : Nat) (a26 : Nat) (a27 : Nat) (a28 : Nat) (a29 : Nat) (a30 : Nat) (f0 : Int32) (f1 : Int32) (f2 : Int32) (f3 : Int32) (f5 : Int32) (f8 : Int32) (f9 : Int32) (f10 : Int32) (f11 : Int32) (f12 : Int32) (f13 : Int32) (f14 : Int32) (f18 : Int32) (f19 : Int32) (f20 : Int32) (f23 : Int32) (f31 : Int32) (g4 : Nat → Int32) (g6 : Nat → Int32) (g7 : Nat → Int32) (g15 : Nat → Int32) (g16 : Nat → Int32) (g17 : Nat → Int32) (g21 : Nat → Int32) (g22 : Nat → Int32) (g24 : Nat → Int32) (g25 : Nat → Int32) (g26 : Nat → Int32) (g27 : Nat → Int32) (g28 : Nat → Int32) (g29 : Nat → Int32) (g30 : Nat → Int32) (place : Int32) (a : Int32) (b : Int32), (okD f1 f2) → (¬ f2 = 0) → (vp_in a 4) → (vp_in b 4) → (vp_in place 40) → MF l G yX7_leftBy cX7_leftBy 11 (some .int) rm_X7_leftBy [.ref m0, .int place, .int a, .int b] [(m0, .inr (7, [.int f0, .int f1, .int f2, .int f3, .ref a4, .int f5, .ref a6, .ref a7, .int f8, .int f9, .int f10, .int f11, .int f12, .int f13, .int f14, .ref a15, .ref a16, .ref a17, .int f18, .int f19, .int f20, .ref a21, .ref a22, .int f23, .ref a24, .ref a25, .ref a26, .ref a27, .ref a28, .ref a29, .ref a30, .int f31])), (a4, .inl (G.2.1, 20, .inl g4)), (a6, .inl (G.2.1, 4, .inl g6)), (a7, .inl (G.2.1, 4, .inl g7)), (a15, .inl (G.2.1, 20, .inl g15)), (a16, .inl (G.2.1, 4, .inl g16)), (a17, .inl (G.2.1, 4, .inl g17)), (a21, .inl (G.2.1, 20, .inl g21)), (a22, .inl (G.2.1, 40, .inl g22)), (a24, .inl (G.2.1, 8, .inl g24)), (a25, .inl (G.2.1, 8, .inl g25)), (a26, .inl (G.2.2.1, 8, .inl g26)), (a27, .inl (G.2.1, 4, .inl g27)), (a28, .inl (G.2.1, 4, .inl g28)), (a29, .inl (G.2.1, 240, .inl g29)), (a30, .inl (G.2.1, 60, .inl g30))] (some (.int (q_leftBy f1 f2 f8 f9 g4 g6 g7 g22 a b place))) [(m0, .inr (7, [.int f0, .int f1, .int f2, .int f3, .ref a4, .int f5, .ref a6, .ref a7, .int f8, .int f9, .int f10, .int f11, .int f12, .int f13, .int f14, .ref a15, .ref a16, .ref a17, .int f18, .int f19, .int f20, .ref a21, .ref a22, .int f23, .ref a24, .ref a25, .ref a26, .ref a27, .ref a28, .ref a29, .ref a30, .int f31])), (a4, .inl (G.2.1, 20, .inl g4)), (a6, .inl (G.2.1, 4, .inl g6)), (a7, .inl (G.2.1, 4, .inl g7)), (a15, .inl (G.2.1, 20, .inl g15)), (a16, .inl (G.2.1, 4, .inl g16)), (a17, .inl (G.2.1, 4, .inl g17)), (a21, .inl (G.2.1, 20, .inl g21)), (a22, .inl (G.2.1, 40, .inl g22)), (a24, .inl (G.2.1, 8, .inl g24)), (a25, .inl (G.2.1, 8, .inl g25)), (a26, .inl (G.2.2.1, 8, .inl g26)), (a27, .inl (G.2.1, 4, .inl g27)), (a28, .inl (G.2.1, 4, .inl g28)), (a29, .inl (G.2.1, 240, .inl g29)), (a30, .inl (G.2.1, 60, .inl g30))]
def K_X7_goBond (l : Launch) (G : GT) : Prop := ∀ (m0 : Nat) (a4 : Nat) (a6 : Nat) (a7 : Nat) (a15 : Nat) (a16 : Nat) (a17 : Nat) (a21 : Nat) (a22 : Nat) (a24 : Nat) (a25 : Nat) (a26 : Nat) (a27 : Nat) (a28 : Nat) (a29 : Nat) (a30 : Nat) (f0 : Int32) (f1 : Int32) (f2 : Int32) (f3 : Int32) (f5 : Int32) (f8 : Int32) (f9 : Int32) (f10 : Int32) (f11 : Int32) (f12 : Int32) (f13 : Int32) (f14 : Int32) (f18 : Int32) (f19 : Int32) (f20 : Int32) (f23 : Int32) (f31 : Int32) (g4 : Nat → Int32) (g6 : Nat → Int32) (g7 : Nat → Int32) (g15 : Nat → Int32) (g16 : Nat → Int32) (g17 : Nat → Int32) (g21 : Nat → Int32) (g22 : Nat → Int32) (g24 : Nat → Int32) (g25 : Nat → Int32) (g26 : Nat → Int32) (g27 : Nat → Int32) (g28 : Nat → Int32) (g29 : Nat → Int32) (g30 : Nat → Int32) (a : Int32) (b : Int32) (to : Int32), (okD f1 f2) → (¬ f2 = 0) → (vp_in a 4) → (vp_in b 4) → MF l G yX7_goBond cX7_goBond 8 none rm_X7_goBond [.ref m0, .int a, .int b, .int to] [(m0, .inr (7, [.int f0, .int f1, .int f2, .int f3, .ref a4, .int f5, .ref a6, .ref a7, .int f8, .int f9, .int f10, .int f11, .int f12, .int f13, .int f14, .ref a15, .ref a16, .ref a17, .int f18, .int f19, .int f20, .ref a21, .ref a22, .int f23, .ref a24, .ref a25, .ref a26, .ref a27, .ref a28, .ref a29, .ref a30, .int f31])), (a4, .inl (G.2.1, 20, .inl g4)), (a6, .inl (G.2.1, 4, .inl g6)), (a7, .inl (G.2.1, 4, .inl g7)), (a15, .inl (G.2.1, 20, .inl g15)), (a16, .inl (G.2.1, 4, .inl g16)), (a17, .inl (G.2.1, 4, .inl g17)), (a21, .inl (G.2.1, 20, .inl g21)), (a22, .inl (G.2.1, 40, .inl g22)), (a24, .inl (G.2.1, 8, .inl g24)), (a25, .inl (G.2.1, 8, .inl g25)), (a26, .inl (G.2.2.1, 8, .inl g26)), (a27, .inl (G.2.1, 4, .inl g27)), (a28, .inl (G.2.1, 4, .inl g28)), (a29, .inl (G.2.1, 240, .inl g29)), (a30, .inl (G.2.1, 60, .inl g30))] none [(m0, .inr (7, [.int f0, .int f1, .int f2, .int f3, .ref a4, .int f5, .ref a6, .ref a7, .int f8, .int f9, .int f10, .int f11, .int f12, .int f13, .int f14, .ref a15, .ref a16, .ref a17, .int f18, .int f19, .int f20, .ref a21, .ref a22, .int f23, .ref a24, .ref a25, .ref a26, .ref a27, .ref a28, .ref a29, .ref a30, .int f31])), (a4, .inl (G.2.1, 20, .inl g4)), (a6, .inl (G.2.1, 4, .inl g6)), (a7, .inl (G.2.1, 4, .inl g7)), (a15, .inl (G.2.1, 20, .inl g15)), (a16, .inl (G.2.1, 4, .inl g16)), (a17, .inl (G.2.1, 4, .inl g17)), (a21, .inl (G.2.1, 20, .inl g21)), (a22, .inl (G.2.1, 40, .inl (q_bondL f1 f2 f8 f9 g4 g6 g7 g22 a b to))), (a24, .inl (G.2.1, 8, .inl g24)), (a25, .inl (G.2.1, 8, .inl g25)), (a26, .inl (G.2.2.1, 8, .inl g26)), (a27, .inl (G.2.1, 4, .inl g27)), (a28, .inl (G.2.1, 4, .inl g28)), (a29, .inl (G.2.1, 240, .inl g29)), (a30, .inl (G.2.1, 60, .inl g30))]
def K_X7_isBond (l : Launch) (G : GT) : Prop := ∀ (m0 : Nat) (a4 : Nat) (a6 : Nat) (a7 : Nat) (a15 : Nat) (a16 : Nat) (a17 : Nat) (a21 : Nat) (a22 : Nat) (a24 : Nat) (a25 : Nat) (a26 : Nat) (a27 : Nat) (a28 : Nat) (a29 : Nat) (a30 : Nat) (f0 : Int32) (f1 : Int32) (f2 : Int32) (f3 : Int32) (f5 : Int32) (f8 : Int32) (f9 : Int32) (f10 : Int32) (f11 : Int32) (f12 : Int32) (f13 : Int32) (f14 : Int32) (f18 : Int32) (f19 : Int32) (f20 : Int32) (f23 : Int32) (f31 : Int32) (g4 : Nat → Int32) (g6 : Nat → Int32) (g7 : Nat → Int32) (g15 : Nat → Int32) (g16 : Nat → Int32) (g17 : Nat → Int32) (g21 : Nat → Int32) (g22 : Nat → Int32) (g24 : Nat → Int32) (g25 : Nat → Int32) (g26 : Nat → Int32) (g27 : Nat → Int32) (g28 : Nat → Int32) (g29 : Nat → Int32) (g30 : Nat → Int32) (a : Int32) (b : Int32) (fro : Int32) (to : Int32), (okD f1 f2) → (¬ f2 = 0) → (vp_in a 4) → (vp_in b 4) → (vp_in fro 20) → MFJ l G yX7_isBond cX7_isBond 5 (some .boolean) rm_X7_isBond [.ref m0, .int a, .int b, .int fro, .int to] [(m0, .inr (7, [.int f0, .int f1, .int f2, .int f3, .ref a4, .int f5, .ref a6, .ref a7, .int f8, .int f9, .int f10, .int f11, .int f12, .int f13, .int f14, .ref a15, .ref a16, .ref a17, .int f18, .int f19, .int f20, .ref a21, .ref a22, .int f23, .ref a24, .ref a25, .ref a26, .ref a27, .ref a28, .ref a29, .ref a30, .int f31])), (a4, .inl (G.2.1, 20, .inl g4)), (a6, .inl (G.2.1, 4, .inl g6)), (a7, .inl (G.2.1, 4, .inl g7)), (a15, .inl (G.2.1, 20, .inl g15)), (a16, .inl (G.2.1, 4, .inl g16)), (a17, .inl (G.2.1, 4, .inl g17)), (a21, .inl (G.2.1, 20, .inl g21)), (a22, .inl (G.2.1, 40, .inl g22)), (a24, .inl (G.2.1, 8, .inl g24)), (a25, .inl (G.2.1, 8, .inl g25)), (a26, .inl (G.2.2.1, 8, .inl g26)), (a27, .inl (G.2.1, 4, .inl g27)), (a28, .inl (G.2.1, 4, .inl g28)), (a29, .inl (G.2.1, 240, .inl g29)), (a30, .inl (G.2.1, 60, .inl g30))] (some (.int (q_isBond f1 f2 f8 f9 g4 g6 g7 g22 a b fro to))) (fun jj : (Nat → Int32) => [(m0, .inr (7, [.int f0, .int f1, .int f2, .int f3, .ref a4, .int f5, .ref a6, .ref a7, .int f8, .int f9, .int f10, .int f11, .int f12, .int f13, .int f14, .ref a15, .ref a16, .ref a17, .int f18, .int f19, .int f20, .ref a21, .ref a22, .int f23, .ref a24, .ref a25, .ref a26, .ref a27, .ref a28, .ref a29, .ref a30, .int f31])), (a4, .inl (G.2.1, 20, .inl g4)), (a6, .inl (G.2.1, 4, .inl g6)), (a7, .inl (G.2.1, 4, .inl g7)), (a15, .inl (G.2.1, 20, .inl g15)), (a16, .inl (G.2.1, 4, .inl g16)), (a17, .inl (G.2.1, 4, .inl g17)), (a21, .inl (G.2.1, 20, .inl g21)), (a22, .inl (G.2.1, 40, .inl jj)), (a24, .inl (G.2.1, 8, .inl g24)), (a25, .inl (G.2.1, 8, .inl g25)), (a26, .inl (G.2.2.1, 8, .inl g26)), (a27, .inl (G.2.1, 4, .inl g27)), (a28, .inl (G.2.1, 4, .inl g28)), (a29, .inl (G.2.1, 240, .inl g29)), (a30, .inl (G.2.1, 60, .inl g30))])
def K_X7_strokeBy (l : Launch) (G : GT) : Prop := ∀ (m0 : Nat) (a4 : Nat) (a6 : Nat) (a7 : Nat) (a15 : Nat) (a16 : Nat) (a17 : Nat) (a21 : Nat) (a22 : Nat) (a24 : Nat) (a25 : Nat) (a26 : Nat) (a27 : Nat) (a28 : Nat) (a29 : Nat) (a30 : Nat) (f0 : Int32) (f1 : Int32) (f2 : Int32) (f3 : Int32) (f5 : Int32) (f8 : Int32) (f9 : Int32) (f10 : Int32) (f11 : Int32) (f12 : Int32) (f13 : Int32) (f14 : Int32) (f18 : Int32) (f19 : Int32) (f20 : Int32) (f23 : Int32) (f31 : Int32) (g4 : Nat → Int32) (g6 : Nat → Int32) (g7 : Nat → Int32) (g15 : Nat → Int32) (g16 : Nat → Int32) (g17 : Nat → Int32) (g21 : Nat → Int32) (g22 : Nat → Int32) (g24 : Nat → Int32) (g25 : Nat → Int32) (g26 : Nat → Int32) (g27 : Nat → Int32) (g28 : Nat → Int32) (g29 : Nat → Int32) (g30 : Nat → Int32) (a : Int32) (b : Int32) (ce : Int32) (turn : Int32), (okD f1 f2) → (¬ f2 = 0) → (vp_in a 4) → (vp_in b 4) → (vp_in ce 20) → (turn = 0 ∨ turn = 1) → MF l G yX7_strokeBy cX7_strokeBy 10 (some .int) rm_X7_strokeBy [.ref m0, .int a, .int b, .int ce, .int turn] [(m0, .inr (7, [.int f0, .int f1, .int f2, .int f3, .ref a4, .int f5, .ref a6, .ref a7, .int f8, .int f9, .int f10, .int f11, .int f12, .int f13, .int f14, .ref a15, .ref a16, .ref a17, .int f18, .int f19, .int f20, .ref a21, .ref a22, .int f23, .ref a24, .ref a25, .ref a26, .ref a27, .ref a28, .ref a29, .ref a30, .int f31])), (a4, .inl (G.2.1, 20, .inl g4)), (a6, .inl (G.2.1, 4, .inl g6)), (a7, .inl (G.2.1, 4, .inl g7)), (a15, .inl (G.2.1, 20, .inl g15)), (a16, .inl (G.2.1, 4, .inl g16)), (a17, .inl (G.2.1, 4, .inl g17)), (a21, .inl (G.2.1, 20, .inl g21)), (a22, .inl (G.2.1, 40, .inl g22)), (a24, .inl (G.2.1, 8, .inl g24)), (a25, .inl (G.2.1, 8, .inl g25)), (a26, .inl (G.2.2.1, 8, .inl g26)), (a27, .inl (G.2.1, 4, .inl g27)), (a28, .inl (G.2.1, 4, .inl g28)), (a29, .inl (G.2.1, 240, .inl g29)), (a30, .inl (G.2.1, 60, .inl g30))] (some (.int (q_strokeBy f1 f2 f8 f9 g4 g6 g7 g22 a b ce turn))) [(m0, .inr (7, [.int f0, .int f1, .int f2, .int f3, .ref a4, .int f5, .ref a6, .ref a7, .int f8, .int f9, .int f10, .int f11, .int f12, .int f13, .int f14, .ref a15, .ref a16, .ref a17, .int f18, .int f19, .int f20, .ref a21, .ref a22, .int f23, .ref a24, .ref a25, .ref a26, .ref a27, .ref a28, .ref a29, .ref a30, .int f31])), (a4, .inl (G.2.1, 20, .inl g4)), (a6, .inl (G.2.1, 4, .inl g6)), (a7, .inl (G.2.1, 4, .inl g7)), (a15, .inl (G.2.1, 20, .inl g15)), (a16, .inl (G.2.1, 4, .inl g16)), (a17, .inl (G.2.1, 4, .inl g17)), (a21, .inl (G.2.1, 20, .inl g21)), (a22, .inl (G.2.1, 40, .inl g22)), (a24, .inl (G.2.1, 8, .inl g24)), (a25, .inl (G.2.1, 8, .inl g25)), (a26, .inl (G.2.2.1, 8, .inl g26)), (a27, .inl (G.2.1, 4, .inl g27)), (a28, .inl (G.2.1, 4, .inl g28)), (a29, .inl (G.2.1, 240, .inl g29)), (a30, .inl (G.2.1, 60, .inl g30))]
def K_X7_areSo (l : Launch) (G : GT) : Prop := ∀ (m0 : Nat) (a4 : Nat) (a6 : Nat) (a7 : Nat) (a15 : Nat) (a16 : Nat) (a17 : Nat) (a21 : Nat) (a22 : Nat) (a24 : Nat) (a25 : Nat) (a26 : Nat) (a27 : Nat) (a28 : Nat) (a29 : Nat) (a30 : Nat) (f0 : Int32) (f1 : Int32) (f2 : Int32) (f3 : Int32) (f5 : Int32) (f8 : Int32) (f9 : Int32) (f10 : Int32) (f11 : Int32) (f12 : Int32) (f13 : Int32) (f14 : Int32) (f18 : Int32) (f19 : Int32) (f20 : Int32) (f23 : Int32) (f31 : Int32) (g4 : Nat → Int32) (g6 : Nat → Int32) (g7 : Nat → Int32) (g15 : Nat → Int32) (g16 : Nat → Int32) (g17 : Nat → Int32) (g21 : Nat → Int32) (g22 : Nat → Int32) (g24 : Nat → Int32) (g25 : Nat → Int32) (g26 : Nat → Int32) (g27 : Nat → Int32) (g28 : Nat → Int32) (g29 : Nat → Int32) (g30 : Nat → Int32), (okR f23 g24 g25) → MF l G yX7_areSo cX7_areSo 3 (some .boolean) rm_X7_areSo [.ref m0] [(m0, .inr (7, [.int f0, .int f1, .int f2, .int f3, .ref a4, .int f5, .ref a6, .ref a7, .int f8, .int f9, .int f10, .int f11, .int f12, .int f13, .int f14, .ref a15, .ref a16, .ref a17, .int f18, .int f19, .int f20, .ref a21, .ref a22, .int f23, .ref a24, .ref a25, .ref a26, .ref a27, .ref a28, .ref a29, .ref a30, .int f31])), (a4, .inl (G.2.1, 20, .inl g4)), (a6, .inl (G.2.1, 4, .inl g6)), (a7, .inl (G.2.1, 4, .inl g7)), (a15, .inl (G.2.1, 20, .inl g15)), (a16, .inl (G.2.1, 4, .inl g16)), (a17, .inl (G.2.1, 4, .inl g17)), (a21, .inl (G.2.1, 20, .inl g21)), (a22, .inl (G.2.1, 40, .inl g22)), (a24, .inl (G.2.1, 8, .inl g24)), (a25, .inl (G.2.1, 8, .inl g25)), (a26, .inl (G.2.2.1, 8, .inl g26)), (a27, .inl (G.2.1, 4, .inl g27)), (a28, .inl (G.2.1, 4, .inl g28)), (a29, .inl (G.2.1, 240, .inl g29)), (a30, .inl (G.2.1, 60, .inl g30))] (some (.int (q_areSo f8 f9 g4 g6 g7 g24 g25 g26 f23.toNatClampNeg))) [(m0, .inr (7, [.int f0, .int f1, .int f2, .int f3, .ref a4, .int f5, .ref a6, .ref a7, .int f8, .int f9, .int f10, .int f11, .int f12, .int f13, .int f14, .ref a15, .ref a16, .ref a17, .int f18, .int f19, .int f20, .ref a21, .ref a22, .int f23, .ref a24, .ref a25, .ref a26, .ref a27, .ref a28, .ref a29, .ref a30, .int f31])), (a4, .inl (G.2.1, 20, .inl g4)), (a6, .inl (G.2.1, 4, .inl g6)), (a7, .inl (G.2.1, 4, .inl g7)), (a15, .inl (G.2.1, 20, .inl g15)), (a16, .inl (G.2.1, 4, .inl g16)), (a17, .inl (G.2.1, 4, .inl g17)), (a21, .inl (G.2.1, 20, .inl g21)), (a22, .inl (G.2.1, 40, .inl g22)), (a24, .inl (G.2.1, 8, .inl g24)), (a25, .inl (G.2.1, 8, .inl g25)), (a26, .inl (G.2.2.1, 8, .inl g26)), (a27, .inl (G.2.1, 4, .inl g27)), (a28, .inl (G.2.1, 4, .inl g28)), (a29, .inl (G.2.1, 240, .inl g29)), (a30, .inl (G.2.1, 60, .inl g30))]
def K_X7_noCell (l : Launch) (G : GT) : Prop := ∀ (m0 : Nat) (a4 : Nat) (a6 : Nat) (a7 : Nat) (a15 : Nat) (a16 : Nat) (a17 : Nat) (a21 : Nat) (a22 : Nat) (a24 : Nat) (a25 : Nat) (a26 : Nat) (a27 : Nat) (a28 : Nat) (a29 : Nat) (a30 : Nat) (f0 : Int32) (f1 : Int32) (f2 : Int32) (f3 : Int32) (f5 : Int32) (f8 : Int32) (f9 : Int32) (f10 : Int32) (f11 : Int32) (f12 : Int32) (f13 : Int32) (f14 : Int32) (f18 : Int32) (f19 : Int32) (f20 : Int32) (f23 : Int32) (f31 : Int32) (g4 : Nat → Int32) (g6 : Nat → Int32) (g7 : Nat → Int32) (g15 : Nat → Int32) (g16 : Nat → Int32) (g17 : Nat → Int32) (g21 : Nat → Int32) (g22 : Nat → Int32) (g24 : Nat → Int32) (g25 : Nat → Int32) (g26 : Nat → Int32) (g27 : Nat → Int32) (g28 : Nat → Int32) (g29 : Nat → Int32) (g30 : Nat → Int32) (k : Int32) (ii : Int32), (vp_in k 4) → MF l G yX7_noCell cX7_noCell 3 (some .int) rm_X7_noCell [.ref m0, .int k, .int ii] [(m0, .inr (7, [.int f0, .int f1, .int f2, .int f3, .ref a4, .int f5, .ref a6, .ref a7, .int f8, .int f9, .int f10, .int f11, .int f12, .int f13, .int f14, .ref a15, .ref a16, .ref a17, .int f18, .int f19, .int f20, .ref a21, .ref a22, .int f23, .ref a24, .ref a25, .ref a26, .ref a27, .ref a28, .ref a29, .ref a30, .int f31])), (a4, .inl (G.2.1, 20, .inl g4)), (a6, .inl (G.2.1, 4, .inl g6)), (a7, .inl (G.2.1, 4, .inl g7)), (a15, .inl (G.2.1, 20, .inl g15)), (a16, .inl (G.2.1, 4, .inl g16)), (a17, .inl (G.2.1, 4, .inl g17)), (a21, .inl (G.2.1, 20, .inl g21)), (a22, .inl (G.2.1, 40, .inl g22)), (a24, .inl (G.2.1, 8, .inl g24)), (a25, .inl (G.2.1, 8, .inl g25)), (a26, .inl (G.2.2.1, 8, .inl g26)), (a27, .inl (G.2.1, 4, .inl g27)), (a28, .inl (G.2.1, 4, .inl g28)), (a29, .inl (G.2.1, 240, .inl g29)), (a30, .inl (G.2.1, 60, .inl g30))] (some (.int (q_noCell g27 k ii))) [(m0, .inr (7, [.int f0, .int f1, .int f2, .int f3, .ref a4, .int f5, .ref a6, .ref a7, .int f8, .int f9, .int f10, .int f11, .int f12, .int f13, .int f14, .ref a15, .ref a16, .ref a17, .int f18, .int f19, .int f20, .ref a21, .ref a22, .int f23, .ref a24, .ref a25, .ref a26, .ref a27, .ref a28, .ref a29, .ref a30, .int f31])), (a4, .inl (G.2.1, 20, .inl g4)), (a6, .inl (G.2.1, 4, .inl g6)), (a7, .inl (G.2.1, 4, .inl g7)), (a15, .inl (G.2.1, 20, .inl g15)), (a16, .inl (G.2.1, 4, .inl g16)), (a17, .inl (G.2.1, 4, .inl g17)), (a21, .inl (G.2.1, 20, .inl g21)), (a22, .inl (G.2.1, 40, .inl g22)), (a24, .inl (G.2.1, 8, .inl g24)), (a25, .inl (G.2.1, 8, .inl g25)), (a26, .inl (G.2.2.1, 8, .inl g26)), (a27, .inl (G.2.1, 4, .inl g27)), (a28, .inl (G.2.1, 4, .inl g28)), (a29, .inl (G.2.1, 240, .inl g29)), (a30, .inl (G.2.1, 60, .inl g30))]
def K_X7_traced (l : Launch) (G : GT) : Prop := ∀ (m0 : Nat) (a4 : Nat) (a6 : Nat) (a7 : Nat) (a15 : Nat) (a16 : Nat) (a17 : Nat) (a21 : Nat) (a22 : Nat) (a24 : Nat) (a25 : Nat) (a26 : Nat) (a27 : Nat) (a28 : Nat) (a29 : Nat) (a30 : Nat) (f0 : Int32) (f1 : Int32) (f2 : Int32) (f3 : Int32) (f5 : Int32) (f8 : Int32) (f9 : Int32) (f10 : Int32) (f11 : Int32) (f12 : Int32) (f13 : Int32) (f14 : Int32) (f18 : Int32) (f19 : Int32) (f20 : Int32) (f23 : Int32) (f31 : Int32) (g4 : Nat → Int32) (g6 : Nat → Int32) (g7 : Nat → Int32) (g15 : Nat → Int32) (g16 : Nat → Int32) (g17 : Nat → Int32) (g21 : Nat → Int32) (g22 : Nat → Int32) (g24 : Nat → Int32) (g25 : Nat → Int32) (g26 : Nat → Int32) (g27 : Nat → Int32) (g28 : Nat → Int32) (g29 : Nat → Int32) (g30 : Nat → Int32) (n : Int32), MF l G yX7_traced cX7_traced 2 none rm_X7_traced [.ref m0, .int n] [(m0, .inr (7, [.int f0, .int f1, .int f2, .int f3, .ref a4, .int f5, .ref a6, .ref a7, .int f8, .int f9, .int f10, .int f11, .int f12, .int f13, .int f14, .ref a15, .ref a16, .ref a17, .int f18, .int f19, .int f20, .ref a21, .ref a22, .int f23, .ref a24, .ref a25, .ref a26, .ref a27, .ref a28, .ref a29, .ref a30, .int f31])), (a4, .inl (G.2.1, 20, .inl g4)), (a6, .inl (G.2.1, 4, .inl g6)), (a7, .inl (G.2.1, 4, .inl g7)), (a15, .inl (G.2.1, 20, .inl g15)), (a16, .inl (G.2.1, 4, .inl g16)), (a17, .inl (G.2.1, 4, .inl g17)), (a21, .inl (G.2.1, 20, .inl g21)), (a22, .inl (G.2.1, 40, .inl g22)), (a24, .inl (G.2.1, 8, .inl g24)), (a25, .inl (G.2.1, 8, .inl g25)), (a26, .inl (G.2.2.1, 8, .inl g26)), (a27, .inl (G.2.1, 4, .inl g27)), (a28, .inl (G.2.1, 4, .inl g28)), (a29, .inl (G.2.1, 240, .inl g29)), (a30, .inl (G.2.1, 60, .inl g30))] none [(m0, .inr (7, [.int f0, .int f1, .int f2, .int f3, .ref a4, .int f5, .ref a6, .ref a7, .int f8, .int f9, .int f10, .int f11, .int f12, .int f13, .int f14, .ref a15, .ref a16, .ref a17, .int f18, .int f19, .int f20, .ref a21, .ref a22, .int f23, .ref a24, .ref a25, .ref a26, .ref a27, .ref a28, .ref a29, .ref a30, .int (31 * f31 + n)])), (a4, .inl (G.2.1, 20, .inl g4)), (a6, .inl (G.2.1, 4, .inl g6)), (a7, .inl (G.2.1, 4, .inl g7)), (a15, .inl (G.2.1, 20, .inl g15)), (a16, .inl (G.2.1, 4, .inl g16)), (a17, .inl (G.2.1, 4, .inl g17)), (a21, .inl (G.2.1, 20, .inl g21)), (a22, .inl (G.2.1, 40, .inl g22)), (a24, .inl (G.2.1, 8, .inl g24)), (a25, .inl (G.2.1, 8, .inl g25)), (a26, .inl (G.2.2.1, 8, .inl g26)), (a27, .inl (G.2.1, 4, .inl g27)), (a28, .inl (G.2.1, 4, .inl g28)), (a29, .inl (G.2.1, 240, .inl g29)), (a30, .inl (G.2.1, 60, .inl g30))]
def K_X7_canal (l : Launch) (G : GT) : Prop := ∀ (m0 : Nat) (a4 : Nat) (a6 : Nat) (a7 : Nat) (a15 : Nat) (a16 : Nat) (a17 : Nat) (a21 : Nat) (a22 : Nat) (a24 : Nat) (a25 : Nat) (a26 : Nat) (a27 : Nat) (a28 : Nat) (a29 : Nat) (a30 : Nat) (f0 : Int32) (f1 : Int32) (f2 : Int32) (f3 : Int32) (f5 : Int32) (f8 : Int32) (f9 : Int32) (f10 : Int32) (f11 : Int32) (f12 : Int32) (f13 : Int32) (f14 : Int32) (f18 : Int32) (f19 : Int32) (f20 : Int32) (f23 : Int32) (f31 : Int32) (g4 : Nat → Int32) (g6 : Nat → Int32) (g7 : Nat → Int32) (g15 : Nat → Int32) (g16 : Nat → Int32) (g17 : Nat → Int32) (g21 : Nat → Int32) (g22 : Nat → Int32) (g24 : Nat → Int32) (g25 : Nat → Int32) (g26 : Nat → Int32) (g27 : Nat → Int32) (g28 : Nat → Int32) (g29 : Nat → Int32) (g30 : Nat → Int32) (k : Int32) (lane : Int32) (i : Int32) (n : Int32), (okSz g27) → MFJ l G yX7_canal cX7_canal 7 (some .int) rm_X7_canal [.ref m0, .int k, .int lane, .int i, .int n] [(m0, .inr (7, [.int f0, .int f1, .int f2, .int f3, .ref a4, .int f5, .ref a6, .ref a7, .int f8, .int f9, .int f10, .int f11, .int f12, .int f13, .int f14, .ref a15, .ref a16, .ref a17, .int f18, .int f19, .int f20, .ref a21, .ref a22, .int f23, .ref a24, .ref a25, .ref a26, .ref a27, .ref a28, .ref a29, .ref a30, .int f31])), (a4, .inl (G.2.1, 20, .inl g4)), (a6, .inl (G.2.1, 4, .inl g6)), (a7, .inl (G.2.1, 4, .inl g7)), (a15, .inl (G.2.1, 20, .inl g15)), (a16, .inl (G.2.1, 4, .inl g16)), (a17, .inl (G.2.1, 4, .inl g17)), (a21, .inl (G.2.1, 20, .inl g21)), (a22, .inl (G.2.1, 40, .inl g22)), (a24, .inl (G.2.1, 8, .inl g24)), (a25, .inl (G.2.1, 8, .inl g25)), (a26, .inl (G.2.2.1, 8, .inl g26)), (a27, .inl (G.2.1, 4, .inl g27)), (a28, .inl (G.2.1, 4, .inl g28)), (a29, .inl (G.2.1, 240, .inl g29)), (a30, .inl (G.2.1, 60, .inl g30))] (some (.int (m_canalR g27 g28 g29 g15 g16 g17 k lane i n))) (fun jj : Int32 × Int32 × Int32 × Int32 × Int32 × (Nat → Int32) × (Nat → Int32) × (Nat → Int32) => [(m0, .inr (7, [.int (m_canalF g27 g28 k lane i n), .int (if m_cnOk g27 g28 g29 g15 g16 g17 k lane i n then q_hi (60 * k + i) n g29 else f1), .int (if m_cnOk g27 g28 g29 g15 g16 g17 k lane i n then q_wi (60 * k + i) n g29 else f2), .int (if m_cnOk g27 g28 g29 g15 g16 g17 k lane i n then q_fr (60 * k + i) n g29 else f3), .ref a4, .int (if m_cnOk g27 g28 g29 g15 g16 g17 k lane i n then (q_sk (60 * k + i) n g29 g15 g16 g17).2.2.2.1 else f5), .ref a6, .ref a7, .int f8, .int f9, .int jj.1, .int jj.2.1, .int jj.2.2.1, .int jj.2.2.2.1, .int jj.2.2.2.2.1, .ref a15, .ref a16, .ref a17, .int f18, .int f19, .int f20, .ref a21, .ref a22, .int (if m_cnOk g27 g28 g29 g15 g16 g17 k lane i n then 0 else f23), .ref a24, .ref a25, .ref a26, .ref a27, .ref a28, .ref a29, .ref a30, .int f31])), (a4, .inl (G.2.1, 20, .inl (if m_cnOk g27 g28 g29 g15 g16 g17 k lane i n then s_cpN (q_hi (60 * k + i) n g29 * q_wi (60 * k + i) n g29).toNatClampNeg (q_ce (60 * k + i) n g29 g15).2.1 g4 else g4))), (a6, .inl (G.2.1, 4, .inl (if m_cnOk g27 g28 g29 g15 g16 g17 k lane i n then s_cpN (q_sk (60 * k + i) n g29 g15 g16 g17).2.2.2.1.toNatClampNeg (q_sk (60 * k + i) n g29 g15 g16 g17).2.1 g6 else g6))), (a7, .inl (G.2.1, 4, .inl (if m_cnOk g27 g28 g29 g15 g16 g17 k lane i n then s_cpN (q_sk (60 * k + i) n g29 g15 g16 g17).2.2.2.1.toNatClampNeg (q_sk (60 * k + i) n g29 g15 g16 g17).2.2.1 g7 else g7))), (a15, .inl (G.2.1, 20, .inl jj.2.2.2.2.2.1)), (a16, .inl (G.2.1, 4, .inl jj.2.2.2.2.2.2.1)), (a17, .inl (G.2.1, 4, .inl jj.2.2.2.2.2.2.2)), (a21, .inl (G.2.1, 20, .inl g21)), (a22, .inl (G.2.1, 40, .inl g22)), (a24, .inl (G.2.1, 8, .inl g24)), (a25, .inl (G.2.1, 8, .inl g25)), (a26, .inl (G.2.2.1, 8, .inl g26)), (a27, .inl (G.2.1, 4, .inl g27)), (a28, .inl (G.2.1, 4, .inl g28)), (a29, .inl (G.2.1, 240, .inl g29)), (a30, .inl (G.2.1, 60, .inl g30))])
def K_X7_ofSkater (l : Launch) (G : GT) : Prop := ∀ (m0 : Nat) (a4 : Nat) (a6 : Nat) (a7 : Nat) (a15 : Nat) (a16 : Nat) (a17 : Nat) (a21 : Nat) (a22 : Nat) (a24 : Nat) (a25 : Nat) (a26 : Nat) (a27 : Nat) (a28 : Nat) (a29 : Nat) (a30 : Nat) (f0 : Int32) (f1 : Int32) (f2 : Int32) (f3 : Int32) (f5 : Int32) (f8 : Int32) (f9 : Int32) (f10 : Int32) (f11 : Int32) (f12 : Int32) (f13 : Int32) (f14 : Int32) (f18 : Int32) (f19 : Int32) (f20 : Int32) (f23 : Int32) (f31 : Int32) (g4 : Nat → Int32) (g6 : Nat → Int32) (g7 : Nat → Int32) (g15 : Nat → Int32) (g16 : Nat → Int32) (g17 : Nat → Int32) (g21 : Nat → Int32) (g22 : Nat → Int32) (g24 : Nat → Int32) (g25 : Nat → Int32) (g26 : Nat → Int32) (g27 : Nat → Int32) (g28 : Nat → Int32) (g29 : Nat → Int32) (g30 : Nat → Int32) (a : Int32) (what : Int32), (okD f1 f2) → (okN f5) → MF l G yX7_ofSkater cX7_ofSkater 3 (some .int) rm_X7_ofSkater [.ref m0, .int a, .int what] [(m0, .inr (7, [.int f0, .int f1, .int f2, .int f3, .ref a4, .int f5, .ref a6, .ref a7, .int f8, .int f9, .int f10, .int f11, .int f12, .int f13, .int f14, .ref a15, .ref a16, .ref a17, .int f18, .int f19, .int f20, .ref a21, .ref a22, .int f23, .ref a24, .ref a25, .ref a26, .ref a27, .ref a28, .ref a29, .ref a30, .int f31])), (a4, .inl (G.2.1, 20, .inl g4)), (a6, .inl (G.2.1, 4, .inl g6)), (a7, .inl (G.2.1, 4, .inl g7)), (a15, .inl (G.2.1, 20, .inl g15)), (a16, .inl (G.2.1, 4, .inl g16)), (a17, .inl (G.2.1, 4, .inl g17)), (a21, .inl (G.2.1, 20, .inl g21)), (a22, .inl (G.2.1, 40, .inl g22)), (a24, .inl (G.2.1, 8, .inl g24)), (a25, .inl (G.2.1, 8, .inl g25)), (a26, .inl (G.2.2.1, 8, .inl g26)), (a27, .inl (G.2.1, 4, .inl g27)), (a28, .inl (G.2.1, 4, .inl g28)), (a29, .inl (G.2.1, 240, .inl g29)), (a30, .inl (G.2.1, 60, .inl g30))] (some (.int (m_ofSkater f1 f2 f5 f8 f9 g4 g6 g7 a what))) [(m0, .inr (7, [.int f0, .int f1, .int f2, .int f3, .ref a4, .int f5, .ref a6, .ref a7, .int f8, .int f9, .int f10, .int f11, .int f12, .int f13, .int f14, .ref a15, .ref a16, .ref a17, .int f18, .int f19, .int f20, .ref a21, .ref a22, .int f23, .ref a24, .ref a25, .ref a26, .ref a27, .ref a28, .ref a29, .ref a30, .int f31])), (a4, .inl (G.2.1, 20, .inl g4)), (a6, .inl (G.2.1, 4, .inl g6)), (a7, .inl (G.2.1, 4, .inl g7)), (a15, .inl (G.2.1, 20, .inl g15)), (a16, .inl (G.2.1, 4, .inl g16)), (a17, .inl (G.2.1, 4, .inl g17)), (a21, .inl (G.2.1, 20, .inl g21)), (a22, .inl (G.2.1, 40, .inl g22)), (a24, .inl (G.2.1, 8, .inl g24)), (a25, .inl (G.2.1, 8, .inl g25)), (a26, .inl (G.2.2.1, 8, .inl g26)), (a27, .inl (G.2.1, 4, .inl g27)), (a28, .inl (G.2.1, 4, .inl g28)), (a29, .inl (G.2.1, 240, .inl g29)), (a30, .inl (G.2.1, 60, .inl g30))]
def K_X7_strength (l : Launch) (G : GT) : Prop := ∀ (m0 : Nat) (a4 : Nat) (a6 : Nat) (a7 : Nat) (a15 : Nat) (a16 : Nat) (a17 : Nat) (a21 : Nat) (a22 : Nat) (a24 : Nat) (a25 : Nat) (a26 : Nat) (a27 : Nat) (a28 : Nat) (a29 : Nat) (a30 : Nat) (f0 : Int32) (f1 : Int32) (f2 : Int32) (f3 : Int32) (f5 : Int32) (f8 : Int32) (f9 : Int32) (f10 : Int32) (f11 : Int32) (f12 : Int32) (f13 : Int32) (f14 : Int32) (f18 : Int32) (f19 : Int32) (f20 : Int32) (f23 : Int32) (f31 : Int32) (g4 : Nat → Int32) (g6 : Nat → Int32) (g7 : Nat → Int32) (g15 : Nat → Int32) (g16 : Nat → Int32) (g17 : Nat → Int32) (g21 : Nat → Int32) (g22 : Nat → Int32) (g24 : Nat → Int32) (g25 : Nat → Int32) (g26 : Nat → Int32) (g27 : Nat → Int32) (g28 : Nat → Int32) (g29 : Nat → Int32) (g30 : Nat → Int32) (ce : Int32), (okD f1 f2) → MF l G yX7_strength cX7_strength 2 (some .int) rm_X7_strength [.ref m0, .int ce] [(m0, .inr (7, [.int f0, .int f1, .int f2, .int f3, .ref a4, .int f5, .ref a6, .ref a7, .int f8, .int f9, .int f10, .int f11, .int f12, .int f13, .int f14, .ref a15, .ref a16, .ref a17, .int f18, .int f19, .int f20, .ref a21, .ref a22, .int f23, .ref a24, .ref a25, .ref a26, .ref a27, .ref a28, .ref a29, .ref a30, .int f31])), (a4, .inl (G.2.1, 20, .inl g4)), (a6, .inl (G.2.1, 4, .inl g6)), (a7, .inl (G.2.1, 4, .inl g7)), (a15, .inl (G.2.1, 20, .inl g15)), (a16, .inl (G.2.1, 4, .inl g16)), (a17, .inl (G.2.1, 4, .inl g17)), (a21, .inl (G.2.1, 20, .inl g21)), (a22, .inl (G.2.1, 40, .inl g22)), (a24, .inl (G.2.1, 8, .inl g24)), (a25, .inl (G.2.1, 8, .inl g25)), (a26, .inl (G.2.2.1, 8, .inl g26)), (a27, .inl (G.2.1, 4, .inl g27)), (a28, .inl (G.2.1, 4, .inl g28)), (a29, .inl (G.2.1, 240, .inl g29)), (a30, .inl (G.2.1, 60, .inl g30))] (some (.int (m_strength f1 f2 g4 ce))) [(m0, .inr (7, [.int f0, .int f1, .int f2, .int f3, .ref a4, .int f5, .ref a6, .ref a7, .int f8, .int f9, .int f10, .int f11, .int f12, .int f13, .int f14, .ref a15, .ref a16, .ref a17, .int f18, .int f19, .int f20, .ref a21, .ref a22, .int f23, .ref a24, .ref a25, .ref a26, .ref a27, .ref a28, .ref a29, .ref a30, .int f31])), (a4, .inl (G.2.1, 20, .inl g4)), (a6, .inl (G.2.1, 4, .inl g6)), (a7, .inl (G.2.1, 4, .inl g7)), (a15, .inl (G.2.1, 20, .inl g15)), (a16, .inl (G.2.1, 4, .inl g16)), (a17, .inl (G.2.1, 4, .inl g17)), (a21, .inl (G.2.1, 20, .inl g21)), (a22, .inl (G.2.1, 40, .inl g22)), (a24, .inl (G.2.1, 8, .inl g24)), (a25, .inl (G.2.1, 8, .inl g25)), (a26, .inl (G.2.2.1, 8, .inl g26)), (a27, .inl (G.2.1, 4, .inl g27)), (a28, .inl (G.2.1, 4, .inl g28)), (a29, .inl (G.2.1, 240, .inl g29)), (a30, .inl (G.2.1, 60, .inl g30))]
def K_X7_freeze (l : Launch) (G : GT) : Prop := ∀ (m0 : Nat) (a4 : Nat) (a6 : Nat) (a7 : Nat) (a15 : Nat) (a16 : Nat) (a17 : Nat) (a21 : Nat) (a22 : Nat) (a24 : Nat) (a25 : Nat) (a26 : Nat) (a27 : Nat) (a28 : Nat) (a29 : Nat) (a30 : Nat) (f0 : Int32) (f1 : Int32) (f2 : Int32) (f3 : Int32) (f5 : Int32) (f8 : Int32) (f9 : Int32) (f10 : Int32) (f11 : Int32) (f12 : Int32) (f13 : Int32) (f14 : Int32) (f18 : Int32) (f19 : Int32) (f20 : Int32) (f23 : Int32) (f31 : Int32) (g4 : Nat → Int32) (g6 : Nat → Int32) (g7 : Nat → Int32) (g15 : Nat → Int32) (g16 : Nat → Int32) (g17 : Nat → Int32) (g21 : Nat → Int32) (g22 : Nat → Int32) (g24 : Nat → Int32) (g25 : Nat → Int32) (g26 : Nat → Int32) (g27 : Nat → Int32) (g28 : Nat → Int32) (g29 : Nat → Int32) (g30 : Nat → Int32) (ce : Int32) (v : Int32), (okD f1 f2) → MF l G yX7_freeze cX7_freeze 4 (some .int) rm_X7_freeze [.ref m0, .int ce, .int v] [(m0, .inr (7, [.int f0, .int f1, .int f2, .int f3, .ref a4, .int f5, .ref a6, .ref a7, .int f8, .int f9, .int f10, .int f11, .int f12, .int f13, .int f14, .ref a15, .ref a16, .ref a17, .int f18, .int f19, .int f20, .ref a21, .ref a22, .int f23, .ref a24, .ref a25, .ref a26, .ref a27, .ref a28, .ref a29, .ref a30, .int f31])), (a4, .inl (G.2.1, 20, .inl g4)), (a6, .inl (G.2.1, 4, .inl g6)), (a7, .inl (G.2.1, 4, .inl g7)), (a15, .inl (G.2.1, 20, .inl g15)), (a16, .inl (G.2.1, 4, .inl g16)), (a17, .inl (G.2.1, 4, .inl g17)), (a21, .inl (G.2.1, 20, .inl g21)), (a22, .inl (G.2.1, 40, .inl g22)), (a24, .inl (G.2.1, 8, .inl g24)), (a25, .inl (G.2.1, 8, .inl g25)), (a26, .inl (G.2.2.1, 8, .inl g26)), (a27, .inl (G.2.1, 4, .inl g27)), (a28, .inl (G.2.1, 4, .inl g28)), (a29, .inl (G.2.1, 240, .inl g29)), (a30, .inl (G.2.1, 60, .inl g30))] (some (.int (m_freezeR f1 f2 g4 ce v))) [(m0, .inr (7, [.int f0, .int f1, .int f2, .int f3, .ref a4, .int f5, .ref a6, .ref a7, .int f8, .int f9, .int f10, .int f11, .int f12, .int f13, .int f14, .ref a15, .ref a16, .ref a17, .int f18, .int f19, .int f20, .ref a21, .ref a22, .int f23, .ref a24, .ref a25, .ref a26, .ref a27, .ref a28, .ref a29, .ref a30, .int f31])), (a4, .inl (G.2.1, 20, .inl (m_freezeS f1 f2 g4 ce v))), (a6, .inl (G.2.1, 4, .inl g6)), (a7, .inl (G.2.1, 4, .inl g7)), (a15, .inl (G.2.1, 20, .inl g15)), (a16, .inl (G.2.1, 4, .inl g16)), (a17, .inl (G.2.1, 4, .inl g17)), (a21, .inl (G.2.1, 20, .inl g21)), (a22, .inl (G.2.1, 40, .inl g22)), (a24, .inl (G.2.1, 8, .inl g24)), (a25, .inl (G.2.1, 8, .inl g25)), (a26, .inl (G.2.2.1, 8, .inl g26)), (a27, .inl (G.2.1, 4, .inl g27)), (a28, .inl (G.2.1, 4, .inl g28)), (a29, .inl (G.2.1, 240, .inl g29)), (a30, .inl (G.2.1, 60, .inl g30))]
def K_X7_frost (l : Launch) (G : GT) : Prop := ∀ (m0 : Nat) (a4 : Nat) (a6 : Nat) (a7 : Nat) (a15 : Nat) (a16 : Nat) (a17 : Nat) (a21 : Nat) (a22 : Nat) (a24 : Nat) (a25 : Nat) (a26 : Nat) (a27 : Nat) (a28 : Nat) (a29 : Nat) (a30 : Nat) (f0 : Int32) (f1 : Int32) (f2 : Int32) (f3 : Int32) (f5 : Int32) (f8 : Int32) (f9 : Int32) (f10 : Int32) (f11 : Int32) (f12 : Int32) (f13 : Int32) (f14 : Int32) (f18 : Int32) (f19 : Int32) (f20 : Int32) (f23 : Int32) (f31 : Int32) (g4 : Nat → Int32) (g6 : Nat → Int32) (g7 : Nat → Int32) (g15 : Nat → Int32) (g16 : Nat → Int32) (g17 : Nat → Int32) (g21 : Nat → Int32) (g22 : Nat → Int32) (g24 : Nat → Int32) (g25 : Nat → Int32) (g26 : Nat → Int32) (g27 : Nat → Int32) (g28 : Nat → Int32) (g29 : Nat → Int32) (g30 : Nat → Int32) (v : Int32), MF l G yX7_frost cX7_frost 3 (some .int) rm_X7_frost [.ref m0, .int v] [(m0, .inr (7, [.int f0, .int f1, .int f2, .int f3, .ref a4, .int f5, .ref a6, .ref a7, .int f8, .int f9, .int f10, .int f11, .int f12, .int f13, .int f14, .ref a15, .ref a16, .ref a17, .int f18, .int f19, .int f20, .ref a21, .ref a22, .int f23, .ref a24, .ref a25, .ref a26, .ref a27, .ref a28, .ref a29, .ref a30, .int f31])), (a4, .inl (G.2.1, 20, .inl g4)), (a6, .inl (G.2.1, 4, .inl g6)), (a7, .inl (G.2.1, 4, .inl g7)), (a15, .inl (G.2.1, 20, .inl g15)), (a16, .inl (G.2.1, 4, .inl g16)), (a17, .inl (G.2.1, 4, .inl g17)), (a21, .inl (G.2.1, 20, .inl g21)), (a22, .inl (G.2.1, 40, .inl g22)), (a24, .inl (G.2.1, 8, .inl g24)), (a25, .inl (G.2.1, 8, .inl g25)), (a26, .inl (G.2.2.1, 8, .inl g26)), (a27, .inl (G.2.1, 4, .inl g27)), (a28, .inl (G.2.1, 4, .inl g28)), (a29, .inl (G.2.1, 240, .inl g29)), (a30, .inl (G.2.1, 60, .inl g30))] (some (.int (m_wx f5 v f3))) [(m0, .inr (7, [.int f0, .int f1, .int f2, .int (if m_wxOk f5 v then v else f3), .ref a4, .int f5, .ref a6, .ref a7, .int f8, .int f9, .int f10, .int f11, .int f12, .int f13, .int f14, .ref a15, .ref a16, .ref a17, .int f18, .int f19, .int f20, .ref a21, .ref a22, .int f23, .ref a24, .ref a25, .ref a26, .ref a27, .ref a28, .ref a29, .ref a30, .int f31])), (a4, .inl (G.2.1, 20, .inl g4)), (a6, .inl (G.2.1, 4, .inl g6)), (a7, .inl (G.2.1, 4, .inl g7)), (a15, .inl (G.2.1, 20, .inl g15)), (a16, .inl (G.2.1, 4, .inl g16)), (a17, .inl (G.2.1, 4, .inl g17)), (a21, .inl (G.2.1, 20, .inl g21)), (a22, .inl (G.2.1, 40, .inl g22)), (a24, .inl (G.2.1, 8, .inl g24)), (a25, .inl (G.2.1, 8, .inl g25)), (a26, .inl (G.2.2.1, 8, .inl g26)), (a27, .inl (G.2.1, 4, .inl g27)), (a28, .inl (G.2.1, 4, .inl g28)), (a29, .inl (G.2.1, 240, .inl g29)), (a30, .inl (G.2.1, 60, .inl g30))]
def K_X7_deed (l : Launch) (G : GT) : Prop := ∀ (m0 : Nat) (a4 : Nat) (a6 : Nat) (a7 : Nat) (a15 : Nat) (a16 : Nat) (a17 : Nat) (a21 : Nat) (a22 : Nat) (a24 : Nat) (a25 : Nat) (a26 : Nat) (a27 : Nat) (a28 : Nat) (a29 : Nat) (a30 : Nat) (f0 : Int32) (f1 : Int32) (f2 : Int32) (f3 : Int32) (f5 : Int32) (f8 : Int32) (f9 : Int32) (f10 : Int32) (f11 : Int32) (f12 : Int32) (f13 : Int32) (f14 : Int32) (f18 : Int32) (f19 : Int32) (f20 : Int32) (f23 : Int32) (f31 : Int32) (g4 : Nat → Int32) (g6 : Nat → Int32) (g7 : Nat → Int32) (g15 : Nat → Int32) (g16 : Nat → Int32) (g17 : Nat → Int32) (g21 : Nat → Int32) (g22 : Nat → Int32) (g24 : Nat → Int32) (g25 : Nat → Int32) (g26 : Nat → Int32) (g27 : Nat → Int32) (g28 : Nat → Int32) (g29 : Nat → Int32) (g30 : Nat → Int32) (a : Int32) (b : Int32) (ce : Int32) (k : Int32) (lane : Int32) (i : Int32) (n : Int32) (what : Int32), (okD f1 f2) → (okN f5) → (okSz g27) → MFJ l G yX7_deed cX7_deed 11 (some .int) rm_X7_deed [.ref m0, .int a, .int b, .int ce, .int k, .int lane, .int i, .int n, .int what] [(m0, .inr (7, [.int f0, .int f1, .int f2, .int f3, .ref a4, .int f5, .ref a6, .ref a7, .int f8, .int f9, .int f10, .int f11, .int f12, .int f13, .int f14, .ref a15, .ref a16, .ref a17, .int f18, .int f19, .int f20, .ref a21, .ref a22, .int f23, .ref a24, .ref a25, .ref a26, .ref a27, .ref a28, .ref a29, .ref a30, .int f31])), (a4, .inl (G.2.1, 20, .inl g4)), (a6, .inl (G.2.1, 4, .inl g6)), (a7, .inl (G.2.1, 4, .inl g7)), (a15, .inl (G.2.1, 20, .inl g15)), (a16, .inl (G.2.1, 4, .inl g16)), (a17, .inl (G.2.1, 4, .inl g17)), (a21, .inl (G.2.1, 20, .inl g21)), (a22, .inl (G.2.1, 40, .inl g22)), (a24, .inl (G.2.1, 8, .inl g24)), (a25, .inl (G.2.1, 8, .inl g25)), (a26, .inl (G.2.2.1, 8, .inl g26)), (a27, .inl (G.2.1, 4, .inl g27)), (a28, .inl (G.2.1, 4, .inl g28)), (a29, .inl (G.2.1, 240, .inl g29)), (a30, .inl (G.2.1, 60, .inl g30))] (some (.int (m_deedR f1 f2 f5 f8 f9 g4 g6 g7 g27 g28 g29 a b ce k lane i n what))) (fun jj : Int32 × Int32 × Int32 × (Nat → Int32) => [(m0, .inr (7, [.int (m_deedF f1 f2 f5 g27 g28 g29 a b ce k lane i n what), .int f1, .int f2, .int f3, .ref a4, .int f5, .ref a6, .ref a7, .int f8, .int f9, .int f10, .int f11, .int f12, .int f13, .int f14, .ref a15, .ref a16, .ref a17, .int jj.1, .int jj.2.1, .int jj.2.2.1, .ref a21, .ref a22, .int f23, .ref a24, .ref a25, .ref a26, .ref a27, .ref a28, .ref a29, .ref a30, .int f31])), (a4, .inl (G.2.1, 20, .inl (m_deedS4 f1 f2 f5 f8 f9 g4 g6 g7 g27 g28 g29 g21 a b ce k lane i n what))), (a6, .inl (G.2.1, 4, .inl g6)), (a7, .inl (G.2.1, 4, .inl g7)), (a15, .inl (G.2.1, 20, .inl g15)), (a16, .inl (G.2.1, 4, .inl g16)), (a17, .inl (G.2.1, 4, .inl g17)), (a21, .inl (G.2.1, 20, .inl jj.2.2.2)), (a22, .inl (G.2.1, 40, .inl g22)), (a24, .inl (G.2.1, 8, .inl g24)), (a25, .inl (G.2.1, 8, .inl g25)), (a26, .inl (G.2.2.1, 8, .inl g26)), (a27, .inl (G.2.1, 4, .inl g27)), (a28, .inl (G.2.1, 4, .inl g28)), (a29, .inl (G.2.1, 240, .inl g29)), (a30, .inl (G.2.1, 60, .inl g30))])
def K_X7_write (l : Launch) (G : GT) : Prop := ∀ (m0 : Nat) (a4 : Nat) (a6 : Nat) (a7 : Nat) (a15 : Nat) (a16 : Nat) (a17 : Nat) (a21 : Nat) (a22 : Nat) (a24 : Nat) (a25 : Nat) (a26 : Nat) (a27 : Nat) (a28 : Nat) (a29 : Nat) (a30 : Nat) (f0 : Int32) (f1 : Int32) (f2 : Int32) (f3 : Int32) (f5 : Int32) (f8 : Int32) (f9 : Int32) (f10 : Int32) (f11 : Int32) (f12 : Int32) (f13 : Int32) (f14 : Int32) (f18 : Int32) (f19 : Int32) (f20 : Int32) (f23 : Int32) (f31 : Int32) (g4 : Nat → Int32) (g6 : Nat → Int32) (g7 : Nat → Int32) (g15 : Nat → Int32) (g16 : Nat → Int32) (g17 : Nat → Int32) (g21 : Nat → Int32) (g22 : Nat → Int32) (g24 : Nat → Int32) (g25 : Nat → Int32) (g26 : Nat → Int32) (g27 : Nat → Int32) (g28 : Nat → Int32) (g29 : Nat → Int32) (g30 : Nat → Int32) (a : Int32) (b : Int32) (ce : Int32) (k : Int32) (lane : Int32) (i : Int32) (n : Int32), (okD f1 f2) → (okN f5) → (okSz g27) → MFJ l G yX7_write cX7_write 9 (some .int) rm_X7_write [.ref m0, .int a, .int b, .int ce, .int k, .int lane, .int i, .int n] [(m0, .inr (7, [.int f0, .int f1, .int f2, .int f3, .ref a4, .int f5, .ref a6, .ref a7, .int f8, .int f9, .int f10, .int f11, .int f12, .int f13, .int f14, .ref a15, .ref a16, .ref a17, .int f18, .int f19, .int f20, .ref a21, .ref a22, .int f23, .ref a24, .ref a25, .ref a26, .ref a27, .ref a28, .ref a29, .ref a30, .int f31])), (a4, .inl (G.2.1, 20, .inl g4)), (a6, .inl (G.2.1, 4, .inl g6)), (a7, .inl (G.2.1, 4, .inl g7)), (a15, .inl (G.2.1, 20, .inl g15)), (a16, .inl (G.2.1, 4, .inl g16)), (a17, .inl (G.2.1, 4, .inl g17)), (a21, .inl (G.2.1, 20, .inl g21)), (a22, .inl (G.2.1, 40, .inl g22)), (a24, .inl (G.2.1, 8, .inl g24)), (a25, .inl (G.2.1, 8, .inl g25)), (a26, .inl (G.2.2.1, 8, .inl g26)), (a27, .inl (G.2.1, 4, .inl g27)), (a28, .inl (G.2.1, 4, .inl g28)), (a29, .inl (G.2.1, 240, .inl g29)), (a30, .inl (G.2.1, 60, .inl g30))] (some (.int (m_writeR f1 f2 f5 f8 f9 g4 g6 g7 g27 g28 g29 a b ce k lane i n))) (fun jj : Int32 × Int32 × Int32 × (Nat → Int32) => [(m0, .inr (7, [.int (m_writeF f1 f2 f5 g27 g28 g29 a b ce k lane i n), .int f1, .int f2, .int f3, .ref a4, .int f5, .ref a6, .ref a7, .int f8, .int f9, .int f10, .int f11, .int f12, .int f13, .int f14, .ref a15, .ref a16, .ref a17, .int jj.1, .int jj.2.1, .int jj.2.2.1, .ref a21, .ref a22, .int f23, .ref a24, .ref a25, .ref a26, .ref a27, .ref a28, .ref a29, .ref a30, .int f31])), (a4, .inl (G.2.1, 20, .inl (m_writeS4 f1 f2 f5 f8 f9 g4 g6 g7 g27 g28 g29 g21 a b ce k lane i n))), (a6, .inl (G.2.1, 4, .inl g6)), (a7, .inl (G.2.1, 4, .inl g7)), (a15, .inl (G.2.1, 20, .inl g15)), (a16, .inl (G.2.1, 4, .inl g16)), (a17, .inl (G.2.1, 4, .inl g17)), (a21, .inl (G.2.1, 20, .inl jj.2.2.2)), (a22, .inl (G.2.1, 40, .inl g22)), (a24, .inl (G.2.1, 8, .inl g24)), (a25, .inl (G.2.1, 8, .inl g25)), (a26, .inl (G.2.2.1, 8, .inl g26)), (a27, .inl (G.2.1, 4, .inl g27)), (a28, .inl (G.2.1, 4, .inl g28)), (a29, .inl (G.2.1, 240, .inl g29)), (a30, .inl (G.2.1, 60, .inl g30))])
def K_X7_nights (l : Launch) (G : GT) : Prop := ∀ (m0 : Nat) (a4 : Nat) (a6 : Nat) (a7 : Nat) (a15 : Nat) (a16 : Nat) (a17 : Nat) (a21 : Nat) (a22 : Nat) (a24 : Nat) (a25 : Nat) (a26 : Nat) (a27 : Nat) (a28 : Nat) (a29 : Nat) (a30 : Nat) (f0 : Int32) (f1 : Int32) (f2 : Int32) (f3 : Int32) (f5 : Int32) (f8 : Int32) (f9 : Int32) (f10 : Int32) (f11 : Int32) (f12 : Int32) (f13 : Int32) (f14 : Int32) (f18 : Int32) (f19 : Int32) (f20 : Int32) (f23 : Int32) (f31 : Int32) (g4 : Nat → Int32) (g6 : Nat → Int32) (g7 : Nat → Int32) (g15 : Nat → Int32) (g16 : Nat → Int32) (g17 : Nat → Int32) (g21 : Nat → Int32) (g22 : Nat → Int32) (g24 : Nat → Int32) (g25 : Nat → Int32) (g26 : Nat → Int32) (g27 : Nat → Int32) (g28 : Nat → Int32) (g29 : Nat → Int32) (g30 : Nat → Int32) (n : Int32), (okD f1 f2) → MF l G yX7_nights cX7_nights 4 (some .int) rm_X7_nights [.ref m0, .int n] [(m0, .inr (7, [.int f0, .int f1, .int f2, .int f3, .ref a4, .int f5, .ref a6, .ref a7, .int f8, .int f9, .int f10, .int f11, .int f12, .int f13, .int f14, .ref a15, .ref a16, .ref a17, .int f18, .int f19, .int f20, .ref a21, .ref a22, .int f23, .ref a24, .ref a25, .ref a26, .ref a27, .ref a28, .ref a29, .ref a30, .int f31])), (a4, .inl (G.2.1, 20, .inl g4)), (a6, .inl (G.2.1, 4, .inl g6)), (a7, .inl (G.2.1, 4, .inl g7)), (a15, .inl (G.2.1, 20, .inl g15)), (a16, .inl (G.2.1, 4, .inl g16)), (a17, .inl (G.2.1, 4, .inl g17)), (a21, .inl (G.2.1, 20, .inl g21)), (a22, .inl (G.2.1, 40, .inl g22)), (a24, .inl (G.2.1, 8, .inl g24)), (a25, .inl (G.2.1, 8, .inl g25)), (a26, .inl (G.2.2.1, 8, .inl g26)), (a27, .inl (G.2.1, 4, .inl g27)), (a28, .inl (G.2.1, 4, .inl g28)), (a29, .inl (G.2.1, 240, .inl g29)), (a30, .inl (G.2.1, 60, .inl g30))] (some (.int (m_wx f5 n (s_count (m_nightS (f1 * f2).toNatClampNeg (n * f3) g4) 9 (f1 * f2).toNatClampNeg)))) [(m0, .inr (7, [.int f0, .int f1, .int f2, .int f3, .ref a4, .int f5, .ref a6, .ref a7, .int f8, .int f9, .int f10, .int f11, .int f12, .int f13, .int f14, .ref a15, .ref a16, .ref a17, .int f18, .int f19, .int f20, .ref a21, .ref a22, .int f23, .ref a24, .ref a25, .ref a26, .ref a27, .ref a28, .ref a29, .ref a30, .int f31])), (a4, .inl (G.2.1, 20, .inl (if m_wxOk f5 n then m_nightS (f1 * f2).toNatClampNeg (n * f3) g4 else g4))), (a6, .inl (G.2.1, 4, .inl g6)), (a7, .inl (G.2.1, 4, .inl g7)), (a15, .inl (G.2.1, 20, .inl g15)), (a16, .inl (G.2.1, 4, .inl g16)), (a17, .inl (G.2.1, 4, .inl g17)), (a21, .inl (G.2.1, 20, .inl g21)), (a22, .inl (G.2.1, 40, .inl g22)), (a24, .inl (G.2.1, 8, .inl g24)), (a25, .inl (G.2.1, 8, .inl g25)), (a26, .inl (G.2.2.1, 8, .inl g26)), (a27, .inl (G.2.1, 4, .inl g27)), (a28, .inl (G.2.1, 4, .inl g28)), (a29, .inl (G.2.1, 240, .inl g29)), (a30, .inl (G.2.1, 60, .inl g30))]
def K_X7_thaw (l : Launch) (G : GT) : Prop := ∀ (m0 : Nat) (a4 : Nat) (a6 : Nat) (a7 : Nat) (a15 : Nat) (a16 : Nat) (a17 : Nat) (a21 : Nat) (a22 : Nat) (a24 : Nat) (a25 : Nat) (a26 : Nat) (a27 : Nat) (a28 : Nat) (a29 : Nat) (a30 : Nat) (f0 : Int32) (f1 : Int32) (f2 : Int32) (f3 : Int32) (f5 : Int32) (f8 : Int32) (f9 : Int32) (f10 : Int32) (f11 : Int32) (f12 : Int32) (f13 : Int32) (f14 : Int32) (f18 : Int32) (f19 : Int32) (f20 : Int32) (f23 : Int32) (f31 : Int32) (g4 : Nat → Int32) (g6 : Nat → Int32) (g7 : Nat → Int32) (g15 : Nat → Int32) (g16 : Nat → Int32) (g17 : Nat → Int32) (g21 : Nat → Int32) (g22 : Nat → Int32) (g24 : Nat → Int32) (g25 : Nat → Int32) (g26 : Nat → Int32) (g27 : Nat → Int32) (g28 : Nat → Int32) (g29 : Nat → Int32) (g30 : Nat → Int32) (n : Int32), (okD f1 f2) → MF l G yX7_thaw cX7_thaw 4 (some .int) rm_X7_thaw [.ref m0, .int n] [(m0, .inr (7, [.int f0, .int f1, .int f2, .int f3, .ref a4, .int f5, .ref a6, .ref a7, .int f8, .int f9, .int f10, .int f11, .int f12, .int f13, .int f14, .ref a15, .ref a16, .ref a17, .int f18, .int f19, .int f20, .ref a21, .ref a22, .int f23, .ref a24, .ref a25, .ref a26, .ref a27, .ref a28, .ref a29, .ref a30, .int f31])), (a4, .inl (G.2.1, 20, .inl g4)), (a6, .inl (G.2.1, 4, .inl g6)), (a7, .inl (G.2.1, 4, .inl g7)), (a15, .inl (G.2.1, 20, .inl g15)), (a16, .inl (G.2.1, 4, .inl g16)), (a17, .inl (G.2.1, 4, .inl g17)), (a21, .inl (G.2.1, 20, .inl g21)), (a22, .inl (G.2.1, 40, .inl g22)), (a24, .inl (G.2.1, 8, .inl g24)), (a25, .inl (G.2.1, 8, .inl g25)), (a26, .inl (G.2.2.1, 8, .inl g26)), (a27, .inl (G.2.1, 4, .inl g27)), (a28, .inl (G.2.1, 4, .inl g28)), (a29, .inl (G.2.1, 240, .inl g29)), (a30, .inl (G.2.1, 60, .inl g30))] (some (.int (m_wx f5 n (s_count (m_thawS (f1 * f2).toNatClampNeg n g4) 0 (f1 * f2).toNatClampNeg)))) [(m0, .inr (7, [.int f0, .int f1, .int f2, .int f3, .ref a4, .int f5, .ref a6, .ref a7, .int f8, .int f9, .int f10, .int f11, .int f12, .int f13, .int f14, .ref a15, .ref a16, .ref a17, .int f18, .int f19, .int f20, .ref a21, .ref a22, .int f23, .ref a24, .ref a25, .ref a26, .ref a27, .ref a28, .ref a29, .ref a30, .int f31])), (a4, .inl (G.2.1, 20, .inl (if m_wxOk f5 n then m_thawS (f1 * f2).toNatClampNeg n g4 else g4))), (a6, .inl (G.2.1, 4, .inl g6)), (a7, .inl (G.2.1, 4, .inl g7)), (a15, .inl (G.2.1, 20, .inl g15)), (a16, .inl (G.2.1, 4, .inl g16)), (a17, .inl (G.2.1, 4, .inl g17)), (a21, .inl (G.2.1, 20, .inl g21)), (a22, .inl (G.2.1, 40, .inl g22)), (a24, .inl (G.2.1, 8, .inl g24)), (a25, .inl (G.2.1, 8, .inl g25)), (a26, .inl (G.2.2.1, 8, .inl g26)), (a27, .inl (G.2.1, 4, .inl g27)), (a28, .inl (G.2.1, 4, .inl g28)), (a29, .inl (G.2.1, 240, .inl g29)), (a30, .inl (G.2.1, 60, .inl g30))]
def K_X7_bond (l : Launch) (G : GT) : Prop := ∀ (m0 : Nat) (a4 : Nat) (a6 : Nat) (a7 : Nat) (a15 : Nat) (a16 : Nat) (a17 : Nat) (a21 : Nat) (a22 : Nat) (a24 : Nat) (a25 : Nat) (a26 : Nat) (a27 : Nat) (a28 : Nat) (a29 : Nat) (a30 : Nat) (f0 : Int32) (f1 : Int32) (f2 : Int32) (f3 : Int32) (f5 : Int32) (f8 : Int32) (f9 : Int32) (f10 : Int32) (f11 : Int32) (f12 : Int32) (f13 : Int32) (f14 : Int32) (f18 : Int32) (f19 : Int32) (f20 : Int32) (f23 : Int32) (f31 : Int32) (g4 : Nat → Int32) (g6 : Nat → Int32) (g7 : Nat → Int32) (g15 : Nat → Int32) (g16 : Nat → Int32) (g17 : Nat → Int32) (g21 : Nat → Int32) (g22 : Nat → Int32) (g24 : Nat → Int32) (g25 : Nat → Int32) (g26 : Nat → Int32) (g27 : Nat → Int32) (g28 : Nat → Int32) (g29 : Nat → Int32) (g30 : Nat → Int32) (a : Int32) (b : Int32) (fro : Int32) (to : Int32) (k : Int32), (okD f1 f2) → (okN f5) → (m_bKnown f1 f2 f5 a b fro to → m_bondOk f1 f2 f8 f9 g4 g6 g7 (q_bondL f1 f2 f8 f9 g4 g6 g7 g22 a b to) a b fro k) → MFJ l G yX7_bond cX7_bond 9 (some .int) rm_X7_bond [.ref m0, .int a, .int b, .int fro, .int to, .int k] [(m0, .inr (7, [.int f0, .int f1, .int f2, .int f3, .ref a4, .int f5, .ref a6, .ref a7, .int f8, .int f9, .int f10, .int f11, .int f12, .int f13, .int f14, .ref a15, .ref a16, .ref a17, .int f18, .int f19, .int f20, .ref a21, .ref a22, .int f23, .ref a24, .ref a25, .ref a26, .ref a27, .ref a28, .ref a29, .ref a30, .int f31])), (a4, .inl (G.2.1, 20, .inl g4)), (a6, .inl (G.2.1, 4, .inl g6)), (a7, .inl (G.2.1, 4, .inl g7)), (a15, .inl (G.2.1, 20, .inl g15)), (a16, .inl (G.2.1, 4, .inl g16)), (a17, .inl (G.2.1, 4, .inl g17)), (a21, .inl (G.2.1, 20, .inl g21)), (a22, .inl (G.2.1, 40, .inl g22)), (a24, .inl (G.2.1, 8, .inl g24)), (a25, .inl (G.2.1, 8, .inl g25)), (a26, .inl (G.2.2.1, 8, .inl g26)), (a27, .inl (G.2.1, 4, .inl g27)), (a28, .inl (G.2.1, 4, .inl g28)), (a29, .inl (G.2.1, 240, .inl g29)), (a30, .inl (G.2.1, 60, .inl g30))] (some (.int (m_bondR f1 f2 f5 f8 f9 g4 g6 g7 g22 a b fro to k))) (fun jj : (Nat → Int32) => [(m0, .inr (7, [.int f0, .int f1, .int f2, .int f3, .ref a4, .int f5, .ref a6, .ref a7, .int f8, .int f9, .int f10, .int f11, .int f12, .int f13, .int f14, .ref a15, .ref a16, .ref a17, .int f18, .int f19, .int f20, .ref a21, .ref a22, .int f23, .ref a24, .ref a25, .ref a26, .ref a27, .ref a28, .ref a29, .ref a30, .int f31])), (a4, .inl (G.2.1, 20, .inl g4)), (a6, .inl (G.2.1, 4, .inl g6)), (a7, .inl (G.2.1, 4, .inl g7)), (a15, .inl (G.2.1, 20, .inl g15)), (a16, .inl (G.2.1, 4, .inl g16)), (a17, .inl (G.2.1, 4, .inl g17)), (a21, .inl (G.2.1, 20, .inl g21)), (a22, .inl (G.2.1, 40, .inl jj)), (a24, .inl (G.2.1, 8, .inl g24)), (a25, .inl (G.2.1, 8, .inl g25)), (a26, .inl (G.2.2.1, 8, .inl g26)), (a27, .inl (G.2.1, 4, .inl g27)), (a28, .inl (G.2.1, 4, .inl g28)), (a29, .inl (G.2.1, 240, .inl g29)), (a30, .inl (G.2.1, 60, .inl g30))])
def K_X7_holds (l : Launch) (G : GT) : Prop := ∀ (m0 : Nat) (a4 : Nat) (a6 : Nat) (a7 : Nat) (a15 : Nat) (a16 : Nat) (a17 : Nat) (a21 : Nat) (a22 : Nat) (a24 : Nat) (a25 : Nat) (a26 : Nat) (a27 : Nat) (a28 : Nat) (a29 : Nat) (a30 : Nat) (f0 : Int32) (f1 : Int32) (f2 : Int32) (f3 : Int32) (f5 : Int32) (f8 : Int32) (f9 : Int32) (f10 : Int32) (f11 : Int32) (f12 : Int32) (f13 : Int32) (f14 : Int32) (f18 : Int32) (f19 : Int32) (f20 : Int32) (f23 : Int32) (f31 : Int32) (g4 : Nat → Int32) (g6 : Nat → Int32) (g7 : Nat → Int32) (g15 : Nat → Int32) (g16 : Nat → Int32) (g17 : Nat → Int32) (g21 : Nat → Int32) (g22 : Nat → Int32) (g24 : Nat → Int32) (g25 : Nat → Int32) (g26 : Nat → Int32) (g27 : Nat → Int32) (g28 : Nat → Int32) (g29 : Nat → Int32) (g30 : Nat → Int32) (a : Int32) (b : Int32) (fro : Int32) (to : Int32), (okD f1 f2) → (okN f5) → MFJ l G yX7_holds cX7_holds 7 (some .int) rm_X7_holds [.ref m0, .int a, .int b, .int fro, .int to] [(m0, .inr (7, [.int f0, .int f1, .int f2, .int f3, .ref a4, .int f5, .ref a6, .ref a7, .int f8, .int f9, .int f10, .int f11, .int f12, .int f13, .int f14, .ref a15, .ref a16, .ref a17, .int f18, .int f19, .int f20, .ref a21, .ref a22, .int f23, .ref a24, .ref a25, .ref a26, .ref a27, .ref a28, .ref a29, .ref a30, .int f31])), (a4, .inl (G.2.1, 20, .inl g4)), (a6, .inl (G.2.1, 4, .inl g6)), (a7, .inl (G.2.1, 4, .inl g7)), (a15, .inl (G.2.1, 20, .inl g15)), (a16, .inl (G.2.1, 4, .inl g16)), (a17, .inl (G.2.1, 4, .inl g17)), (a21, .inl (G.2.1, 20, .inl g21)), (a22, .inl (G.2.1, 40, .inl g22)), (a24, .inl (G.2.1, 8, .inl g24)), (a25, .inl (G.2.1, 8, .inl g25)), (a26, .inl (G.2.2.1, 8, .inl g26)), (a27, .inl (G.2.1, 4, .inl g27)), (a28, .inl (G.2.1, 4, .inl g28)), (a29, .inl (G.2.1, 240, .inl g29)), (a30, .inl (G.2.1, 60, .inl g30))] (some (.int (m_holdsR f1 f2 f5 f8 g4 g6 g7 g22 a b fro to))) (fun jj : (Nat → Int32) => [(m0, .inr (7, [.int f0, .int f1, .int f2, .int f3, .ref a4, .int f5, .ref a6, .ref a7, .int f8, .int (if m_bKnown f1 f2 f5 a b fro to then 0 else f9), .int f10, .int f11, .int f12, .int f13, .int f14, .ref a15, .ref a16, .ref a17, .int f18, .int f19, .int f20, .ref a21, .ref a22, .int f23, .ref a24, .ref a25, .ref a26, .ref a27, .ref a28, .ref a29, .ref a30, .int f31])), (a4, .inl (G.2.1, 20, .inl g4)), (a6, .inl (G.2.1, 4, .inl g6)), (a7, .inl (G.2.1, 4, .inl g7)), (a15, .inl (G.2.1, 20, .inl g15)), (a16, .inl (G.2.1, 4, .inl g16)), (a17, .inl (G.2.1, 4, .inl g17)), (a21, .inl (G.2.1, 20, .inl g21)), (a22, .inl (G.2.1, 40, .inl jj)), (a24, .inl (G.2.1, 8, .inl g24)), (a25, .inl (G.2.1, 8, .inl g25)), (a26, .inl (G.2.2.1, 8, .inl g26)), (a27, .inl (G.2.1, 4, .inl g27)), (a28, .inl (G.2.1, 4, .inl g28)), (a29, .inl (G.2.1, 240, .inl g29)), (a30, .inl (G.2.1, 60, .inl g30))])
def K_X7_alone (l : Launch) (G : GT) : Prop := ∀ (m0 : Nat) (a4 : Nat) (a6 : Nat) (a7 : Nat) (a15 : Nat) (a16 : Nat) (a17 : Nat) (a21 : Nat) (a22 : Nat) (a24 : Nat) (a25 : Nat) (a26 : Nat) (a27 : Nat) (a28 : Nat) (a29 : Nat) (a30 : Nat) (f0 : Int32) (f1 : Int32) (f2 : Int32) (f3 : Int32) (f5 : Int32) (f8 : Int32) (f9 : Int32) (f10 : Int32) (f11 : Int32) (f12 : Int32) (f13 : Int32) (f14 : Int32) (f18 : Int32) (f19 : Int32) (f20 : Int32) (f23 : Int32) (f31 : Int32) (g4 : Nat → Int32) (g6 : Nat → Int32) (g7 : Nat → Int32) (g15 : Nat → Int32) (g16 : Nat → Int32) (g17 : Nat → Int32) (g21 : Nat → Int32) (g22 : Nat → Int32) (g24 : Nat → Int32) (g25 : Nat → Int32) (g26 : Nat → Int32) (g27 : Nat → Int32) (g28 : Nat → Int32) (g29 : Nat → Int32) (g30 : Nat → Int32) (a : Int32) (fro : Int32), (okD f1 f2) → (okN f5) → MF l G yX7_alone cX7_alone 7 (some .int) rm_X7_alone [.ref m0, .int a, .int fro] [(m0, .inr (7, [.int f0, .int f1, .int f2, .int f3, .ref a4, .int f5, .ref a6, .ref a7, .int f8, .int f9, .int f10, .int f11, .int f12, .int f13, .int f14, .ref a15, .ref a16, .ref a17, .int f18, .int f19, .int f20, .ref a21, .ref a22, .int f23, .ref a24, .ref a25, .ref a26, .ref a27, .ref a28, .ref a29, .ref a30, .int f31])), (a4, .inl (G.2.1, 20, .inl g4)), (a6, .inl (G.2.1, 4, .inl g6)), (a7, .inl (G.2.1, 4, .inl g7)), (a15, .inl (G.2.1, 20, .inl g15)), (a16, .inl (G.2.1, 4, .inl g16)), (a17, .inl (G.2.1, 4, .inl g17)), (a21, .inl (G.2.1, 20, .inl g21)), (a22, .inl (G.2.1, 40, .inl g22)), (a24, .inl (G.2.1, 8, .inl g24)), (a25, .inl (G.2.1, 8, .inl g25)), (a26, .inl (G.2.2.1, 8, .inl g26)), (a27, .inl (G.2.1, 4, .inl g27)), (a28, .inl (G.2.1, 4, .inl g28)), (a29, .inl (G.2.1, 240, .inl g29)), (a30, .inl (G.2.1, 60, .inl g30))] (some (.int (m_aloneR f1 f2 f5 f8 f9 g4 g6 g7 a fro))) [(m0, .inr (7, [.int f0, .int f1, .int f2, .int f3, .ref a4, .int f5, .ref a6, .ref a7, .int f8, .int f9, .int f10, .int f11, .int f12, .int f13, .int f14, .ref a15, .ref a16, .ref a17, .int f18, .int f19, .int f20, .ref a21, .ref a22, .int f23, .ref a24, .ref a25, .ref a26, .ref a27, .ref a28, .ref a29, .ref a30, .int f31])), (a4, .inl (G.2.1, 20, .inl g4)), (a6, .inl (G.2.1, 4, .inl g6)), (a7, .inl (G.2.1, 4, .inl g7)), (a15, .inl (G.2.1, 20, .inl g15)), (a16, .inl (G.2.1, 4, .inl g16)), (a17, .inl (G.2.1, 4, .inl g17)), (a21, .inl (G.2.1, 20, .inl g21)), (a22, .inl (G.2.1, 40, .inl g22)), (a24, .inl (G.2.1, 8, .inl g24)), (a25, .inl (G.2.1, 8, .inl g25)), (a26, .inl (G.2.2.1, 8, .inl g26)), (a27, .inl (G.2.1, 4, .inl g27)), (a28, .inl (G.2.1, 4, .inl g28)), (a29, .inl (G.2.1, 240, .inl g29)), (a30, .inl (G.2.1, 60, .inl g30))]
def K_X7_neck (l : Launch) (G : GT) : Prop := ∀ (m0 : Nat) (a4 : Nat) (a6 : Nat) (a7 : Nat) (a15 : Nat) (a16 : Nat) (a17 : Nat) (a21 : Nat) (a22 : Nat) (a24 : Nat) (a25 : Nat) (a26 : Nat) (a27 : Nat) (a28 : Nat) (a29 : Nat) (a30 : Nat) (f0 : Int32) (f1 : Int32) (f2 : Int32) (f3 : Int32) (f5 : Int32) (f8 : Int32) (f9 : Int32) (f10 : Int32) (f11 : Int32) (f12 : Int32) (f13 : Int32) (f14 : Int32) (f18 : Int32) (f19 : Int32) (f20 : Int32) (f23 : Int32) (f31 : Int32) (g4 : Nat → Int32) (g6 : Nat → Int32) (g7 : Nat → Int32) (g15 : Nat → Int32) (g16 : Nat → Int32) (g17 : Nat → Int32) (g21 : Nat → Int32) (g22 : Nat → Int32) (g24 : Nat → Int32) (g25 : Nat → Int32) (g26 : Nat → Int32) (g27 : Nat → Int32) (g28 : Nat → Int32) (g29 : Nat → Int32) (g30 : Nat → Int32) (a : Int32) (b : Int32) (fro : Int32) (to : Int32), (okD f1 f2) → (okN f5) → MFJ l G yX7_neck cX7_neck 8 (some .int) rm_X7_neck [.ref m0, .int a, .int b, .int fro, .int to] [(m0, .inr (7, [.int f0, .int f1, .int f2, .int f3, .ref a4, .int f5, .ref a6, .ref a7, .int f8, .int f9, .int f10, .int f11, .int f12, .int f13, .int f14, .ref a15, .ref a16, .ref a17, .int f18, .int f19, .int f20, .ref a21, .ref a22, .int f23, .ref a24, .ref a25, .ref a26, .ref a27, .ref a28, .ref a29, .ref a30, .int f31])), (a4, .inl (G.2.1, 20, .inl g4)), (a6, .inl (G.2.1, 4, .inl g6)), (a7, .inl (G.2.1, 4, .inl g7)), (a15, .inl (G.2.1, 20, .inl g15)), (a16, .inl (G.2.1, 4, .inl g16)), (a17, .inl (G.2.1, 4, .inl g17)), (a21, .inl (G.2.1, 20, .inl g21)), (a22, .inl (G.2.1, 40, .inl g22)), (a24, .inl (G.2.1, 8, .inl g24)), (a25, .inl (G.2.1, 8, .inl g25)), (a26, .inl (G.2.2.1, 8, .inl g26)), (a27, .inl (G.2.1, 4, .inl g27)), (a28, .inl (G.2.1, 4, .inl g28)), (a29, .inl (G.2.1, 240, .inl g29)), (a30, .inl (G.2.1, 60, .inl g30))] (some (.int (m_neckR f1 f2 f5 f8 f9 g4 g6 g7 g22 a b fro to))) (fun jj : (Nat → Int32) => [(m0, .inr (7, [.int f0, .int f1, .int f2, .int f3, .ref a4, .int f5, .ref a6, .ref a7, .int (if m_bKnown f1 f2 f5 a b fro to then 0 else f8), .int f9, .int f10, .int f11, .int f12, .int f13, .int f14, .ref a15, .ref a16, .ref a17, .int f18, .int f19, .int f20, .ref a21, .ref a22, .int f23, .ref a24, .ref a25, .ref a26, .ref a27, .ref a28, .ref a29, .ref a30, .int f31])), (a4, .inl (G.2.1, 20, .inl g4)), (a6, .inl (G.2.1, 4, .inl g6)), (a7, .inl (G.2.1, 4, .inl g7)), (a15, .inl (G.2.1, 20, .inl g15)), (a16, .inl (G.2.1, 4, .inl g16)), (a17, .inl (G.2.1, 4, .inl g17)), (a21, .inl (G.2.1, 20, .inl g21)), (a22, .inl (G.2.1, 40, .inl jj)), (a24, .inl (G.2.1, 8, .inl g24)), (a25, .inl (G.2.1, 8, .inl g25)), (a26, .inl (G.2.2.1, 8, .inl g26)), (a27, .inl (G.2.1, 4, .inl g27)), (a28, .inl (G.2.1, 4, .inl g28)), (a29, .inl (G.2.1, 240, .inl g29)), (a30, .inl (G.2.1, 60, .inl g30))])
def K_X7_reading (l : Launch) (G : GT) : Prop := ∀ (m0 : Nat) (a4 : Nat) (a6 : Nat) (a7 : Nat) (a15 : Nat) (a16 : Nat) (a17 : Nat) (a21 : Nat) (a22 : Nat) (a24 : Nat) (a25 : Nat) (a26 : Nat) (a27 : Nat) (a28 : Nat) (a29 : Nat) (a30 : Nat) (f0 : Int32) (f1 : Int32) (f2 : Int32) (f3 : Int32) (f5 : Int32) (f8 : Int32) (f9 : Int32) (f10 : Int32) (f11 : Int32) (f12 : Int32) (f13 : Int32) (f14 : Int32) (f18 : Int32) (f19 : Int32) (f20 : Int32) (f23 : Int32) (f31 : Int32) (g4 : Nat → Int32) (g6 : Nat → Int32) (g7 : Nat → Int32) (g15 : Nat → Int32) (g16 : Nat → Int32) (g17 : Nat → Int32) (g21 : Nat → Int32) (g22 : Nat → Int32) (g24 : Nat → Int32) (g25 : Nat → Int32) (g26 : Nat → Int32) (g27 : Nat → Int32) (g28 : Nat → Int32) (g29 : Nat → Int32) (g30 : Nat → Int32) (a : Int32) (ce : Int32) (bore : Int32), (okR f23 g24 g25) → MF l G yX7_reading cX7_reading 4 (some .int) rm_X7_reading [.ref m0, .int a, .int ce, .int bore] [(m0, .inr (7, [.int f0, .int f1, .int f2, .int f3, .ref a4, .int f5, .ref a6, .ref a7, .int f8, .int f9, .int f10, .int f11, .int f12, .int f13, .int f14, .ref a15, .ref a16, .ref a17, .int f18, .int f19, .int f20, .ref a21, .ref a22, .int f23, .ref a24, .ref a25, .ref a26, .ref a27, .ref a28, .ref a29, .ref a30, .int f31])), (a4, .inl (G.2.1, 20, .inl g4)), (a6, .inl (G.2.1, 4, .inl g6)), (a7, .inl (G.2.1, 4, .inl g7)), (a15, .inl (G.2.1, 20, .inl g15)), (a16, .inl (G.2.1, 4, .inl g16)), (a17, .inl (G.2.1, 4, .inl g17)), (a21, .inl (G.2.1, 20, .inl g21)), (a22, .inl (G.2.1, 40, .inl g22)), (a24, .inl (G.2.1, 8, .inl g24)), (a25, .inl (G.2.1, 8, .inl g25)), (a26, .inl (G.2.2.1, 8, .inl g26)), (a27, .inl (G.2.1, 4, .inl g27)), (a28, .inl (G.2.1, 4, .inl g28)), (a29, .inl (G.2.1, 240, .inl g29)), (a30, .inl (G.2.1, 60, .inl g30))] (some (.int (m_rdR f1 f2 f5 f23 a ce))) [(m0, .inr (7, [.int f0, .int f1, .int f2, .int f3, .ref a4, .int f5, .ref a6, .ref a7, .int f8, .int f9, .int f10, .int f11, .int f12, .int f13, .int f14, .ref a15, .ref a16, .ref a17, .int f18, .int f19, .int f20, .ref a21, .ref a22, .int (if m_rdOk f1 f2 f5 f23 a ce then f23 + 1 else f23), .ref a24, .ref a25, .ref a26, .ref a27, .ref a28, .ref a29, .ref a30, .int f31])), (a4, .inl (G.2.1, 20, .inl g4)), (a6, .inl (G.2.1, 4, .inl g6)), (a7, .inl (G.2.1, 4, .inl g7)), (a15, .inl (G.2.1, 20, .inl g15)), (a16, .inl (G.2.1, 4, .inl g16)), (a17, .inl (G.2.1, 4, .inl g17)), (a21, .inl (G.2.1, 20, .inl g21)), (a22, .inl (G.2.1, 40, .inl g22)), (a24, .inl (G.2.1, 8, .inl (if m_rdOk f1 f2 f5 f23 a ce then upd g24 f23.toNatClampNeg a else g24))), (a25, .inl (G.2.1, 8, .inl (if m_rdOk f1 f2 f5 f23 a ce then upd g25 f23.toNatClampNeg ce else g25))), (a26, .inl (G.2.2.1, 8, .inl (if m_rdOk f1 f2 f5 f23 a ce then upd g26 f23.toNatClampNeg (vp_nar .boolean bore) else g26))), (a27, .inl (G.2.1, 4, .inl g27)), (a28, .inl (G.2.1, 4, .inl g28)), (a29, .inl (G.2.1, 240, .inl g29)), (a30, .inl (G.2.1, 60, .inl g30))]
def K_X7_back (l : Launch) (G : GT) : Prop := ∀ (m0 : Nat) (a4 : Nat) (a6 : Nat) (a7 : Nat) (a15 : Nat) (a16 : Nat) (a17 : Nat) (a21 : Nat) (a22 : Nat) (a24 : Nat) (a25 : Nat) (a26 : Nat) (a27 : Nat) (a28 : Nat) (a29 : Nat) (a30 : Nat) (f0 : Int32) (f1 : Int32) (f2 : Int32) (f3 : Int32) (f5 : Int32) (f8 : Int32) (f9 : Int32) (f10 : Int32) (f11 : Int32) (f12 : Int32) (f13 : Int32) (f14 : Int32) (f18 : Int32) (f19 : Int32) (f20 : Int32) (f23 : Int32) (f31 : Int32) (g4 : Nat → Int32) (g6 : Nat → Int32) (g7 : Nat → Int32) (g15 : Nat → Int32) (g16 : Nat → Int32) (g17 : Nat → Int32) (g21 : Nat → Int32) (g22 : Nat → Int32) (g24 : Nat → Int32) (g25 : Nat → Int32) (g26 : Nat → Int32) (g27 : Nat → Int32) (g28 : Nat → Int32) (g29 : Nat → Int32) (g30 : Nat → Int32) (k : Int32), MF l G yX7_back cX7_back 2 (some .int) rm_X7_back [.ref m0, .int k] [(m0, .inr (7, [.int f0, .int f1, .int f2, .int f3, .ref a4, .int f5, .ref a6, .ref a7, .int f8, .int f9, .int f10, .int f11, .int f12, .int f13, .int f14, .ref a15, .ref a16, .ref a17, .int f18, .int f19, .int f20, .ref a21, .ref a22, .int f23, .ref a24, .ref a25, .ref a26, .ref a27, .ref a28, .ref a29, .ref a30, .int f31])), (a4, .inl (G.2.1, 20, .inl g4)), (a6, .inl (G.2.1, 4, .inl g6)), (a7, .inl (G.2.1, 4, .inl g7)), (a15, .inl (G.2.1, 20, .inl g15)), (a16, .inl (G.2.1, 4, .inl g16)), (a17, .inl (G.2.1, 4, .inl g17)), (a21, .inl (G.2.1, 20, .inl g21)), (a22, .inl (G.2.1, 40, .inl g22)), (a24, .inl (G.2.1, 8, .inl g24)), (a25, .inl (G.2.1, 8, .inl g25)), (a26, .inl (G.2.2.1, 8, .inl g26)), (a27, .inl (G.2.1, 4, .inl g27)), (a28, .inl (G.2.1, 4, .inl g28)), (a29, .inl (G.2.1, 240, .inl g29)), (a30, .inl (G.2.1, 60, .inl g30))] (some (.int (m_backR f23 k))) [(m0, .inr (7, [.int f0, .int f1, .int f2, .int f3, .ref a4, .int f5, .ref a6, .ref a7, .int f8, .int f9, .int f10, .int f11, .int f12, .int f13, .int f14, .ref a15, .ref a16, .ref a17, .int f18, .int f19, .int f20, .ref a21, .ref a22, .int (m_backC f23 k), .ref a24, .ref a25, .ref a26, .ref a27, .ref a28, .ref a29, .ref a30, .int f31])), (a4, .inl (G.2.1, 20, .inl g4)), (a6, .inl (G.2.1, 4, .inl g6)), (a7, .inl (G.2.1, 4, .inl g7)), (a15, .inl (G.2.1, 20, .inl g15)), (a16, .inl (G.2.1, 4, .inl g16)), (a17, .inl (G.2.1, 4, .inl g17)), (a21, .inl (G.2.1, 20, .inl g21)), (a22, .inl (G.2.1, 40, .inl g22)), (a24, .inl (G.2.1, 8, .inl g24)), (a25, .inl (G.2.1, 8, .inl g25)), (a26, .inl (G.2.2.1, 8, .inl g26)), (a27, .inl (G.2.1, 4, .inl g27)), (a28, .inl (G.2.1, 4, .inl g28)), (a29, .inl (G.2.1, 240, .inl g29)), (a30, .inl (G.2.1, 60, .inl g30))]
def K_X7_weights (l : Launch) (G : GT) : Prop := ∀ (m0 : Nat) (a4 : Nat) (a6 : Nat) (a7 : Nat) (a15 : Nat) (a16 : Nat) (a17 : Nat) (a21 : Nat) (a22 : Nat) (a24 : Nat) (a25 : Nat) (a26 : Nat) (a27 : Nat) (a28 : Nat) (a29 : Nat) (a30 : Nat) (f0 : Int32) (f1 : Int32) (f2 : Int32) (f3 : Int32) (f5 : Int32) (f8 : Int32) (f9 : Int32) (f10 : Int32) (f11 : Int32) (f12 : Int32) (f13 : Int32) (f14 : Int32) (f18 : Int32) (f19 : Int32) (f20 : Int32) (f23 : Int32) (f31 : Int32) (g4 : Nat → Int32) (g6 : Nat → Int32) (g7 : Nat → Int32) (g15 : Nat → Int32) (g16 : Nat → Int32) (g17 : Nat → Int32) (g21 : Nat → Int32) (g22 : Nat → Int32) (g24 : Nat → Int32) (g25 : Nat → Int32) (g26 : Nat → Int32) (g27 : Nat → Int32) (g28 : Nat → Int32) (g29 : Nat → Int32) (g30 : Nat → Int32) (a : Int32), (okN f5) → (okR f23 g24 g25) → MF l G yX7_weights cX7_weights 5 (some .int) rm_X7_weights [.ref m0, .int a] [(m0, .inr (7, [.int f0, .int f1, .int f2, .int f3, .ref a4, .int f5, .ref a6, .ref a7, .int f8, .int f9, .int f10, .int f11, .int f12, .int f13, .int f14, .ref a15, .ref a16, .ref a17, .int f18, .int f19, .int f20, .ref a21, .ref a22, .int f23, .ref a24, .ref a25, .ref a26, .ref a27, .ref a28, .ref a29, .ref a30, .int f31])), (a4, .inl (G.2.1, 20, .inl g4)), (a6, .inl (G.2.1, 4, .inl g6)), (a7, .inl (G.2.1, 4, .inl g7)), (a15, .inl (G.2.1, 20, .inl g15)), (a16, .inl (G.2.1, 4, .inl g16)), (a17, .inl (G.2.1, 4, .inl g17)), (a21, .inl (G.2.1, 20, .inl g21)), (a22, .inl (G.2.1, 40, .inl g22)), (a24, .inl (G.2.1, 8, .inl g24)), (a25, .inl (G.2.1, 8, .inl g25)), (a26, .inl (G.2.2.1, 8, .inl g26)), (a27, .inl (G.2.1, 4, .inl g27)), (a28, .inl (G.2.1, 4, .inl g28)), (a29, .inl (G.2.1, 240, .inl g29)), (a30, .inl (G.2.1, 60, .inl g30))] (some (.int (m_weightsR f5 f8 f9 g4 g6 g7 g24 g25 g26 f23.toNatClampNeg a))) [(m0, .inr (7, [.int f0, .int f1, .int f2, .int f3, .ref a4, .int f5, .ref a6, .ref a7, .int f8, .int f9, .int f10, .int f11, .int f12, .int f13, .int f14, .ref a15, .ref a16, .ref a17, .int f18, .int f19, .int f20, .ref a21, .ref a22, .int f23, .ref a24, .ref a25, .ref a26, .ref a27, .ref a28, .ref a29, .ref a30, .int f31])), (a4, .inl (G.2.1, 20, .inl g4)), (a6, .inl (G.2.1, 4, .inl g6)), (a7, .inl (G.2.1, 4, .inl (if q_noSk f5 a = 0 then upd (upd g7 a.toNatClampNeg 9) a.toNatClampNeg (g7 a.toNatClampNeg) else g7))), (a15, .inl (G.2.1, 20, .inl g15)), (a16, .inl (G.2.1, 4, .inl g16)), (a17, .inl (G.2.1, 4, .inl g17)), (a21, .inl (G.2.1, 20, .inl g21)), (a22, .inl (G.2.1, 40, .inl g22)), (a24, .inl (G.2.1, 8, .inl g24)), (a25, .inl (G.2.1, 8, .inl g25)), (a26, .inl (G.2.2.1, 8, .inl g26)), (a27, .inl (G.2.1, 4, .inl g27)), (a28, .inl (G.2.1, 4, .inl g28)), (a29, .inl (G.2.1, 240, .inl g29)), (a30, .inl (G.2.1, 60, .inl g30))]
def K_X7_kinds (l : Launch) (G : GT) : Prop := ∀ (m0 : Nat) (a4 : Nat) (a6 : Nat) (a7 : Nat) (a15 : Nat) (a16 : Nat) (a17 : Nat) (a21 : Nat) (a22 : Nat) (a24 : Nat) (a25 : Nat) (a26 : Nat) (a27 : Nat) (a28 : Nat) (a29 : Nat) (a30 : Nat) (f0 : Int32) (f1 : Int32) (f2 : Int32) (f3 : Int32) (f5 : Int32) (f8 : Int32) (f9 : Int32) (f10 : Int32) (f11 : Int32) (f12 : Int32) (f13 : Int32) (f14 : Int32) (f18 : Int32) (f19 : Int32) (f20 : Int32) (f23 : Int32) (f31 : Int32) (g4 : Nat → Int32) (g6 : Nat → Int32) (g7 : Nat → Int32) (g15 : Nat → Int32) (g16 : Nat → Int32) (g17 : Nat → Int32) (g21 : Nat → Int32) (g22 : Nat → Int32) (g24 : Nat → Int32) (g25 : Nat → Int32) (g26 : Nat → Int32) (g27 : Nat → Int32) (g28 : Nat → Int32) (g29 : Nat → Int32) (g30 : Nat → Int32) (a : Int32), (okN f5) → (okR f23 g24 g25) → MF l G yX7_kinds cX7_kinds 5 (some .int) rm_X7_kinds [.ref m0, .int a] [(m0, .inr (7, [.int f0, .int f1, .int f2, .int f3, .ref a4, .int f5, .ref a6, .ref a7, .int f8, .int f9, .int f10, .int f11, .int f12, .int f13, .int f14, .ref a15, .ref a16, .ref a17, .int f18, .int f19, .int f20, .ref a21, .ref a22, .int f23, .ref a24, .ref a25, .ref a26, .ref a27, .ref a28, .ref a29, .ref a30, .int f31])), (a4, .inl (G.2.1, 20, .inl g4)), (a6, .inl (G.2.1, 4, .inl g6)), (a7, .inl (G.2.1, 4, .inl g7)), (a15, .inl (G.2.1, 20, .inl g15)), (a16, .inl (G.2.1, 4, .inl g16)), (a17, .inl (G.2.1, 4, .inl g17)), (a21, .inl (G.2.1, 20, .inl g21)), (a22, .inl (G.2.1, 40, .inl g22)), (a24, .inl (G.2.1, 8, .inl g24)), (a25, .inl (G.2.1, 8, .inl g25)), (a26, .inl (G.2.2.1, 8, .inl g26)), (a27, .inl (G.2.1, 4, .inl g27)), (a28, .inl (G.2.1, 4, .inl g28)), (a29, .inl (G.2.1, 240, .inl g29)), (a30, .inl (G.2.1, 60, .inl g30))] (some (.int (m_kindsR f5 f8 f9 g4 g6 g7 g24 g25 g26 f23.toNatClampNeg a))) [(m0, .inr (7, [.int f0, .int f1, .int f2, .int f3, .ref a4, .int f5, .ref a6, .ref a7, .int f8, .int f9, .int f10, .int f11, .int f12, .int f13, .int f14, .ref a15, .ref a16, .ref a17, .int f18, .int f19, .int f20, .ref a21, .ref a22, .int f23, .ref a24, .ref a25, .ref a26, .ref a27, .ref a28, .ref a29, .ref a30, .int f31])), (a4, .inl (G.2.1, 20, .inl g4)), (a6, .inl (G.2.1, 4, .inl (if q_noSk f5 a = 0 then upd (upd g6 a.toNatClampNeg 2) a.toNatClampNeg (g6 a.toNatClampNeg) else g6))), (a7, .inl (G.2.1, 4, .inl g7)), (a15, .inl (G.2.1, 20, .inl g15)), (a16, .inl (G.2.1, 4, .inl g16)), (a17, .inl (G.2.1, 4, .inl g17)), (a21, .inl (G.2.1, 20, .inl g21)), (a22, .inl (G.2.1, 40, .inl g22)), (a24, .inl (G.2.1, 8, .inl g24)), (a25, .inl (G.2.1, 8, .inl g25)), (a26, .inl (G.2.2.1, 8, .inl g26)), (a27, .inl (G.2.1, 4, .inl g27)), (a28, .inl (G.2.1, 4, .inl g28)), (a29, .inl (G.2.1, 240, .inl g29)), (a30, .inl (G.2.1, 60, .inl g30))]
def K_X7_strengths (l : Launch) (G : GT) : Prop := ∀ (m0 : Nat) (a4 : Nat) (a6 : Nat) (a7 : Nat) (a15 : Nat) (a16 : Nat) (a17 : Nat) (a21 : Nat) (a22 : Nat) (a24 : Nat) (a25 : Nat) (a26 : Nat) (a27 : Nat) (a28 : Nat) (a29 : Nat) (a30 : Nat) (f0 : Int32) (f1 : Int32) (f2 : Int32) (f3 : Int32) (f5 : Int32) (f8 : Int32) (f9 : Int32) (f10 : Int32) (f11 : Int32) (f12 : Int32) (f13 : Int32) (f14 : Int32) (f18 : Int32) (f19 : Int32) (f20 : Int32) (f23 : Int32) (f31 : Int32) (g4 : Nat → Int32) (g6 : Nat → Int32) (g7 : Nat → Int32) (g15 : Nat → Int32) (g16 : Nat → Int32) (g17 : Nat → Int32) (g21 : Nat → Int32) (g22 : Nat → Int32) (g24 : Nat → Int32) (g25 : Nat → Int32) (g26 : Nat → Int32) (g27 : Nat → Int32) (g28 : Nat → Int32) (g29 : Nat → Int32) (g30 : Nat → Int32) (ce : Int32), (okD f1 f2) → (okR f23 g24 g25) → MF l G yX7_strengths cX7_strengths 5 (some .int) rm_X7_strengths [.ref m0, .int ce] [(m0, .inr (7, [.int f0, .int f1, .int f2, .int f3, .ref a4, .int f5, .ref a6, .ref a7, .int f8, .int f9, .int f10, .int f11, .int f12, .int f13, .int f14, .ref a15, .ref a16, .ref a17, .int f18, .int f19, .int f20, .ref a21, .ref a22, .int f23, .ref a24, .ref a25, .ref a26, .ref a27, .ref a28, .ref a29, .ref a30, .int f31])), (a4, .inl (G.2.1, 20, .inl g4)), (a6, .inl (G.2.1, 4, .inl g6)), (a7, .inl (G.2.1, 4, .inl g7)), (a15, .inl (G.2.1, 20, .inl g15)), (a16, .inl (G.2.1, 4, .inl g16)), (a17, .inl (G.2.1, 4, .inl g17)), (a21, .inl (G.2.1, 20, .inl g21)), (a22, .inl (G.2.1, 40, .inl g22)), (a24, .inl (G.2.1, 8, .inl g24)), (a25, .inl (G.2.1, 8, .inl g25)), (a26, .inl (G.2.2.1, 8, .inl g26)), (a27, .inl (G.2.1, 4, .inl g27)), (a28, .inl (G.2.1, 4, .inl g28)), (a29, .inl (G.2.1, 240, .inl g29)), (a30, .inl (G.2.1, 60, .inl g30))] (some (.int (m_strengthsR f1 f2 f8 f9 g4 g6 g7 g24 g25 g26 f23.toNatClampNeg ce))) [(m0, .inr (7, [.int f0, .int f1, .int f2, .int f3, .ref a4, .int f5, .ref a6, .ref a7, .int f8, .int f9, .int f10, .int f11, .int f12, .int f13, .int f14, .ref a15, .ref a16, .ref a17, .int f18, .int f19, .int f20, .ref a21, .ref a22, .int f23, .ref a24, .ref a25, .ref a26, .ref a27, .ref a28, .ref a29, .ref a30, .int f31])), (a4, .inl (G.2.1, 20, .inl (if q_noPlace f1 f2 ce = 0 then upd (upd g4 ce.toNatClampNeg 9) ce.toNatClampNeg (g4 ce.toNatClampNeg) else g4))), (a6, .inl (G.2.1, 4, .inl g6)), (a7, .inl (G.2.1, 4, .inl g7)), (a15, .inl (G.2.1, 20, .inl g15)), (a16, .inl (G.2.1, 4, .inl g16)), (a17, .inl (G.2.1, 4, .inl g17)), (a21, .inl (G.2.1, 20, .inl g21)), (a22, .inl (G.2.1, 40, .inl g22)), (a24, .inl (G.2.1, 8, .inl g24)), (a25, .inl (G.2.1, 8, .inl g25)), (a26, .inl (G.2.2.1, 8, .inl g26)), (a27, .inl (G.2.1, 4, .inl g27)), (a28, .inl (G.2.1, 4, .inl g28)), (a29, .inl (G.2.1, 240, .inl g29)), (a30, .inl (G.2.1, 60, .inl g30))]
def K_X7_odds (l : Launch) (G : GT) : Prop := ∀ (m0 : Nat) (a4 : Nat) (a6 : Nat) (a7 : Nat) (a15 : Nat) (a16 : Nat) (a17 : Nat) (a21 : Nat) (a22 : Nat) (a24 : Nat) (a25 : Nat) (a26 : Nat) (a27 : Nat) (a28 : Nat) (a29 : Nat) (a30 : Nat) (f0 : Int32) (f1 : Int32) (f2 : Int32) (f3 : Int32) (f5 : Int32) (f8 : Int32) (f9 : Int32) (f10 : Int32) (f11 : Int32) (f12 : Int32) (f13 : Int32) (f14 : Int32) (f18 : Int32) (f19 : Int32) (f20 : Int32) (f23 : Int32) (f31 : Int32) (g4 : Nat → Int32) (g6 : Nat → Int32) (g7 : Nat → Int32) (g15 : Nat → Int32) (g16 : Nat → Int32) (g17 : Nat → Int32) (g21 : Nat → Int32) (g22 : Nat → Int32) (g24 : Nat → Int32) (g25 : Nat → Int32) (g26 : Nat → Int32) (g27 : Nat → Int32) (g28 : Nat → Int32) (g29 : Nat → Int32) (g30 : Nat → Int32) (a : Int32) (b : Int32) (fro : Int32) (to : Int32) (set : Int32) (which : Int32), (okD f1 f2) → (okN f5) → MFJ l G yX7_odds cX7_odds 11 (some .long) rm_X7_odds [.ref m0, .int a, .int b, .int fro, .int to, .int set, .int which] [(m0, .inr (7, [.int f0, .int f1, .int f2, .int f3, .ref a4, .int f5, .ref a6, .ref a7, .int f8, .int f9, .int f10, .int f11, .int f12, .int f13, .int f14, .ref a15, .ref a16, .ref a17, .int f18, .int f19, .int f20, .ref a21, .ref a22, .int f23, .ref a24, .ref a25, .ref a26, .ref a27, .ref a28, .ref a29, .ref a30, .int f31])), (a4, .inl (G.2.1, 20, .inl g4)), (a6, .inl (G.2.1, 4, .inl g6)), (a7, .inl (G.2.1, 4, .inl g7)), (a15, .inl (G.2.1, 20, .inl g15)), (a16, .inl (G.2.1, 4, .inl g16)), (a17, .inl (G.2.1, 4, .inl g17)), (a21, .inl (G.2.1, 20, .inl g21)), (a22, .inl (G.2.1, 40, .inl g22)), (a24, .inl (G.2.1, 8, .inl g24)), (a25, .inl (G.2.1, 8, .inl g25)), (a26, .inl (G.2.2.1, 8, .inl g26)), (a27, .inl (G.2.1, 4, .inl g27)), (a28, .inl (G.2.1, 4, .inl g28)), (a29, .inl (G.2.1, 240, .inl g29)), (a30, .inl (G.2.1, 60, .inl g30))] (some (.long (m_oddsR f1 f2 f5 f9 g4 g6 g7 g22 a b fro to set which))) (fun jj : (Nat → Int32) => [(m0, .inr (7, [.int f0, .int f1, .int f2, .int f3, .ref a4, .int f5, .ref a6, .ref a7, .int (if m_oddsDo f1 f2 f5 a b fro to set which then 0 else f8), .int f9, .int f10, .int f11, .int f12, .int f13, .int f14, .ref a15, .ref a16, .ref a17, .int f18, .int f19, .int f20, .ref a21, .ref a22, .int f23, .ref a24, .ref a25, .ref a26, .ref a27, .ref a28, .ref a29, .ref a30, .int f31])), (a4, .inl (G.2.1, 20, .inl g4)), (a6, .inl (G.2.1, 4, .inl g6)), (a7, .inl (G.2.1, 4, .inl g7)), (a15, .inl (G.2.1, 20, .inl g15)), (a16, .inl (G.2.1, 4, .inl g16)), (a17, .inl (G.2.1, 4, .inl g17)), (a21, .inl (G.2.1, 20, .inl g21)), (a22, .inl (G.2.1, 40, .inl jj)), (a24, .inl (G.2.1, 8, .inl g24)), (a25, .inl (G.2.1, 8, .inl g25)), (a26, .inl (G.2.2.1, 8, .inl g26)), (a27, .inl (G.2.1, 4, .inl g27)), (a28, .inl (G.2.1, 4, .inl g28)), (a29, .inl (G.2.1, 240, .inl g29)), (a30, .inl (G.2.1, 60, .inl g30))])
def K_X7_sheet (l : Launch) (G : GT) : Prop := ∀ (m0 : Nat) (a4 : Nat) (a6 : Nat) (a7 : Nat) (a15 : Nat) (a16 : Nat) (a17 : Nat) (a21 : Nat) (a22 : Nat) (a24 : Nat) (a25 : Nat) (a26 : Nat) (a27 : Nat) (a28 : Nat) (a29 : Nat) (a30 : Nat) (f0 : Int32) (f1 : Int32) (f2 : Int32) (f3 : Int32) (f5 : Int32) (f8 : Int32) (f9 : Int32) (f10 : Int32) (f11 : Int32) (f12 : Int32) (f13 : Int32) (f14 : Int32) (f18 : Int32) (f19 : Int32) (f20 : Int32) (f23 : Int32) (f31 : Int32) (g4 : Nat → Int32) (g6 : Nat → Int32) (g7 : Nat → Int32) (g15 : Nat → Int32) (g16 : Nat → Int32) (g17 : Nat → Int32) (g21 : Nat → Int32) (g22 : Nat → Int32) (g24 : Nat → Int32) (g25 : Nat → Int32) (g26 : Nat → Int32) (g27 : Nat → Int32) (g28 : Nat → Int32) (g29 : Nat → Int32) (g30 : Nat → Int32) (k : Int32) (lane : Int32) (n : Int32), MF l G yX7_sheet cX7_sheet 5 (some .int) rm_X7_sheet [.ref m0, .int k, .int lane, .int n] [(m0, .inr (7, [.int f0, .int f1, .int f2, .int f3, .ref a4, .int f5, .ref a6, .ref a7, .int f8, .int f9, .int f10, .int f11, .int f12, .int f13, .int f14, .ref a15, .ref a16, .ref a17, .int f18, .int f19, .int f20, .ref a21, .ref a22, .int f23, .ref a24, .ref a25, .ref a26, .ref a27, .ref a28, .ref a29, .ref a30, .int f31])), (a4, .inl (G.2.1, 20, .inl g4)), (a6, .inl (G.2.1, 4, .inl g6)), (a7, .inl (G.2.1, 4, .inl g7)), (a15, .inl (G.2.1, 20, .inl g15)), (a16, .inl (G.2.1, 4, .inl g16)), (a17, .inl (G.2.1, 4, .inl g17)), (a21, .inl (G.2.1, 20, .inl g21)), (a22, .inl (G.2.1, 40, .inl g22)), (a24, .inl (G.2.1, 8, .inl g24)), (a25, .inl (G.2.1, 8, .inl g25)), (a26, .inl (G.2.2.1, 8, .inl g26)), (a27, .inl (G.2.1, 4, .inl g27)), (a28, .inl (G.2.1, 4, .inl g28)), (a29, .inl (G.2.1, 240, .inl g29)), (a30, .inl (G.2.1, 60, .inl g30))] (some (.int (m_sheetR k lane n))) [(m0, .inr (7, [.int (m_sheetF k lane n), .int f1, .int f2, .int f3, .ref a4, .int f5, .ref a6, .ref a7, .int f8, .int f9, .int f10, .int f11, .int f12, .int f13, .int f14, .ref a15, .ref a16, .ref a17, .int f18, .int f19, .int f20, .ref a21, .ref a22, .int f23, .ref a24, .ref a25, .ref a26, .ref a27, .ref a28, .ref a29, .ref a30, .int f31])), (a4, .inl (G.2.1, 20, .inl g4)), (a6, .inl (G.2.1, 4, .inl g6)), (a7, .inl (G.2.1, 4, .inl g7)), (a15, .inl (G.2.1, 20, .inl g15)), (a16, .inl (G.2.1, 4, .inl g16)), (a17, .inl (G.2.1, 4, .inl g17)), (a21, .inl (G.2.1, 20, .inl g21)), (a22, .inl (G.2.1, 40, .inl g22)), (a24, .inl (G.2.1, 8, .inl g24)), (a25, .inl (G.2.1, 8, .inl g25)), (a26, .inl (G.2.2.1, 8, .inl g26)), (a27, .inl (G.2.1, 4, .inl (if m_shOk k lane n ∧ ¬ n < 0 then upd g27 k.toNatClampNeg n else g27))), (a28, .inl (G.2.1, 4, .inl (if m_shOk k lane n ∧ ¬ n < 0 then upd g28 k.toNatClampNeg lane else g28))), (a29, .inl (G.2.1, 240, .inl (m_sheetS k lane n g29))), (a30, .inl (G.2.1, 60, .inl g30))]
def K_X7_lose (l : Launch) (G : GT) : Prop := ∀ (m0 : Nat) (a4 : Nat) (a6 : Nat) (a7 : Nat) (a15 : Nat) (a16 : Nat) (a17 : Nat) (a21 : Nat) (a22 : Nat) (a24 : Nat) (a25 : Nat) (a26 : Nat) (a27 : Nat) (a28 : Nat) (a29 : Nat) (a30 : Nat) (f0 : Int32) (f1 : Int32) (f2 : Int32) (f3 : Int32) (f5 : Int32) (f8 : Int32) (f9 : Int32) (f10 : Int32) (f11 : Int32) (f12 : Int32) (f13 : Int32) (f14 : Int32) (f18 : Int32) (f19 : Int32) (f20 : Int32) (f23 : Int32) (f31 : Int32) (g4 : Nat → Int32) (g6 : Nat → Int32) (g7 : Nat → Int32) (g15 : Nat → Int32) (g16 : Nat → Int32) (g17 : Nat → Int32) (g21 : Nat → Int32) (g22 : Nat → Int32) (g24 : Nat → Int32) (g25 : Nat → Int32) (g26 : Nat → Int32) (g27 : Nat → Int32) (g28 : Nat → Int32) (g29 : Nat → Int32) (g30 : Nat → Int32) (k : Int32), MF l G yX7_lose cX7_lose 3 (some .int) rm_X7_lose [.ref m0, .int k] [(m0, .inr (7, [.int f0, .int f1, .int f2, .int f3, .ref a4, .int f5, .ref a6, .ref a7, .int f8, .int f9, .int f10, .int f11, .int f12, .int f13, .int f14, .ref a15, .ref a16, .ref a17, .int f18, .int f19, .int f20, .ref a21, .ref a22, .int f23, .ref a24, .ref a25, .ref a26, .ref a27, .ref a28, .ref a29, .ref a30, .int f31])), (a4, .inl (G.2.1, 20, .inl g4)), (a6, .inl (G.2.1, 4, .inl g6)), (a7, .inl (G.2.1, 4, .inl g7)), (a15, .inl (G.2.1, 20, .inl g15)), (a16, .inl (G.2.1, 4, .inl g16)), (a17, .inl (G.2.1, 4, .inl g17)), (a21, .inl (G.2.1, 20, .inl g21)), (a22, .inl (G.2.1, 40, .inl g22)), (a24, .inl (G.2.1, 8, .inl g24)), (a25, .inl (G.2.1, 8, .inl g25)), (a26, .inl (G.2.2.1, 8, .inl g26)), (a27, .inl (G.2.1, 4, .inl g27)), (a28, .inl (G.2.1, 4, .inl g28)), (a29, .inl (G.2.1, 240, .inl g29)), (a30, .inl (G.2.1, 60, .inl g30))] (some (.int (m_loseR g27 k))) [(m0, .inr (7, [.int f0, .int f1, .int f2, .int f3, .ref a4, .int f5, .ref a6, .ref a7, .int f8, .int f9, .int f10, .int f11, .int f12, .int f13, .int f14, .ref a15, .ref a16, .ref a17, .int f18, .int f19, .int f20, .ref a21, .ref a22, .int f23, .ref a24, .ref a25, .ref a26, .ref a27, .ref a28, .ref a29, .ref a30, .int f31])), (a4, .inl (G.2.1, 20, .inl g4)), (a6, .inl (G.2.1, 4, .inl g6)), (a7, .inl (G.2.1, 4, .inl g7)), (a15, .inl (G.2.1, 20, .inl g15)), (a16, .inl (G.2.1, 4, .inl g16)), (a17, .inl (G.2.1, 4, .inl g17)), (a21, .inl (G.2.1, 20, .inl g21)), (a22, .inl (G.2.1, 40, .inl g22)), (a24, .inl (G.2.1, 8, .inl g24)), (a25, .inl (G.2.1, 8, .inl g25)), (a26, .inl (G.2.2.1, 8, .inl g26)), (a27, .inl (G.2.1, 4, .inl (if q_noSheet k = 0 then upd g27 k.toNatClampNeg (-1) else g27))), (a28, .inl (G.2.1, 4, .inl g28)), (a29, .inl (G.2.1, 240, .inl g29)), (a30, .inl (G.2.1, 60, .inl g30))]
def K_X7_put (l : Launch) (G : GT) : Prop := ∀ (m0 : Nat) (a4 : Nat) (a6 : Nat) (a7 : Nat) (a15 : Nat) (a16 : Nat) (a17 : Nat) (a21 : Nat) (a22 : Nat) (a24 : Nat) (a25 : Nat) (a26 : Nat) (a27 : Nat) (a28 : Nat) (a29 : Nat) (a30 : Nat) (f0 : Int32) (f1 : Int32) (f2 : Int32) (f3 : Int32) (f5 : Int32) (f8 : Int32) (f9 : Int32) (f10 : Int32) (f11 : Int32) (f12 : Int32) (f13 : Int32) (f14 : Int32) (f18 : Int32) (f19 : Int32) (f20 : Int32) (f23 : Int32) (f31 : Int32) (g4 : Nat → Int32) (g6 : Nat → Int32) (g7 : Nat → Int32) (g15 : Nat → Int32) (g16 : Nat → Int32) (g17 : Nat → Int32) (g21 : Nat → Int32) (g22 : Nat → Int32) (g24 : Nat → Int32) (g25 : Nat → Int32) (g26 : Nat → Int32) (g27 : Nat → Int32) (g28 : Nat → Int32) (g29 : Nat → Int32) (g30 : Nat → Int32) (k : Int32) (ii : Int32) (v : Int32), (okSz g27) → MF l G yX7_put cX7_put 4 (some .int) rm_X7_put [.ref m0, .int k, .int ii, .int v] [(m0, .inr (7, [.int f0, .int f1, .int f2, .int f3, .ref a4, .int f5, .ref a6, .ref a7, .int f8, .int f9, .int f10, .int f11, .int f12, .int f13, .int f14, .ref a15, .ref a16, .ref a17, .int f18, .int f19, .int f20, .ref a21, .ref a22, .int f23, .ref a24, .ref a25, .ref a26, .ref a27, .ref a28, .ref a29, .ref a30, .int f31])), (a4, .inl (G.2.1, 20, .inl g4)), (a6, .inl (G.2.1, 4, .inl g6)), (a7, .inl (G.2.1, 4, .inl g7)), (a15, .inl (G.2.1, 20, .inl g15)), (a16, .inl (G.2.1, 4, .inl g16)), (a17, .inl (G.2.1, 4, .inl g17)), (a21, .inl (G.2.1, 20, .inl g21)), (a22, .inl (G.2.1, 40, .inl g22)), (a24, .inl (G.2.1, 8, .inl g24)), (a25, .inl (G.2.1, 8, .inl g25)), (a26, .inl (G.2.2.1, 8, .inl g26)), (a27, .inl (G.2.1, 4, .inl g27)), (a28, .inl (G.2.1, 4, .inl g28)), (a29, .inl (G.2.1, 240, .inl g29)), (a30, .inl (G.2.1, 60, .inl g30))] (some (.int (m_putR g27 k ii))) [(m0, .inr (7, [.int (m_putF g27 k ii), .int f1, .int f2, .int f3, .ref a4, .int f5, .ref a6, .ref a7, .int f8, .int f9, .int f10, .int f11, .int f12, .int f13, .int f14, .ref a15, .ref a16, .ref a17, .int f18, .int f19, .int f20, .ref a21, .ref a22, .int f23, .ref a24, .ref a25, .ref a26, .ref a27, .ref a28, .ref a29, .ref a30, .int f31])), (a4, .inl (G.2.1, 20, .inl g4)), (a6, .inl (G.2.1, 4, .inl g6)), (a7, .inl (G.2.1, 4, .inl g7)), (a15, .inl (G.2.1, 20, .inl g15)), (a16, .inl (G.2.1, 4, .inl g16)), (a17, .inl (G.2.1, 4, .inl g17)), (a21, .inl (G.2.1, 20, .inl g21)), (a22, .inl (G.2.1, 40, .inl g22)), (a24, .inl (G.2.1, 8, .inl g24)), (a25, .inl (G.2.1, 8, .inl g25)), (a26, .inl (G.2.2.1, 8, .inl g26)), (a27, .inl (G.2.1, 4, .inl g27)), (a28, .inl (G.2.1, 4, .inl g28)), (a29, .inl (G.2.1, 240, .inl (m_putS g27 g28 g29 k ii v))), (a30, .inl (G.2.1, 60, .inl g30))]
def K_X7_cell (l : Launch) (G : GT) : Prop := ∀ (m0 : Nat) (a4 : Nat) (a6 : Nat) (a7 : Nat) (a15 : Nat) (a16 : Nat) (a17 : Nat) (a21 : Nat) (a22 : Nat) (a24 : Nat) (a25 : Nat) (a26 : Nat) (a27 : Nat) (a28 : Nat) (a29 : Nat) (a30 : Nat) (f0 : Int32) (f1 : Int32) (f2 : Int32) (f3 : Int32) (f5 : Int32) (f8 : Int32) (f9 : Int32) (f10 : Int32) (f11 : Int32) (f12 : Int32) (f13 : Int32) (f14 : Int32) (f18 : Int32) (f19 : Int32) (f20 : Int32) (f23 : Int32) (f31 : Int32) (g4 : Nat → Int32) (g6 : Nat → Int32) (g7 : Nat → Int32) (g15 : Nat → Int32) (g16 : Nat → Int32) (g17 : Nat → Int32) (g21 : Nat → Int32) (g22 : Nat → Int32) (g24 : Nat → Int32) (g25 : Nat → Int32) (g26 : Nat → Int32) (g27 : Nat → Int32) (g28 : Nat → Int32) (g29 : Nat → Int32) (g30 : Nat → Int32) (k : Int32) (ii : Int32) (lane : Int32), (okSz g27) → MF l G yX7_cell cX7_cell 4 (some .long) rm_X7_cell [.ref m0, .int k, .int ii, .int lane] [(m0, .inr (7, [.int f0, .int f1, .int f2, .int f3, .ref a4, .int f5, .ref a6, .ref a7, .int f8, .int f9, .int f10, .int f11, .int f12, .int f13, .int f14, .ref a15, .ref a16, .ref a17, .int f18, .int f19, .int f20, .ref a21, .ref a22, .int f23, .ref a24, .ref a25, .ref a26, .ref a27, .ref a28, .ref a29, .ref a30, .int f31])), (a4, .inl (G.2.1, 20, .inl g4)), (a6, .inl (G.2.1, 4, .inl g6)), (a7, .inl (G.2.1, 4, .inl g7)), (a15, .inl (G.2.1, 20, .inl g15)), (a16, .inl (G.2.1, 4, .inl g16)), (a17, .inl (G.2.1, 4, .inl g17)), (a21, .inl (G.2.1, 20, .inl g21)), (a22, .inl (G.2.1, 40, .inl g22)), (a24, .inl (G.2.1, 8, .inl g24)), (a25, .inl (G.2.1, 8, .inl g25)), (a26, .inl (G.2.2.1, 8, .inl g26)), (a27, .inl (G.2.1, 4, .inl g27)), (a28, .inl (G.2.1, 4, .inl g28)), (a29, .inl (G.2.1, 240, .inl g29)), (a30, .inl (G.2.1, 60, .inl g30))] (some (.long (m_cellR g27 g28 g29 k ii lane))) [(m0, .inr (7, [.int (m_cellF g27 g28 k ii lane), .int f1, .int f2, .int f3, .ref a4, .int f5, .ref a6, .ref a7, .int f8, .int f9, .int f10, .int f11, .int f12, .int f13, .int f14, .ref a15, .ref a16, .ref a17, .int f18, .int f19, .int f20, .ref a21, .ref a22, .int f23, .ref a24, .ref a25, .ref a26, .ref a27, .ref a28, .ref a29, .ref a30, .int f31])), (a4, .inl (G.2.1, 20, .inl g4)), (a6, .inl (G.2.1, 4, .inl g6)), (a7, .inl (G.2.1, 4, .inl g7)), (a15, .inl (G.2.1, 20, .inl g15)), (a16, .inl (G.2.1, 4, .inl g16)), (a17, .inl (G.2.1, 4, .inl g17)), (a21, .inl (G.2.1, 20, .inl g21)), (a22, .inl (G.2.1, 40, .inl g22)), (a24, .inl (G.2.1, 8, .inl g24)), (a25, .inl (G.2.1, 8, .inl g25)), (a26, .inl (G.2.2.1, 8, .inl g26)), (a27, .inl (G.2.1, 4, .inl g27)), (a28, .inl (G.2.1, 4, .inl g28)), (a29, .inl (G.2.1, 240, .inl g29)), (a30, .inl (G.2.1, 60, .inl g30))]
def K_X7_copy (l : Launch) (G : GT) : Prop := ∀ (m0 : Nat) (a4 : Nat) (a6 : Nat) (a7 : Nat) (a15 : Nat) (a16 : Nat) (a17 : Nat) (a21 : Nat) (a22 : Nat) (a24 : Nat) (a25 : Nat) (a26 : Nat) (a27 : Nat) (a28 : Nat) (a29 : Nat) (a30 : Nat) (f0 : Int32) (f1 : Int32) (f2 : Int32) (f3 : Int32) (f5 : Int32) (f8 : Int32) (f9 : Int32) (f10 : Int32) (f11 : Int32) (f12 : Int32) (f13 : Int32) (f14 : Int32) (f18 : Int32) (f19 : Int32) (f20 : Int32) (f23 : Int32) (f31 : Int32) (g4 : Nat → Int32) (g6 : Nat → Int32) (g7 : Nat → Int32) (g15 : Nat → Int32) (g16 : Nat → Int32) (g17 : Nat → Int32) (g21 : Nat → Int32) (g22 : Nat → Int32) (g24 : Nat → Int32) (g25 : Nat → Int32) (g26 : Nat → Int32) (g27 : Nat → Int32) (g28 : Nat → Int32) (g29 : Nat → Int32) (g30 : Nat → Int32) (k : Int32) (i : Int32) (o : Int32) (j : Int32) (n : Int32), (okSz g27) → MFJ l G yX7_copy cX7_copy 7 (some .int) rm_X7_copy [.ref m0, .int k, .int i, .int o, .int j, .int n] [(m0, .inr (7, [.int f0, .int f1, .int f2, .int f3, .ref a4, .int f5, .ref a6, .ref a7, .int f8, .int f9, .int f10, .int f11, .int f12, .int f13, .int f14, .ref a15, .ref a16, .ref a17, .int f18, .int f19, .int f20, .ref a21, .ref a22, .int f23, .ref a24, .ref a25, .ref a26, .ref a27, .ref a28, .ref a29, .ref a30, .int f31])), (a4, .inl (G.2.1, 20, .inl g4)), (a6, .inl (G.2.1, 4, .inl g6)), (a7, .inl (G.2.1, 4, .inl g7)), (a15, .inl (G.2.1, 20, .inl g15)), (a16, .inl (G.2.1, 4, .inl g16)), (a17, .inl (G.2.1, 4, .inl g17)), (a21, .inl (G.2.1, 20, .inl g21)), (a22, .inl (G.2.1, 40, .inl g22)), (a24, .inl (G.2.1, 8, .inl g24)), (a25, .inl (G.2.1, 8, .inl g25)), (a26, .inl (G.2.2.1, 8, .inl g26)), (a27, .inl (G.2.1, 4, .inl g27)), (a28, .inl (G.2.1, 4, .inl g28)), (a29, .inl (G.2.1, 240, .inl g29)), (a30, .inl (G.2.1, 60, .inl g30))] (some (.int (m_copyR g27 g28 k i o j n))) (fun jj : (Nat → Int32) => [(m0, .inr (7, [.int (m_copyF g27 g28 k i o j n), .int f1, .int f2, .int f3, .ref a4, .int f5, .ref a6, .ref a7, .int f8, .int f9, .int f10, .int f11, .int f12, .int f13, .int f14, .ref a15, .ref a16, .ref a17, .int f18, .int f19, .int f20, .ref a21, .ref a22, .int f23, .ref a24, .ref a25, .ref a26, .ref a27, .ref a28, .ref a29, .ref a30, .int f31])), (a4, .inl (G.2.1, 20, .inl g4)), (a6, .inl (G.2.1, 4, .inl g6)), (a7, .inl (G.2.1, 4, .inl g7)), (a15, .inl (G.2.1, 20, .inl g15)), (a16, .inl (G.2.1, 4, .inl g16)), (a17, .inl (G.2.1, 4, .inl g17)), (a21, .inl (G.2.1, 20, .inl g21)), (a22, .inl (G.2.1, 40, .inl g22)), (a24, .inl (G.2.1, 8, .inl g24)), (a25, .inl (G.2.1, 8, .inl g25)), (a26, .inl (G.2.2.1, 8, .inl g26)), (a27, .inl (G.2.1, 4, .inl g27)), (a28, .inl (G.2.1, 4, .inl g28)), (a29, .inl (G.2.1, 240, .inl (m_copyS g27 g28 g29 k i o j n))), (a30, .inl (G.2.1, 60, .inl jj))])
def K_X7_tell (l : Launch) (G : GT) : Prop := ∀ (m0 : Nat) (a4 : Nat) (a6 : Nat) (a7 : Nat) (a15 : Nat) (a16 : Nat) (a17 : Nat) (a21 : Nat) (a22 : Nat) (a24 : Nat) (a25 : Nat) (a26 : Nat) (a27 : Nat) (a28 : Nat) (a29 : Nat) (a30 : Nat) (f0 : Int32) (f1 : Int32) (f2 : Int32) (f3 : Int32) (f5 : Int32) (f8 : Int32) (f9 : Int32) (f10 : Int32) (f11 : Int32) (f12 : Int32) (f13 : Int32) (f14 : Int32) (f18 : Int32) (f19 : Int32) (f20 : Int32) (f23 : Int32) (f31 : Int32) (g4 : Nat → Int32) (g6 : Nat → Int32) (g7 : Nat → Int32) (g15 : Nat → Int32) (g16 : Nat → Int32) (g17 : Nat → Int32) (g21 : Nat → Int32) (g22 : Nat → Int32) (g24 : Nat → Int32) (g25 : Nat → Int32) (g26 : Nat → Int32) (g27 : Nat → Int32) (g28 : Nat → Int32) (g29 : Nat → Int32) (g30 : Nat → Int32) (a : Int32), (okN f5) → MF l G yX7_tell cX7_tell 4 (some .int) rm_X7_tell [.ref m0, .int a] [(m0, .inr (7, [.int f0, .int f1, .int f2, .int f3, .ref a4, .int f5, .ref a6, .ref a7, .int f8, .int f9, .int f10, .int f11, .int f12, .int f13, .int f14, .ref a15, .ref a16, .ref a17, .int f18, .int f19, .int f20, .ref a21, .ref a22, .int f23, .ref a24, .ref a25, .ref a26, .ref a27, .ref a28, .ref a29, .ref a30, .int f31])), (a4, .inl (G.2.1, 20, .inl g4)), (a6, .inl (G.2.1, 4, .inl g6)), (a7, .inl (G.2.1, 4, .inl g7)), (a15, .inl (G.2.1, 20, .inl g15)), (a16, .inl (G.2.1, 4, .inl g16)), (a17, .inl (G.2.1, 4, .inl g17)), (a21, .inl (G.2.1, 20, .inl g21)), (a22, .inl (G.2.1, 40, .inl g22)), (a24, .inl (G.2.1, 8, .inl g24)), (a25, .inl (G.2.1, 8, .inl g25)), (a26, .inl (G.2.2.1, 8, .inl g26)), (a27, .inl (G.2.1, 4, .inl g27)), (a28, .inl (G.2.1, 4, .inl g28)), (a29, .inl (G.2.1, 240, .inl g29)), (a30, .inl (G.2.1, 60, .inl g30))] (some (.int (m_tellR f5 g6 g7 a))) [(m0, .inr (7, [.int f0, .int f1, .int f2, .int f3, .ref a4, .int f5, .ref a6, .ref a7, .int f8, .int f9, .int f10, .int f11, .int f12, .int f13, .int f14, .ref a15, .ref a16, .ref a17, .int f18, .int f19, .int f20, .ref a21, .ref a22, .int f23, .ref a24, .ref a25, .ref a26, .ref a27, .ref a28, .ref a29, .ref a30, .int (m_tellT f5 g6 a f31)])), (a4, .inl (G.2.1, 20, .inl g4)), (a6, .inl (G.2.1, 4, .inl g6)), (a7, .inl (G.2.1, 4, .inl g7)), (a15, .inl (G.2.1, 20, .inl g15)), (a16, .inl (G.2.1, 4, .inl g16)), (a17, .inl (G.2.1, 4, .inl g17)), (a21, .inl (G.2.1, 20, .inl g21)), (a22, .inl (G.2.1, 40, .inl g22)), (a24, .inl (G.2.1, 8, .inl g24)), (a25, .inl (G.2.1, 8, .inl g25)), (a26, .inl (G.2.2.1, 8, .inl g26)), (a27, .inl (G.2.1, 4, .inl g27)), (a28, .inl (G.2.1, 4, .inl g28)), (a29, .inl (G.2.1, 240, .inl g29)), (a30, .inl (G.2.1, 60, .inl g30))]
def K_X7_signed (l : Launch) (G : GT) : Prop := ∀ (m0 : Nat) (a4 : Nat) (a6 : Nat) (a7 : Nat) (a15 : Nat) (a16 : Nat) (a17 : Nat) (a21 : Nat) (a22 : Nat) (a24 : Nat) (a25 : Nat) (a26 : Nat) (a27 : Nat) (a28 : Nat) (a29 : Nat) (a30 : Nat) (f0 : Int32) (f1 : Int32) (f2 : Int32) (f3 : Int32) (f5 : Int32) (f8 : Int32) (f9 : Int32) (f10 : Int32) (f11 : Int32) (f12 : Int32) (f13 : Int32) (f14 : Int32) (f18 : Int32) (f19 : Int32) (f20 : Int32) (f23 : Int32) (f31 : Int32) (g4 : Nat → Int32) (g6 : Nat → Int32) (g7 : Nat → Int32) (g15 : Nat → Int32) (g16 : Nat → Int32) (g17 : Nat → Int32) (g21 : Nat → Int32) (g22 : Nat → Int32) (g24 : Nat → Int32) (g25 : Nat → Int32) (g26 : Nat → Int32) (g27 : Nat → Int32) (g28 : Nat → Int32) (g29 : Nat → Int32) (g30 : Nat → Int32) (a : Int32), (okN f5) → MF l G yX7_signed cX7_signed 2 (some .int) rm_X7_signed [.ref m0, .int a] [(m0, .inr (7, [.int f0, .int f1, .int f2, .int f3, .ref a4, .int f5, .ref a6, .ref a7, .int f8, .int f9, .int f10, .int f11, .int f12, .int f13, .int f14, .ref a15, .ref a16, .ref a17, .int f18, .int f19, .int f20, .ref a21, .ref a22, .int f23, .ref a24, .ref a25, .ref a26, .ref a27, .ref a28, .ref a29, .ref a30, .int f31])), (a4, .inl (G.2.1, 20, .inl g4)), (a6, .inl (G.2.1, 4, .inl g6)), (a7, .inl (G.2.1, 4, .inl g7)), (a15, .inl (G.2.1, 20, .inl g15)), (a16, .inl (G.2.1, 4, .inl g16)), (a17, .inl (G.2.1, 4, .inl g17)), (a21, .inl (G.2.1, 20, .inl g21)), (a22, .inl (G.2.1, 40, .inl g22)), (a24, .inl (G.2.1, 8, .inl g24)), (a25, .inl (G.2.1, 8, .inl g25)), (a26, .inl (G.2.2.1, 8, .inl g26)), (a27, .inl (G.2.1, 4, .inl g27)), (a28, .inl (G.2.1, 4, .inl g28)), (a29, .inl (G.2.1, 240, .inl g29)), (a30, .inl (G.2.1, 60, .inl g30))] (some (.int (m_signedR f5 g6 a))) [(m0, .inr (7, [.int f0, .int f1, .int f2, .int f3, .ref a4, .int f5, .ref a6, .ref a7, .int f8, .int f9, .int f10, .int f11, .int f12, .int f13, .int f14, .ref a15, .ref a16, .ref a17, .int f18, .int f19, .int f20, .ref a21, .ref a22, .int f23, .ref a24, .ref a25, .ref a26, .ref a27, .ref a28, .ref a29, .ref a30, .int (m_signedT f5 g6 a f31)])), (a4, .inl (G.2.1, 20, .inl g4)), (a6, .inl (G.2.1, 4, .inl g6)), (a7, .inl (G.2.1, 4, .inl g7)), (a15, .inl (G.2.1, 20, .inl g15)), (a16, .inl (G.2.1, 4, .inl g16)), (a17, .inl (G.2.1, 4, .inl g17)), (a21, .inl (G.2.1, 20, .inl g21)), (a22, .inl (G.2.1, 40, .inl g22)), (a24, .inl (G.2.1, 8, .inl g24)), (a25, .inl (G.2.1, 8, .inl g25)), (a26, .inl (G.2.2.1, 8, .inl g26)), (a27, .inl (G.2.1, 4, .inl g27)), (a28, .inl (G.2.1, 4, .inl g28)), (a29, .inl (G.2.1, 240, .inl g29)), (a30, .inl (G.2.1, 60, .inl g30))]
def K_X7_as (l : Launch) (G : GT) : Prop := ∀ (m0 : Nat) (a4 : Nat) (a6 : Nat) (a7 : Nat) (a15 : Nat) (a16 : Nat) (a17 : Nat) (a21 : Nat) (a22 : Nat) (a24 : Nat) (a25 : Nat) (a26 : Nat) (a27 : Nat) (a28 : Nat) (a29 : Nat) (a30 : Nat) (f0 : Int32) (f1 : Int32) (f2 : Int32) (f3 : Int32) (f5 : Int32) (f8 : Int32) (f9 : Int32) (f10 : Int32) (f11 : Int32) (f12 : Int32) (f13 : Int32) (f14 : Int32) (f18 : Int32) (f19 : Int32) (f20 : Int32) (f23 : Int32) (f31 : Int32) (g4 : Nat → Int32) (g6 : Nat → Int32) (g7 : Nat → Int32) (g15 : Nat → Int32) (g16 : Nat → Int32) (g17 : Nat → Int32) (g21 : Nat → Int32) (g22 : Nat → Int32) (g24 : Nat → Int32) (g25 : Nat → Int32) (g26 : Nat → Int32) (g27 : Nat → Int32) (g28 : Nat → Int32) (g29 : Nat → Int32) (g30 : Nat → Int32) (a : Int32) (kind : Int32), (okN f5) → MF l G yX7_as cX7_as 3 (some .int) rm_X7_as [.ref m0, .int a, .int kind] [(m0, .inr (7, [.int f0, .int f1, .int f2, .int f3, .ref a4, .int f5, .ref a6, .ref a7, .int f8, .int f9, .int f10, .int f11, .int f12, .int f13, .int f14, .ref a15, .ref a16, .ref a17, .int f18, .int f19, .int f20, .ref a21, .ref a22, .int f23, .ref a24, .ref a25, .ref a26, .ref a27, .ref a28, .ref a29, .ref a30, .int f31])), (a4, .inl (G.2.1, 20, .inl g4)), (a6, .inl (G.2.1, 4, .inl g6)), (a7, .inl (G.2.1, 4, .inl g7)), (a15, .inl (G.2.1, 20, .inl g15)), (a16, .inl (G.2.1, 4, .inl g16)), (a17, .inl (G.2.1, 4, .inl g17)), (a21, .inl (G.2.1, 20, .inl g21)), (a22, .inl (G.2.1, 40, .inl g22)), (a24, .inl (G.2.1, 8, .inl g24)), (a25, .inl (G.2.1, 8, .inl g25)), (a26, .inl (G.2.2.1, 8, .inl g26)), (a27, .inl (G.2.1, 4, .inl g27)), (a28, .inl (G.2.1, 4, .inl g28)), (a29, .inl (G.2.1, 240, .inl g29)), (a30, .inl (G.2.1, 60, .inl g30))] (some (.int (m_asR f5 g6 a kind))) [(m0, .inr (7, [.int (m_asF f5 g6 a kind), .int f1, .int f2, .int f3, .ref a4, .int f5, .ref a6, .ref a7, .int f8, .int f9, .int f10, .int f11, .int f12, .int f13, .int f14, .ref a15, .ref a16, .ref a17, .int f18, .int f19, .int f20, .ref a21, .ref a22, .int f23, .ref a24, .ref a25, .ref a26, .ref a27, .ref a28, .ref a29, .ref a30, .int f31])), (a4, .inl (G.2.1, 20, .inl g4)), (a6, .inl (G.2.1, 4, .inl g6)), (a7, .inl (G.2.1, 4, .inl g7)), (a15, .inl (G.2.1, 20, .inl g15)), (a16, .inl (G.2.1, 4, .inl g16)), (a17, .inl (G.2.1, 4, .inl g17)), (a21, .inl (G.2.1, 20, .inl g21)), (a22, .inl (G.2.1, 40, .inl g22)), (a24, .inl (G.2.1, 8, .inl g24)), (a25, .inl (G.2.1, 8, .inl g25)), (a26, .inl (G.2.2.1, 8, .inl g26)), (a27, .inl (G.2.1, 4, .inl g27)), (a28, .inl (G.2.1, 4, .inl g28)), (a29, .inl (G.2.1, 240, .inl g29)), (a30, .inl (G.2.1, 60, .inl g30))]
def K_X7_trace (l : Launch) (G : GT) : Prop := ∀ (m0 : Nat) (a4 : Nat) (a6 : Nat) (a7 : Nat) (a15 : Nat) (a16 : Nat) (a17 : Nat) (a21 : Nat) (a22 : Nat) (a24 : Nat) (a25 : Nat) (a26 : Nat) (a27 : Nat) (a28 : Nat) (a29 : Nat) (a30 : Nat) (f0 : Int32) (f1 : Int32) (f2 : Int32) (f3 : Int32) (f5 : Int32) (f8 : Int32) (f9 : Int32) (f10 : Int32) (f11 : Int32) (f12 : Int32) (f13 : Int32) (f14 : Int32) (f18 : Int32) (f19 : Int32) (f20 : Int32) (f23 : Int32) (f31 : Int32) (g4 : Nat → Int32) (g6 : Nat → Int32) (g7 : Nat → Int32) (g15 : Nat → Int32) (g16 : Nat → Int32) (g17 : Nat → Int32) (g21 : Nat → Int32) (g22 : Nat → Int32) (g24 : Nat → Int32) (g25 : Nat → Int32) (g26 : Nat → Int32) (g27 : Nat → Int32) (g28 : Nat → Int32) (g29 : Nat → Int32) (g30 : Nat → Int32), MF l G yX7_trace cX7_trace 1 (some .int) rm_X7_trace [.ref m0] [(m0, .inr (7, [.int f0, .int f1, .int f2, .int f3, .ref a4, .int f5, .ref a6, .ref a7, .int f8, .int f9, .int f10, .int f11, .int f12, .int f13, .int f14, .ref a15, .ref a16, .ref a17, .int f18, .int f19, .int f20, .ref a21, .ref a22, .int f23, .ref a24, .ref a25, .ref a26, .ref a27, .ref a28, .ref a29, .ref a30, .int f31])), (a4, .inl (G.2.1, 20, .inl g4)), (a6, .inl (G.2.1, 4, .inl g6)), (a7, .inl (G.2.1, 4, .inl g7)), (a15, .inl (G.2.1, 20, .inl g15)), (a16, .inl (G.2.1, 4, .inl g16)), (a17, .inl (G.2.1, 4, .inl g17)), (a21, .inl (G.2.1, 20, .inl g21)), (a22, .inl (G.2.1, 40, .inl g22)), (a24, .inl (G.2.1, 8, .inl g24)), (a25, .inl (G.2.1, 8, .inl g25)), (a26, .inl (G.2.2.1, 8, .inl g26)), (a27, .inl (G.2.1, 4, .inl g27)), (a28, .inl (G.2.1, 4, .inl g28)), (a29, .inl (G.2.1, 240, .inl g29)), (a30, .inl (G.2.1, 60, .inl g30))] (some (.int f31)) [(m0, .inr (7, [.int f0, .int f1, .int f2, .int f3, .ref a4, .int f5, .ref a6, .ref a7, .int f8, .int f9, .int f10, .int f11, .int f12, .int f13, .int f14, .ref a15, .ref a16, .ref a17, .int f18, .int f19, .int f20, .ref a21, .ref a22, .int f23, .ref a24, .ref a25, .ref a26, .ref a27, .ref a28, .ref a29, .ref a30, .int f31])), (a4, .inl (G.2.1, 20, .inl g4)), (a6, .inl (G.2.1, 4, .inl g6)), (a7, .inl (G.2.1, 4, .inl g7)), (a15, .inl (G.2.1, 20, .inl g15)), (a16, .inl (G.2.1, 4, .inl g16)), (a17, .inl (G.2.1, 4, .inl g17)), (a21, .inl (G.2.1, 20, .inl g21)), (a22, .inl (G.2.1, 40, .inl g22)), (a24, .inl (G.2.1, 8, .inl g24)), (a25, .inl (G.2.1, 8, .inl g25)), (a26, .inl (G.2.2.1, 8, .inl g26)), (a27, .inl (G.2.1, 4, .inl g27)), (a28, .inl (G.2.1, 4, .inl g28)), (a29, .inl (G.2.1, 240, .inl g29)), (a30, .inl (G.2.1, 60, .inl g30))]
def K_X7_fault (l : Launch) (G : GT) : Prop := ∀ (m0 : Nat) (a4 : Nat) (a6 : Nat) (a7 : Nat) (a15 : Nat) (a16 : Nat) (a17 : Nat) (a21 : Nat) (a22 : Nat) (a24 : Nat) (a25 : Nat) (a26 : Nat) (a27 : Nat) (a28 : Nat) (a29 : Nat) (a30 : Nat) (f0 : Int32) (f1 : Int32) (f2 : Int32) (f3 : Int32) (f5 : Int32) (f8 : Int32) (f9 : Int32) (f10 : Int32) (f11 : Int32) (f12 : Int32) (f13 : Int32) (f14 : Int32) (f18 : Int32) (f19 : Int32) (f20 : Int32) (f23 : Int32) (f31 : Int32) (g4 : Nat → Int32) (g6 : Nat → Int32) (g7 : Nat → Int32) (g15 : Nat → Int32) (g16 : Nat → Int32) (g17 : Nat → Int32) (g21 : Nat → Int32) (g22 : Nat → Int32) (g24 : Nat → Int32) (g25 : Nat → Int32) (g26 : Nat → Int32) (g27 : Nat → Int32) (g28 : Nat → Int32) (g29 : Nat → Int32) (g30 : Nat → Int32), MF l G yX7_fault cX7_fault 1 (some .int) rm_X7_fault [.ref m0] [(m0, .inr (7, [.int f0, .int f1, .int f2, .int f3, .ref a4, .int f5, .ref a6, .ref a7, .int f8, .int f9, .int f10, .int f11, .int f12, .int f13, .int f14, .ref a15, .ref a16, .ref a17, .int f18, .int f19, .int f20, .ref a21, .ref a22, .int f23, .ref a24, .ref a25, .ref a26, .ref a27, .ref a28, .ref a29, .ref a30, .int f31])), (a4, .inl (G.2.1, 20, .inl g4)), (a6, .inl (G.2.1, 4, .inl g6)), (a7, .inl (G.2.1, 4, .inl g7)), (a15, .inl (G.2.1, 20, .inl g15)), (a16, .inl (G.2.1, 4, .inl g16)), (a17, .inl (G.2.1, 4, .inl g17)), (a21, .inl (G.2.1, 20, .inl g21)), (a22, .inl (G.2.1, 40, .inl g22)), (a24, .inl (G.2.1, 8, .inl g24)), (a25, .inl (G.2.1, 8, .inl g25)), (a26, .inl (G.2.2.1, 8, .inl g26)), (a27, .inl (G.2.1, 4, .inl g27)), (a28, .inl (G.2.1, 4, .inl g28)), (a29, .inl (G.2.1, 240, .inl g29)), (a30, .inl (G.2.1, 60, .inl g30))] (some (.int f0)) [(m0, .inr (7, [.int f0, .int f1, .int f2, .int f3, .ref a4, .int f5, .ref a6, .ref a7, .int f8, .int f9, .int f10, .int f11, .int f12, .int f13, .int f14, .ref a15, .ref a16, .ref a17, .int f18, .int f19, .int f20, .ref a21, .ref a22, .int f23, .ref a24, .ref a25, .ref a26, .ref a27, .ref a28, .ref a29, .ref a30, .int f31])), (a4, .inl (G.2.1, 20, .inl g4)), (a6, .inl (G.2.1, 4, .inl g6)), (a7, .inl (G.2.1, 4, .inl g7)), (a15, .inl (G.2.1, 20, .inl g15)), (a16, .inl (G.2.1, 4, .inl g16)), (a17, .inl (G.2.1, 4, .inl g17)), (a21, .inl (G.2.1, 20, .inl g21)), (a22, .inl (G.2.1, 40, .inl g22)), (a24, .inl (G.2.1, 8, .inl g24)), (a25, .inl (G.2.1, 8, .inl g25)), (a26, .inl (G.2.2.1, 8, .inl g26)), (a27, .inl (G.2.1, 4, .inl g27)), (a28, .inl (G.2.1, 4, .inl g28)), (a29, .inl (G.2.1, 240, .inl g29)), (a30, .inl (G.2.1, 60, .inl g30))]
def K_X7_many (l : Launch) (G : GT) : Prop := ∀ (m0 : Nat) (a4 : Nat) (a6 : Nat) (a7 : Nat) (a15 : Nat) (a16 : Nat) (a17 : Nat) (a21 : Nat) (a22 : Nat) (a24 : Nat) (a25 : Nat) (a26 : Nat) (a27 : Nat) (a28 : Nat) (a29 : Nat) (a30 : Nat) (f0 : Int32) (f1 : Int32) (f2 : Int32) (f3 : Int32) (f5 : Int32) (f8 : Int32) (f9 : Int32) (f10 : Int32) (f11 : Int32) (f12 : Int32) (f13 : Int32) (f14 : Int32) (f18 : Int32) (f19 : Int32) (f20 : Int32) (f23 : Int32) (f31 : Int32) (g4 : Nat → Int32) (g6 : Nat → Int32) (g7 : Nat → Int32) (g15 : Nat → Int32) (g16 : Nat → Int32) (g17 : Nat → Int32) (g21 : Nat → Int32) (g22 : Nat → Int32) (g24 : Nat → Int32) (g25 : Nat → Int32) (g26 : Nat → Int32) (g27 : Nat → Int32) (g28 : Nat → Int32) (g29 : Nat → Int32) (g30 : Nat → Int32) (what : Int32), MF l G yX7_many cX7_many 2 (some .int) rm_X7_many [.ref m0, .int what] [(m0, .inr (7, [.int f0, .int f1, .int f2, .int f3, .ref a4, .int f5, .ref a6, .ref a7, .int f8, .int f9, .int f10, .int f11, .int f12, .int f13, .int f14, .ref a15, .ref a16, .ref a17, .int f18, .int f19, .int f20, .ref a21, .ref a22, .int f23, .ref a24, .ref a25, .ref a26, .ref a27, .ref a28, .ref a29, .ref a30, .int f31])), (a4, .inl (G.2.1, 20, .inl g4)), (a6, .inl (G.2.1, 4, .inl g6)), (a7, .inl (G.2.1, 4, .inl g7)), (a15, .inl (G.2.1, 20, .inl g15)), (a16, .inl (G.2.1, 4, .inl g16)), (a17, .inl (G.2.1, 4, .inl g17)), (a21, .inl (G.2.1, 20, .inl g21)), (a22, .inl (G.2.1, 40, .inl g22)), (a24, .inl (G.2.1, 8, .inl g24)), (a25, .inl (G.2.1, 8, .inl g25)), (a26, .inl (G.2.2.1, 8, .inl g26)), (a27, .inl (G.2.1, 4, .inl g27)), (a28, .inl (G.2.1, 4, .inl g28)), (a29, .inl (G.2.1, 240, .inl g29)), (a30, .inl (G.2.1, 60, .inl g30))] (some (.int (m_many f1 f2 f3 f5 f23 what))) [(m0, .inr (7, [.int f0, .int f1, .int f2, .int f3, .ref a4, .int f5, .ref a6, .ref a7, .int f8, .int f9, .int f10, .int f11, .int f12, .int f13, .int f14, .ref a15, .ref a16, .ref a17, .int f18, .int f19, .int f20, .ref a21, .ref a22, .int f23, .ref a24, .ref a25, .ref a26, .ref a27, .ref a28, .ref a29, .ref a30, .int f31])), (a4, .inl (G.2.1, 20, .inl g4)), (a6, .inl (G.2.1, 4, .inl g6)), (a7, .inl (G.2.1, 4, .inl g7)), (a15, .inl (G.2.1, 20, .inl g15)), (a16, .inl (G.2.1, 4, .inl g16)), (a17, .inl (G.2.1, 4, .inl g17)), (a21, .inl (G.2.1, 20, .inl g21)), (a22, .inl (G.2.1, 40, .inl g22)), (a24, .inl (G.2.1, 8, .inl g24)), (a25, .inl (G.2.1, 8, .inl g25)), (a26, .inl (G.2.2.1, 8, .inl g26)), (a27, .inl (G.2.1, 4, .inl g27)), (a28, .inl (G.2.1, 4, .inl g28)), (a29, .inl (G.2.1, 240, .inl g29)), (a30, .inl (G.2.1, 60, .inl g30))]
def K_X6_keepFault (l : Launch) (G : GT) : Prop := ∀ (b0 : Nat) (bs : Nat) (x0 : Nat) (d0 : Nat) (r0 : Nat) (i0 : Nat) (c0 : Nat) (j0 : Nat) (e0 : Nat) (lf : Int32) (tr : Int32) (v : Int32), MF l G yX6_keepFault cX6_keepFault 2 (some .int) rm_X6_keepFault [.ref b0, .int v] [(b0, .inr (6, [.ref bs, .ref x0, .ref d0, .ref r0, .ref i0, .ref c0, .ref j0, .ref e0, .int lf, .int tr]))] (some (.int v)) [(b0, .inr (6, [.ref bs, .ref x0, .ref d0, .ref r0, .ref i0, .ref c0, .ref j0, .ref e0, .int (x_kf v), .int tr]))]
def K_X6_sheetAt (l : Launch) (G : GT) : Prop := ∀ (b0 : Nat) (bs : Nat) (x0 : Nat) (d0 : Nat) (r0 : Nat) (i0 : Nat) (c0 : Nat) (j0 : Nat) (e0 : Nat) (lf : Int32) (tr : Int32) (sh : Nat → Option Nat) (k : Int32) (r : Option Nat), (s_shAt sh k = r) → (s_in k 0 3 = 0 ∨ vp_in k 4) → MF l G yX6_sheetAt cX6_sheetAt 2 (some (.object "SkateBonds$Sheet")) rm_X6_sheetAt [.ref b0, .int k] [(b0, .inr (6, [.ref bs, .ref x0, .ref d0, .ref r0, .ref i0, .ref c0, .ref j0, .ref e0, .int lf, .int tr])), (bs, .inl (G.2.2.2, 4, .inr (.inr (.inr (.inr sh)))))] (some (va_rf r)) [(b0, .inr (6, [.ref bs, .ref x0, .ref d0, .ref r0, .ref i0, .ref c0, .ref j0, .ref e0, .int lf, .int tr])), (bs, .inl (G.2.2.2, 4, .inr (.inr (.inr (.inr sh)))))]
def K_X6_refusalOfLane (l : Launch) (G : GT) : Prop := ∀ (s0 : Nat) (s1 : Nat) (sla : Int32) (sle : Int32) (lane : Int32), MF l G yX6_refusalOfLane cX6_refusalOfLane 2 (some .int) rm_X6_refusalOfLane [.ref s0, .int lane] [(s0, .inr (4, [.ref s1, .int sla, .int sle]))] (some (.int (x_rl sla lane))) [(s0, .inr (4, [.ref s1, .int sla, .int sle]))]
def K_X6_refusalOfLane_n (l : Launch) (G : GT) : Prop := ∀ (lane : Int32), MF l G yX6_refusalOfLane cX6_refusalOfLane 2 (some .int) rm_X6_refusalOfLane [.null, .int lane] [] (some (.int (-1))) []
def K_X6_refusalOfPart (l : Launch) (G : GT) : Prop := ∀ (s0 : Nat) (s1 : Nat) (sla : Int32) (sle : Int32) (lane : Int32) (i : Int32) (n : Int32), MF l G yX6_refusalOfPart cX6_refusalOfPart 5 (some .int) rm_X6_refusalOfPart [.ref s0, .int lane, .int i, .int n] [(s0, .inr (4, [.ref s1, .int sla, .int sle]))] (some (.int (x_rp sla sle lane i n))) [(s0, .inr (4, [.ref s1, .int sla, .int sle]))]
def K_X6_refusalOfPart_n (l : Launch) (G : GT) : Prop := ∀ (lane : Int32) (i : Int32) (n : Int32), MF l G yX6_refusalOfPart cX6_refusalOfPart 5 (some .int) rm_X6_refusalOfPart [.null, .int lane, .int i, .int n] [] (some (.int (-1))) []
def K_X6_refusalOfWeather (l : Launch) (G : GT) : Prop := ∀ (b0 : Nat) (i0 : Nat) (bs : Nat) (x0 : Nat) (d0 : Nat) (r0 : Nat) (c0 : Nat) (j0 : Nat) (e0 : Nat) (i1 : Nat) (lf : Int32) (tr : Int32) (hi : Int32) (wi : Int32) (fr : Int32) (fc : Int32) (lc : Int32) (v : Int32), MF l G yX6_refusalOfWeather cX6_refusalOfWeather 2 (some .int) rm_X6_refusalOfWeather [.ref b0, .int v] [(b0, .inr (6, [.ref bs, .ref x0, .ref d0, .ref r0, .ref i0, .ref c0, .ref j0, .ref e0, .int lf, .int tr])), (i0, .inr (2, [.ref i1, .int hi, .int wi, .int fr, .int fc, .int lc]))] (some (.int (x_rw hi wi v))) [(b0, .inr (6, [.ref bs, .ref x0, .ref d0, .ref r0, .ref i0, .ref c0, .ref j0, .ref e0, .int lf, .int tr])), (i0, .inr (2, [.ref i1, .int hi, .int wi, .int fr, .int fc, .int lc]))]
def K_X6_isPair (l : Launch) (G : GT) : Prop := ∀ (b0 : Nat) (c0 : Nat) (bs : Nat) (x0 : Nat) (d0 : Nat) (r0 : Nat) (i0 : Nat) (j0 : Nat) (e0 : Nat) (c1 : Nat) (c2 : Nat) (lf : Int32) (tr : Int32) (cnt : Int32) (a : Int32) (b : Int32), MF l G yX6_isPair cX6_isPair 3 (some .boolean) rm_X6_isPair [.ref b0, .int a, .int b] [(b0, .inr (6, [.ref bs, .ref x0, .ref d0, .ref r0, .ref i0, .ref c0, .ref j0, .ref e0, .int lf, .int tr])), (c0, .inr (0, [.ref c1, .ref c2, .int cnt]))] (some (.int (x_pair cnt a b))) [(b0, .inr (6, [.ref bs, .ref x0, .ref d0, .ref r0, .ref i0, .ref c0, .ref j0, .ref e0, .int lf, .int tr])), (c0, .inr (0, [.ref c1, .ref c2, .int cnt]))]
def K_X6_changeToDraft (l : Launch) (G : GT) : Prop := ∀ (b0 : Nat) (r0 : Nat) (bs : Nat) (x0 : Nat) (d0 : Nat) (i0 : Nat) (c0 : Nat) (j0 : Nat) (e0 : Nat) (r1 : Nat) (r2 : Nat) (r3 : Nat) (lf : Int32) (tr : Int32) (rc : Int32), MF l G yX6_changeToDraft cX6_changeToDraft 3 none rm_X6_changeToDraft [.ref b0] [(b0, .inr (6, [.ref bs, .ref x0, .ref d0, .ref r0, .ref i0, .ref c0, .ref j0, .ref e0, .int lf, .int tr])), (r0, .inr (3, [.ref r1, .ref r2, .ref r3, .int rc]))] none [(b0, .inr (6, [.ref bs, .ref x0, .ref d0, .ref r0, .ref j0, .ref e0, .ref i0, .ref c0, .int lf, .int tr])), (r0, .inr (3, [.ref r1, .ref r2, .ref r3, .int 0]))]
def K_X6_takeText (l : Launch) (G : GT) : Prop := ∀ (b0 : Nat) (bs : Nat) (s0 : Nat) (s1 : Nat) (x0 : Nat) (x1 : Nat) (j0 : Nat) (j1 : Nat) (e0 : Nat) (e1 : Nat) (e2 : Nat) (r0 : Nat) (d0 : Nat) (i0 : Nat) (c0 : Nat) (r1 : Nat) (r2 : Nat) (r3 : Nat) (lf : Int32) (tr : Int32) (sla : Int32) (sle : Int32) (xl : Int32) (xp : Int32) (xw : Int32) (jhi : Int32) (jwi : Int32) (jfr : Int32) (jfc : Int32) (jlc : Int32) (ecnt : Int32) (rc : Int32) (sn : Nat → Int32) (xc : Nat → Int32) (jstr : Nat → Int32) (ek : Nat → Int32) (ewt : Nat → Int32) (sh : Nat → Option Nat) (sheet : Int32) (lane : Int32) (i : Int32) (n : Int32), (s_shAt sh sheet = some s0) → (s_in sheet 0 3 = 0 ∨ vp_in sheet 4) → (¬ 60 < sle) → MFJ l G yX6_takeText cX6_takeText 7 (some .int) rm_X6_takeText [.ref b0, .int sheet, .int lane, .int i, .int n] [(b0, .inr (6, [.ref bs, .ref x0, .ref d0, .ref r0, .ref i0, .ref c0, .ref j0, .ref e0, .int lf, .int tr])), (bs, .inl (G.2.2.2, 4, .inr (.inr (.inr (.inr sh))))), (s0, .inr (4, [.ref s1, .int sla, .int sle])), (s1, .inl (G.2.1, 60, .inl sn)), (x0, .inr (5, [.ref x1, .int xl, .int xp, .int xw])), (x1, .inl (G.2.1, 60, .inl xc)), (j0, .inr (2, [.ref j1, .int jhi, .int jwi, .int jfr, .int jfc, .int jlc])), (j1, .inl (G.2.1, 20, .inl jstr)), (e0, .inr (0, [.ref e1, .ref e2, .int ecnt])), (e1, .inl (G.2.1, 4, .inl ek)), (e2, .inl (G.2.1, 4, .inl ewt)), (r0, .inr (3, [.ref r1, .ref r2, .ref r3, .int rc]))] (some (.int (x_ttR sla sle lane i n sn xc jstr ek ewt))) (fun jj : Int32 × Int32 × Int32 × (Nat → Int32) => [(b0, .inr (6, [.ref bs, .ref x0, .ref d0, .ref r0, .ref (if x_ttOk sla sle lane i n sn xc jstr ek ewt then j0 else i0), .ref (if x_ttOk sla sle lane i n sn xc jstr ek ewt then e0 else c0), .ref (if x_ttOk sla sle lane i n sn xc jstr ek ewt then i0 else j0), .ref (if x_ttOk sla sle lane i n sn xc jstr ek ewt then c0 else e0), .int lf, .int tr])), (bs, .inl (G.2.2.2, 4, .inr (.inr (.inr (.inr sh))))), (s0, .inr (4, [.ref s1, .int sla, .int sle])), (s1, .inl (G.2.1, 60, .inl sn)), (x0, .inr (5, [.ref x1, .int jj.1, .int jj.2.1, .int jj.2.2.1])), (x1, .inl (G.2.1, 60, .inl jj.2.2.2)), (j0, .inr (2, [.ref j1, .int (if x_ttGo sla sle lane i n then itHi n (s_cpT sn xc i n) (0, 0) else jhi), .int (if x_ttGo sla sle lane i n then itWi n (s_cpT sn xc i n) (0, 0) else jwi), .int (if x_ttGo sla sle lane i n then itFr n (s_cpT sn xc i n) (0, 0) else jfr), .int (if x_ttGo sla sle lane i n then (x_ttIce sn xc i n jstr).2.2 else jfc), .int (if x_ttGo sla sle lane i n then (x_ttIce sn xc i n jstr).2.2 <<< ((itWi n (s_cpT sn xc i n) (0, 0) - 1) &&& 31) else jlc)])), (j1, .inl (G.2.1, 20, .inl (if x_ttGo sla sle lane i n then (x_ttIce sn xc i n jstr).2.1 else jstr))), (e0, .inr (0, [.ref e1, .ref e2, .int (if x_ttGo sla sle lane i n then (x_ttCrew sn xc i n jstr ek ewt).2.2.2 else ecnt)])), (e1, .inl (G.2.1, 4, .inl (if x_ttGo sla sle lane i n then (x_ttCrew sn xc i n jstr ek ewt).2.1 else ek))), (e2, .inl (G.2.1, 4, .inl (if x_ttGo sla sle lane i n then (x_ttCrew sn xc i n jstr ek ewt).2.2.1 else ewt))), (r0, .inr (3, [.ref r1, .ref r2, .ref r3, .int (if x_ttOk sla sle lane i n sn xc jstr ek ewt then 0 else rc)]))])
def K_X6_takeText_n (l : Launch) (G : GT) : Prop := ∀ (b0 : Nat) (bs : Nat) (x0 : Nat) (d0 : Nat) (r0 : Nat) (i0 : Nat) (c0 : Nat) (j0 : Nat) (e0 : Nat) (lf : Int32) (tr : Int32) (sh : Nat → Option Nat) (sheet : Int32) (lane : Int32) (i : Int32) (n : Int32), (s_shAt sh sheet = none) → (s_in sheet 0 3 = 0 ∨ vp_in sheet 4) → MF l G yX6_takeText cX6_takeText 7 (some .int) rm_X6_takeText [.ref b0, .int sheet, .int lane, .int i, .int n] [(b0, .inr (6, [.ref bs, .ref x0, .ref d0, .ref r0, .ref i0, .ref c0, .ref j0, .ref e0, .int lf, .int tr])), (bs, .inl (G.2.2.2, 4, .inr (.inr (.inr (.inr sh)))))] (some (.int (-1))) [(b0, .inr (6, [.ref bs, .ref x0, .ref d0, .ref r0, .ref i0, .ref c0, .ref j0, .ref e0, .int lf, .int tr])), (bs, .inl (G.2.2.2, 4, .inr (.inr (.inr (.inr sh)))))]
def K_X6_isDeedKnown (l : Launch) (G : GT) : Prop := ∀ (b0 : Nat) (bs : Nat) (c0 : Nat) (i0 : Nat) (x0 : Nat) (d0 : Nat) (r0 : Nat) (j0 : Nat) (e0 : Nat) (c1 : Nat) (c2 : Nat) (i1 : Nat) (lf : Int32) (tr : Int32) (cnt : Int32) (hi : Int32) (wi : Int32) (fr : Int32) (fc : Int32) (lc : Int32) (sh : Nat → Option Nat) (a : Int32) (b : Int32) (ce : Int32) (sheet : Int32) (s0 : Nat), (s_shAt sh sheet = some s0) → (s_in sheet 0 3 = 0 ∨ vp_in sheet 4) → MF l G yX6_isDeedKnown cX6_isDeedKnown 5 (some .boolean) rm_X6_isDeedKnown [.ref b0, .int a, .int b, .int ce, .int sheet] [(b0, .inr (6, [.ref bs, .ref x0, .ref d0, .ref r0, .ref i0, .ref c0, .ref j0, .ref e0, .int lf, .int tr])), (bs, .inl (G.2.2.2, 4, .inr (.inr (.inr (.inr sh))))), (c0, .inr (0, [.ref c1, .ref c2, .int cnt])), (i0, .inr (2, [.ref i1, .int hi, .int wi, .int fr, .int fc, .int lc]))] (some (.int (x_dKn hi wi cnt a b ce))) [(b0, .inr (6, [.ref bs, .ref x0, .ref d0, .ref r0, .ref i0, .ref c0, .ref j0, .ref e0, .int lf, .int tr])), (bs, .inl (G.2.2.2, 4, .inr (.inr (.inr (.inr sh))))), (c0, .inr (0, [.ref c1, .ref c2, .int cnt])), (i0, .inr (2, [.ref i1, .int hi, .int wi, .int fr, .int fc, .int lc]))]
def K_X6_isDeedKnown_n (l : Launch) (G : GT) : Prop := ∀ (b0 : Nat) (bs : Nat) (c0 : Nat) (i0 : Nat) (x0 : Nat) (d0 : Nat) (r0 : Nat) (j0 : Nat) (e0 : Nat) (c1 : Nat) (c2 : Nat) (i1 : Nat) (lf : Int32) (tr : Int32) (cnt : Int32) (hi : Int32) (wi : Int32) (fr : Int32) (fc : Int32) (lc : Int32) (sh : Nat → Option Nat) (a : Int32) (b : Int32) (ce : Int32) (sheet : Int32), (s_shAt sh sheet = none) → (s_in sheet 0 3 = 0 ∨ vp_in sheet 4) → MF l G yX6_isDeedKnown cX6_isDeedKnown 5 (some .boolean) rm_X6_isDeedKnown [.ref b0, .int a, .int b, .int ce, .int sheet] [(b0, .inr (6, [.ref bs, .ref x0, .ref d0, .ref r0, .ref i0, .ref c0, .ref j0, .ref e0, .int lf, .int tr])), (bs, .inl (G.2.2.2, 4, .inr (.inr (.inr (.inr sh))))), (c0, .inr (0, [.ref c1, .ref c2, .int cnt])), (i0, .inr (2, [.ref i1, .int hi, .int wi, .int fr, .int fc, .int lc]))] (some (.int 0)) [(b0, .inr (6, [.ref bs, .ref x0, .ref d0, .ref r0, .ref i0, .ref c0, .ref j0, .ref e0, .int lf, .int tr])), (bs, .inl (G.2.2.2, 4, .inr (.inr (.inr (.inr sh))))), (c0, .inr (0, [.ref c1, .ref c2, .int cnt])), (i0, .inr (2, [.ref i1, .int hi, .int wi, .int fr, .int fc, .int lc]))]
def K_X6_tryDeed (l : Launch) (G : GT) : Prop := ∀ (b0 : Nat) (bs : Nat) (s0 : Nat) (s1 : Nat) (d0 : Nat) (d1 : Nat) (i0 : Nat) (i1 : Nat) (c0 : Nat) (c1 : Nat) (c2 : Nat) (x0 : Nat) (r0 : Nat) (j0 : Nat) (e0 : Nat) (lf : Int32) (tr : Int32) (sla : Int32) (sle : Int32) (dat : Int32) (dcut : Int32) (dfw : Int32) (hi : Int32) (wi : Int32) (fr : Int32) (fc : Int32) (lc : Int32) (cnt : Int32) (sn : Nat → Int32) (dstr : Nat → Int32) (str : Nat → Int32) (ck : Nat → Int32) (cwt : Nat → Int32) (sh : Nat → Option Nat) (a : Int32) (b : Int32) (ce : Int32) (sheet : Int32) (lane : Int32) (i : Int32) (n : Int32), (s_shAt sh sheet = some s0) → (s_in sheet 0 3 = 0 ∨ vp_in sheet 4) → (okD hi wi) → (okN cnt) → (¬ 60 < sle) → (x_dK hi wi cnt a b ce → okTrial hi wi fc lc ck cwt sn (s_cp20 str dstr) a b ce i n sle) → MF l G yX6_tryDeed cX6_tryDeed 11 (some .int) rm_X6_tryDeed [.ref b0, .int a, .int b, .int ce, .int sheet, .int lane, .int i, .int n] [(b0, .inr (6, [.ref bs, .ref x0, .ref d0, .ref r0, .ref i0, .ref c0, .ref j0, .ref e0, .int lf, .int tr])), (bs, .inl (G.2.2.2, 4, .inr (.inr (.inr (.inr sh))))), (s0, .inr (4, [.ref s1, .int sla, .int sle])), (s1, .inl (G.2.1, 60, .inl sn)), (d0, .inr (1, [.ref d1, .int dat, .int dcut, .int dfw])), (d1, .inl (G.2.1, 20, .inl dstr)), (i0, .inr (2, [.ref i1, .int hi, .int wi, .int fr, .int fc, .int lc])), (i1, .inl (G.2.1, 20, .inl str)), (c0, .inr (0, [.ref c1, .ref c2, .int cnt])), (c1, .inl (G.2.1, 4, .inl ck)), (c2, .inl (G.2.1, 4, .inl cwt))] (some (.int (x_tdR hi wi cnt sla sle sn a b ce lane i n))) [(b0, .inr (6, [.ref bs, .ref x0, .ref d0, .ref r0, .ref i0, .ref c0, .ref j0, .ref e0, .int lf, .int tr])), (bs, .inl (G.2.2.2, 4, .inr (.inr (.inr (.inr sh))))), (s0, .inr (4, [.ref s1, .int sla, .int sle])), (s1, .inl (G.2.1, 60, .inl sn)), (d0, .inr (1, [.ref d1, .int (if x_tdR hi wi cnt sla sle sn a b ce lane i n = 0 then (x_tr hi wi fc lc ck cwt sn str dstr a b ce i n).1 else dat), .int (if x_tdR hi wi cnt sla sle sn a b ce lane i n = 0 then (x_tr hi wi fc lc ck cwt sn str dstr a b ce i n).2.1 else dcut), .int (if x_tdR hi wi cnt sla sle sn a b ce lane i n = 0 then (x_tr hi wi fc lc ck cwt sn str dstr a b ce i n).2.2.1 else dfw)])), (d1, .inl (G.2.1, 20, .inl (if x_tdR hi wi cnt sla sle sn a b ce lane i n = 0 then (x_tr hi wi fc lc ck cwt sn str dstr a b ce i n).2.2.2 else dstr))), (i0, .inr (2, [.ref i1, .int hi, .int wi, .int fr, .int fc, .int lc])), (i1, .inl (G.2.1, 20, .inl str)), (c0, .inr (0, [.ref c1, .ref c2, .int cnt])), (c1, .inl (G.2.1, 4, .inl ck)), (c2, .inl (G.2.1, 4, .inl cwt))]
def K_X6_tryDeed_n (l : Launch) (G : GT) : Prop := ∀ (b0 : Nat) (bs : Nat) (x0 : Nat) (d0 : Nat) (r0 : Nat) (i0 : Nat) (c0 : Nat) (j0 : Nat) (e0 : Nat) (lf : Int32) (tr : Int32) (sh : Nat → Option Nat) (a : Int32) (b : Int32) (ce : Int32) (sheet : Int32) (lane : Int32) (i : Int32) (n : Int32), (s_shAt sh sheet = none) → (s_in sheet 0 3 = 0 ∨ vp_in sheet 4) → MF l G yX6_tryDeed cX6_tryDeed 11 (some .int) rm_X6_tryDeed [.ref b0, .int a, .int b, .int ce, .int sheet, .int lane, .int i, .int n] [(b0, .inr (6, [.ref bs, .ref x0, .ref d0, .ref r0, .ref i0, .ref c0, .ref j0, .ref e0, .int lf, .int tr])), (bs, .inl (G.2.2.2, 4, .inr (.inr (.inr (.inr sh)))))] (some (.int (-1))) [(b0, .inr (6, [.ref bs, .ref x0, .ref d0, .ref r0, .ref i0, .ref c0, .ref j0, .ref e0, .int lf, .int tr])), (bs, .inl (G.2.2.2, 4, .inr (.inr (.inr (.inr sh)))))]
def K_X6_ofTrial (l : Launch) (G : GT) : Prop := ∀ (b0 : Nat) (d0 : Nat) (d1 : Nat) (bs : Nat) (x0 : Nat) (r0 : Nat) (i0 : Nat) (c0 : Nat) (j0 : Nat) (e0 : Nat) (lf : Int32) (tr : Int32) (dat : Int32) (dcut : Int32) (dfw : Int32) (dstr : Nat → Int32) (n : Int32) (what : Int32), (vp_in dat 20) → MF l G yX6_ofTrial cX6_ofTrial 3 (some .int) rm_X6_ofTrial [.ref b0, .int n, .int what] [(b0, .inr (6, [.ref bs, .ref x0, .ref d0, .ref r0, .ref i0, .ref c0, .ref j0, .ref e0, .int lf, .int tr])), (d0, .inr (1, [.ref d1, .int dat, .int dcut, .int dfw])), (d1, .inl (G.2.1, 20, .inl dstr))] (some (.int (x_ofT (dat, dcut, dfw, dstr) n what))) [(b0, .inr (6, [.ref bs, .ref x0, .ref d0, .ref r0, .ref i0, .ref c0, .ref j0, .ref e0, .int lf, .int tr])), (d0, .inr (1, [.ref d1, .int dat, .int dcut, .int dfw])), (d1, .inl (G.2.1, 20, .inl dstr))]
def K_X6_isBondKnown (l : Launch) (G : GT) : Prop := ∀ (b0 : Nat) (c0 : Nat) (i0 : Nat) (bs : Nat) (x0 : Nat) (d0 : Nat) (r0 : Nat) (j0 : Nat) (e0 : Nat) (c1 : Nat) (c2 : Nat) (i1 : Nat) (lf : Int32) (tr : Int32) (cnt : Int32) (hi : Int32) (wi : Int32) (fr : Int32) (fc : Int32) (lc : Int32) (a : Int32) (b : Int32) (fro : Int32) (to : Int32), MF l G yX6_isBondKnown cX6_isBondKnown 5 (some .boolean) rm_X6_isBondKnown [.ref b0, .int a, .int b, .int fro, .int to] [(b0, .inr (6, [.ref bs, .ref x0, .ref d0, .ref r0, .ref i0, .ref c0, .ref j0, .ref e0, .int lf, .int tr])), (c0, .inr (0, [.ref c1, .ref c2, .int cnt])), (i0, .inr (2, [.ref i1, .int hi, .int wi, .int fr, .int fc, .int lc]))] (some (.int (x_bKn hi wi cnt a b fro to))) [(b0, .inr (6, [.ref bs, .ref x0, .ref d0, .ref r0, .ref i0, .ref c0, .ref j0, .ref e0, .int lf, .int tr])), (c0, .inr (0, [.ref c1, .ref c2, .int cnt])), (i0, .inr (2, [.ref i1, .int hi, .int wi, .int fr, .int fc, .int lc]))]
def K_X6_isBond (l : Launch) (G : GT) : Prop := ∀ (b0 : Nat) (c0 : Nat) (c1 : Nat) (c2 : Nat) (i0 : Nat) (i1 : Nat) (bs : Nat) (x0 : Nat) (d0 : Nat) (r0 : Nat) (j0 : Nat) (e0 : Nat) (lf : Int32) (tr : Int32) (cnt : Int32) (hi : Int32) (wi : Int32) (fr : Int32) (fc : Int32) (lc : Int32) (ck : Nat → Int32) (cwt : Nat → Int32) (str : Nat → Int32) (a : Int32) (b : Int32) (fro : Int32) (to : Int32) (broken : Int32), (okD hi wi) → (vp_in a 4) → (vp_in b 4) → MF l G yX6_isBond cX6_isBond 8 (some .boolean) rm_X6_isBond [.ref b0, .int a, .int b, .int fro, .int to, .int broken] [(b0, .inr (6, [.ref bs, .ref x0, .ref d0, .ref r0, .ref i0, .ref c0, .ref j0, .ref e0, .int lf, .int tr])), (c0, .inr (0, [.ref c1, .ref c2, .int cnt])), (c1, .inl (G.2.1, 4, .inl ck)), (c2, .inl (G.2.1, 4, .inl cwt)), (i0, .inr (2, [.ref i1, .int hi, .int wi, .int fr, .int fc, .int lc])), (i1, .inl (G.2.1, 20, .inl str))] (some (.int (x_isBd hi wi fc lc str ck cwt a b fro to broken))) [(b0, .inr (6, [.ref bs, .ref x0, .ref d0, .ref r0, .ref i0, .ref c0, .ref j0, .ref e0, .int lf, .int tr])), (c0, .inr (0, [.ref c1, .ref c2, .int cnt])), (c1, .inl (G.2.1, 4, .inl ck)), (c2, .inl (G.2.1, 4, .inl cwt)), (i0, .inr (2, [.ref i1, .int hi, .int wi, .int fr, .int fc, .int lc])), (i1, .inl (G.2.1, 20, .inl str))]
def K_X6_bondsAsBreaking (l : Launch) (G : GT) : Prop := ∀ (b0 : Nat) (c0 : Nat) (c1 : Nat) (c2 : Nat) (i0 : Nat) (i1 : Nat) (bs : Nat) (x0 : Nat) (d0 : Nat) (r0 : Nat) (j0 : Nat) (e0 : Nat) (lf : Int32) (tr : Int32) (cnt : Int32) (hi : Int32) (wi : Int32) (fr : Int32) (fc : Int32) (lc : Int32) (ck : Nat → Int32) (cwt : Nat → Int32) (str : Nat → Int32) (a : Int32) (b : Int32) (fro : Int32) (to : Int32) (set : Int32), (okD hi wi) → (vp_in a 4) → (vp_in b 4) → (s_bitCount set ≤ 8) → (¬ s_bitCount set < 0) → MF l G yX6_bondsAsBreaking cX6_bondsAsBreaking 9 (some .int) rm_X6_bondsAsBreaking [.ref b0, .int a, .int b, .int fro, .int to, .int set] [(b0, .inr (6, [.ref bs, .ref x0, .ref d0, .ref r0, .ref i0, .ref c0, .ref j0, .ref e0, .int lf, .int tr])), (c0, .inr (0, [.ref c1, .ref c2, .int cnt])), (c1, .inl (G.2.1, 4, .inl ck)), (c2, .inl (G.2.1, 4, .inl cwt)), (i0, .inr (2, [.ref i1, .int hi, .int wi, .int fr, .int fc, .int lc])), (i1, .inl (G.2.1, 20, .inl str))] (some (.int (x_bonds hi wi fc lc str ck cwt a b fro to set))) [(b0, .inr (6, [.ref bs, .ref x0, .ref d0, .ref r0, .ref i0, .ref c0, .ref j0, .ref e0, .int lf, .int tr])), (c0, .inr (0, [.ref c1, .ref c2, .int cnt])), (c1, .inl (G.2.1, 4, .inl ck)), (c2, .inl (G.2.1, 4, .inl cwt)), (i0, .inr (2, [.ref i1, .int hi, .int wi, .int fr, .int fc, .int lc])), (i1, .inl (G.2.1, 20, .inl str))]
def K_X6_newRow (l : Launch) (G : GT) : Prop := ∀ (b0 : Nat) (bs : Nat) (s0 : Nat) (s1 : Nat) (x0 : Nat) (d0 : Nat) (r0 : Nat) (i0 : Nat) (c0 : Nat) (j0 : Nat) (e0 : Nat) (lf : Int32) (tr : Int32) (sla : Int32) (sle : Int32) (sn : Nat → Int32) (sh : Nat → Option Nat) (k : Int32) (lane : Int32) (n : Int32), (s_shAt sh k = some s0) → (s_in k 0 3 = 0 ∨ vp_in k 4) → MF l G yX6_newRow cX6_newRow 5 (some .int) rm_X6_newRow [.ref b0, .int k, .int lane, .int n] [(b0, .inr (6, [.ref bs, .ref x0, .ref d0, .ref r0, .ref i0, .ref c0, .ref j0, .ref e0, .int lf, .int tr])), (bs, .inl (G.2.2.2, 4, .inr (.inr (.inr (.inr sh))))), (s0, .inr (4, [.ref s1, .int sla, .int sle])), (s1, .inl (G.2.1, 60, .inl sn))] (some (.int (x_nrR lane n))) [(b0, .inr (6, [.ref bs, .ref x0, .ref d0, .ref r0, .ref i0, .ref c0, .ref j0, .ref e0, .int lf, .int tr])), (bs, .inl (G.2.2.2, 4, .inr (.inr (.inr (.inr sh))))), (s0, .inr (4, [.ref s1, .int (if x_nrOk lane n then lane else sla), .int (if x_nrOk lane n then n else sle)])), (s1, .inl (G.2.1, 60, .inl (if x_nrOk lane n then s_fill 0 sn else sn)))]
def K_X6_newRow_n (l : Launch) (G : GT) : Prop := ∀ (b0 : Nat) (bs : Nat) (x0 : Nat) (d0 : Nat) (r0 : Nat) (i0 : Nat) (c0 : Nat) (j0 : Nat) (e0 : Nat) (lf : Int32) (tr : Int32) (sh : Nat → Option Nat) (k : Int32) (lane : Int32) (n : Int32), (s_shAt sh k = none) → (s_in k 0 3 = 0 ∨ vp_in k 4) → MF l G yX6_newRow cX6_newRow 5 (some .int) rm_X6_newRow [.ref b0, .int k, .int lane, .int n] [(b0, .inr (6, [.ref bs, .ref x0, .ref d0, .ref r0, .ref i0, .ref c0, .ref j0, .ref e0, .int lf, .int tr])), (bs, .inl (G.2.2.2, 4, .inr (.inr (.inr (.inr sh)))))] (some (.int (-1))) [(b0, .inr (6, [.ref bs, .ref x0, .ref d0, .ref r0, .ref i0, .ref c0, .ref j0, .ref e0, .int lf, .int tr])), (bs, .inl (G.2.2.2, 4, .inr (.inr (.inr (.inr sh)))))]
def K_X6_putNumber (l : Launch) (G : GT) : Prop := ∀ (b0 : Nat) (bs : Nat) (s0 : Nat) (s1 : Nat) (x0 : Nat) (d0 : Nat) (r0 : Nat) (i0 : Nat) (c0 : Nat) (j0 : Nat) (e0 : Nat) (lf : Int32) (tr : Int32) (sla : Int32) (sle : Int32) (sn : Nat → Int32) (sh : Nat → Option Nat) (k : Int32) (ii : Int32) (v : Int32), (s_shAt sh k = some s0) → (s_in k 0 3 = 0 ∨ vp_in k 4) → (¬ 60 < sle) → MF l G yX6_putNumber cX6_putNumber 5 (some .int) rm_X6_putNumber [.ref b0, .int k, .int ii, .int v] [(b0, .inr (6, [.ref bs, .ref x0, .ref d0, .ref r0, .ref i0, .ref c0, .ref j0, .ref e0, .int lf, .int tr])), (bs, .inl (G.2.2.2, 4, .inr (.inr (.inr (.inr sh))))), (s0, .inr (4, [.ref s1, .int sla, .int sle])), (s1, .inl (G.2.1, 60, .inl sn))] (some (.int (x_pnR sla sle ii))) [(b0, .inr (6, [.ref bs, .ref x0, .ref d0, .ref r0, .ref i0, .ref c0, .ref j0, .ref e0, .int lf, .int tr])), (bs, .inl (G.2.2.2, 4, .inr (.inr (.inr (.inr sh))))), (s0, .inr (4, [.ref s1, .int sla, .int sle])), (s1, .inl (G.2.1, 60, .inl (if x_pnOk sla sle ii then upd sn ii.toNatClampNeg (s_cut sla v) else sn)))]
def K_X6_putNumber_n (l : Launch) (G : GT) : Prop := ∀ (b0 : Nat) (bs : Nat) (x0 : Nat) (d0 : Nat) (r0 : Nat) (i0 : Nat) (c0 : Nat) (j0 : Nat) (e0 : Nat) (lf : Int32) (tr : Int32) (sh : Nat → Option Nat) (k : Int32) (ii : Int32) (v : Int32), (s_shAt sh k = none) → (s_in k 0 3 = 0 ∨ vp_in k 4) → MF l G yX6_putNumber cX6_putNumber 5 (some .int) rm_X6_putNumber [.ref b0, .int k, .int ii, .int v] [(b0, .inr (6, [.ref bs, .ref x0, .ref d0, .ref r0, .ref i0, .ref c0, .ref j0, .ref e0, .int lf, .int tr])), (bs, .inl (G.2.2.2, 4, .inr (.inr (.inr (.inr sh)))))] (some (.int (-1))) [(b0, .inr (6, [.ref bs, .ref x0, .ref d0, .ref r0, .ref i0, .ref c0, .ref j0, .ref e0, .int lf, .int tr])), (bs, .inl (G.2.2.2, 4, .inr (.inr (.inr (.inr sh)))))]
def K_X6_copyNumbers (l : Launch) (G : GT) : Prop := ∀ (b0 : Nat) (bs : Nat) (s0 : Nat) (s1 : Nat) (u0 : Nat) (u1 : Nat) (x0 : Nat) (d0 : Nat) (r0 : Nat) (i0 : Nat) (c0 : Nat) (j0 : Nat) (e0 : Nat) (lf : Int32) (tr : Int32) (sla : Int32) (sle : Int32) (ula : Int32) (ule : Int32) (sn : Nat → Int32) (un : Nat → Int32) (sh : Nat → Option Nat) (k : Int32) (i : Int32) (other : Int32) (j : Int32) (n : Int32), (s_shAt sh k = some s0) → (s_shAt sh other = some u0) → (s_in k 0 3 = 0 ∨ vp_in k 4) → (s_in other 0 3 = 0 ∨ vp_in other 4) → (¬ 60 < sle) → (¬ 60 < ule) → MF l G yX6_copyNumbers cX6_copyNumbers 8 (some .int) rm_X6_copyNumbers [.ref b0, .int k, .int i, .int other, .int j, .int n] [(b0, .inr (6, [.ref bs, .ref x0, .ref d0, .ref r0, .ref i0, .ref c0, .ref j0, .ref e0, .int lf, .int tr])), (bs, .inl (G.2.2.2, 4, .inr (.inr (.inr (.inr sh))))), (s0, .inr (4, [.ref s1, .int sla, .int sle])), (s1, .inl (G.2.1, 60, .inl sn)), (u0, .inr (4, [.ref u1, .int ula, .int ule])), (u1, .inl (G.2.1, 60, .inl un))] (some (.int (x_cpR sla sle ula ule i j n))) [(b0, .inr (6, [.ref bs, .ref x0, .ref d0, .ref r0, .ref i0, .ref c0, .ref j0, .ref e0, .int lf, .int tr])), (bs, .inl (G.2.2.2, 4, .inr (.inr (.inr (.inr sh))))), (s0, .inr (4, [.ref s1, .int sla, .int sle])), (s1, .inl (G.2.1, 60, .inl sn)), (u0, .inr (4, [.ref u1, .int ula, .int ule])), (u1, .inl (G.2.1, 60, .inl (x_cpS sla sle ula ule sn un i j n)))]
def K_X6_copyNumbers_s (l : Launch) (G : GT) : Prop := ∀ (b0 : Nat) (bs : Nat) (s0 : Nat) (s1 : Nat) (x0 : Nat) (d0 : Nat) (r0 : Nat) (i0 : Nat) (c0 : Nat) (j0 : Nat) (e0 : Nat) (lf : Int32) (tr : Int32) (sla : Int32) (sle : Int32) (sn : Nat → Int32) (sh : Nat → Option Nat) (k : Int32) (i : Int32) (other : Int32) (j : Int32) (n : Int32), (s_shAt sh k = some s0) → (s_shAt sh other = some s0) → (s_in k 0 3 = 0 ∨ vp_in k 4) → (s_in other 0 3 = 0 ∨ vp_in other 4) → (¬ 60 < sle) → MF l G yX6_copyNumbers cX6_copyNumbers 8 (some .int) rm_X6_copyNumbers [.ref b0, .int k, .int i, .int other, .int j, .int n] [(b0, .inr (6, [.ref bs, .ref x0, .ref d0, .ref r0, .ref i0, .ref c0, .ref j0, .ref e0, .int lf, .int tr])), (bs, .inl (G.2.2.2, 4, .inr (.inr (.inr (.inr sh))))), (s0, .inr (4, [.ref s1, .int sla, .int sle])), (s1, .inl (G.2.1, 60, .inl sn))] (some (.int (x_cpR sla sle sla sle i j n))) [(b0, .inr (6, [.ref bs, .ref x0, .ref d0, .ref r0, .ref i0, .ref c0, .ref j0, .ref e0, .int lf, .int tr])), (bs, .inl (G.2.2.2, 4, .inr (.inr (.inr (.inr sh))))), (s0, .inr (4, [.ref s1, .int sla, .int sle])), (s1, .inl (G.2.1, 60, .inl (x_cpS sla sle sla sle sn sn i j n)))]
def K_X6_copyNumbers_n (l : Launch) (G : GT) : Prop := ∀ (b0 : Nat) (bs : Nat) (x0 : Nat) (d0 : Nat) (r0 : Nat) (i0 : Nat) (c0 : Nat) (j0 : Nat) (e0 : Nat) (lf : Int32) (tr : Int32) (sh : Nat → Option Nat) (k : Int32) (i : Int32) (other : Int32) (j : Int32) (n : Int32), (s_shAt sh k = none) → (s_shAt sh other = none) → (s_in k 0 3 = 0 ∨ vp_in k 4) → (s_in other 0 3 = 0 ∨ vp_in other 4) → MF l G yX6_copyNumbers cX6_copyNumbers 8 (some .int) rm_X6_copyNumbers [.ref b0, .int k, .int i, .int other, .int j, .int n] [(b0, .inr (6, [.ref bs, .ref x0, .ref d0, .ref r0, .ref i0, .ref c0, .ref j0, .ref e0, .int lf, .int tr])), (bs, .inl (G.2.2.2, 4, .inr (.inr (.inr (.inr sh)))))] (some (.int (-1))) [(b0, .inr (6, [.ref bs, .ref x0, .ref d0, .ref r0, .ref i0, .ref c0, .ref j0, .ref e0, .int lf, .int tr])), (bs, .inl (G.2.2.2, 4, .inr (.inr (.inr (.inr sh)))))]
def K_X6_copyNumbers_n1 (l : Launch) (G : GT) : Prop := ∀ (b0 : Nat) (bs : Nat) (x0 : Nat) (d0 : Nat) (r0 : Nat) (i0 : Nat) (c0 : Nat) (j0 : Nat) (e0 : Nat) (lf : Int32) (tr : Int32) (sh : Nat → Option Nat) (k : Int32) (i : Int32) (other : Int32) (j : Int32) (n : Int32) (u0 : Nat), (s_shAt sh k = none) → (s_shAt sh other = some u0) → (s_in k 0 3 = 0 ∨ vp_in k 4) → (s_in other 0 3 = 0 ∨ vp_in other 4) → MF l G yX6_copyNumbers cX6_copyNumbers 8 (some .int) rm_X6_copyNumbers [.ref b0, .int k, .int i, .int other, .int j, .int n] [(b0, .inr (6, [.ref bs, .ref x0, .ref d0, .ref r0, .ref i0, .ref c0, .ref j0, .ref e0, .int lf, .int tr])), (bs, .inl (G.2.2.2, 4, .inr (.inr (.inr (.inr sh)))))] (some (.int (-1))) [(b0, .inr (6, [.ref bs, .ref x0, .ref d0, .ref r0, .ref i0, .ref c0, .ref j0, .ref e0, .int lf, .int tr])), (bs, .inl (G.2.2.2, 4, .inr (.inr (.inr (.inr sh)))))]
def K_X6_copyNumbers_n2 (l : Launch) (G : GT) : Prop := ∀ (b0 : Nat) (bs : Nat) (x0 : Nat) (d0 : Nat) (r0 : Nat) (i0 : Nat) (c0 : Nat) (j0 : Nat) (e0 : Nat) (lf : Int32) (tr : Int32) (sh : Nat → Option Nat) (k : Int32) (i : Int32) (other : Int32) (j : Int32) (n : Int32) (s0 : Nat), (s_shAt sh k = some s0) → (s_shAt sh other = none) → (s_in k 0 3 = 0 ∨ vp_in k 4) → (s_in other 0 3 = 0 ∨ vp_in other 4) → MF l G yX6_copyNumbers cX6_copyNumbers 8 (some .int) rm_X6_copyNumbers [.ref b0, .int k, .int i, .int other, .int j, .int n] [(b0, .inr (6, [.ref bs, .ref x0, .ref d0, .ref r0, .ref i0, .ref c0, .ref j0, .ref e0, .int lf, .int tr])), (bs, .inl (G.2.2.2, 4, .inr (.inr (.inr (.inr sh)))))] (some (.int (-1))) [(b0, .inr (6, [.ref bs, .ref x0, .ref d0, .ref r0, .ref i0, .ref c0, .ref j0, .ref e0, .int lf, .int tr])), (bs, .inl (G.2.2.2, 4, .inr (.inr (.inr (.inr sh)))))]
def K_X6_leave (l : Launch) (G : GT) : Prop := ∀ (b0 : Nat) (bs : Nat) (x0 : Nat) (d0 : Nat) (r0 : Nat) (i0 : Nat) (c0 : Nat) (j0 : Nat) (e0 : Nat) (lf : Int32) (tr : Int32) (body : Int32), MF l G yX6_leave cX6_leave 2 none rm_X6_leave [.ref b0, .int body] [(b0, .inr (6, [.ref bs, .ref x0, .ref d0, .ref r0, .ref i0, .ref c0, .ref j0, .ref e0, .int lf, .int tr]))] none [(b0, .inr (6, [.ref bs, .ref x0, .ref d0, .ref r0, .ref i0, .ref c0, .ref j0, .ref e0, .int lf, .int (31 * tr + body)]))]
def K_X6_skaterGives (l : Launch) (G : GT) : Prop := ∀ (b0 : Nat) (bs : Nat) (x0 : Nat) (d0 : Nat) (r0 : Nat) (i0 : Nat) (c0 : Nat) (j0 : Nat) (e0 : Nat) (lf : Int32) (tr : Int32) (w : Int32), MF l G yX6_skaterGives cX6_skaterGives 2 (some .int) rm_X6_skaterGives [.ref b0, .int w] [(b0, .inr (6, [.ref bs, .ref x0, .ref d0, .ref r0, .ref i0, .ref c0, .ref j0, .ref e0, .int lf, .int tr]))] (some (.int w)) [(b0, .inr (6, [.ref bs, .ref x0, .ref d0, .ref r0, .ref i0, .ref c0, .ref j0, .ref e0, .int lf, .int (31 * tr + 1)]))]
def K_X6_clerkGives (l : Launch) (G : GT) : Prop := ∀ (b0 : Nat) (bs : Nat) (x0 : Nat) (d0 : Nat) (r0 : Nat) (i0 : Nat) (c0 : Nat) (j0 : Nat) (e0 : Nat) (lf : Int32) (tr : Int32) (w : Int32), MF l G yX6_clerkGives cX6_clerkGives 2 (some .int) rm_X6_clerkGives [.ref b0, .int w] [(b0, .inr (6, [.ref bs, .ref x0, .ref d0, .ref r0, .ref i0, .ref c0, .ref j0, .ref e0, .int lf, .int tr]))] (some (.int (w + 100))) [(b0, .inr (6, [.ref bs, .ref x0, .ref d0, .ref r0, .ref i0, .ref c0, .ref j0, .ref e0, .int lf, .int (31 * (31 * tr + 2) + 1)]))]
def K_X6_bankerGives (l : Launch) (G : GT) : Prop := ∀ (b0 : Nat) (bs : Nat) (x0 : Nat) (d0 : Nat) (r0 : Nat) (i0 : Nat) (c0 : Nat) (j0 : Nat) (e0 : Nat) (lf : Int32) (tr : Int32) (w : Int32), MF l G yX6_bankerGives cX6_bankerGives 3 (some .int) rm_X6_bankerGives [.ref b0, .int w] [(b0, .inr (6, [.ref bs, .ref x0, .ref d0, .ref r0, .ref i0, .ref c0, .ref j0, .ref e0, .int lf, .int tr]))] (some (.int (w + 100 + w))) [(b0, .inr (6, [.ref bs, .ref x0, .ref d0, .ref r0, .ref i0, .ref c0, .ref j0, .ref e0, .int lf, .int (31 * (31 * (31 * (31 * tr + 3) + 2) + 1) + 1)]))]
def K_X6_takeAs (l : Launch) (G : GT) : Prop := ∀ (b0 : Nat) (c0 : Nat) (c1 : Nat) (c2 : Nat) (bs : Nat) (x0 : Nat) (d0 : Nat) (r0 : Nat) (i0 : Nat) (j0 : Nat) (e0 : Nat) (lf : Int32) (tr : Int32) (cnt : Int32) (ck : Nat → Int32) (cwt : Nat → Int32) (a : Int32) (kind : Int32), (okN cnt) → MF l G yX6_takeAs cX6_takeAs 3 (some .int) rm_X6_takeAs [.ref b0, .int a, .int kind] [(b0, .inr (6, [.ref bs, .ref x0, .ref d0, .ref r0, .ref i0, .ref c0, .ref j0, .ref e0, .int lf, .int tr])), (c0, .inr (0, [.ref c1, .ref c2, .int cnt])), (c1, .inl (G.2.1, 4, .inl ck)), (c2, .inl (G.2.1, 4, .inl cwt))] (some (.int (x_asR cnt ck a kind))) [(b0, .inr (6, [.ref bs, .ref x0, .ref d0, .ref r0, .ref i0, .ref c0, .ref j0, .ref e0, .int lf, .int tr])), (c0, .inr (0, [.ref c1, .ref c2, .int cnt])), (c1, .inl (G.2.1, 4, .inl ck)), (c2, .inl (G.2.1, 4, .inl cwt))]
def K_X6_canal (l : Launch) (G : GT) : Prop := ∀ (b0 : Nat) (bs : Nat) (s0 : Nat) (s1 : Nat) (x0 : Nat) (x1 : Nat) (j0 : Nat) (j1 : Nat) (e0 : Nat) (e1 : Nat) (e2 : Nat) (r0 : Nat) (d0 : Nat) (i0 : Nat) (c0 : Nat) (r1 : Nat) (r2 : Nat) (r3 : Nat) (lf : Int32) (tr : Int32) (sla : Int32) (sle : Int32) (xl : Int32) (xp : Int32) (xw : Int32) (jhi : Int32) (jwi : Int32) (jfr : Int32) (jfc : Int32) (jlc : Int32) (ecnt : Int32) (rc : Int32) (sn : Nat → Int32) (xc : Nat → Int32) (jstr : Nat → Int32) (ek : Nat → Int32) (ewt : Nat → Int32) (sh : Nat → Option Nat) (sheet : Int32) (lane : Int32) (i : Int32) (n : Int32), (s_shAt sh sheet = some s0) → (s_in sheet 0 3 = 0 ∨ vp_in sheet 4) → (¬ 60 < sle) → MFJ l G yX6_canal cX6_canal 5 (some .int) rm_X6_canal [.ref b0, .int sheet, .int lane, .int i, .int n] [(b0, .inr (6, [.ref bs, .ref x0, .ref d0, .ref r0, .ref i0, .ref c0, .ref j0, .ref e0, .int lf, .int tr])), (bs, .inl (G.2.2.2, 4, .inr (.inr (.inr (.inr sh))))), (s0, .inr (4, [.ref s1, .int sla, .int sle])), (s1, .inl (G.2.1, 60, .inl sn)), (x0, .inr (5, [.ref x1, .int xl, .int xp, .int xw])), (x1, .inl (G.2.1, 60, .inl xc)), (j0, .inr (2, [.ref j1, .int jhi, .int jwi, .int jfr, .int jfc, .int jlc])), (j1, .inl (G.2.1, 20, .inl jstr)), (e0, .inr (0, [.ref e1, .ref e2, .int ecnt])), (e1, .inl (G.2.1, 4, .inl ek)), (e2, .inl (G.2.1, 4, .inl ewt)), (r0, .inr (3, [.ref r1, .ref r2, .ref r3, .int rc]))] (some (.int (x_ttR sla sle lane i n sn xc jstr ek ewt))) (fun jj : Int32 × Int32 × Int32 × (Nat → Int32) => [(b0, .inr (6, [.ref bs, .ref x0, .ref d0, .ref r0, .ref (if x_ttOk sla sle lane i n sn xc jstr ek ewt then j0 else i0), .ref (if x_ttOk sla sle lane i n sn xc jstr ek ewt then e0 else c0), .ref (if x_ttOk sla sle lane i n sn xc jstr ek ewt then i0 else j0), .ref (if x_ttOk sla sle lane i n sn xc jstr ek ewt then c0 else e0), .int (x_kf (x_ttR sla sle lane i n sn xc jstr ek ewt)), .int tr])), (bs, .inl (G.2.2.2, 4, .inr (.inr (.inr (.inr sh))))), (s0, .inr (4, [.ref s1, .int sla, .int sle])), (s1, .inl (G.2.1, 60, .inl sn)), (x0, .inr (5, [.ref x1, .int jj.1, .int jj.2.1, .int jj.2.2.1])), (x1, .inl (G.2.1, 60, .inl jj.2.2.2)), (j0, .inr (2, [.ref j1, .int (if x_ttGo sla sle lane i n then itHi n (s_cpT sn xc i n) (0, 0) else jhi), .int (if x_ttGo sla sle lane i n then itWi n (s_cpT sn xc i n) (0, 0) else jwi), .int (if x_ttGo sla sle lane i n then itFr n (s_cpT sn xc i n) (0, 0) else jfr), .int (if x_ttGo sla sle lane i n then (x_ttIce sn xc i n jstr).2.2 else jfc), .int (if x_ttGo sla sle lane i n then (x_ttIce sn xc i n jstr).2.2 <<< ((itWi n (s_cpT sn xc i n) (0, 0) - 1) &&& 31) else jlc)])), (j1, .inl (G.2.1, 20, .inl (if x_ttGo sla sle lane i n then (x_ttIce sn xc i n jstr).2.1 else jstr))), (e0, .inr (0, [.ref e1, .ref e2, .int (if x_ttGo sla sle lane i n then (x_ttCrew sn xc i n jstr ek ewt).2.2.2 else ecnt)])), (e1, .inl (G.2.1, 4, .inl (if x_ttGo sla sle lane i n then (x_ttCrew sn xc i n jstr ek ewt).2.1 else ek))), (e2, .inl (G.2.1, 4, .inl (if x_ttGo sla sle lane i n then (x_ttCrew sn xc i n jstr ek ewt).2.2.1 else ewt))), (r0, .inr (3, [.ref r1, .ref r2, .ref r3, .int (if x_ttOk sla sle lane i n sn xc jstr ek ewt then 0 else rc)]))])
def K_X6_canal_n (l : Launch) (G : GT) : Prop := ∀ (b0 : Nat) (bs : Nat) (x0 : Nat) (d0 : Nat) (r0 : Nat) (i0 : Nat) (c0 : Nat) (j0 : Nat) (e0 : Nat) (lf : Int32) (tr : Int32) (sh : Nat → Option Nat) (sheet : Int32) (lane : Int32) (i : Int32) (n : Int32), (s_shAt sh sheet = none) → (s_in sheet 0 3 = 0 ∨ vp_in sheet 4) → MF l G yX6_canal cX6_canal 5 (some .int) rm_X6_canal [.ref b0, .int sheet, .int lane, .int i, .int n] [(b0, .inr (6, [.ref bs, .ref x0, .ref d0, .ref r0, .ref i0, .ref c0, .ref j0, .ref e0, .int lf, .int tr])), (bs, .inl (G.2.2.2, 4, .inr (.inr (.inr (.inr sh)))))] (some (.int (-1))) [(b0, .inr (6, [.ref bs, .ref x0, .ref d0, .ref r0, .ref i0, .ref c0, .ref j0, .ref e0, .int 0, .int tr])), (bs, .inl (G.2.2.2, 4, .inr (.inr (.inr (.inr sh)))))]
def K_X6_ofSkater (l : Launch) (G : GT) : Prop := ∀ (b0 : Nat) (c0 : Nat) (c1 : Nat) (c2 : Nat) (i0 : Nat) (i1 : Nat) (bs : Nat) (x0 : Nat) (d0 : Nat) (r0 : Nat) (j0 : Nat) (e0 : Nat) (lf : Int32) (tr : Int32) (cnt : Int32) (hi : Int32) (wi : Int32) (fr : Int32) (fc : Int32) (lc : Int32) (ck : Nat → Int32) (cwt : Nat → Int32) (str : Nat → Int32) (a : Int32) (what : Int32), (okD hi wi) → (okN cnt) → MF l G yX6_ofSkater cX6_ofSkater 3 (some .int) rm_X6_ofSkater [.ref b0, .int a, .int what] [(b0, .inr (6, [.ref bs, .ref x0, .ref d0, .ref r0, .ref i0, .ref c0, .ref j0, .ref e0, .int lf, .int tr])), (c0, .inr (0, [.ref c1, .ref c2, .int cnt])), (c1, .inl (G.2.1, 4, .inl ck)), (c2, .inl (G.2.1, 4, .inl cwt)), (i0, .inr (2, [.ref i1, .int hi, .int wi, .int fr, .int fc, .int lc])), (i1, .inl (G.2.1, 20, .inl str))] (some (.int (x_ofSk hi wi cnt str ck cwt a what))) [(b0, .inr (6, [.ref bs, .ref x0, .ref d0, .ref r0, .ref i0, .ref c0, .ref j0, .ref e0, .int lf, .int tr])), (c0, .inr (0, [.ref c1, .ref c2, .int cnt])), (c1, .inl (G.2.1, 4, .inl ck)), (c2, .inl (G.2.1, 4, .inl cwt)), (i0, .inr (2, [.ref i1, .int hi, .int wi, .int fr, .int fc, .int lc])), (i1, .inl (G.2.1, 20, .inl str))]
def K_X6_strength (l : Launch) (G : GT) : Prop := ∀ (b0 : Nat) (i0 : Nat) (i1 : Nat) (bs : Nat) (x0 : Nat) (d0 : Nat) (r0 : Nat) (c0 : Nat) (j0 : Nat) (e0 : Nat) (lf : Int32) (tr : Int32) (hi : Int32) (wi : Int32) (fr : Int32) (fc : Int32) (lc : Int32) (str : Nat → Int32) (ce : Int32), (okD hi wi) → MF l G yX6_strength cX6_strength 2 (some .int) rm_X6_strength [.ref b0, .int ce] [(b0, .inr (6, [.ref bs, .ref x0, .ref d0, .ref r0, .ref i0, .ref c0, .ref j0, .ref e0, .int lf, .int tr])), (i0, .inr (2, [.ref i1, .int hi, .int wi, .int fr, .int fc, .int lc])), (i1, .inl (G.2.1, 20, .inl str))] (some (.int (x_strength hi wi str ce))) [(b0, .inr (6, [.ref bs, .ref x0, .ref d0, .ref r0, .ref i0, .ref c0, .ref j0, .ref e0, .int lf, .int tr])), (i0, .inr (2, [.ref i1, .int hi, .int wi, .int fr, .int fc, .int lc])), (i1, .inl (G.2.1, 20, .inl str))]
def K_X6_freeze (l : Launch) (G : GT) : Prop := ∀ (b0 : Nat) (i0 : Nat) (i1 : Nat) (bs : Nat) (x0 : Nat) (d0 : Nat) (r0 : Nat) (c0 : Nat) (j0 : Nat) (e0 : Nat) (lf : Int32) (tr : Int32) (hi : Int32) (wi : Int32) (fr : Int32) (fc : Int32) (lc : Int32) (str : Nat → Int32) (ce : Int32) (v : Int32), (okD hi wi) → MF l G yX6_freeze cX6_freeze 4 (some .int) rm_X6_freeze [.ref b0, .int ce, .int v] [(b0, .inr (6, [.ref bs, .ref x0, .ref d0, .ref r0, .ref i0, .ref c0, .ref j0, .ref e0, .int lf, .int tr])), (i0, .inr (2, [.ref i1, .int hi, .int wi, .int fr, .int fc, .int lc])), (i1, .inl (G.2.1, 20, .inl str))] (some (.int (x_freezeR hi wi str ce v))) [(b0, .inr (6, [.ref bs, .ref x0, .ref d0, .ref r0, .ref i0, .ref c0, .ref j0, .ref e0, .int lf, .int tr])), (i0, .inr (2, [.ref i1, .int hi, .int wi, .int fr, .int fc, .int lc])), (i1, .inl (G.2.1, 20, .inl (if x_frOk hi wi ce v then upd str ce.toNatClampNeg v else str)))]
def K_X6_frost (l : Launch) (G : GT) : Prop := ∀ (b0 : Nat) (i0 : Nat) (bs : Nat) (x0 : Nat) (d0 : Nat) (r0 : Nat) (c0 : Nat) (j0 : Nat) (e0 : Nat) (i1 : Nat) (lf : Int32) (tr : Int32) (hi : Int32) (wi : Int32) (fr : Int32) (fc : Int32) (lc : Int32) (v : Int32), MF l G yX6_frost cX6_frost 4 (some .int) rm_X6_frost [.ref b0, .int v] [(b0, .inr (6, [.ref bs, .ref x0, .ref d0, .ref r0, .ref i0, .ref c0, .ref j0, .ref e0, .int lf, .int tr])), (i0, .inr (2, [.ref i1, .int hi, .int wi, .int fr, .int fc, .int lc]))] (some (.int (x_wx hi wi v fr))) [(b0, .inr (6, [.ref bs, .ref x0, .ref d0, .ref r0, .ref i0, .ref c0, .ref j0, .ref e0, .int lf, .int tr])), (i0, .inr (2, [.ref i1, .int hi, .int wi, .int (if x_rw hi wi v = 0 then v else fr), .int fc, .int lc]))]
def K_X6_deed (l : Launch) (G : GT) : Prop := ∀ (b0 : Nat) (bs : Nat) (s0 : Nat) (s1 : Nat) (d0 : Nat) (d1 : Nat) (i0 : Nat) (i1 : Nat) (c0 : Nat) (c1 : Nat) (c2 : Nat) (x0 : Nat) (r0 : Nat) (j0 : Nat) (e0 : Nat) (lf : Int32) (tr : Int32) (sla : Int32) (sle : Int32) (dat : Int32) (dcut : Int32) (dfw : Int32) (hi : Int32) (wi : Int32) (fr : Int32) (fc : Int32) (lc : Int32) (cnt : Int32) (sn : Nat → Int32) (dstr : Nat → Int32) (str : Nat → Int32) (ck : Nat → Int32) (cwt : Nat → Int32) (sh : Nat → Option Nat) (a : Int32) (b : Int32) (ce : Int32) (sheet : Int32) (lane : Int32) (i : Int32) (n : Int32) (what : Int32), (s_shAt sh sheet = some s0) → (s_in sheet 0 3 = 0 ∨ vp_in sheet 4) → (okD hi wi) → (okN cnt) → (¬ 60 < sle) → (x_dK hi wi cnt a b ce → okTrial hi wi fc lc ck cwt sn (s_cp20 str dstr) a b ce i n sle) → MFJ l G yX6_deed cX6_deed 10 (some .int) rm_X6_deed [.ref b0, .int a, .int b, .int ce, .int sheet, .int lane, .int i, .int n, .int what] [(b0, .inr (6, [.ref bs, .ref x0, .ref d0, .ref r0, .ref i0, .ref c0, .ref j0, .ref e0, .int lf, .int tr])), (bs, .inl (G.2.2.2, 4, .inr (.inr (.inr (.inr sh))))), (s0, .inr (4, [.ref s1, .int sla, .int sle])), (s1, .inl (G.2.1, 60, .inl sn)), (d0, .inr (1, [.ref d1, .int dat, .int dcut, .int dfw])), (d1, .inl (G.2.1, 20, .inl dstr)), (i0, .inr (2, [.ref i1, .int hi, .int wi, .int fr, .int fc, .int lc])), (i1, .inl (G.2.1, 20, .inl str)), (c0, .inr (0, [.ref c1, .ref c2, .int cnt])), (c1, .inl (G.2.1, 4, .inl ck)), (c2, .inl (G.2.1, 4, .inl cwt))] (some (.int (x_deedR hi wi fc lc cnt sla sle ck cwt sn str dstr a b ce lane i n what))) (fun jj : Int32 × Int32 × Int32 × (Nat → Int32) => [(b0, .inr (6, [.ref bs, .ref x0, .ref d0, .ref r0, .ref i0, .ref c0, .ref j0, .ref e0, .int (x_kf (x_deedR hi wi fc lc cnt sla sle ck cwt sn str dstr a b ce lane i n what)), .int tr])), (bs, .inl (G.2.2.2, 4, .inr (.inr (.inr (.inr sh))))), (s0, .inr (4, [.ref s1, .int sla, .int sle])), (s1, .inl (G.2.1, 60, .inl sn)), (d0, .inr (1, [.ref d1, .int jj.1, .int jj.2.1, .int jj.2.2.1])), (d1, .inl (G.2.1, 20, .inl jj.2.2.2)), (i0, .inr (2, [.ref i1, .int hi, .int wi, .int fr, .int fc, .int lc])), (i1, .inl (G.2.1, 20, .inl str)), (c0, .inr (0, [.ref c1, .ref c2, .int cnt])), (c1, .inl (G.2.1, 4, .inl ck)), (c2, .inl (G.2.1, 4, .inl cwt))])
def K_X6_deed_n (l : Launch) (G : GT) : Prop := ∀ (b0 : Nat) (bs : Nat) (c0 : Nat) (i0 : Nat) (x0 : Nat) (d0 : Nat) (r0 : Nat) (j0 : Nat) (e0 : Nat) (c1 : Nat) (c2 : Nat) (i1 : Nat) (lf : Int32) (tr : Int32) (cnt : Int32) (hi : Int32) (wi : Int32) (fr : Int32) (fc : Int32) (lc : Int32) (sh : Nat → Option Nat) (a : Int32) (b : Int32) (ce : Int32) (sheet : Int32) (lane : Int32) (i : Int32) (n : Int32) (what : Int32), (s_shAt sh sheet = none) → (s_in sheet 0 3 = 0 ∨ vp_in sheet 4) → MF l G yX6_deed cX6_deed 10 (some .int) rm_X6_deed [.ref b0, .int a, .int b, .int ce, .int sheet, .int lane, .int i, .int n, .int what] [(b0, .inr (6, [.ref bs, .ref x0, .ref d0, .ref r0, .ref i0, .ref c0, .ref j0, .ref e0, .int lf, .int tr])), (bs, .inl (G.2.2.2, 4, .inr (.inr (.inr (.inr sh))))), (c0, .inr (0, [.ref c1, .ref c2, .int cnt])), (i0, .inr (2, [.ref i1, .int hi, .int wi, .int fr, .int fc, .int lc]))] (some (.int (-1))) [(b0, .inr (6, [.ref bs, .ref x0, .ref d0, .ref r0, .ref i0, .ref c0, .ref j0, .ref e0, .int 0, .int tr])), (bs, .inl (G.2.2.2, 4, .inr (.inr (.inr (.inr sh))))), (c0, .inr (0, [.ref c1, .ref c2, .int cnt])), (i0, .inr (2, [.ref i1, .int hi, .int wi, .int fr, .int fc, .int lc]))]
def K_X6_write (l : Launch) (G : GT) : Prop := ∀ (b0 : Nat) (bs : Nat) (s0 : Nat) (s1 : Nat) (d0 : Nat) (d1 : Nat) (i0 : Nat) (i1 : Nat) (c0 : Nat) (c1 : Nat) (c2 : Nat) (x0 : Nat) (r0 : Nat) (j0 : Nat) (e0 : Nat) (lf : Int32) (tr : Int32) (sla : Int32) (sle : Int32) (dat : Int32) (dcut : Int32) (dfw : Int32) (hi : Int32) (wi : Int32) (fr : Int32) (fc : Int32) (lc : Int32) (cnt : Int32) (sn : Nat → Int32) (dstr : Nat → Int32) (str : Nat → Int32) (ck : Nat → Int32) (cwt : Nat → Int32) (sh : Nat → Option Nat) (a : Int32) (b : Int32) (ce : Int32) (sheet : Int32) (lane : Int32) (i : Int32) (n : Int32), (s_shAt sh sheet = some s0) → (s_in sheet 0 3 = 0 ∨ vp_in sheet 4) → (okD hi wi) → (okN cnt) → (¬ 60 < sle) → (x_dK hi wi cnt a b ce → okTrial hi wi fc lc ck cwt sn (s_cp20 str dstr) a b ce i n sle) → MFJ l G yX6_write cX6_write 9 (some .int) rm_X6_write [.ref b0, .int a, .int b, .int ce, .int sheet, .int lane, .int i, .int n] [(b0, .inr (6, [.ref bs, .ref x0, .ref d0, .ref r0, .ref i0, .ref c0, .ref j0, .ref e0, .int lf, .int tr])), (bs, .inl (G.2.2.2, 4, .inr (.inr (.inr (.inr sh))))), (s0, .inr (4, [.ref s1, .int sla, .int sle])), (s1, .inl (G.2.1, 60, .inl sn)), (d0, .inr (1, [.ref d1, .int dat, .int dcut, .int dfw])), (d1, .inl (G.2.1, 20, .inl dstr)), (i0, .inr (2, [.ref i1, .int hi, .int wi, .int fr, .int fc, .int lc])), (i1, .inl (G.2.1, 20, .inl str)), (c0, .inr (0, [.ref c1, .ref c2, .int cnt])), (c1, .inl (G.2.1, 4, .inl ck)), (c2, .inl (G.2.1, 4, .inl cwt))] (some (.int (x_writeR hi wi fc lc cnt sla sle ck cwt sn str dstr a b ce lane i n))) (fun jj : Int32 × Int32 × Int32 × (Nat → Int32) => [(b0, .inr (6, [.ref bs, .ref x0, .ref d0, .ref r0, .ref i0, .ref c0, .ref j0, .ref e0, .int (x_kf (x_writeR hi wi fc lc cnt sla sle ck cwt sn str dstr a b ce lane i n)), .int tr])), (bs, .inl (G.2.2.2, 4, .inr (.inr (.inr (.inr sh))))), (s0, .inr (4, [.ref s1, .int sla, .int sle])), (s1, .inl (G.2.1, 60, .inl sn)), (d0, .inr (1, [.ref d1, .int jj.1, .int jj.2.1, .int jj.2.2.1])), (d1, .inl (G.2.1, 20, .inl jj.2.2.2)), (i0, .inr (2, [.ref i1, .int hi, .int wi, .int fr, .int fc, .int lc])), (i1, .inl (G.2.1, 20, .inl (x_writeS hi wi fc lc cnt sla sle ck cwt sn str dstr a b ce lane i n))), (c0, .inr (0, [.ref c1, .ref c2, .int cnt])), (c1, .inl (G.2.1, 4, .inl ck)), (c2, .inl (G.2.1, 4, .inl cwt))])
def K_X6_write_n (l : Launch) (G : GT) : Prop := ∀ (b0 : Nat) (bs : Nat) (x0 : Nat) (d0 : Nat) (r0 : Nat) (i0 : Nat) (c0 : Nat) (j0 : Nat) (e0 : Nat) (lf : Int32) (tr : Int32) (sh : Nat → Option Nat) (a : Int32) (b : Int32) (ce : Int32) (sheet : Int32) (lane : Int32) (i : Int32) (n : Int32), (s_shAt sh sheet = none) → (s_in sheet 0 3 = 0 ∨ vp_in sheet 4) → MF l G yX6_write cX6_write 9 (some .int) rm_X6_write [.ref b0, .int a, .int b, .int ce, .int sheet, .int lane, .int i, .int n] [(b0, .inr (6, [.ref bs, .ref x0, .ref d0, .ref r0, .ref i0, .ref c0, .ref j0, .ref e0, .int lf, .int tr])), (bs, .inl (G.2.2.2, 4, .inr (.inr (.inr (.inr sh)))))] (some (.int (-1))) [(b0, .inr (6, [.ref bs, .ref x0, .ref d0, .ref r0, .ref i0, .ref c0, .ref j0, .ref e0, .int 0, .int tr])), (bs, .inl (G.2.2.2, 4, .inr (.inr (.inr (.inr sh)))))]
def K_X6_nights (l : Launch) (G : GT) : Prop := ∀ (b0 : Nat) (i0 : Nat) (i1 : Nat) (bs : Nat) (x0 : Nat) (d0 : Nat) (r0 : Nat) (c0 : Nat) (j0 : Nat) (e0 : Nat) (lf : Int32) (tr : Int32) (hi : Int32) (wi : Int32) (fr : Int32) (fc : Int32) (lc : Int32) (str : Nat → Int32) (n : Int32), (okD hi wi) → MF l G yX6_nights cX6_nights 3 (some .int) rm_X6_nights [.ref b0, .int n] [(b0, .inr (6, [.ref bs, .ref x0, .ref d0, .ref r0, .ref i0, .ref c0, .ref j0, .ref e0, .int lf, .int tr])), (i0, .inr (2, [.ref i1, .int hi, .int wi, .int fr, .int fc, .int lc])), (i1, .inl (G.2.1, 20, .inl str))] (some (.int (x_wx hi wi n (s_count (s_strengthen (hi * wi).toNatClampNeg (n * fr) str) 9 (hi * wi).toNatClampNeg)))) [(b0, .inr (6, [.ref bs, .ref x0, .ref d0, .ref r0, .ref i0, .ref c0, .ref j0, .ref e0, .int lf, .int tr])), (i0, .inr (2, [.ref i1, .int hi, .int wi, .int fr, .int fc, .int lc])), (i1, .inl (G.2.1, 20, .inl (if x_rw hi wi n = 0 then s_strengthen (hi * wi).toNatClampNeg (n * fr) str else str)))]
def K_X6_thaw (l : Launch) (G : GT) : Prop := ∀ (b0 : Nat) (i0 : Nat) (i1 : Nat) (bs : Nat) (x0 : Nat) (d0 : Nat) (r0 : Nat) (c0 : Nat) (j0 : Nat) (e0 : Nat) (lf : Int32) (tr : Int32) (hi : Int32) (wi : Int32) (fr : Int32) (fc : Int32) (lc : Int32) (str : Nat → Int32) (n : Int32), (okD hi wi) → MF l G yX6_thaw cX6_thaw 3 (some .int) rm_X6_thaw [.ref b0, .int n] [(b0, .inr (6, [.ref bs, .ref x0, .ref d0, .ref r0, .ref i0, .ref c0, .ref j0, .ref e0, .int lf, .int tr])), (i0, .inr (2, [.ref i1, .int hi, .int wi, .int fr, .int fc, .int lc])), (i1, .inl (G.2.1, 20, .inl str))] (some (.int (x_wx hi wi n (s_count (s_strengthen (hi * wi).toNatClampNeg (-n) str) 0 (hi * wi).toNatClampNeg)))) [(b0, .inr (6, [.ref bs, .ref x0, .ref d0, .ref r0, .ref i0, .ref c0, .ref j0, .ref e0, .int lf, .int tr])), (i0, .inr (2, [.ref i1, .int hi, .int wi, .int fr, .int fc, .int lc])), (i1, .inl (G.2.1, 20, .inl (if x_rw hi wi n = 0 then s_strengthen (hi * wi).toNatClampNeg (-n) str else str)))]
def K_X6_bond (l : Launch) (G : GT) : Prop := ∀ (b0 : Nat) (c0 : Nat) (c1 : Nat) (c2 : Nat) (i0 : Nat) (i1 : Nat) (bs : Nat) (x0 : Nat) (d0 : Nat) (r0 : Nat) (j0 : Nat) (e0 : Nat) (lf : Int32) (tr : Int32) (cnt : Int32) (hi : Int32) (wi : Int32) (fr : Int32) (fc : Int32) (lc : Int32) (ck : Nat → Int32) (cwt : Nat → Int32) (str : Nat → Int32) (a : Int32) (b : Int32) (fro : Int32) (to : Int32) (k : Int32), (okD hi wi) → (okN cnt) → MF l G yX6_bond cX6_bond 9 (some .int) rm_X6_bond [.ref b0, .int a, .int b, .int fro, .int to, .int k] [(b0, .inr (6, [.ref bs, .ref x0, .ref d0, .ref r0, .ref i0, .ref c0, .ref j0, .ref e0, .int lf, .int tr])), (c0, .inr (0, [.ref c1, .ref c2, .int cnt])), (c1, .inl (G.2.1, 4, .inl ck)), (c2, .inl (G.2.1, 4, .inl cwt)), (i0, .inr (2, [.ref i1, .int hi, .int wi, .int fr, .int fc, .int lc])), (i1, .inl (G.2.1, 20, .inl str))] (some (.int (x_bondR hi wi fc lc cnt str ck cwt a b fro to k))) [(b0, .inr (6, [.ref bs, .ref x0, .ref d0, .ref r0, .ref i0, .ref c0, .ref j0, .ref e0, .int lf, .int tr])), (c0, .inr (0, [.ref c1, .ref c2, .int cnt])), (c1, .inl (G.2.1, 4, .inl ck)), (c2, .inl (G.2.1, 4, .inl cwt)), (i0, .inr (2, [.ref i1, .int hi, .int wi, .int fr, .int fc, .int lc])), (i1, .inl (G.2.1, 20, .inl str))]
def K_X6_holds (l : Launch) (G : GT) : Prop := ∀ (b0 : Nat) (c0 : Nat) (c1 : Nat) (c2 : Nat) (i0 : Nat) (i1 : Nat) (bs : Nat) (x0 : Nat) (d0 : Nat) (r0 : Nat) (j0 : Nat) (e0 : Nat) (lf : Int32) (tr : Int32) (cnt : Int32) (hi : Int32) (wi : Int32) (fr : Int32) (fc : Int32) (lc : Int32) (ck : Nat → Int32) (cwt : Nat → Int32) (str : Nat → Int32) (a : Int32) (b : Int32) (fro : Int32) (to : Int32), (okD hi wi) → (okN cnt) → MF l G yX6_holds cX6_holds 8 (some .int) rm_X6_holds [.ref b0, .int a, .int b, .int fro, .int to] [(b0, .inr (6, [.ref bs, .ref x0, .ref d0, .ref r0, .ref i0, .ref c0, .ref j0, .ref e0, .int lf, .int tr])), (c0, .inr (0, [.ref c1, .ref c2, .int cnt])), (c1, .inl (G.2.1, 4, .inl ck)), (c2, .inl (G.2.1, 4, .inl cwt)), (i0, .inr (2, [.ref i1, .int hi, .int wi, .int fr, .int fc, .int lc])), (i1, .inl (G.2.1, 20, .inl str))] (some (.int (x_holdsR hi wi fc lc cnt str ck cwt a b fro to))) [(b0, .inr (6, [.ref bs, .ref x0, .ref d0, .ref r0, .ref i0, .ref c0, .ref j0, .ref e0, .int lf, .int tr])), (c0, .inr (0, [.ref c1, .ref c2, .int cnt])), (c1, .inl (G.2.1, 4, .inl ck)), (c2, .inl (G.2.1, 4, .inl cwt)), (i0, .inr (2, [.ref i1, .int hi, .int wi, .int fr, .int fc, .int lc])), (i1, .inl (G.2.1, 20, .inl str))]
def K_X6_alone (l : Launch) (G : GT) : Prop := ∀ (b0 : Nat) (c0 : Nat) (c1 : Nat) (c2 : Nat) (i0 : Nat) (i1 : Nat) (bs : Nat) (x0 : Nat) (d0 : Nat) (r0 : Nat) (j0 : Nat) (e0 : Nat) (lf : Int32) (tr : Int32) (cnt : Int32) (hi : Int32) (wi : Int32) (fr : Int32) (fc : Int32) (lc : Int32) (ck : Nat → Int32) (cwt : Nat → Int32) (str : Nat → Int32) (a : Int32) (fro : Int32), (okD hi wi) → (okN cnt) → MF l G yX6_alone cX6_alone 3 (some .int) rm_X6_alone [.ref b0, .int a, .int fro] [(b0, .inr (6, [.ref bs, .ref x0, .ref d0, .ref r0, .ref i0, .ref c0, .ref j0, .ref e0, .int lf, .int tr])), (c0, .inr (0, [.ref c1, .ref c2, .int cnt])), (c1, .inl (G.2.1, 4, .inl ck)), (c2, .inl (G.2.1, 4, .inl cwt)), (i0, .inr (2, [.ref i1, .int hi, .int wi, .int fr, .int fc, .int lc])), (i1, .inl (G.2.1, 20, .inl str))] (some (.int (x_aloneR hi wi fc lc cnt str ck cwt a fro))) [(b0, .inr (6, [.ref bs, .ref x0, .ref d0, .ref r0, .ref i0, .ref c0, .ref j0, .ref e0, .int lf, .int tr])), (c0, .inr (0, [.ref c1, .ref c2, .int cnt])), (c1, .inl (G.2.1, 4, .inl ck)), (c2, .inl (G.2.1, 4, .inl cwt)), (i0, .inr (2, [.ref i1, .int hi, .int wi, .int fr, .int fc, .int lc])), (i1, .inl (G.2.1, 20, .inl str))]
def K_X6_neck (l : Launch) (G : GT) : Prop := ∀ (b0 : Nat) (c0 : Nat) (c1 : Nat) (c2 : Nat) (i0 : Nat) (i1 : Nat) (bs : Nat) (x0 : Nat) (d0 : Nat) (r0 : Nat) (j0 : Nat) (e0 : Nat) (lf : Int32) (tr : Int32) (cnt : Int32) (hi : Int32) (wi : Int32) (fr : Int32) (fc : Int32) (lc : Int32) (ck : Nat → Int32) (cwt : Nat → Int32) (str : Nat → Int32) (a : Int32) (b : Int32) (fro : Int32) (to : Int32), (okD hi wi) → (okN cnt) → MF l G yX6_neck cX6_neck 6 (some .int) rm_X6_neck [.ref b0, .int a, .int b, .int fro, .int to] [(b0, .inr (6, [.ref bs, .ref x0, .ref d0, .ref r0, .ref i0, .ref c0, .ref j0, .ref e0, .int lf, .int tr])), (c0, .inr (0, [.ref c1, .ref c2, .int cnt])), (c1, .inl (G.2.1, 4, .inl ck)), (c2, .inl (G.2.1, 4, .inl cwt)), (i0, .inr (2, [.ref i1, .int hi, .int wi, .int fr, .int fc, .int lc])), (i1, .inl (G.2.1, 20, .inl str))] (some (.int (x_neckR hi wi fc lc cnt str ck cwt a b fro to))) [(b0, .inr (6, [.ref bs, .ref x0, .ref d0, .ref r0, .ref i0, .ref c0, .ref j0, .ref e0, .int lf, .int tr])), (c0, .inr (0, [.ref c1, .ref c2, .int cnt])), (c1, .inl (G.2.1, 4, .inl ck)), (c2, .inl (G.2.1, 4, .inl cwt)), (i0, .inr (2, [.ref i1, .int hi, .int wi, .int fr, .int fc, .int lc])), (i1, .inl (G.2.1, 20, .inl str))]
def K_X6_reading (l : Launch) (G : GT) : Prop := ∀ (b0 : Nat) (c0 : Nat) (i0 : Nat) (r0 : Nat) (r1 : Nat) (r2 : Nat) (r3 : Nat) (bs : Nat) (x0 : Nat) (d0 : Nat) (j0 : Nat) (e0 : Nat) (c1 : Nat) (c2 : Nat) (i1 : Nat) (lf : Int32) (tr : Int32) (cnt : Int32) (hi : Int32) (wi : Int32) (fr : Int32) (fc : Int32) (lc : Int32) (rc : Int32) (rs : Nat → Int32) (rl : Nat → Int32) (rb : Nat → Int32) (a : Int32) (ce : Int32) (bore : Int32), (okR rc rs rl) → MF l G yX6_reading cX6_reading 4 (some .int) rm_X6_reading [.ref b0, .int a, .int ce, .int bore] [(b0, .inr (6, [.ref bs, .ref x0, .ref d0, .ref r0, .ref i0, .ref c0, .ref j0, .ref e0, .int lf, .int tr])), (c0, .inr (0, [.ref c1, .ref c2, .int cnt])), (i0, .inr (2, [.ref i1, .int hi, .int wi, .int fr, .int fc, .int lc])), (r0, .inr (3, [.ref r1, .ref r2, .ref r3, .int rc])), (r1, .inl (G.2.1, 8, .inl rs)), (r2, .inl (G.2.1, 8, .inl rl)), (r3, .inl (G.2.2.1, 8, .inl rb))] (some (.int (x_rdR hi wi cnt rc a ce))) [(b0, .inr (6, [.ref bs, .ref x0, .ref d0, .ref r0, .ref i0, .ref c0, .ref j0, .ref e0, .int lf, .int tr])), (c0, .inr (0, [.ref c1, .ref c2, .int cnt])), (i0, .inr (2, [.ref i1, .int hi, .int wi, .int fr, .int fc, .int lc])), (r0, .inr (3, [.ref r1, .ref r2, .ref r3, .int (if x_rdOk hi wi cnt a ce then s_addC rc else rc)])), (r1, .inl (G.2.1, 8, .inl (if x_rdOk hi wi cnt a ce then s_addF rc rs a else rs))), (r2, .inl (G.2.1, 8, .inl (if x_rdOk hi wi cnt a ce then s_addF rc rl ce else rl))), (r3, .inl (G.2.2.1, 8, .inl (if x_rdOk hi wi cnt a ce then s_addF rc rb (vp_nar .boolean bore) else rb)))]
def K_X6_back (l : Launch) (G : GT) : Prop := ∀ (b0 : Nat) (r0 : Nat) (bs : Nat) (x0 : Nat) (d0 : Nat) (i0 : Nat) (c0 : Nat) (j0 : Nat) (e0 : Nat) (r1 : Nat) (r2 : Nat) (r3 : Nat) (lf : Int32) (tr : Int32) (rc : Int32) (k : Int32), MF l G yX6_back cX6_back 2 (some .int) rm_X6_back [.ref b0, .int k] [(b0, .inr (6, [.ref bs, .ref x0, .ref d0, .ref r0, .ref i0, .ref c0, .ref j0, .ref e0, .int lf, .int tr])), (r0, .inr (3, [.ref r1, .ref r2, .ref r3, .int rc]))] (some (.int (x_backR rc k))) [(b0, .inr (6, [.ref bs, .ref x0, .ref d0, .ref r0, .ref i0, .ref c0, .ref j0, .ref e0, .int lf, .int tr])), (r0, .inr (3, [.ref r1, .ref r2, .ref r3, .int (x_backC rc k)]))]
def K_X6_weights (l : Launch) (G : GT) : Prop := ∀ (b0 : Nat) (c0 : Nat) (c1 : Nat) (c2 : Nat) (i0 : Nat) (i1 : Nat) (r0 : Nat) (r1 : Nat) (r2 : Nat) (r3 : Nat) (bs : Nat) (x0 : Nat) (d0 : Nat) (j0 : Nat) (e0 : Nat) (lf : Int32) (tr : Int32) (cnt : Int32) (hi : Int32) (wi : Int32) (fr : Int32) (fc : Int32) (lc : Int32) (rc : Int32) (ck : Nat → Int32) (cwt : Nat → Int32) (str : Nat → Int32) (rs : Nat → Int32) (rl : Nat → Int32) (rb : Nat → Int32) (a : Int32), (okN cnt) → (okR rc rs rl) → MF l G yX6_weights cX6_weights 5 (some .int) rm_X6_weights [.ref b0, .int a] [(b0, .inr (6, [.ref bs, .ref x0, .ref d0, .ref r0, .ref i0, .ref c0, .ref j0, .ref e0, .int lf, .int tr])), (c0, .inr (0, [.ref c1, .ref c2, .int cnt])), (c1, .inl (G.2.1, 4, .inl ck)), (c2, .inl (G.2.1, 4, .inl cwt)), (i0, .inr (2, [.ref i1, .int hi, .int wi, .int fr, .int fc, .int lc])), (i1, .inl (G.2.1, 20, .inl str)), (r0, .inr (3, [.ref r1, .ref r2, .ref r3, .int rc])), (r1, .inl (G.2.1, 8, .inl rs)), (r2, .inl (G.2.1, 8, .inl rl)), (r3, .inl (G.2.2.1, 8, .inl rb))] (some (.int (x_weightsR cnt rs rl rb str ck cwt rc.toNatClampNeg a))) [(b0, .inr (6, [.ref bs, .ref x0, .ref d0, .ref r0, .ref i0, .ref c0, .ref j0, .ref e0, .int lf, .int tr])), (c0, .inr (0, [.ref c1, .ref c2, .int cnt])), (c1, .inl (G.2.1, 4, .inl ck)), (c2, .inl (G.2.1, 4, .inl (if s_in a 0 (cnt - 1) = 0 then cwt else upd (upd cwt a.toNatClampNeg 9) a.toNatClampNeg (cwt a.toNatClampNeg)))), (i0, .inr (2, [.ref i1, .int hi, .int wi, .int fr, .int fc, .int lc])), (i1, .inl (G.2.1, 20, .inl str)), (r0, .inr (3, [.ref r1, .ref r2, .ref r3, .int rc])), (r1, .inl (G.2.1, 8, .inl rs)), (r2, .inl (G.2.1, 8, .inl rl)), (r3, .inl (G.2.2.1, 8, .inl rb))]
def K_X6_kinds (l : Launch) (G : GT) : Prop := ∀ (b0 : Nat) (c0 : Nat) (c1 : Nat) (c2 : Nat) (i0 : Nat) (i1 : Nat) (r0 : Nat) (r1 : Nat) (r2 : Nat) (r3 : Nat) (bs : Nat) (x0 : Nat) (d0 : Nat) (j0 : Nat) (e0 : Nat) (lf : Int32) (tr : Int32) (cnt : Int32) (hi : Int32) (wi : Int32) (fr : Int32) (fc : Int32) (lc : Int32) (rc : Int32) (ck : Nat → Int32) (cwt : Nat → Int32) (str : Nat → Int32) (rs : Nat → Int32) (rl : Nat → Int32) (rb : Nat → Int32) (a : Int32), (okN cnt) → (okR rc rs rl) → MF l G yX6_kinds cX6_kinds 5 (some .int) rm_X6_kinds [.ref b0, .int a] [(b0, .inr (6, [.ref bs, .ref x0, .ref d0, .ref r0, .ref i0, .ref c0, .ref j0, .ref e0, .int lf, .int tr])), (c0, .inr (0, [.ref c1, .ref c2, .int cnt])), (c1, .inl (G.2.1, 4, .inl ck)), (c2, .inl (G.2.1, 4, .inl cwt)), (i0, .inr (2, [.ref i1, .int hi, .int wi, .int fr, .int fc, .int lc])), (i1, .inl (G.2.1, 20, .inl str)), (r0, .inr (3, [.ref r1, .ref r2, .ref r3, .int rc])), (r1, .inl (G.2.1, 8, .inl rs)), (r2, .inl (G.2.1, 8, .inl rl)), (r3, .inl (G.2.2.1, 8, .inl rb))] (some (.int (x_kindsR cnt rs rl rb str ck cwt rc.toNatClampNeg a))) [(b0, .inr (6, [.ref bs, .ref x0, .ref d0, .ref r0, .ref i0, .ref c0, .ref j0, .ref e0, .int lf, .int tr])), (c0, .inr (0, [.ref c1, .ref c2, .int cnt])), (c1, .inl (G.2.1, 4, .inl (if s_in a 0 (cnt - 1) = 0 then ck else upd (upd ck a.toNatClampNeg 2) a.toNatClampNeg (ck a.toNatClampNeg)))), (c2, .inl (G.2.1, 4, .inl cwt)), (i0, .inr (2, [.ref i1, .int hi, .int wi, .int fr, .int fc, .int lc])), (i1, .inl (G.2.1, 20, .inl str)), (r0, .inr (3, [.ref r1, .ref r2, .ref r3, .int rc])), (r1, .inl (G.2.1, 8, .inl rs)), (r2, .inl (G.2.1, 8, .inl rl)), (r3, .inl (G.2.2.1, 8, .inl rb))]
def K_X6_strengths (l : Launch) (G : GT) : Prop := ∀ (b0 : Nat) (c0 : Nat) (c1 : Nat) (c2 : Nat) (i0 : Nat) (i1 : Nat) (r0 : Nat) (r1 : Nat) (r2 : Nat) (r3 : Nat) (bs : Nat) (x0 : Nat) (d0 : Nat) (j0 : Nat) (e0 : Nat) (lf : Int32) (tr : Int32) (cnt : Int32) (hi : Int32) (wi : Int32) (fr : Int32) (fc : Int32) (lc : Int32) (rc : Int32) (ck : Nat → Int32) (cwt : Nat → Int32) (str : Nat → Int32) (rs : Nat → Int32) (rl : Nat → Int32) (rb : Nat → Int32) (ce : Int32), (okD hi wi) → (okR rc rs rl) → MF l G yX6_strengths cX6_strengths 5 (some .int) rm_X6_strengths [.ref b0, .int ce] [(b0, .inr (6, [.ref bs, .ref x0, .ref d0, .ref r0, .ref i0, .ref c0, .ref j0, .ref e0, .int lf, .int tr])), (c0, .inr (0, [.ref c1, .ref c2, .int cnt])), (c1, .inl (G.2.1, 4, .inl ck)), (c2, .inl (G.2.1, 4, .inl cwt)), (i0, .inr (2, [.ref i1, .int hi, .int wi, .int fr, .int fc, .int lc])), (i1, .inl (G.2.1, 20, .inl str)), (r0, .inr (3, [.ref r1, .ref r2, .ref r3, .int rc])), (r1, .inl (G.2.1, 8, .inl rs)), (r2, .inl (G.2.1, 8, .inl rl)), (r3, .inl (G.2.2.1, 8, .inl rb))] (some (.int (x_strengthsR hi wi rs rl rb str ck cwt rc.toNatClampNeg ce))) [(b0, .inr (6, [.ref bs, .ref x0, .ref d0, .ref r0, .ref i0, .ref c0, .ref j0, .ref e0, .int lf, .int tr])), (c0, .inr (0, [.ref c1, .ref c2, .int cnt])), (c1, .inl (G.2.1, 4, .inl ck)), (c2, .inl (G.2.1, 4, .inl cwt)), (i0, .inr (2, [.ref i1, .int hi, .int wi, .int fr, .int fc, .int lc])), (i1, .inl (G.2.1, 20, .inl (if s_in ce 0 (hi * wi - 1) = 0 then str else upd (upd str ce.toNatClampNeg 9) ce.toNatClampNeg (str ce.toNatClampNeg)))), (r0, .inr (3, [.ref r1, .ref r2, .ref r3, .int rc])), (r1, .inl (G.2.1, 8, .inl rs)), (r2, .inl (G.2.1, 8, .inl rl)), (r3, .inl (G.2.2.1, 8, .inl rb))]
def K_X6_odds (l : Launch) (G : GT) : Prop := ∀ (b0 : Nat) (c0 : Nat) (c1 : Nat) (c2 : Nat) (i0 : Nat) (i1 : Nat) (bs : Nat) (x0 : Nat) (d0 : Nat) (r0 : Nat) (j0 : Nat) (e0 : Nat) (lf : Int32) (tr : Int32) (cnt : Int32) (hi : Int32) (wi : Int32) (fr : Int32) (fc : Int32) (lc : Int32) (ck : Nat → Int32) (cwt : Nat → Int32) (str : Nat → Int32) (a : Int32) (b : Int32) (fro : Int32) (to : Int32) (set : Int32) (which : Int32), (okD hi wi) → (okN cnt) → MF l G yX6_odds cX6_odds 11 (some .long) rm_X6_odds [.ref b0, .int a, .int b, .int fro, .int to, .int set, .int which] [(b0, .inr (6, [.ref bs, .ref x0, .ref d0, .ref r0, .ref i0, .ref c0, .ref j0, .ref e0, .int lf, .int tr])), (c0, .inr (0, [.ref c1, .ref c2, .int cnt])), (c1, .inl (G.2.1, 4, .inl ck)), (c2, .inl (G.2.1, 4, .inl cwt)), (i0, .inr (2, [.ref i1, .int hi, .int wi, .int fr, .int fc, .int lc])), (i1, .inl (G.2.1, 20, .inl str))] (some (.long (x_oddsR hi wi fc lc cnt str ck cwt a b fro to set which))) [(b0, .inr (6, [.ref bs, .ref x0, .ref d0, .ref r0, .ref i0, .ref c0, .ref j0, .ref e0, .int lf, .int tr])), (c0, .inr (0, [.ref c1, .ref c2, .int cnt])), (c1, .inl (G.2.1, 4, .inl ck)), (c2, .inl (G.2.1, 4, .inl cwt)), (i0, .inr (2, [.ref i1, .int hi, .int wi, .int fr, .int fc, .int lc])), (i1, .inl (G.2.1, 20, .inl str))]
def K_X6_sheet (l : Launch) (G : GT) : Prop := ∀ (b0 : Nat) (bs : Nat) (s0 : Nat) (s1 : Nat) (x0 : Nat) (d0 : Nat) (r0 : Nat) (i0 : Nat) (c0 : Nat) (j0 : Nat) (e0 : Nat) (lf : Int32) (tr : Int32) (sla : Int32) (sle : Int32) (sn : Nat → Int32) (sh : Nat → Option Nat) (k : Int32) (lane : Int32) (n : Int32), (s_shAt sh k = some s0) → (s_in k 0 3 = 0 ∨ vp_in k 4) → MF l G yX6_sheet cX6_sheet 4 (some .int) rm_X6_sheet [.ref b0, .int k, .int lane, .int n] [(b0, .inr (6, [.ref bs, .ref x0, .ref d0, .ref r0, .ref i0, .ref c0, .ref j0, .ref e0, .int lf, .int tr])), (bs, .inl (G.2.2.2, 4, .inr (.inr (.inr (.inr sh))))), (s0, .inr (4, [.ref s1, .int sla, .int sle])), (s1, .inl (G.2.1, 60, .inl sn))] (some (.int (x_nrR lane n))) [(b0, .inr (6, [.ref bs, .ref x0, .ref d0, .ref r0, .ref i0, .ref c0, .ref j0, .ref e0, .int (x_kf (x_nrR lane n)), .int tr])), (bs, .inl (G.2.2.2, 4, .inr (.inr (.inr (.inr sh))))), (s0, .inr (4, [.ref s1, .int (if x_nrOk lane n then lane else sla), .int (if x_nrOk lane n then n else sle)])), (s1, .inl (G.2.1, 60, .inl (if x_nrOk lane n then s_fill 0 sn else sn)))]
def K_X6_sheet_n (l : Launch) (G : GT) : Prop := ∀ (b0 : Nat) (bs : Nat) (x0 : Nat) (d0 : Nat) (r0 : Nat) (i0 : Nat) (c0 : Nat) (j0 : Nat) (e0 : Nat) (lf : Int32) (tr : Int32) (sh : Nat → Option Nat) (k : Int32) (lane : Int32) (n : Int32), (s_shAt sh k = none) → (s_in k 0 3 = 0 ∨ vp_in k 4) → MF l G yX6_sheet cX6_sheet 4 (some .int) rm_X6_sheet [.ref b0, .int k, .int lane, .int n] [(b0, .inr (6, [.ref bs, .ref x0, .ref d0, .ref r0, .ref i0, .ref c0, .ref j0, .ref e0, .int lf, .int tr])), (bs, .inl (G.2.2.2, 4, .inr (.inr (.inr (.inr sh)))))] (some (.int (-1))) [(b0, .inr (6, [.ref bs, .ref x0, .ref d0, .ref r0, .ref i0, .ref c0, .ref j0, .ref e0, .int 0, .int tr])), (bs, .inl (G.2.2.2, 4, .inr (.inr (.inr (.inr sh)))))]
def K_X6_lose (l : Launch) (G : GT) : Prop := ∀ (b0 : Nat) (bs : Nat) (s0 : Nat) (x0 : Nat) (d0 : Nat) (r0 : Nat) (i0 : Nat) (c0 : Nat) (j0 : Nat) (e0 : Nat) (s1 : Nat) (lf : Int32) (tr : Int32) (sla : Int32) (sle : Int32) (sh : Nat → Option Nat) (k : Int32), (s_shAt sh k = some s0) → (s_in k 0 3 = 0 ∨ vp_in k 4) → MF l G yX6_lose cX6_lose 4 (some .int) rm_X6_lose [.ref b0, .int k] [(b0, .inr (6, [.ref bs, .ref x0, .ref d0, .ref r0, .ref i0, .ref c0, .ref j0, .ref e0, .int lf, .int tr])), (bs, .inl (G.2.2.2, 4, .inr (.inr (.inr (.inr sh))))), (s0, .inr (4, [.ref s1, .int sla, .int sle]))] (some (.int (if s_nothing sla = 0 then 1 else 0))) [(b0, .inr (6, [.ref bs, .ref x0, .ref d0, .ref r0, .ref i0, .ref c0, .ref j0, .ref e0, .int lf, .int tr])), (bs, .inl (G.2.2.2, 4, .inr (.inr (.inr (.inr sh))))), (s0, .inr (4, [.ref s1, .int (-1), .int 0]))]
def K_X6_lose_n (l : Launch) (G : GT) : Prop := ∀ (b0 : Nat) (bs : Nat) (x0 : Nat) (d0 : Nat) (r0 : Nat) (i0 : Nat) (c0 : Nat) (j0 : Nat) (e0 : Nat) (lf : Int32) (tr : Int32) (sh : Nat → Option Nat) (k : Int32), (s_shAt sh k = none) → (s_in k 0 3 = 0 ∨ vp_in k 4) → MF l G yX6_lose cX6_lose 4 (some .int) rm_X6_lose [.ref b0, .int k] [(b0, .inr (6, [.ref bs, .ref x0, .ref d0, .ref r0, .ref i0, .ref c0, .ref j0, .ref e0, .int lf, .int tr])), (bs, .inl (G.2.2.2, 4, .inr (.inr (.inr (.inr sh)))))] (some (.int (-1))) [(b0, .inr (6, [.ref bs, .ref x0, .ref d0, .ref r0, .ref i0, .ref c0, .ref j0, .ref e0, .int lf, .int tr])), (bs, .inl (G.2.2.2, 4, .inr (.inr (.inr (.inr sh)))))]
def K_X6_put (l : Launch) (G : GT) : Prop := ∀ (b0 : Nat) (bs : Nat) (s0 : Nat) (s1 : Nat) (x0 : Nat) (d0 : Nat) (r0 : Nat) (i0 : Nat) (c0 : Nat) (j0 : Nat) (e0 : Nat) (lf : Int32) (tr : Int32) (sla : Int32) (sle : Int32) (sn : Nat → Int32) (sh : Nat → Option Nat) (k : Int32) (ii : Int32) (v : Int32), (s_shAt sh k = some s0) → (s_in k 0 3 = 0 ∨ vp_in k 4) → (¬ 60 < sle) → MF l G yX6_put cX6_put 4 (some .int) rm_X6_put [.ref b0, .int k, .int ii, .int v] [(b0, .inr (6, [.ref bs, .ref x0, .ref d0, .ref r0, .ref i0, .ref c0, .ref j0, .ref e0, .int lf, .int tr])), (bs, .inl (G.2.2.2, 4, .inr (.inr (.inr (.inr sh))))), (s0, .inr (4, [.ref s1, .int sla, .int sle])), (s1, .inl (G.2.1, 60, .inl sn))] (some (.int (x_pnR sla sle ii))) [(b0, .inr (6, [.ref bs, .ref x0, .ref d0, .ref r0, .ref i0, .ref c0, .ref j0, .ref e0, .int (x_kf (x_pnR sla sle ii)), .int tr])), (bs, .inl (G.2.2.2, 4, .inr (.inr (.inr (.inr sh))))), (s0, .inr (4, [.ref s1, .int sla, .int sle])), (s1, .inl (G.2.1, 60, .inl (if x_pnOk sla sle ii then upd sn ii.toNatClampNeg (s_cut sla v) else sn)))]
def K_X6_put_n (l : Launch) (G : GT) : Prop := ∀ (b0 : Nat) (bs : Nat) (x0 : Nat) (d0 : Nat) (r0 : Nat) (i0 : Nat) (c0 : Nat) (j0 : Nat) (e0 : Nat) (lf : Int32) (tr : Int32) (sh : Nat → Option Nat) (k : Int32) (ii : Int32) (v : Int32), (s_shAt sh k = none) → (s_in k 0 3 = 0 ∨ vp_in k 4) → MF l G yX6_put cX6_put 4 (some .int) rm_X6_put [.ref b0, .int k, .int ii, .int v] [(b0, .inr (6, [.ref bs, .ref x0, .ref d0, .ref r0, .ref i0, .ref c0, .ref j0, .ref e0, .int lf, .int tr])), (bs, .inl (G.2.2.2, 4, .inr (.inr (.inr (.inr sh)))))] (some (.int (-1))) [(b0, .inr (6, [.ref bs, .ref x0, .ref d0, .ref r0, .ref i0, .ref c0, .ref j0, .ref e0, .int 0, .int tr])), (bs, .inl (G.2.2.2, 4, .inr (.inr (.inr (.inr sh)))))]
def K_X6_cell (l : Launch) (G : GT) : Prop := ∀ (b0 : Nat) (bs : Nat) (s0 : Nat) (s1 : Nat) (x0 : Nat) (d0 : Nat) (r0 : Nat) (i0 : Nat) (c0 : Nat) (j0 : Nat) (e0 : Nat) (lf : Int32) (tr : Int32) (sla : Int32) (sle : Int32) (sn : Nat → Int32) (sh : Nat → Option Nat) (k : Int32) (ii : Int32) (lane : Int32), (s_shAt sh k = some s0) → (s_in k 0 3 = 0 ∨ vp_in k 4) → (¬ 60 < sle) → MF l G yX6_cell cX6_cell 6 (some .long) rm_X6_cell [.ref b0, .int k, .int ii, .int lane] [(b0, .inr (6, [.ref bs, .ref x0, .ref d0, .ref r0, .ref i0, .ref c0, .ref j0, .ref e0, .int lf, .int tr])), (bs, .inl (G.2.2.2, 4, .inr (.inr (.inr (.inr sh))))), (s0, .inr (4, [.ref s1, .int sla, .int sle])), (s1, .inl (G.2.1, 60, .inl sn))] (some (.long (x_cellR sla sle sn lane ii))) [(b0, .inr (6, [.ref bs, .ref x0, .ref d0, .ref r0, .ref i0, .ref c0, .ref j0, .ref e0, .int (x_kf (x_rp sla sle lane ii 1)), .int tr])), (bs, .inl (G.2.2.2, 4, .inr (.inr (.inr (.inr sh))))), (s0, .inr (4, [.ref s1, .int sla, .int sle])), (s1, .inl (G.2.1, 60, .inl sn))]
def K_X6_cell_n (l : Launch) (G : GT) : Prop := ∀ (b0 : Nat) (bs : Nat) (x0 : Nat) (d0 : Nat) (r0 : Nat) (i0 : Nat) (c0 : Nat) (j0 : Nat) (e0 : Nat) (lf : Int32) (tr : Int32) (sh : Nat → Option Nat) (k : Int32) (ii : Int32) (lane : Int32), (s_shAt sh k = none) → (s_in k 0 3 = 0 ∨ vp_in k 4) → MF l G yX6_cell cX6_cell 6 (some .long) rm_X6_cell [.ref b0, .int k, .int ii, .int lane] [(b0, .inr (6, [.ref bs, .ref x0, .ref d0, .ref r0, .ref i0, .ref c0, .ref j0, .ref e0, .int lf, .int tr])), (bs, .inl (G.2.2.2, 4, .inr (.inr (.inr (.inr sh)))))] (some (.long (-9223372036854775808 : Int64))) [(b0, .inr (6, [.ref bs, .ref x0, .ref d0, .ref r0, .ref i0, .ref c0, .ref j0, .ref e0, .int 0, .int tr])), (bs, .inl (G.2.2.2, 4, .inr (.inr (.inr (.inr sh)))))]
def K_X6_copy (l : Launch) (G : GT) : Prop := ∀ (b0 : Nat) (bs : Nat) (s0 : Nat) (s1 : Nat) (u0 : Nat) (u1 : Nat) (x0 : Nat) (d0 : Nat) (r0 : Nat) (i0 : Nat) (c0 : Nat) (j0 : Nat) (e0 : Nat) (lf : Int32) (tr : Int32) (sla : Int32) (sle : Int32) (ula : Int32) (ule : Int32) (sn : Nat → Int32) (un : Nat → Int32) (sh : Nat → Option Nat) (k : Int32) (i : Int32) (other : Int32) (j : Int32) (n : Int32), (s_shAt sh k = some s0) → (s_shAt sh other = some u0) → (s_in k 0 3 = 0 ∨ vp_in k 4) → (s_in other 0 3 = 0 ∨ vp_in other 4) → (¬ 60 < sle) → (¬ 60 < ule) → MF l G yX6_copy cX6_copy 6 (some .int) rm_X6_copy [.ref b0, .int k, .int i, .int other, .int j, .int n] [(b0, .inr (6, [.ref bs, .ref x0, .ref d0, .ref r0, .ref i0, .ref c0, .ref j0, .ref e0, .int lf, .int tr])), (bs, .inl (G.2.2.2, 4, .inr (.inr (.inr (.inr sh))))), (s0, .inr (4, [.ref s1, .int sla, .int sle])), (s1, .inl (G.2.1, 60, .inl sn)), (u0, .inr (4, [.ref u1, .int ula, .int ule])), (u1, .inl (G.2.1, 60, .inl un))] (some (.int (x_cpR sla sle ula ule i j n))) [(b0, .inr (6, [.ref bs, .ref x0, .ref d0, .ref r0, .ref i0, .ref c0, .ref j0, .ref e0, .int (x_kf (x_cpR sla sle ula ule i j n)), .int tr])), (bs, .inl (G.2.2.2, 4, .inr (.inr (.inr (.inr sh))))), (s0, .inr (4, [.ref s1, .int sla, .int sle])), (s1, .inl (G.2.1, 60, .inl sn)), (u0, .inr (4, [.ref u1, .int ula, .int ule])), (u1, .inl (G.2.1, 60, .inl (x_cpS sla sle ula ule sn un i j n)))]
def K_X6_copy_s (l : Launch) (G : GT) : Prop := ∀ (b0 : Nat) (bs : Nat) (s0 : Nat) (s1 : Nat) (x0 : Nat) (d0 : Nat) (r0 : Nat) (i0 : Nat) (c0 : Nat) (j0 : Nat) (e0 : Nat) (lf : Int32) (tr : Int32) (sla : Int32) (sle : Int32) (sn : Nat → Int32) (sh : Nat → Option Nat) (k : Int32) (i : Int32) (other : Int32) (j : Int32) (n : Int32), (s_shAt sh k = some s0) → (s_shAt sh other = some s0) → (s_in k 0 3 = 0 ∨ vp_in k 4) → (s_in other 0 3 = 0 ∨ vp_in other 4) → (¬ 60 < sle) → MF l G yX6_copy cX6_copy 6 (some .int) rm_X6_copy [.ref b0, .int k, .int i, .int other, .int j, .int n] [(b0, .inr (6, [.ref bs, .ref x0, .ref d0, .ref r0, .ref i0, .ref c0, .ref j0, .ref e0, .int lf, .int tr])), (bs, .inl (G.2.2.2, 4, .inr (.inr (.inr (.inr sh))))), (s0, .inr (4, [.ref s1, .int sla, .int sle])), (s1, .inl (G.2.1, 60, .inl sn))] (some (.int (x_cpR sla sle sla sle i j n))) [(b0, .inr (6, [.ref bs, .ref x0, .ref d0, .ref r0, .ref i0, .ref c0, .ref j0, .ref e0, .int (x_kf (x_cpR sla sle sla sle i j n)), .int tr])), (bs, .inl (G.2.2.2, 4, .inr (.inr (.inr (.inr sh))))), (s0, .inr (4, [.ref s1, .int sla, .int sle])), (s1, .inl (G.2.1, 60, .inl (x_cpS sla sle sla sle sn sn i j n)))]
def K_X6_copy_n (l : Launch) (G : GT) : Prop := ∀ (b0 : Nat) (bs : Nat) (x0 : Nat) (d0 : Nat) (r0 : Nat) (i0 : Nat) (c0 : Nat) (j0 : Nat) (e0 : Nat) (lf : Int32) (tr : Int32) (sh : Nat → Option Nat) (k : Int32) (i : Int32) (other : Int32) (j : Int32) (n : Int32), (s_shAt sh k = none) → (s_shAt sh other = none) → (s_in k 0 3 = 0 ∨ vp_in k 4) → (s_in other 0 3 = 0 ∨ vp_in other 4) → MF l G yX6_copy cX6_copy 6 (some .int) rm_X6_copy [.ref b0, .int k, .int i, .int other, .int j, .int n] [(b0, .inr (6, [.ref bs, .ref x0, .ref d0, .ref r0, .ref i0, .ref c0, .ref j0, .ref e0, .int lf, .int tr])), (bs, .inl (G.2.2.2, 4, .inr (.inr (.inr (.inr sh)))))] (some (.int (-1))) [(b0, .inr (6, [.ref bs, .ref x0, .ref d0, .ref r0, .ref i0, .ref c0, .ref j0, .ref e0, .int 0, .int tr])), (bs, .inl (G.2.2.2, 4, .inr (.inr (.inr (.inr sh)))))]
def K_X6_copy_n1 (l : Launch) (G : GT) : Prop := ∀ (b0 : Nat) (bs : Nat) (x0 : Nat) (d0 : Nat) (r0 : Nat) (i0 : Nat) (c0 : Nat) (j0 : Nat) (e0 : Nat) (lf : Int32) (tr : Int32) (sh : Nat → Option Nat) (k : Int32) (i : Int32) (other : Int32) (j : Int32) (n : Int32) (u0 : Nat), (s_shAt sh k = none) → (s_shAt sh other = some u0) → (s_in k 0 3 = 0 ∨ vp_in k 4) → (s_in other 0 3 = 0 ∨ vp_in other 4) → MF l G yX6_copy cX6_copy 6 (some .int) rm_X6_copy [.ref b0, .int k, .int i, .int other, .int j, .int n] [(b0, .inr (6, [.ref bs, .ref x0, .ref d0, .ref r0, .ref i0, .ref c0, .ref j0, .ref e0, .int lf, .int tr])), (bs, .inl (G.2.2.2, 4, .inr (.inr (.inr (.inr sh)))))] (some (.int (-1))) [(b0, .inr (6, [.ref bs, .ref x0, .ref d0, .ref r0, .ref i0, .ref c0, .ref j0, .ref e0, .int 0, .int tr])), (bs, .inl (G.2.2.2, 4, .inr (.inr (.inr (.inr sh)))))]
def K_X6_copy_n2 (l : Launch) (G : GT) : Prop := ∀ (b0 : Nat) (bs : Nat) (x0 : Nat) (d0 : Nat) (r0 : Nat) (i0 : Nat) (c0 : Nat) (j0 : Nat) (e0 : Nat) (lf : Int32) (tr : Int32) (sh : Nat → Option Nat) (k : Int32) (i : Int32) (other : Int32) (j : Int32) (n : Int32) (s0 : Nat), (s_shAt sh k = some s0) → (s_shAt sh other = none) → (s_in k 0 3 = 0 ∨ vp_in k 4) → (s_in other 0 3 = 0 ∨ vp_in other 4) → MF l G yX6_copy cX6_copy 6 (some .int) rm_X6_copy [.ref b0, .int k, .int i, .int other, .int j, .int n] [(b0, .inr (6, [.ref bs, .ref x0, .ref d0, .ref r0, .ref i0, .ref c0, .ref j0, .ref e0, .int lf, .int tr])), (bs, .inl (G.2.2.2, 4, .inr (.inr (.inr (.inr sh)))))] (some (.int (-1))) [(b0, .inr (6, [.ref bs, .ref x0, .ref d0, .ref r0, .ref i0, .ref c0, .ref j0, .ref e0, .int 0, .int tr])), (bs, .inl (G.2.2.2, 4, .inr (.inr (.inr (.inr sh)))))]
def K_X6_tell (l : Launch) (G : GT) : Prop := ∀ (b0 : Nat) (c0 : Nat) (c1 : Nat) (c2 : Nat) (bs : Nat) (x0 : Nat) (d0 : Nat) (r0 : Nat) (i0 : Nat) (j0 : Nat) (e0 : Nat) (lf : Int32) (tr : Int32) (cnt : Int32) (ck : Nat → Int32) (cwt : Nat → Int32) (a : Int32), (okN cnt) → MF l G yX6_tell cX6_tell 3 (some .int) rm_X6_tell [.ref b0, .int a] [(b0, .inr (6, [.ref bs, .ref x0, .ref d0, .ref r0, .ref i0, .ref c0, .ref j0, .ref e0, .int lf, .int tr])), (c0, .inr (0, [.ref c1, .ref c2, .int cnt])), (c1, .inl (G.2.1, 4, .inl ck)), (c2, .inl (G.2.1, 4, .inl cwt))] (some (.int (x_tellR cnt ck cwt a))) [(b0, .inr (6, [.ref bs, .ref x0, .ref d0, .ref r0, .ref i0, .ref c0, .ref j0, .ref e0, .int lf, .int (x_tellT cnt ck a tr)])), (c0, .inr (0, [.ref c1, .ref c2, .int cnt])), (c1, .inl (G.2.1, 4, .inl ck)), (c2, .inl (G.2.1, 4, .inl cwt))]
def K_X6_signed (l : Launch) (G : GT) : Prop := ∀ (b0 : Nat) (c0 : Nat) (c1 : Nat) (c2 : Nat) (bs : Nat) (x0 : Nat) (d0 : Nat) (r0 : Nat) (i0 : Nat) (j0 : Nat) (e0 : Nat) (lf : Int32) (tr : Int32) (cnt : Int32) (ck : Nat → Int32) (cwt : Nat → Int32) (a : Int32), (okN cnt) → MF l G yX6_signed cX6_signed 2 (some .int) rm_X6_signed [.ref b0, .int a] [(b0, .inr (6, [.ref bs, .ref x0, .ref d0, .ref r0, .ref i0, .ref c0, .ref j0, .ref e0, .int lf, .int tr])), (c0, .inr (0, [.ref c1, .ref c2, .int cnt])), (c1, .inl (G.2.1, 4, .inl ck)), (c2, .inl (G.2.1, 4, .inl cwt))] (some (.int (x_signR cnt ck a))) [(b0, .inr (6, [.ref bs, .ref x0, .ref d0, .ref r0, .ref i0, .ref c0, .ref j0, .ref e0, .int lf, .int (x_signT cnt ck a tr)])), (c0, .inr (0, [.ref c1, .ref c2, .int cnt])), (c1, .inl (G.2.1, 4, .inl ck)), (c2, .inl (G.2.1, 4, .inl cwt))]
def K_X6_as (l : Launch) (G : GT) : Prop := ∀ (b0 : Nat) (c0 : Nat) (c1 : Nat) (c2 : Nat) (bs : Nat) (x0 : Nat) (d0 : Nat) (r0 : Nat) (i0 : Nat) (j0 : Nat) (e0 : Nat) (lf : Int32) (tr : Int32) (cnt : Int32) (ck : Nat → Int32) (cwt : Nat → Int32) (a : Int32) (kind : Int32), (okN cnt) → MF l G yX6_as cX6_as 3 (some .int) rm_X6_as [.ref b0, .int a, .int kind] [(b0, .inr (6, [.ref bs, .ref x0, .ref d0, .ref r0, .ref i0, .ref c0, .ref j0, .ref e0, .int lf, .int tr])), (c0, .inr (0, [.ref c1, .ref c2, .int cnt])), (c1, .inl (G.2.1, 4, .inl ck)), (c2, .inl (G.2.1, 4, .inl cwt))] (some (.int (x_asR cnt ck a kind))) [(b0, .inr (6, [.ref bs, .ref x0, .ref d0, .ref r0, .ref i0, .ref c0, .ref j0, .ref e0, .int (x_kf (x_asR cnt ck a kind)), .int tr])), (c0, .inr (0, [.ref c1, .ref c2, .int cnt])), (c1, .inl (G.2.1, 4, .inl ck)), (c2, .inl (G.2.1, 4, .inl cwt))]
def K_X6_trace (l : Launch) (G : GT) : Prop := ∀ (b0 : Nat) (bs : Nat) (x0 : Nat) (d0 : Nat) (r0 : Nat) (i0 : Nat) (c0 : Nat) (j0 : Nat) (e0 : Nat) (lf : Int32) (tr : Int32), MF l G yX6_trace cX6_trace 1 (some .int) rm_X6_trace [.ref b0] [(b0, .inr (6, [.ref bs, .ref x0, .ref d0, .ref r0, .ref i0, .ref c0, .ref j0, .ref e0, .int lf, .int tr]))] (some (.int tr)) [(b0, .inr (6, [.ref bs, .ref x0, .ref d0, .ref r0, .ref i0, .ref c0, .ref j0, .ref e0, .int lf, .int tr]))]
def K_X6_fault (l : Launch) (G : GT) : Prop := ∀ (b0 : Nat) (bs : Nat) (x0 : Nat) (d0 : Nat) (r0 : Nat) (i0 : Nat) (c0 : Nat) (j0 : Nat) (e0 : Nat) (lf : Int32) (tr : Int32), MF l G yX6_fault cX6_fault 1 (some .int) rm_X6_fault [.ref b0] [(b0, .inr (6, [.ref bs, .ref x0, .ref d0, .ref r0, .ref i0, .ref c0, .ref j0, .ref e0, .int lf, .int tr]))] (some (.int lf)) [(b0, .inr (6, [.ref bs, .ref x0, .ref d0, .ref r0, .ref i0, .ref c0, .ref j0, .ref e0, .int lf, .int tr]))]
def K_X6_many (l : Launch) (G : GT) : Prop := ∀ (b0 : Nat) (c0 : Nat) (i0 : Nat) (r0 : Nat) (bs : Nat) (x0 : Nat) (d0 : Nat) (j0 : Nat) (e0 : Nat) (c1 : Nat) (c2 : Nat) (i1 : Nat) (r1 : Nat) (r2 : Nat) (r3 : Nat) (lf : Int32) (tr : Int32) (cnt : Int32) (hi : Int32) (wi : Int32) (fr : Int32) (fc : Int32) (lc : Int32) (rc : Int32) (what : Int32), MF l G yX6_many cX6_many 2 (some .int) rm_X6_many [.ref b0, .int what] [(b0, .inr (6, [.ref bs, .ref x0, .ref d0, .ref r0, .ref i0, .ref c0, .ref j0, .ref e0, .int lf, .int tr])), (c0, .inr (0, [.ref c1, .ref c2, .int cnt])), (i0, .inr (2, [.ref i1, .int hi, .int wi, .int fr, .int fc, .int lc])), (r0, .inr (3, [.ref r1, .ref r2, .ref r3, .int rc]))] (some (.int (x_many hi wi fr cnt rc what))) [(b0, .inr (6, [.ref bs, .ref x0, .ref d0, .ref r0, .ref i0, .ref c0, .ref j0, .ref e0, .int lf, .int tr])), (c0, .inr (0, [.ref c1, .ref c2, .int cnt])), (i0, .inr (2, [.ref i1, .int hi, .int wi, .int fr, .int fc, .int lc])), (r0, .inr (3, [.ref r1, .ref r2, .ref r3, .int rc]))]
end
section
/-! facts of numbers that the walks' facts rest on -/
theorem i64t (x : Int32) : x.toInt64.toInt = x.toInt := Int32.toInt_toInt64 x
theorem i32b (x : Int32) : -2147483648 ≤ x.toInt ∧ x.toInt < 2147483648 := ⟨by have := x.le_toInt; simpa using this, by have := x.toInt_lt; simpa using this⟩
theorem i64b (x : Int64) : -9223372036854775808 ≤ x.toInt ∧ x.toInt < 9223372036854775808 := ⟨by have := x.le_toInt; simpa using this, by have := x.toInt_lt; simpa using this⟩
theorem i64sub {x y : Int64} (h1 : -9223372036854775808 ≤ x.toInt - y.toInt) (h2 : x.toInt - y.toInt < 9223372036854775808) : (x - y).toInt = x.toInt - y.toInt := by
  rw [Int64.toInt_sub]
  exact Int.bmod_eq_of_le (by omega) (by omega)
theorem i64add {x y : Int64} (h1 : -9223372036854775808 ≤ x.toInt + y.toInt) (h2 : x.toInt + y.toInt < 9223372036854775808) : (x + y).toInt = x.toInt + y.toInt := by
  rw [Int64.toInt_add]
  exact Int.bmod_eq_of_le (by omega) (by omega)
theorem i32sub {x y : Int32} (h1 : -2147483648 ≤ x.toInt - y.toInt) (h2 : x.toInt - y.toInt < 2147483648) : (x - y).toInt = x.toInt - y.toInt := by
  rw [Int32.toInt_sub]
  exact Int.bmod_eq_of_le (by omega) (by omega)
theorem i32add {x y : Int32} (h1 : -2147483648 ≤ x.toInt + y.toInt) (h2 : x.toInt + y.toInt < 2147483648) : (x + y).toInt = x.toInt + y.toInt := by
  rw [Int32.toInt_add]
  exact Int.bmod_eq_of_le (by omega) (by omega)
theorem i32mul {x y : Int32} (h1 : -2147483648 ≤ x.toInt * y.toInt) (h2 : x.toInt * y.toInt < 2147483648) : (x * y).toInt = x.toInt * y.toInt := by
  rw [Int32.toInt_mul]
  exact Int.bmod_eq_of_le (by omega) (by omega)
theorem nI_mul (a b : Nat) : nI a * nI b = nI (a * b) := by
  unfold nI
  exact (Int32.ofNat_mul a b).symm
theorem ite01 {P : Prop} [Decidable P] : ((if P then (1 : Int32) else 0) = 0) = ¬ P := by
  by_cases h : P <;> simp [h]
theorem ite10 {P : Prop} [Decidable P] : ((if P then (0 : Int32) else 1) = 0) = P := by
  by_cases h : P <;> simp [h]
theorem s_in0 (v a b : Int32) : (s_in v a b = 0) = ¬ (a ≤ v ∧ v ≤ b) := ite01
theorem q_in0 (v a b : Int64) : (q_in v a b = 0) = ¬ (a ≤ v ∧ v ≤ b) := ite01
theorem q_inI {v a' b' : Int32} {a b : Int64} (ha : a'.toInt64 = a) (hb : b'.toInt64 = b) : (q_in v.toInt64 a b = 0) = ¬ (a' ≤ v ∧ v ≤ b') := by
  subst ha hb
  rw [q_in0, Int64.le_iff_toInt_le, Int64.le_iff_toInt_le, i64t, i64t, i64t, Int32.le_iff_toInt_le, Int32.le_iff_toInt_le]
theorem q_in02 (v : Int32) : (q_in v.toInt64 0 2 = 0) = ¬ (0 ≤ v ∧ v ≤ 2) := q_inI (by decide) (by decide)
theorem q_in03 (v : Int32) : (q_in v.toInt64 0 3 = 0) = ¬ (0 ≤ v ∧ v ≤ 3) := q_inI (by decide) (by decide)
theorem q_in04 (v : Int32) : (q_in v.toInt64 0 4 = 0) = ¬ (0 ≤ v ∧ v ≤ 4) := q_inI (by decide) (by decide)
theorem q_in09 (v : Int32) : (q_in v.toInt64 0 9 = 0) = ¬ (0 ≤ v ∧ v ≤ 9) := q_inI (by decide) (by decide)
theorem q_in01 (v : Int32) : (q_in v.toInt64 0 1 = 0) = ¬ (0 ≤ v ∧ v ≤ 1) := q_inI (by decide) (by decide)
theorem q_in040 (v : Int32) : (q_in v.toInt64 0 40 = 0) = ¬ (0 ≤ v ∧ v ≤ 40) := q_inI (by decide) (by decide)
theorem q_inm39 (v : Int32) : (q_in v.toInt64 (-1) 39 = 0) = ¬ (-1 ≤ v ∧ v ≤ 39) := q_inI (by decide) (by decide)
theorem q_inV (v a b : Int32) : (q_in v.toInt64 a.toInt64 b.toInt64 = 0) = ¬ (a ≤ v ∧ v ≤ b) := q_inI rfl rfl
theorem q_in0V (v b : Int32) : (q_in v.toInt64 0 b.toInt64 = 0) = ¬ (0 ≤ v ∧ v ≤ b) := q_inI (by decide) rfl
theorem q_inM (v n : Int32) : (q_in v.toInt64 0 (n.toInt64 - 1) = 0) = ¬ (0 ≤ v ∧ v < n) := by
  have h1 : (1 : Int64).toInt = 1 := by decide
  have h0 : (0 : Int64).toInt = 0 := by decide
  have h2 : (0 : Int32).toInt = 0 := by decide
  have hb := i32b n
  rw [q_in0, Int64.le_iff_toInt_le, Int64.le_iff_toInt_le, i64sub (by rw [i64t, h1]; omega) (by rw [i64t, h1]; omega), i64t, i64t, Int32.le_iff_toInt_le, Int32.lt_iff_toInt_lt, h0, h1, h2]
  apply propext
  omega
theorem vpN {x N : Int32} {n : Nat} (hN : N.toInt = n) (h0 : 0 ≤ x) (h1 : x < N) : vp_in x n := by
  have z : (0 : Int32).toInt = 0 := by decide
  rw [Int32.le_iff_toInt_le, z] at h0
  rw [Int32.lt_iff_toInt_lt, hN] at h1
  exact vp_in_iff.mpr ⟨h0, h1⟩
theorem vp4 {x : Int32} (h0 : 0 ≤ x) (h1 : x < 4) : vp_in x 4 := vpN (by decide) h0 h1
theorem vp8 {x : Int32} (h0 : 0 ≤ x) (h1 : x < 8) : vp_in x 8 := vpN (by decide) h0 h1
theorem vp20 {x : Int32} (h0 : 0 ≤ x) (h1 : x < 20) : vp_in x 20 := vpN (by decide) h0 h1
theorem vp40 {x : Int32} (h0 : 0 ≤ x) (h1 : x < 40) : vp_in x 40 := vpN (by decide) h0 h1
theorem vp60 {x : Int32} (h0 : 0 ≤ x) (h1 : x < 60) : vp_in x 60 := vpN (by decide) h0 h1
theorem vp240 {x : Int32} (h0 : 0 ≤ x) (h1 : x < 240) : vp_in x 240 := vpN (by decide) h0 h1
/-- a canal's cells: n of them -/
theorem okD.n {hi wi : Int32} (h : okD hi wi) : ∃ n : Nat, n ≤ 20 ∧ hi * wi = nI n ∧ (hi * wi).toNatClampNeg = n ∧ (wi = 0 → n = 0) := by
  obtain ⟨a, b, ha, hb, rfl, rfl⟩ := h
  have hn : a * b ≤ 20 := Nat.le_trans (Nat.mul_le_mul ha hb) (by decide)
  refine ⟨a * b, hn, nI_mul a b, by rw [nI_mul, nI_clamp (by omega)], fun h => ?_⟩
  have : b = 0 := by
    have := (nI_eq (a := b) (b := 0) (by omega) (by omega)).mp (by rw [h]; decide)
    exact this
  rw [this, Nat.mul_zero]
theorem okD.le {hi wi : Int32} (h : okD hi wi) : 0 ≤ hi * wi ∧ hi * wi ≤ 20 := by
  obtain ⟨n, h1, h2, -, -⟩ := h.n
  rw [h2]
  exact ⟨nI_pos' (by omega), nI_le (b := 20) h1 (by omega)⟩
theorem s_inC {hi wi ce : Int32} (h : okD hi wi) : (s_in ce 0 (hi * wi - 1) = 0) = ¬ (0 ≤ ce ∧ ce < hi * wi) := by
  obtain ⟨n, h1, h2, -, -⟩ := h.n
  have e1 : (1 : Int32).toInt = 1 := by decide
  have hn := nI_toInt (n := n) (by omega)
  rw [s_in0, h2, Int32.le_iff_toInt_le, Int32.le_iff_toInt_le, Int32.lt_iff_toInt_lt, i32sub (by rw [hn, e1]; omega) (by rw [hn, e1]; omega), e1]
  apply propext
  omega
theorem s_inS {cnt a : Int32} (h : okN cnt) : (s_in a 0 (cnt - 1) = 0) = ¬ (0 ≤ a ∧ a < cnt) := by
  obtain ⟨n, h1, rfl⟩ := h
  have e1 : (1 : Int32).toInt = 1 := by decide
  have hn := nI_toInt (n := n) (by omega)
  rw [s_in0, Int32.le_iff_toInt_le, Int32.le_iff_toInt_le, Int32.lt_iff_toInt_lt, i32sub (by rw [hn, e1]; omega) (by rw [hn, e1]; omega), e1]
  apply propext
  omega
theorem okN.le {cnt : Int32} (h : okN cnt) : 0 ≤ cnt ∧ cnt ≤ 4 := by
  obtain ⟨n, h1, rfl⟩ := h
  exact ⟨nI_pos' (by omega), nI_le (b := 4) h1 (by omega)⟩
theorem vpS {cnt a : Int32} (h : okN cnt) (h0 : ¬ s_in a 0 (cnt - 1) = 0) : vp_in a 4 := by
  rw [s_inS h] at h0
  have := h.le
  exact vp4 (by grind) (by grind)
theorem vpC {hi wi ce : Int32} (h : okD hi wi) (h0 : ¬ s_in ce 0 (hi * wi - 1) = 0) : vp_in ce 20 := by
  rw [s_inC h] at h0
  have := h.le
  exact vp20 (by grind) (by grind)
theorem vpQ {sk a : Int32} (h : okN sk) (h0 : q_noSk sk a = 0) : vp_in a 4 := by
  unfold q_noSk at h0
  rw [ite10] at h0
  have := h.le
  exact vp4 (by grind) (by grind)
theorem vpP {hi wi ce : Int32} (h : okD hi wi) (h0 : q_noPlace hi wi ce = 0) : vp_in ce 20 := by
  unfold q_noPlace at h0
  rw [ite10] at h0
  have := h.le
  exact vp20 (by grind) (by grind)
theorem wiP {hi wi ce : Int32} (h : okD hi wi) (h0 : q_noPlace hi wi ce = 0) : ¬ wi = 0 := by
  unfold q_noPlace at h0
  rw [ite10] at h0
  intro hz
  rw [hz, Int32.mul_zero] at h0
  grind
theorem vpK {k : Int32} (h0 : q_noSheet k = 0) : vp_in k 4 := by
  unfold q_noSheet at h0
  rw [ite10] at h0
  exact vp4 (by grind) (by grind)
theorem vpTwo {sk a b : Int32} (h : okN sk) (h0 : q_noTwo sk a b = 0) : vp_in a 4 ∧ vp_in b 4 := by
  unfold q_noTwo at h0
  rw [ite10] at h0
  exact ⟨vpQ h h0.1, vpQ h h0.2.1⟩
theorem vpPair {cnt a b : Int32} (h : okN cnt) (h0 : ¬ x_pair cnt a b = 0) : vp_in a 4 ∧ vp_in b 4 := by
  unfold x_pair at h0
  rw [ite01, Classical.not_not] at h0
  exact ⟨vpS h h0.1, vpS h h0.2.1⟩
end
