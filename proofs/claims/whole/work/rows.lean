section
-- ===== PART A: goes FIRST, ahead of the names: the tables' words, and 'selects' of the private methods out of them =====
/-- a private method of a class that the tables say can be made, by its rows of tables_1 -/
def lw_okq (q : MethodName × Nat) : Prop := (q.1.cls ≠ "java/lang/invoke/MethodHandle" ∧ q.1.cls ≠ "java/lang/invoke/VarHandle") ∧ Cond.instantiable q.1.cls q.2 ∈ tables_1 ∧ Cond.privateMethod q.1 ∈ tables_1 ∧ Cond.instanceMethod q.1 ∈ tables_1
theorem lw_p0 : lw_okq (⟨"FirstOne$Reader", "write", "(Ljava/lang/String;)V"⟩, 10) := ⟨⟨by decide +kernel, by decide +kernel⟩, List.mem_of_getElem? (i := 71) (by decide +kernel), List.mem_of_getElem? (i := 216) (by decide +kernel), List.mem_of_getElem? (i := 217) (by decide +kernel)⟩
theorem lw_p1 : lw_okq (⟨"FirstOne$Reader", "append", "(I)Z"⟩, 10) := ⟨⟨by decide +kernel, by decide +kernel⟩, List.mem_of_getElem? (i := 71) (by decide +kernel), List.mem_of_getElem? (i := 268) (by decide +kernel), List.mem_of_getElem? (i := 269) (by decide +kernel)⟩
theorem lw_p2 : lw_okq (⟨"FirstOne$Reader", "reads", "()Z"⟩, 10) := ⟨⟨by decide +kernel, by decide +kernel⟩, List.mem_of_getElem? (i := 71) (by decide +kernel), List.mem_of_getElem? (i := 272) (by decide +kernel), List.mem_of_getElem? (i := 273) (by decide +kernel)⟩
theorem lw_p3 : lw_okq (⟨"FirstOne$Reader", "step", "()V"⟩, 10) := ⟨⟨by decide +kernel, by decide +kernel⟩, List.mem_of_getElem? (i := 71) (by decide +kernel), List.mem_of_getElem? (i := 276) (by decide +kernel), List.mem_of_getElem? (i := 277) (by decide +kernel)⟩
theorem lw_p4 : lw_okq (⟨"FirstOne$Reader", "byteAt", "(I)I"⟩, 10) := ⟨⟨by decide +kernel, by decide +kernel⟩, List.mem_of_getElem? (i := 71) (by decide +kernel), List.mem_of_getElem? (i := 280) (by decide +kernel), List.mem_of_getElem? (i := 281) (by decide +kernel)⟩
theorem lw_p5 : lw_okq (⟨"FirstOne$Reader", "readWord", "()V"⟩, 10) := ⟨⟨by decide +kernel, by decide +kernel⟩, List.mem_of_getElem? (i := 71) (by decide +kernel), List.mem_of_getElem? (i := 287) (by decide +kernel), List.mem_of_getElem? (i := 288) (by decide +kernel)⟩
theorem lw_p6 : lw_okq (⟨"FirstOne$Reader", "isWord", "(Ljava/lang/String;)Z"⟩, 10) := ⟨⟨by decide +kernel, by decide +kernel⟩, List.mem_of_getElem? (i := 71) (by decide +kernel), List.mem_of_getElem? (i := 306) (by decide +kernel), List.mem_of_getElem? (i := 307) (by decide +kernel)⟩
theorem lw_p7 : lw_okq (⟨"FirstOne$Reader", "readNumber", "()V"⟩, 10) := ⟨⟨by decide +kernel, by decide +kernel⟩, List.mem_of_getElem? (i := 71) (by decide +kernel), List.mem_of_getElem? (i := 313) (by decide +kernel), List.mem_of_getElem? (i := 314) (by decide +kernel)⟩
theorem lw_p8 : lw_okq (⟨"FirstOne$Reader", "demand", "(I)V"⟩, 10) := ⟨⟨by decide +kernel, by decide +kernel⟩, List.mem_of_getElem? (i := 71) (by decide +kernel), List.mem_of_getElem? (i := 320) (by decide +kernel), List.mem_of_getElem? (i := 321) (by decide +kernel)⟩
theorem lw_p9 : lw_okq (⟨"FirstOne$Reader", "breakOff", "()V"⟩, 10) := ⟨⟨by decide +kernel, by decide +kernel⟩, List.mem_of_getElem? (i := 71) (by decide +kernel), List.mem_of_getElem? (i := 324) (by decide +kernel), List.mem_of_getElem? (i := 325) (by decide +kernel)⟩
theorem lw_p10 : lw_okq (⟨"FirstOne$Reader", "reckon", "(II)V"⟩, 10) := ⟨⟨by decide +kernel, by decide +kernel⟩, List.mem_of_getElem? (i := 71) (by decide +kernel), List.mem_of_getElem? (i := 328) (by decide +kernel), List.mem_of_getElem? (i := 329) (by decide +kernel)⟩
theorem lw_p11 : lw_okq (⟨"FirstOne$Reader", "one", "(I)V"⟩, 10) := ⟨⟨by decide +kernel, by decide +kernel⟩, List.mem_of_getElem? (i := 71) (by decide +kernel), List.mem_of_getElem? (i := 332) (by decide +kernel), List.mem_of_getElem? (i := 333) (by decide +kernel)⟩
theorem lw_p12 : lw_okq (⟨"FirstOne$Reader", "put", "(I)V"⟩, 10) := ⟨⟨by decide +kernel, by decide +kernel⟩, List.mem_of_getElem? (i := 71) (by decide +kernel), List.mem_of_getElem? (i := 336) (by decide +kernel), List.mem_of_getElem? (i := 337) (by decide +kernel)⟩
theorem lw_p13 : lw_okq (⟨"FirstOne$Texts", "add", "(LFirstOne$Reader;)I"⟩, 5) := ⟨⟨by decide +kernel, by decide +kernel⟩, List.mem_of_getElem? (i := 112) (by decide +kernel), List.mem_of_getElem? (i := 343) (by decide +kernel), List.mem_of_getElem? (i := 344) (by decide +kernel)⟩
theorem lw_p14 : lw_okq (⟨"FirstOne$Table", "change", "(III)I"⟩, 8) := ⟨⟨by decide +kernel, by decide +kernel⟩, List.mem_of_getElem? (i := 24) (by decide +kernel), List.mem_of_getElem? (i := 378) (by decide +kernel), List.mem_of_getElem? (i := 379) (by decide +kernel)⟩
theorem lw_p15 : lw_okq (⟨"FirstOne$Table", "has", "(I)Z"⟩, 8) := ⟨⟨by decide +kernel, by decide +kernel⟩, List.mem_of_getElem? (i := 24) (by decide +kernel), List.mem_of_getElem? (i := 382) (by decide +kernel), List.mem_of_getElem? (i := 383) (by decide +kernel)⟩
def lw_privs_1 : List (MethodName × Nat) := [(⟨"FirstOne$Reader", "write", "(Ljava/lang/String;)V"⟩, 10), (⟨"FirstOne$Reader", "append", "(I)Z"⟩, 10), (⟨"FirstOne$Reader", "reads", "()Z"⟩, 10), (⟨"FirstOne$Reader", "step", "()V"⟩, 10), (⟨"FirstOne$Reader", "byteAt", "(I)I"⟩, 10), (⟨"FirstOne$Reader", "readWord", "()V"⟩, 10), (⟨"FirstOne$Reader", "isWord", "(Ljava/lang/String;)Z"⟩, 10), (⟨"FirstOne$Reader", "readNumber", "()V"⟩, 10), (⟨"FirstOne$Reader", "demand", "(I)V"⟩, 10), (⟨"FirstOne$Reader", "breakOff", "()V"⟩, 10), (⟨"FirstOne$Reader", "reckon", "(II)V"⟩, 10), (⟨"FirstOne$Reader", "one", "(I)V"⟩, 10), (⟨"FirstOne$Reader", "put", "(I)V"⟩, 10), (⟨"FirstOne$Texts", "add", "(LFirstOne$Reader;)I"⟩, 5), (⟨"FirstOne$Table", "change", "(III)I"⟩, 8), (⟨"FirstOne$Table", "has", "(I)Z"⟩, 8)]
theorem lw_r1 : ∀ q ∈ lw_privs_1, lw_okq q := List.forall_mem_cons.mpr ⟨lw_p0, List.forall_mem_cons.mpr ⟨lw_p1, List.forall_mem_cons.mpr ⟨lw_p2, List.forall_mem_cons.mpr ⟨lw_p3, List.forall_mem_cons.mpr ⟨lw_p4, List.forall_mem_cons.mpr ⟨lw_p5, List.forall_mem_cons.mpr ⟨lw_p6, List.forall_mem_cons.mpr ⟨lw_p7, List.forall_mem_cons.mpr ⟨lw_p8, List.forall_mem_cons.mpr ⟨lw_p9, List.forall_mem_cons.mpr ⟨lw_p10, List.forall_mem_cons.mpr ⟨lw_p11, List.forall_mem_cons.mpr ⟨lw_p12, List.forall_mem_cons.mpr ⟨lw_p13, List.forall_mem_cons.mpr ⟨lw_p14, List.forall_mem_cons.mpr ⟨lw_p15, fun _ h => absurd h List.not_mem_nil⟩⟩⟩⟩⟩⟩⟩⟩⟩⟩⟩⟩⟩⟩⟩⟩
theorem lw_p16 : lw_okq (⟨"FirstOne$Table", "seat", "(III)I"⟩, 8) := ⟨⟨by decide +kernel, by decide +kernel⟩, List.mem_of_getElem? (i := 24) (by decide +kernel), List.mem_of_getElem? (i := 390) (by decide +kernel), List.mem_of_getElem? (i := 391) (by decide +kernel)⟩
theorem lw_p17 : lw_okq (⟨"FirstOne$Supper", "lay", "(I)V"⟩, 17) := ⟨⟨by decide +kernel, by decide +kernel⟩, List.mem_of_getElem? (i := 151) (by decide +kernel), List.mem_of_getElem? (i := 405) (by decide +kernel), List.mem_of_getElem? (i := 406) (by decide +kernel)⟩
theorem lw_p18 : lw_okq (⟨"FirstOne$Supper", "bake", "(I)V"⟩, 17) := ⟨⟨by decide +kernel, by decide +kernel⟩, List.mem_of_getElem? (i := 151) (by decide +kernel), List.mem_of_getElem? (i := 409) (by decide +kernel), List.mem_of_getElem? (i := 410) (by decide +kernel)⟩
theorem lw_p19 : lw_okq (⟨"FirstOne$Texts", "name", "(IIIIII)V"⟩, 5) := ⟨⟨by decide +kernel, by decide +kernel⟩, List.mem_of_getElem? (i := 112) (by decide +kernel), List.mem_of_getElem? (i := 413) (by decide +kernel), List.mem_of_getElem? (i := 414) (by decide +kernel)⟩
theorem lw_p20 : lw_okq (⟨"FirstOne$Texts", "valueOf", "(II)I"⟩, 5) := ⟨⟨by decide +kernel, by decide +kernel⟩, List.mem_of_getElem? (i := 112) (by decide +kernel), List.mem_of_getElem? (i := 417) (by decide +kernel), List.mem_of_getElem? (i := 418) (by decide +kernel)⟩
theorem lw_p21 : lw_okq (⟨"FirstOne$Texts", "operand", "(I)I"⟩, 5) := ⟨⟨by decide +kernel, by decide +kernel⟩, List.mem_of_getElem? (i := 112) (by decide +kernel), List.mem_of_getElem? (i := 422) (by decide +kernel), List.mem_of_getElem? (i := 423) (by decide +kernel)⟩
theorem lw_p22 : lw_okq (⟨"FirstOne$Supper", "heapUp", "(I)V"⟩, 17) := ⟨⟨by decide +kernel, by decide +kernel⟩, List.mem_of_getElem? (i := 151) (by decide +kernel), List.mem_of_getElem? (i := 439) (by decide +kernel), List.mem_of_getElem? (i := 440) (by decide +kernel)⟩
theorem lw_p23 : lw_okq (⟨"FirstOne$Supper", "hungers", "(II)I"⟩, 17) := ⟨⟨by decide +kernel, by decide +kernel⟩, List.mem_of_getElem? (i := 151) (by decide +kernel), List.mem_of_getElem? (i := 447) (by decide +kernel), List.mem_of_getElem? (i := 448) (by decide +kernel)⟩
theorem lw_p24 : lw_okq (⟨"FirstOne$Supper", "isAnswer", "(I)Z"⟩, 17) := ⟨⟨by decide +kernel, by decide +kernel⟩, List.mem_of_getElem? (i := 151) (by decide +kernel), List.mem_of_getElem? (i := 477) (by decide +kernel), List.mem_of_getElem? (i := 478) (by decide +kernel)⟩
theorem lw_p25 : lw_okq (⟨"FirstOne$Sheets", "isMissing", "(I)Z"⟩, 3) := ⟨⟨by decide +kernel, by decide +kernel⟩, List.mem_of_getElem? (i := 135) (by decide +kernel), List.mem_of_getElem? (i := 483) (by decide +kernel), List.mem_of_getElem? (i := 484) (by decide +kernel)⟩
theorem lw_p26 : lw_okq (⟨"FirstOne$Sheets", "has", "(I)Z"⟩, 3) := ⟨⟨by decide +kernel, by decide +kernel⟩, List.mem_of_getElem? (i := 135) (by decide +kernel), List.mem_of_getElem? (i := 487) (by decide +kernel), List.mem_of_getElem? (i := 488) (by decide +kernel)⟩
theorem lw_p27 : lw_okq (⟨"FirstOne$Sheets", "sizeOf", "(I)I"⟩, 3) := ⟨⟨by decide +kernel, by decide +kernel⟩, List.mem_of_getElem? (i := 135) (by decide +kernel), List.mem_of_getElem? (i := 491) (by decide +kernel), List.mem_of_getElem? (i := 492) (by decide +kernel)⟩
theorem lw_p28 : lw_okq (⟨"FirstOne$Sheets", "item", "(II)I"⟩, 3) := ⟨⟨by decide +kernel, by decide +kernel⟩, List.mem_of_getElem? (i := 135) (by decide +kernel), List.mem_of_getElem? (i := 495) (by decide +kernel), List.mem_of_getElem? (i := 496) (by decide +kernel)⟩
theorem lw_p29 : lw_okq (⟨"FirstOne$Sheets", "spans", "(III)Z"⟩, 3) := ⟨⟨by decide +kernel, by decide +kernel⟩, List.mem_of_getElem? (i := 135) (by decide +kernel), List.mem_of_getElem? (i := 499) (by decide +kernel), List.mem_of_getElem? (i := 500) (by decide +kernel)⟩
theorem lw_p30 : lw_okq (⟨"FirstOne$Supper", "run", "(I)V"⟩, 17) := ⟨⟨by decide +kernel, by decide +kernel⟩, List.mem_of_getElem? (i := 151) (by decide +kernel), List.mem_of_getElem? (i := 504) (by decide +kernel), List.mem_of_getElem? (i := 505) (by decide +kernel)⟩
theorem lw_p31 : lw_okq (⟨"FirstOne$Supper", "serve", "(II)V"⟩, 17) := ⟨⟨by decide +kernel, by decide +kernel⟩, List.mem_of_getElem? (i := 151) (by decide +kernel), List.mem_of_getElem? (i := 508) (by decide +kernel), List.mem_of_getElem? (i := 509) (by decide +kernel)⟩
def lw_privs_2 : List (MethodName × Nat) := [(⟨"FirstOne$Table", "seat", "(III)I"⟩, 8), (⟨"FirstOne$Supper", "lay", "(I)V"⟩, 17), (⟨"FirstOne$Supper", "bake", "(I)V"⟩, 17), (⟨"FirstOne$Texts", "name", "(IIIIII)V"⟩, 5), (⟨"FirstOne$Texts", "valueOf", "(II)I"⟩, 5), (⟨"FirstOne$Texts", "operand", "(I)I"⟩, 5), (⟨"FirstOne$Supper", "heapUp", "(I)V"⟩, 17), (⟨"FirstOne$Supper", "hungers", "(II)I"⟩, 17), (⟨"FirstOne$Supper", "isAnswer", "(I)Z"⟩, 17), (⟨"FirstOne$Sheets", "isMissing", "(I)Z"⟩, 3), (⟨"FirstOne$Sheets", "has", "(I)Z"⟩, 3), (⟨"FirstOne$Sheets", "sizeOf", "(I)I"⟩, 3), (⟨"FirstOne$Sheets", "item", "(II)I"⟩, 3), (⟨"FirstOne$Sheets", "spans", "(III)Z"⟩, 3), (⟨"FirstOne$Supper", "run", "(I)V"⟩, 17), (⟨"FirstOne$Supper", "serve", "(II)V"⟩, 17)]
theorem lw_r2 : ∀ q ∈ lw_privs_2, lw_okq q := List.forall_mem_cons.mpr ⟨lw_p16, List.forall_mem_cons.mpr ⟨lw_p17, List.forall_mem_cons.mpr ⟨lw_p18, List.forall_mem_cons.mpr ⟨lw_p19, List.forall_mem_cons.mpr ⟨lw_p20, List.forall_mem_cons.mpr ⟨lw_p21, List.forall_mem_cons.mpr ⟨lw_p22, List.forall_mem_cons.mpr ⟨lw_p23, List.forall_mem_cons.mpr ⟨lw_p24, List.forall_mem_cons.mpr ⟨lw_p25, List.forall_mem_cons.mpr ⟨lw_p26, List.forall_mem_cons.mpr ⟨lw_p27, List.forall_mem_cons.mpr ⟨lw_p28, List.forall_mem_cons.mpr ⟨lw_p29, List.forall_mem_cons.mpr ⟨lw_p30, List.forall_mem_cons.mpr ⟨lw_p31, fun _ h => absurd h List.not_mem_nil⟩⟩⟩⟩⟩⟩⟩⟩⟩⟩⟩⟩⟩⟩⟩⟩
theorem lw_p32 : lw_okq (⟨"FirstOne$Supper", "hungriest", "(I)I"⟩, 17) := ⟨⟨by decide +kernel, by decide +kernel⟩, List.mem_of_getElem? (i := 151) (by decide +kernel), List.mem_of_getElem? (i := 512) (by decide +kernel), List.mem_of_getElem? (i := 513) (by decide +kernel)⟩
theorem lw_p33 : lw_okq (⟨"FirstOne$Supper", "sits", "(I)Z"⟩, 17) := ⟨⟨by decide +kernel, by decide +kernel⟩, List.mem_of_getElem? (i := 151) (by decide +kernel), List.mem_of_getElem? (i := 516) (by decide +kernel), List.mem_of_getElem? (i := 517) (by decide +kernel)⟩
theorem lw_p34 : lw_okq (⟨"FirstOne$Supper", "firstOfLeast", "()I"⟩, 17) := ⟨⟨by decide +kernel, by decide +kernel⟩, List.mem_of_getElem? (i := 151) (by decide +kernel), List.mem_of_getElem? (i := 521) (by decide +kernel), List.mem_of_getElem? (i := 522) (by decide +kernel)⟩
theorem lw_p35 : lw_okq (⟨"FirstOne$Supper", "give", "(III)V"⟩, 17) := ⟨⟨by decide +kernel, by decide +kernel⟩, List.mem_of_getElem? (i := 151) (by decide +kernel), List.mem_of_getElem? (i := 525) (by decide +kernel), List.mem_of_getElem? (i := 526) (by decide +kernel)⟩
theorem lw_p36 : lw_okq (⟨"FirstOne$Supper", "mostHad", "()I"⟩, 17) := ⟨⟨by decide +kernel, by decide +kernel⟩, List.mem_of_getElem? (i := 151) (by decide +kernel), List.mem_of_getElem? (i := 529) (by decide +kernel), List.mem_of_getElem? (i := 530) (by decide +kernel)⟩
theorem lw_p37 : lw_okq (⟨"FirstOne$Supper", "pass", "(I)V"⟩, 17) := ⟨⟨by decide +kernel, by decide +kernel⟩, List.mem_of_getElem? (i := 151) (by decide +kernel), List.mem_of_getElem? (i := 533) (by decide +kernel), List.mem_of_getElem? (i := 534) (by decide +kernel)⟩
theorem lw_p38 : lw_okq (⟨"FirstOne$Supper", "answer", "(I)I"⟩, 17) := ⟨⟨by decide +kernel, by decide +kernel⟩, List.mem_of_getElem? (i := 151) (by decide +kernel), List.mem_of_getElem? (i := 537) (by decide +kernel), List.mem_of_getElem? (i := 538) (by decide +kernel)⟩
theorem lw_p39 : lw_okq (⟨"FirstOne$Supper", "ofOne", "(II)I"⟩, 17) := ⟨⟨by decide +kernel, by decide +kernel⟩, List.mem_of_getElem? (i := 151) (by decide +kernel), List.mem_of_getElem? (i := 541) (by decide +kernel), List.mem_of_getElem? (i := 542) (by decide +kernel)⟩
theorem lw_p40 : lw_okq (⟨"FirstOne$Supper", "planTurns", "()V"⟩, 17) := ⟨⟨by decide +kernel, by decide +kernel⟩, List.mem_of_getElem? (i := 151) (by decide +kernel), List.mem_of_getElem? (i := 555) (by decide +kernel), List.mem_of_getElem? (i := 556) (by decide +kernel)⟩
theorem lw_p41 : lw_okq (⟨"FirstOne$Supper", "planFirst", "(II)V"⟩, 17) := ⟨⟨by decide +kernel, by decide +kernel⟩, List.mem_of_getElem? (i := 151) (by decide +kernel), List.mem_of_getElem? (i := 559) (by decide +kernel), List.mem_of_getElem? (i := 560) (by decide +kernel)⟩
theorem lw_p42 : lw_okq (⟨"FirstOne", "waysTo", "(I)I"⟩, 7) := ⟨⟨by decide +kernel, by decide +kernel⟩, List.mem_of_getElem? (i := 16) (by decide +kernel), List.mem_of_getElem? (i := 580) (by decide +kernel), List.mem_of_getElem? (i := 581) (by decide +kernel)⟩
theorem lw_p43 : lw_okq (⟨"FirstOne", "ordersTo", "(I)J"⟩, 7) := ⟨⟨by decide +kernel, by decide +kernel⟩, List.mem_of_getElem? (i := 16) (by decide +kernel), List.mem_of_getElem? (i := 584) (by decide +kernel), List.mem_of_getElem? (i := 585) (by decide +kernel)⟩
theorem lw_p44 : lw_okq (⟨"FirstOne$Supper", "servedCakes", "()I"⟩, 17) := ⟨⟨by decide +kernel, by decide +kernel⟩, List.mem_of_getElem? (i := 151) (by decide +kernel), List.mem_of_getElem? (i := 588) (by decide +kernel), List.mem_of_getElem? (i := 589) (by decide +kernel)⟩
theorem lw_p45 : lw_okq (⟨"FirstOne", "notSo", "(I)I"⟩, 7) := ⟨⟨by decide +kernel, by decide +kernel⟩, List.mem_of_getElem? (i := 16) (by decide +kernel), List.mem_of_getElem? (i := 600) (by decide +kernel), List.mem_of_getElem? (i := 601) (by decide +kernel)⟩
theorem lw_p46 : lw_okq (⟨"FirstOne$Supper", "lastTold", "(I)I"⟩, 17) := ⟨⟨by decide +kernel, by decide +kernel⟩, List.mem_of_getElem? (i := 151) (by decide +kernel), List.mem_of_getElem? (i := 604) (by decide +kernel), List.mem_of_getElem? (i := 605) (by decide +kernel)⟩
theorem lw_p47 : lw_okq (⟨"FirstOne", "pacesOf", "(II)I"⟩, 7) := ⟨⟨by decide +kernel, by decide +kernel⟩, List.mem_of_getElem? (i := 16) (by decide +kernel), List.mem_of_getElem? (i := 608) (by decide +kernel), List.mem_of_getElem? (i := 609) (by decide +kernel)⟩
def lw_privs_3 : List (MethodName × Nat) := [(⟨"FirstOne$Supper", "hungriest", "(I)I"⟩, 17), (⟨"FirstOne$Supper", "sits", "(I)Z"⟩, 17), (⟨"FirstOne$Supper", "firstOfLeast", "()I"⟩, 17), (⟨"FirstOne$Supper", "give", "(III)V"⟩, 17), (⟨"FirstOne$Supper", "mostHad", "()I"⟩, 17), (⟨"FirstOne$Supper", "pass", "(I)V"⟩, 17), (⟨"FirstOne$Supper", "answer", "(I)I"⟩, 17), (⟨"FirstOne$Supper", "ofOne", "(II)I"⟩, 17), (⟨"FirstOne$Supper", "planTurns", "()V"⟩, 17), (⟨"FirstOne$Supper", "planFirst", "(II)V"⟩, 17), (⟨"FirstOne", "waysTo", "(I)I"⟩, 7), (⟨"FirstOne", "ordersTo", "(I)J"⟩, 7), (⟨"FirstOne$Supper", "servedCakes", "()I"⟩, 17), (⟨"FirstOne", "notSo", "(I)I"⟩, 7), (⟨"FirstOne$Supper", "lastTold", "(I)I"⟩, 17), (⟨"FirstOne", "pacesOf", "(II)I"⟩, 7)]
theorem lw_r3 : ∀ q ∈ lw_privs_3, lw_okq q := List.forall_mem_cons.mpr ⟨lw_p32, List.forall_mem_cons.mpr ⟨lw_p33, List.forall_mem_cons.mpr ⟨lw_p34, List.forall_mem_cons.mpr ⟨lw_p35, List.forall_mem_cons.mpr ⟨lw_p36, List.forall_mem_cons.mpr ⟨lw_p37, List.forall_mem_cons.mpr ⟨lw_p38, List.forall_mem_cons.mpr ⟨lw_p39, List.forall_mem_cons.mpr ⟨lw_p40, List.forall_mem_cons.mpr ⟨lw_p41, List.forall_mem_cons.mpr ⟨lw_p42, List.forall_mem_cons.mpr ⟨lw_p43, List.forall_mem_cons.mpr ⟨lw_p44, List.forall_mem_cons.mpr ⟨lw_p45, List.forall_mem_cons.mpr ⟨lw_p46, List.forall_mem_cons.mpr ⟨lw_p47, fun _ h => absurd h List.not_mem_nil⟩⟩⟩⟩⟩⟩⟩⟩⟩⟩⟩⟩⟩⟩⟩⟩
theorem lw_p48 : lw_okq (⟨"FirstOne$Sheets", "lay", "(III)V"⟩, 3) := ⟨⟨by decide +kernel, by decide +kernel⟩, List.mem_of_getElem? (i := 135) (by decide +kernel), List.mem_of_getElem? (i := 616) (by decide +kernel), List.mem_of_getElem? (i := 617) (by decide +kernel)⟩
theorem lw_p49 : lw_okq (⟨"FirstOne$Sheets", "put", "(III)V"⟩, 3) := ⟨⟨by decide +kernel, by decide +kernel⟩, List.mem_of_getElem? (i := 135) (by decide +kernel), List.mem_of_getElem? (i := 620) (by decide +kernel), List.mem_of_getElem? (i := 621) (by decide +kernel)⟩
theorem lw_p50 : lw_okq (⟨"FirstOne$Supper", "planDrawn", "(I)V"⟩, 17) := ⟨⟨by decide +kernel, by decide +kernel⟩, List.mem_of_getElem? (i := 151) (by decide +kernel), List.mem_of_getElem? (i := 628) (by decide +kernel), List.mem_of_getElem? (i := 629) (by decide +kernel)⟩
theorem lw_p51 : lw_okq (⟨"FirstOne$Table", "become", "(LFirstOne$Table;)V"⟩, 8) := ⟨⟨by decide +kernel, by decide +kernel⟩, List.mem_of_getElem? (i := 24) (by decide +kernel), List.mem_of_getElem? (i := 644) (by decide +kernel), List.mem_of_getElem? (i := 645) (by decide +kernel)⟩
theorem lw_p52 : lw_okq (⟨"FirstOne$Table", "wantOfAll", "()I"⟩, 8) := ⟨⟨by decide +kernel, by decide +kernel⟩, List.mem_of_getElem? (i := 24) (by decide +kernel), List.mem_of_getElem? (i := 656) (by decide +kernel), List.mem_of_getElem? (i := 657) (by decide +kernel)⟩
theorem lw_p53 : lw_okq (⟨"FirstOne$Sheets", "sortOf", "(I)I"⟩, 3) := ⟨⟨by decide +kernel, by decide +kernel⟩, List.mem_of_getElem? (i := 135) (by decide +kernel), List.mem_of_getElem? (i := 672) (by decide +kernel), List.mem_of_getElem? (i := 673) (by decide +kernel)⟩
theorem lw_p54 : lw_okq (⟨"FirstOne$Sheets", "move", "(IIIII)V"⟩, 3) := ⟨⟨by decide +kernel, by decide +kernel⟩, List.mem_of_getElem? (i := 135) (by decide +kernel), List.mem_of_getElem? (i := 677) (by decide +kernel), List.mem_of_getElem? (i := 678) (by decide +kernel)⟩
theorem lw_p55 : lw_okq (⟨"FirstOneModel", "spell", "(IIIIIIIII)V"⟩, 52) := ⟨⟨by decide +kernel, by decide +kernel⟩, List.mem_of_getElem? (i := 698) (by decide +kernel), List.mem_of_getElem? (i := 704) (by decide +kernel), List.mem_of_getElem? (i := 705) (by decide +kernel)⟩
theorem lw_p56 : lw_okq (⟨"FirstOneModel", "isEater", "(I)Z"⟩, 52) := ⟨⟨by decide +kernel, by decide +kernel⟩, List.mem_of_getElem? (i := 698) (by decide +kernel), List.mem_of_getElem? (i := 873) (by decide +kernel), List.mem_of_getElem? (i := 874) (by decide +kernel)⟩
theorem lw_p57 : lw_okq (⟨"FirstOneModel", "hungersOf", "(IIII)I"⟩, 52) := ⟨⟨by decide +kernel, by decide +kernel⟩, List.mem_of_getElem? (i := 698) (by decide +kernel), List.mem_of_getElem? (i := 891) (by decide +kernel), List.mem_of_getElem? (i := 892) (by decide +kernel)⟩
theorem lw_p58 : lw_okq (⟨"FirstOneModel", "read", "(II)I"⟩, 52) := ⟨⟨by decide +kernel, by decide +kernel⟩, List.mem_of_getElem? (i := 698) (by decide +kernel), List.mem_of_getElem? (i := 895) (by decide +kernel), List.mem_of_getElem? (i := 896) (by decide +kernel)⟩
theorem lw_p59 : lw_okq (⟨"FirstOneModel", "next", "()V"⟩, 52) := ⟨⟨by decide +kernel, by decide +kernel⟩, List.mem_of_getElem? (i := 698) (by decide +kernel), List.mem_of_getElem? (i := 899) (by decide +kernel), List.mem_of_getElem? (i := 900) (by decide +kernel)⟩
theorem lw_p60 : lw_okq (⟨"FirstOneModel", "byteAt", "(I)I"⟩, 52) := ⟨⟨by decide +kernel, by decide +kernel⟩, List.mem_of_getElem? (i := 698) (by decide +kernel), List.mem_of_getElem? (i := 903) (by decide +kernel), List.mem_of_getElem? (i := 904) (by decide +kernel)⟩
theorem lw_p61 : lw_okq (⟨"FirstOneModel", "isWord", "(IIIIIIII)Z"⟩, 52) := ⟨⟨by decide +kernel, by decide +kernel⟩, List.mem_of_getElem? (i := 698) (by decide +kernel), List.mem_of_getElem? (i := 912) (by decide +kernel), List.mem_of_getElem? (i := 913) (by decide +kernel)⟩
theorem lw_p62 : lw_okq (⟨"FirstOneModel", "isLetter", "(II)Z"⟩, 52) := ⟨⟨by decide +kernel, by decide +kernel⟩, List.mem_of_getElem? (i := 698) (by decide +kernel), List.mem_of_getElem? (i := 916) (by decide +kernel), List.mem_of_getElem? (i := 917) (by decide +kernel)⟩
theorem lw_p63 : lw_okq (⟨"FirstOneModel", "part", "(Z)I"⟩, 52) := ⟨⟨by decide +kernel, by decide +kernel⟩, List.mem_of_getElem? (i := 698) (by decide +kernel), List.mem_of_getElem? (i := 920) (by decide +kernel), List.mem_of_getElem? (i := 921) (by decide +kernel)⟩
def lw_privs_4 : List (MethodName × Nat) := [(⟨"FirstOne$Sheets", "lay", "(III)V"⟩, 3), (⟨"FirstOne$Sheets", "put", "(III)V"⟩, 3), (⟨"FirstOne$Supper", "planDrawn", "(I)V"⟩, 17), (⟨"FirstOne$Table", "become", "(LFirstOne$Table;)V"⟩, 8), (⟨"FirstOne$Table", "wantOfAll", "()I"⟩, 8), (⟨"FirstOne$Sheets", "sortOf", "(I)I"⟩, 3), (⟨"FirstOne$Sheets", "move", "(IIIII)V"⟩, 3), (⟨"FirstOneModel", "spell", "(IIIIIIIII)V"⟩, 52), (⟨"FirstOneModel", "isEater", "(I)Z"⟩, 52), (⟨"FirstOneModel", "hungersOf", "(IIII)I"⟩, 52), (⟨"FirstOneModel", "read", "(II)I"⟩, 52), (⟨"FirstOneModel", "next", "()V"⟩, 52), (⟨"FirstOneModel", "byteAt", "(I)I"⟩, 52), (⟨"FirstOneModel", "isWord", "(IIIIIIII)Z"⟩, 52), (⟨"FirstOneModel", "isLetter", "(II)Z"⟩, 52), (⟨"FirstOneModel", "part", "(Z)I"⟩, 52)]
theorem lw_r4 : ∀ q ∈ lw_privs_4, lw_okq q := List.forall_mem_cons.mpr ⟨lw_p48, List.forall_mem_cons.mpr ⟨lw_p49, List.forall_mem_cons.mpr ⟨lw_p50, List.forall_mem_cons.mpr ⟨lw_p51, List.forall_mem_cons.mpr ⟨lw_p52, List.forall_mem_cons.mpr ⟨lw_p53, List.forall_mem_cons.mpr ⟨lw_p54, List.forall_mem_cons.mpr ⟨lw_p55, List.forall_mem_cons.mpr ⟨lw_p56, List.forall_mem_cons.mpr ⟨lw_p57, List.forall_mem_cons.mpr ⟨lw_p58, List.forall_mem_cons.mpr ⟨lw_p59, List.forall_mem_cons.mpr ⟨lw_p60, List.forall_mem_cons.mpr ⟨lw_p61, List.forall_mem_cons.mpr ⟨lw_p62, List.forall_mem_cons.mpr ⟨lw_p63, fun _ h => absurd h List.not_mem_nil⟩⟩⟩⟩⟩⟩⟩⟩⟩⟩⟩⟩⟩⟩⟩⟩
theorem lw_p64 : lw_okq (⟨"FirstOneModel", "fail", "()V"⟩, 52) := ⟨⟨by decide +kernel, by decide +kernel⟩, List.mem_of_getElem? (i := 698) (by decide +kernel), List.mem_of_getElem? (i := 924) (by decide +kernel), List.mem_of_getElem? (i := 925) (by decide +kernel)⟩
theorem lw_p65 : lw_okq (⟨"FirstOneModel", "either", "()I"⟩, 52) := ⟨⟨by decide +kernel, by decide +kernel⟩, List.mem_of_getElem? (i := 698) (by decide +kernel), List.mem_of_getElem? (i := 928) (by decide +kernel), List.mem_of_getElem? (i := 929) (by decide +kernel)⟩
theorem lw_p66 : lw_okq (⟨"FirstOneModel", "both", "()I"⟩, 52) := ⟨⟨by decide +kernel, by decide +kernel⟩, List.mem_of_getElem? (i := 698) (by decide +kernel), List.mem_of_getElem? (i := 932) (by decide +kernel), List.mem_of_getElem? (i := 933) (by decide +kernel)⟩
theorem lw_p67 : lw_okq (⟨"FirstOneModel", "not", "()I"⟩, 52) := ⟨⟨by decide +kernel, by decide +kernel⟩, List.mem_of_getElem? (i := 698) (by decide +kernel), List.mem_of_getElem? (i := 936) (by decide +kernel), List.mem_of_getElem? (i := 937) (by decide +kernel)⟩
theorem lw_p68 : lw_okq (⟨"FirstOneModel", "opens", "()Z"⟩, 52) := ⟨⟨by decide +kernel, by decide +kernel⟩, List.mem_of_getElem? (i := 698) (by decide +kernel), List.mem_of_getElem? (i := 940) (by decide +kernel), List.mem_of_getElem? (i := 941) (by decide +kernel)⟩
theorem lw_p69 : lw_okq (⟨"FirstOneModel", "added", "()I"⟩, 52) := ⟨⟨by decide +kernel, by decide +kernel⟩, List.mem_of_getElem? (i := 698) (by decide +kernel), List.mem_of_getElem? (i := 944) (by decide +kernel), List.mem_of_getElem? (i := 945) (by decide +kernel)⟩
theorem lw_p70 : lw_okq (⟨"FirstOneModel", "term", "()I"⟩, 52) := ⟨⟨by decide +kernel, by decide +kernel⟩, List.mem_of_getElem? (i := 698) (by decide +kernel), List.mem_of_getElem? (i := 948) (by decide +kernel), List.mem_of_getElem? (i := 949) (by decide +kernel)⟩
theorem lw_p71 : lw_okq (⟨"FirstOneModel", "atom", "()I"⟩, 52) := ⟨⟨by decide +kernel, by decide +kernel⟩, List.mem_of_getElem? (i := 698) (by decide +kernel), List.mem_of_getElem? (i := 952) (by decide +kernel), List.mem_of_getElem? (i := 953) (by decide +kernel)⟩
theorem lw_p72 : lw_okq (⟨"FirstOneModel", "isSign", "(I)Z"⟩, 52) := ⟨⟨by decide +kernel, by decide +kernel⟩, List.mem_of_getElem? (i := 698) (by decide +kernel), List.mem_of_getElem? (i := 956) (by decide +kernel), List.mem_of_getElem? (i := 957) (by decide +kernel)⟩
theorem lw_p73 : lw_okq (⟨"FirstOneModel", "name", "()I"⟩, 52) := ⟨⟨by decide +kernel, by decide +kernel⟩, List.mem_of_getElem? (i := 698) (by decide +kernel), List.mem_of_getElem? (i := 960) (by decide +kernel), List.mem_of_getElem? (i := 961) (by decide +kernel)⟩
theorem lw_p74 : lw_okq (⟨"FirstOneModel", "eatsOf", "(I)I"⟩, 52) := ⟨⟨by decide +kernel, by decide +kernel⟩, List.mem_of_getElem? (i := 698) (by decide +kernel), List.mem_of_getElem? (i := 969) (by decide +kernel), List.mem_of_getElem? (i := 970) (by decide +kernel)⟩
theorem lw_p75 : lw_okq (⟨"FirstOneModel", "isCake", "(I)Z"⟩, 52) := ⟨⟨by decide +kernel, by decide +kernel⟩, List.mem_of_getElem? (i := 698) (by decide +kernel), List.mem_of_getElem? (i := 990) (by decide +kernel), List.mem_of_getElem? (i := 991) (by decide +kernel)⟩
theorem lw_p76 : lw_okq (⟨"FirstOneModel", "readyOf", "(I)I"⟩, 52) := ⟨⟨by decide +kernel, by decide +kernel⟩, List.mem_of_getElem? (i := 698) (by decide +kernel), List.mem_of_getElem? (i := 994) (by decide +kernel), List.mem_of_getElem? (i := 995) (by decide +kernel)⟩
theorem lw_p77 : lw_okq (⟨"FirstOneModel", "takesOf", "(I)I"⟩, 52) := ⟨⟨by decide +kernel, by decide +kernel⟩, List.mem_of_getElem? (i := 698) (by decide +kernel), List.mem_of_getElem? (i := 998) (by decide +kernel), List.mem_of_getElem? (i := 999) (by decide +kernel)⟩
theorem lw_p78 : lw_okq (⟨"FirstOneModel", "isTells", "(I)Z"⟩, 52) := ⟨⟨by decide +kernel, by decide +kernel⟩, List.mem_of_getElem? (i := 698) (by decide +kernel), List.mem_of_getElem? (i := 1010) (by decide +kernel), List.mem_of_getElem? (i := 1011) (by decide +kernel)⟩
theorem lw_p79 : lw_okq (⟨"FirstOneModel", "sups", "(II)V"⟩, 52) := ⟨⟨by decide +kernel, by decide +kernel⟩, List.mem_of_getElem? (i := 698) (by decide +kernel), List.mem_of_getElem? (i := 1016) (by decide +kernel), List.mem_of_getElem? (i := 1017) (by decide +kernel)⟩
def lw_privs_5 : List (MethodName × Nat) := [(⟨"FirstOneModel", "fail", "()V"⟩, 52), (⟨"FirstOneModel", "either", "()I"⟩, 52), (⟨"FirstOneModel", "both", "()I"⟩, 52), (⟨"FirstOneModel", "not", "()I"⟩, 52), (⟨"FirstOneModel", "opens", "()Z"⟩, 52), (⟨"FirstOneModel", "added", "()I"⟩, 52), (⟨"FirstOneModel", "term", "()I"⟩, 52), (⟨"FirstOneModel", "atom", "()I"⟩, 52), (⟨"FirstOneModel", "isSign", "(I)Z"⟩, 52), (⟨"FirstOneModel", "name", "()I"⟩, 52), (⟨"FirstOneModel", "eatsOf", "(I)I"⟩, 52), (⟨"FirstOneModel", "isCake", "(I)Z"⟩, 52), (⟨"FirstOneModel", "readyOf", "(I)I"⟩, 52), (⟨"FirstOneModel", "takesOf", "(I)I"⟩, 52), (⟨"FirstOneModel", "isTells", "(I)Z"⟩, 52), (⟨"FirstOneModel", "sups", "(II)V"⟩, 52)]
theorem lw_r5 : ∀ q ∈ lw_privs_5, lw_okq q := List.forall_mem_cons.mpr ⟨lw_p64, List.forall_mem_cons.mpr ⟨lw_p65, List.forall_mem_cons.mpr ⟨lw_p66, List.forall_mem_cons.mpr ⟨lw_p67, List.forall_mem_cons.mpr ⟨lw_p68, List.forall_mem_cons.mpr ⟨lw_p69, List.forall_mem_cons.mpr ⟨lw_p70, List.forall_mem_cons.mpr ⟨lw_p71, List.forall_mem_cons.mpr ⟨lw_p72, List.forall_mem_cons.mpr ⟨lw_p73, List.forall_mem_cons.mpr ⟨lw_p74, List.forall_mem_cons.mpr ⟨lw_p75, List.forall_mem_cons.mpr ⟨lw_p76, List.forall_mem_cons.mpr ⟨lw_p77, List.forall_mem_cons.mpr ⟨lw_p78, List.forall_mem_cons.mpr ⟨lw_p79, fun _ h => absurd h List.not_mem_nil⟩⟩⟩⟩⟩⟩⟩⟩⟩⟩⟩⟩⟩⟩⟩⟩
theorem lw_p80 : lw_okq (⟨"FirstOneModel", "bakes", "(II)V"⟩, 52) := ⟨⟨by decide +kernel, by decide +kernel⟩, List.mem_of_getElem? (i := 698) (by decide +kernel), List.mem_of_getElem? (i := 1020) (by decide +kernel), List.mem_of_getElem? (i := 1021) (by decide +kernel)⟩
theorem lw_p81 : lw_okq (⟨"FirstOneModel", "towards", "(IIII)I"⟩, 52) := ⟨⟨by decide +kernel, by decide +kernel⟩, List.mem_of_getElem? (i := 698) (by decide +kernel), List.mem_of_getElem? (i := 1024) (by decide +kernel), List.mem_of_getElem? (i := 1025) (by decide +kernel)⟩
theorem lw_p82 : lw_okq (⟨"FirstOneModel", "hungriest", "(I)I"⟩, 52) := ⟨⟨by decide +kernel, by decide +kernel⟩, List.mem_of_getElem? (i := 698) (by decide +kernel), List.mem_of_getElem? (i := 1028) (by decide +kernel), List.mem_of_getElem? (i := 1029) (by decide +kernel)⟩
theorem lw_p83 : lw_okq (⟨"FirstOneModel", "leastHad", "()I"⟩, 52) := ⟨⟨by decide +kernel, by decide +kernel⟩, List.mem_of_getElem? (i := 698) (by decide +kernel), List.mem_of_getElem? (i := 1032) (by decide +kernel), List.mem_of_getElem? (i := 1033) (by decide +kernel)⟩
theorem lw_p84 : lw_okq (⟨"FirstOneModel", "whoHas", "()I"⟩, 52) := ⟨⟨by decide +kernel, by decide +kernel⟩, List.mem_of_getElem? (i := 698) (by decide +kernel), List.mem_of_getElem? (i := 1036) (by decide +kernel), List.mem_of_getElem? (i := 1037) (by decide +kernel)⟩
theorem lw_p85 : lw_okq (⟨"FirstOneModel", "gives", "(III)V"⟩, 52) := ⟨⟨by decide +kernel, by decide +kernel⟩, List.mem_of_getElem? (i := 698) (by decide +kernel), List.mem_of_getElem? (i := 1040) (by decide +kernel), List.mem_of_getElem? (i := 1041) (by decide +kernel)⟩
theorem lw_p86 : lw_okq (⟨"FirstOneModel", "worthOf", "(IIIII)I"⟩, 52) := ⟨⟨by decide +kernel, by decide +kernel⟩, List.mem_of_getElem? (i := 698) (by decide +kernel), List.mem_of_getElem? (i := 1044) (by decide +kernel), List.mem_of_getElem? (i := 1045) (by decide +kernel)⟩
theorem lw_p87 : lw_okq (⟨"FirstOneModel", "mostHad", "()I"⟩, 52) := ⟨⟨by decide +kernel, by decide +kernel⟩, List.mem_of_getElem? (i := 698) (by decide +kernel), List.mem_of_getElem? (i := 1048) (by decide +kernel), List.mem_of_getElem? (i := 1049) (by decide +kernel)⟩
theorem lw_p88 : lw_okq (⟨"FirstOneModel", "tells", "(I)I"⟩, 52) := ⟨⟨by decide +kernel, by decide +kernel⟩, List.mem_of_getElem? (i := 698) (by decide +kernel), List.mem_of_getElem? (i := 1052) (by decide +kernel), List.mem_of_getElem? (i := 1053) (by decide +kernel)⟩
theorem lw_p89 : lw_okq (⟨"FirstOneModel", "tries", "(II)V"⟩, 52) := ⟨⟨by decide +kernel, by decide +kernel⟩, List.mem_of_getElem? (i := 698) (by decide +kernel), List.mem_of_getElem? (i := 1064) (by decide +kernel), List.mem_of_getElem? (i := 1065) (by decide +kernel)⟩
theorem lw_p90 : lw_okq (⟨"FirstOneModel", "ordersOf", "(I)J"⟩, 52) := ⟨⟨by decide +kernel, by decide +kernel⟩, List.mem_of_getElem? (i := 698) (by decide +kernel), List.mem_of_getElem? (i := 1085) (by decide +kernel), List.mem_of_getElem? (i := 1086) (by decide +kernel)⟩
theorem lw_p91 : lw_okq (⟨"FirstOneModel", "servedMany", "()I"⟩, 52) := ⟨⟨by decide +kernel, by decide +kernel⟩, List.mem_of_getElem? (i := 698) (by decide +kernel), List.mem_of_getElem? (i := 1089) (by decide +kernel), List.mem_of_getElem? (i := 1090) (by decide +kernel)⟩
theorem lw_p92 : lw_okq (⟨"FirstOneModel", "isEatenSo", "(II)Z"⟩, 52) := ⟨⟨by decide +kernel, by decide +kernel⟩, List.mem_of_getElem? (i := 698) (by decide +kernel), List.mem_of_getElem? (i := 1100) (by decide +kernel), List.mem_of_getElem? (i := 1101) (by decide +kernel)⟩
theorem lw_p93 : lw_okq (⟨"FirstOneModel", "draws", "(I)I"⟩, 52) := ⟨⟨by decide +kernel, by decide +kernel⟩, List.mem_of_getElem? (i := 698) (by decide +kernel), List.mem_of_getElem? (i := 1117) (by decide +kernel), List.mem_of_getElem? (i := 1118) (by decide +kernel)⟩
def lw_privs_6 : List (MethodName × Nat) := [(⟨"FirstOneModel", "bakes", "(II)V"⟩, 52), (⟨"FirstOneModel", "towards", "(IIII)I"⟩, 52), (⟨"FirstOneModel", "hungriest", "(I)I"⟩, 52), (⟨"FirstOneModel", "leastHad", "()I"⟩, 52), (⟨"FirstOneModel", "whoHas", "()I"⟩, 52), (⟨"FirstOneModel", "gives", "(III)V"⟩, 52), (⟨"FirstOneModel", "worthOf", "(IIIII)I"⟩, 52), (⟨"FirstOneModel", "mostHad", "()I"⟩, 52), (⟨"FirstOneModel", "tells", "(I)I"⟩, 52), (⟨"FirstOneModel", "tries", "(II)V"⟩, 52), (⟨"FirstOneModel", "ordersOf", "(I)J"⟩, 52), (⟨"FirstOneModel", "servedMany", "()I"⟩, 52), (⟨"FirstOneModel", "isEatenSo", "(II)Z"⟩, 52), (⟨"FirstOneModel", "draws", "(I)I"⟩, 52)]
theorem lw_r6 : ∀ q ∈ lw_privs_6, lw_okq q := List.forall_mem_cons.mpr ⟨lw_p80, List.forall_mem_cons.mpr ⟨lw_p81, List.forall_mem_cons.mpr ⟨lw_p82, List.forall_mem_cons.mpr ⟨lw_p83, List.forall_mem_cons.mpr ⟨lw_p84, List.forall_mem_cons.mpr ⟨lw_p85, List.forall_mem_cons.mpr ⟨lw_p86, List.forall_mem_cons.mpr ⟨lw_p87, List.forall_mem_cons.mpr ⟨lw_p88, List.forall_mem_cons.mpr ⟨lw_p89, List.forall_mem_cons.mpr ⟨lw_p90, List.forall_mem_cons.mpr ⟨lw_p91, List.forall_mem_cons.mpr ⟨lw_p92, List.forall_mem_cons.mpr ⟨lw_p93, fun _ h => absurd h List.not_mem_nil⟩⟩⟩⟩⟩⟩⟩⟩⟩⟩⟩⟩⟩⟩
def lw_privs : List (MethodName × Nat) := lw_privs_1 ++ (lw_privs_2 ++ (lw_privs_3 ++ (lw_privs_4 ++ (lw_privs_5 ++ (lw_privs_6)))))
def lw_tbl : List Cond := k2_sels lw_privs ++ tables_1
theorem lw_privs_ok : ∀ q ∈ lw_privs, lw_okq q := by
  show ∀ q ∈ lw_privs_1 ++ (lw_privs_2 ++ (lw_privs_3 ++ (lw_privs_4 ++ (lw_privs_5 ++ (lw_privs_6))))), lw_okq q
  exact List.forall_mem_append.mpr ⟨lw_r1, List.forall_mem_append.mpr ⟨lw_r2, List.forall_mem_append.mpr ⟨lw_r3, List.forall_mem_append.mpr ⟨lw_r4, List.forall_mem_append.mpr ⟨lw_r5, lw_r6⟩⟩⟩⟩⟩
-- ===== end of PART A; then your names; then what follows =====
end
section
/-! ===== BEGIN printed: names, fields, word lists, decode rows ===== -/
def RX0 : String := "FirstOne$Reader"
def TX0 : u_T := fun k => match k with
  | 0 => ("FirstOne$Reader", "tape", "[I", true)
  | 1 => ("FirstOne$Reader", "size", "I", false)
  | 2 => ("FirstOne$Reader", "next", "I", false)
  | 3 => ("FirstOne$Reader", "token", "I", false)
  | 4 => ("FirstOne$Reader", "tokenAt", "I", false)
  | 5 => ("FirstOne$Reader", "tokenCode", "I", false)
  | 6 => ("FirstOne$Reader", "fault", "I", false)
  | 7 => ("FirstOne$Reader", "code", "[I", true)
  | 8 => ("FirstOne$Reader", "length", "I", false)
  | _ => ("FirstOne$Reader", "ends", "[I", true)
def tyX0 : Nat → FieldType := fun k => match k with
  | 0 => .array .int
  | 1 => .int
  | 2 => .int
  | 3 => .int
  | 4 => .int
  | 5 => .int
  | 6 => .int
  | 7 => .array .int
  | 8 => .int
  | _ => .array .int
abbrev wsX00 : List Cond := u_ws RX0 TX0 10
theorem nmX0 : ∀ a, a < 10 → ∀ b, b < 10 → a ≠ b → (TX0 a).2.1 ≠ (TX0 b).2.1 := by decide +kernel
theorem tyX0_ok : ∀ k, k < 10 → parseFieldDescriptor (TX0 k).2.2.1 = some (tyX0 k) := by decide +kernel
abbrev cX0_init : ByteArray := prog_2_method_1_code
def yX0_init : MethodName := ⟨RX0, "<init>", "()V"⟩
abbrev cX0_append : ByteArray := prog_2_method_2_code
def yX0_append : MethodName := ⟨RX0, "append", "(I)Z"⟩
abbrev cX0_write : ByteArray := prog_2_method_3_code
def yX0_write : MethodName := ⟨RX0, "write", "(Ljava/lang/String;)V"⟩
abbrev cX0_reads : ByteArray := prog_2_method_4_code
def yX0_reads : MethodName := ⟨RX0, "reads", "()Z"⟩
abbrev cX0_demand : ByteArray := prog_2_method_5_code
def yX0_demand : MethodName := ⟨RX0, "demand", "(I)V"⟩
abbrev cX0_breakOff : ByteArray := prog_2_method_6_code
def yX0_breakOff : MethodName := ⟨RX0, "breakOff", "()V"⟩
abbrev cX0_put : ByteArray := prog_2_method_7_code
def yX0_put : MethodName := ⟨RX0, "put", "(I)V"⟩
abbrev cX0_reckon : ByteArray := prog_2_method_8_code
def yX0_reckon : MethodName := ⟨RX0, "reckon", "(II)V"⟩
abbrev cX0_one : ByteArray := prog_2_method_9_code
def yX0_one : MethodName := ⟨RX0, "one", "(I)V"⟩
abbrev cX0_levelOf : ByteArray := prog_2_method_10_code
def yX0_levelOf : MethodName := ⟨RX0, "levelOf", "(I)I"⟩
abbrev cX0_byteAt : ByteArray := prog_2_method_11_code
def yX0_byteAt : MethodName := ⟨RX0, "byteAt", "(I)I"⟩
abbrev cX0_step : ByteArray := prog_2_method_12_code
def yX0_step : MethodName := ⟨RX0, "step", "()V"⟩
abbrev cX0_readWord : ByteArray := prog_2_method_13_code
def yX0_readWord : MethodName := ⟨RX0, "readWord", "()V"⟩
abbrev cX0_isWord : ByteArray := prog_2_method_14_code
def yX0_isWord : MethodName := ⟨RX0, "isWord", "(Ljava/lang/String;)Z"⟩
abbrev cX0_readNumber : ByteArray := prog_2_method_15_code
def yX0_readNumber : MethodName := ⟨RX0, "readNumber", "()V"⟩
abbrev cX0_isLetter : ByteArray := prog_2_method_16_code
def yX0_isLetter : MethodName := ⟨RX0, "isLetter", "(I)Z"⟩
abbrev cX0_isDigit : ByteArray := prog_2_method_17_code
def yX0_isDigit : MethodName := ⟨RX0, "isDigit", "(I)Z"⟩
abbrev cX0_isSign : ByteArray := prog_2_method_18_code
def yX0_isSign : MethodName := ⟨RX0, "isSign", "(I)Z"⟩
abbrev cX0_wordOf : ByteArray := prog_2_method_19_code
def yX0_wordOf : MethodName := ⟨RX0, "wordOf", "(I)Ljava/lang/String;"⟩
def RX1 : String := "FirstOne$Sheets"
def TX1 : u_T := fun k => match k with
  | 0 => ("FirstOne$Sheets", "sorts", "[I", true)
  | 1 => ("FirstOne$Sheets", "sizes", "[I", true)
  | _ => ("FirstOne$Sheets", "items", "[I", true)
def tyX1 : Nat → FieldType := fun k => match k with
  | 0 => .array .int
  | 1 => .array .int
  | _ => .array .int
abbrev wsX10 : List Cond := u_ws RX1 TX1 3
theorem nmX1 : ∀ a, a < 3 → ∀ b, b < 3 → a ≠ b → (TX1 a).2.1 ≠ (TX1 b).2.1 := by decide +kernel
theorem tyX1_ok : ∀ k, k < 3 → parseFieldDescriptor (TX1 k).2.2.1 = some (tyX1 k) := by decide +kernel
abbrev cX1_init : ByteArray := prog_3_method_1_code
def yX1_init : MethodName := ⟨RX1, "<init>", "()V"⟩
abbrev cX1_has : ByteArray := prog_3_method_2_code
def yX1_has : MethodName := ⟨RX1, "has", "(I)Z"⟩
abbrev cX1_isMissing : ByteArray := prog_3_method_3_code
def yX1_isMissing : MethodName := ⟨RX1, "isMissing", "(I)Z"⟩
abbrev cX1_sortOf : ByteArray := prog_3_method_4_code
def yX1_sortOf : MethodName := ⟨RX1, "sortOf", "(I)I"⟩
abbrev cX1_sizeOf : ByteArray := prog_3_method_5_code
def yX1_sizeOf : MethodName := ⟨RX1, "sizeOf", "(I)I"⟩
abbrev cX1_spans : ByteArray := prog_3_method_6_code
def yX1_spans : MethodName := ⟨RX1, "spans", "(III)Z"⟩
abbrev cX1_item : ByteArray := prog_3_method_7_code
def yX1_item : MethodName := ⟨RX1, "item", "(II)I"⟩
abbrev cX1_put : ByteArray := prog_3_method_8_code
def yX1_put : MethodName := ⟨RX1, "put", "(III)V"⟩
abbrev cX1_lay : ByteArray := prog_3_method_9_code
def yX1_lay : MethodName := ⟨RX1, "lay", "(III)V"⟩
abbrev cX1_move : ByteArray := prog_3_method_10_code
def yX1_move : MethodName := ⟨RX1, "move", "(IIIII)V"⟩
def RX2 : String := "FirstOne$Supper"
def TX2 : u_T := fun k => match k with
  | 0 => ("FirstOne$Supper", "table", "LFirstOne$Table;", true)
  | 1 => ("FirstOne$Supper", "texts", "LFirstOne$Texts;", true)
  | 2 => ("FirstOne$Supper", "readyAt", "[I", true)
  | 3 => ("FirstOne$Supper", "servedAt", "[I", true)
  | 4 => ("FirstOne$Supper", "servings", "J", false)
  | 5 => ("FirstOne$Supper", "plan", "[I", true)
  | 6 => ("FirstOne$Supper", "eats", "[I", true)
  | 7 => ("FirstOne$Supper", "absent", "I", false)
  | 8 => ("FirstOne$Supper", "had", "[I", true)
  | 9 => ("FirstOne$Supper", "waits", "[I", true)
  | 10 => ("FirstOne$Supper", "last", "[I", true)
  | 11 => ("FirstOne$Supper", "leastHad", "I", false)
  | 12 => ("FirstOne$Supper", "cost", "I", false)
  | 13 => ("FirstOne$Supper", "fair", "I", false)
  | 14 => ("FirstOne$Supper", "given", "I", false)
  | 15 => ("FirstOne$Supper", "wasted", "I", false)
  | _ => ("FirstOne$Supper", "hungerKnown", "[I", true)
def tyX2 : Nat → FieldType := fun k => match k with
  | 0 => .object "FirstOne$Table"
  | 1 => .object "FirstOne$Texts"
  | 2 => .array .int
  | 3 => .array .int
  | 4 => .long
  | 5 => .array .int
  | 6 => .array .int
  | 7 => .int
  | 8 => .array .int
  | 9 => .array .int
  | 10 => .array .int
  | 11 => .int
  | 12 => .int
  | 13 => .int
  | 14 => .int
  | 15 => .int
  | _ => .array .int
abbrev wsX20 : List Cond := u_ws RX2 TX2 17
theorem nmX2 : ∀ a, a < 17 → ∀ b, b < 17 → a ≠ b → (TX2 a).2.1 ≠ (TX2 b).2.1 := by decide +kernel
theorem tyX2_ok : ∀ k, k < 17 → parseFieldDescriptor (TX2 k).2.2.1 = some (tyX2 k) := by decide +kernel
abbrev cX2_init : ByteArray := prog_4_method_1_code
def yX2_init : MethodName := ⟨RX2, "<init>", "(LFirstOne$Table;LFirstOne$Texts;)V"⟩
abbrev cX2_bake : ByteArray := prog_4_method_2_code
def yX2_bake : MethodName := ⟨RX2, "bake", "(I)V"⟩
abbrev cX2_lay : ByteArray := prog_4_method_3_code
def yX2_lay : MethodName := ⟨RX2, "lay", "(I)V"⟩
abbrev cX2_heapUp : ByteArray := prog_4_method_4_code
def yX2_heapUp : MethodName := ⟨RX2, "heapUp", "(I)V"⟩
abbrev cX2_servedCakes : ByteArray := prog_4_method_5_code
def yX2_servedCakes : MethodName := ⟨RX2, "servedCakes", "()I"⟩
abbrev cX2_planTurns : ByteArray := prog_4_method_6_code
def yX2_planTurns : MethodName := ⟨RX2, "planTurns", "()V"⟩
abbrev cX2_planFirst : ByteArray := prog_4_method_7_code
def yX2_planFirst : MethodName := ⟨RX2, "planFirst", "(II)V"⟩
abbrev cX2_planDrawn : ByteArray := prog_4_method_8_code
def yX2_planDrawn : MethodName := ⟨RX2, "planDrawn", "(I)V"⟩
abbrev cX2_run : ByteArray := prog_4_method_9_code
def yX2_run : MethodName := ⟨RX2, "run", "(I)V"⟩
abbrev cX2_serve : ByteArray := prog_4_method_10_code
def yX2_serve : MethodName := ⟨RX2, "serve", "(II)V"⟩
abbrev cX2_give : ByteArray := prog_4_method_11_code
def yX2_give : MethodName := ⟨RX2, "give", "(III)V"⟩
abbrev cX2_pass : ByteArray := prog_4_method_12_code
def yX2_pass : MethodName := ⟨RX2, "pass", "(I)V"⟩
abbrev cX2_sits : ByteArray := prog_4_method_13_code
def yX2_sits : MethodName := ⟨RX2, "sits", "(I)Z"⟩
abbrev cX2_hungers : ByteArray := prog_4_method_14_code
def yX2_hungers : MethodName := ⟨RX2, "hungers", "(II)I"⟩
abbrev cX2_hungriest : ByteArray := prog_4_method_15_code
def yX2_hungriest : MethodName := ⟨RX2, "hungriest", "(I)I"⟩
abbrev cX2_firstOfLeast : ByteArray := prog_4_method_16_code
def yX2_firstOfLeast : MethodName := ⟨RX2, "firstOfLeast", "()I"⟩
abbrev cX2_mostHad : ByteArray := prog_4_method_17_code
def yX2_mostHad : MethodName := ⟨RX2, "mostHad", "()I"⟩
abbrev cX2_isAnswer : ByteArray := prog_4_method_18_code
def yX2_isAnswer : MethodName := ⟨RX2, "isAnswer", "(I)Z"⟩
abbrev cX2_answer : ByteArray := prog_4_method_19_code
def yX2_answer : MethodName := ⟨RX2, "answer", "(I)I"⟩
abbrev cX2_ofOne : ByteArray := prog_4_method_20_code
def yX2_ofOne : MethodName := ⟨RX2, "ofOne", "(II)I"⟩
abbrev cX2_lastTold : ByteArray := prog_4_method_21_code
def yX2_lastTold : MethodName := ⟨RX2, "lastTold", "(I)I"⟩
abbrev cX2_within : ByteArray := prog_4_method_22_code
def yX2_within : MethodName := ⟨RX2, "within", "(III)I"⟩
def RX3 : String := "FirstOne$Table"
def TX3 : u_T := fun k => match k with
  | 0 => ("FirstOne$Table", "batter", "I", false)
  | 1 => ("FirstOne$Table", "pans", "I", false)
  | 2 => ("FirstOne$Table", "rule", "I", false)
  | 3 => ("FirstOne$Table", "seated", "I", false)
  | 4 => ("FirstOne$Table", "kind", "[I", true)
  | 5 => ("FirstOne$Table", "number", "[I", true)
  | 6 => ("FirstOne$Table", "want", "[I", true)
  | _ => ("FirstOne$Table", "pace", "[I", true)
def tyX3 : Nat → FieldType := fun k => match k with
  | 0 => .int
  | 1 => .int
  | 2 => .int
  | 3 => .int
  | 4 => .array .int
  | 5 => .array .int
  | 6 => .array .int
  | _ => .array .int
abbrev wsX30 : List Cond := u_ws RX3 TX3 8
theorem nmX3 : ∀ a, a < 8 → ∀ b, b < 8 → a ≠ b → (TX3 a).2.1 ≠ (TX3 b).2.1 := by decide +kernel
theorem tyX3_ok : ∀ k, k < 8 → parseFieldDescriptor (TX3 k).2.2.1 = some (tyX3 k) := by decide +kernel
abbrev cX3_init : ByteArray := prog_5_method_1_code
def yX3_init : MethodName := ⟨RX3, "<init>", "()V"⟩
abbrev cX3_has : ByteArray := prog_5_method_2_code
def yX3_has : MethodName := ⟨RX3, "has", "(I)Z"⟩
abbrev cX3_change : ByteArray := prog_5_method_3_code
def yX3_change : MethodName := ⟨RX3, "change", "(III)I"⟩
abbrev cX3_seat : ByteArray := prog_5_method_4_code
def yX3_seat : MethodName := ⟨RX3, "seat", "(III)I"⟩
abbrev cX3_wantOfAll : ByteArray := prog_5_method_5_code
def yX3_wantOfAll : MethodName := ⟨RX3, "wantOfAll", "()I"⟩
abbrev cX3_become : ByteArray := prog_5_method_6_code
def yX3_become : MethodName := ⟨RX3, "become", "(LFirstOne$Table;)V"⟩
def RX4 : String := "FirstOne$Texts"
def TX4 : u_T := fun k => match k with
  | 0 => ("FirstOne$Texts", "known", "I", false)
  | 1 => ("FirstOne$Texts", "codes", "[I", true)
  | 2 => ("FirstOne$Texts", "ends", "[I", true)
  | 3 => ("FirstOne$Texts", "names", "[I", true)
  | _ => ("FirstOne$Texts", "stack", "[I", true)
def tyX4 : Nat → FieldType := fun k => match k with
  | 0 => .int
  | 1 => .array .int
  | 2 => .array .int
  | 3 => .array .int
  | _ => .array .int
abbrev wsX40 : List Cond := u_ws RX4 TX4 5
theorem nmX4 : ∀ a, a < 5 → ∀ b, b < 5 → a ≠ b → (TX4 a).2.1 ≠ (TX4 b).2.1 := by decide +kernel
theorem tyX4_ok : ∀ k, k < 5 → parseFieldDescriptor (TX4 k).2.2.1 = some (tyX4 k) := by decide +kernel
abbrev cX4_init : ByteArray := prog_6_method_1_code
def yX4_init : MethodName := ⟨RX4, "<init>", "()V"⟩
abbrev cX4_add : ByteArray := prog_6_method_2_code
def yX4_add : MethodName := ⟨RX4, "add", "(LFirstOne$Reader;)I"⟩
abbrev cX4_name : ByteArray := prog_6_method_3_code
def yX4_name : MethodName := ⟨RX4, "name", "(IIIIII)V"⟩
abbrev cX4_valueOf : ByteArray := prog_6_method_4_code
def yX4_valueOf : MethodName := ⟨RX4, "valueOf", "(II)I"⟩
abbrev cX4_operand : ByteArray := prog_6_method_5_code
def yX4_operand : MethodName := ⟨RX4, "operand", "(I)I"⟩
abbrev cX4_turned : ByteArray := prog_6_method_6_code
def yX4_turned : MethodName := ⟨RX4, "turned", "(II)I"⟩
abbrev cX4_joined : ByteArray := prog_6_method_7_code
def yX4_joined : MethodName := ⟨RX4, "joined", "(III)I"⟩
def RX5 : String := "FirstOne"
def TX5 : u_T := fun k => match k with
  | 0 => ("FirstOne", "table", "LFirstOne$Table;", true)
  | 1 => ("FirstOne", "kept", "LFirstOne$Table;", true)
  | 2 => ("FirstOne", "isKept", "Z", false)
  | 3 => ("FirstOne", "reader", "LFirstOne$Reader;", true)
  | 4 => ("FirstOne", "texts", "LFirstOne$Texts;", true)
  | 5 => ("FirstOne", "sheets", "LFirstOne$Sheets;", true)
  | _ => ("FirstOne", "evening", "LFirstOne$Supper;", true)
def tyX5 : Nat → FieldType := fun k => match k with
  | 0 => .object "FirstOne$Table"
  | 1 => .object "FirstOne$Table"
  | 2 => .boolean
  | 3 => .object "FirstOne$Reader"
  | 4 => .object "FirstOne$Texts"
  | 5 => .object "FirstOne$Sheets"
  | _ => .object "FirstOne$Supper"
abbrev wsX50 : List Cond := u_ws RX5 TX5 7
theorem nmX5 : ∀ a, a < 7 → ∀ b, b < 7 → a ≠ b → (TX5 a).2.1 ≠ (TX5 b).2.1 := by decide +kernel
theorem tyX5_ok : ∀ k, k < 7 → parseFieldDescriptor (TX5 k).2.2.1 = some (tyX5 k) := by decide +kernel
abbrev cX5_init : ByteArray := prog_1_method_1_code
def yX5_init : MethodName := ⟨RX5, "<init>", "()V"⟩
abbrev cX5_set : ByteArray := prog_1_method_2_code
def yX5_set : MethodName := ⟨RX5, "set", "(III)I"⟩
abbrev cX5_eater : ByteArray := prog_1_method_3_code
def yX5_eater : MethodName := ⟨RX5, "eater", "(III)I"⟩
abbrev cX5_told : ByteArray := prog_1_method_4_code
def yX5_told : MethodName := ⟨RX5, "told", "(II)I"⟩
abbrev cX5_ready : ByteArray := prog_1_method_5_code
def yX5_ready : MethodName := ⟨RX5, "ready", "(I)I"⟩
abbrev cX5_feed : ByteArray := prog_1_method_6_code
def yX5_feed : MethodName := ⟨RX5, "feed", "(I)I"⟩
abbrev cX5_text : ByteArray := prog_1_method_7_code
def yX5_text : MethodName := ⟨RX5, "text", "()I"⟩
abbrev cX5_force : ByteArray := prog_1_method_8_code
def yX5_force : MethodName := ⟨RX5, "force", "(I)I"⟩
abbrev cX5_supper : ByteArray := prog_1_method_9_code
def yX5_supper : MethodName := ⟨RX5, "supper", "(III)I"⟩
abbrev cX5_heap : ByteArray := prog_1_method_10_code
def yX5_heap : MethodName := ⟨RX5, "heap", "(II)I"⟩
abbrev cX5_best : ByteArray := prog_1_method_11_code
def yX5_best : MethodName := ⟨RX5, "best", "(II)I"⟩
abbrev cX5_keep : ByteArray := prog_1_method_12_code
def yX5_keep : MethodName := ⟨RX5, "keep", "(I)I"⟩
abbrev cX5_second : ByteArray := prog_1_method_13_code
def yX5_second : MethodName := ⟨RX5, "second", "()I"⟩
abbrev cX5_leave : ByteArray := prog_1_method_14_code
def yX5_leave : MethodName := ⟨RX5, "leave", "()I"⟩
abbrev cX5_plates : ByteArray := prog_1_method_15_code
def yX5_plates : MethodName := ⟨RX5, "plates", "(II)J"⟩
abbrev cX5_eaten : ByteArray := prog_1_method_16_code
def yX5_eaten : MethodName := ⟨RX5, "eaten", "(II)I"⟩
abbrev cX5_film : ByteArray := prog_1_method_17_code
def yX5_film : MethodName := ⟨RX5, "film", "(II)I"⟩
abbrev cX5_drawn : ByteArray := prog_1_method_18_code
def yX5_drawn : MethodName := ⟨RX5, "drawn", "(I)J"⟩
abbrev cX5_chance : ByteArray := prog_1_method_19_code
def yX5_chance : MethodName := ⟨RX5, "chance", "(III)J"⟩
abbrev cX5_image : ByteArray := prog_1_method_20_code
def yX5_image : MethodName := ⟨RX5, "image", "()I"⟩
abbrev cX5_back : ByteArray := prog_1_method_21_code
def yX5_back : MethodName := ⟨RX5, "back", "()I"⟩
abbrev cX5_count : ByteArray := prog_1_method_22_code
def yX5_count : MethodName := ⟨RX5, "count", "(I)I"⟩
abbrev cX5_sheet : ByteArray := prog_1_method_23_code
def yX5_sheet : MethodName := ⟨RX5, "sheet", "(III)I"⟩
abbrev cX5_cell : ByteArray := prog_1_method_24_code
def yX5_cell : MethodName := ⟨RX5, "cell", "(III)I"⟩
abbrev cX5_copy : ByteArray := prog_1_method_25_code
def yX5_copy : MethodName := ⟨RX5, "copy", "(IIIII)I"⟩
abbrev cX5_eaters : ByteArray := prog_1_method_26_code
def yX5_eaters : MethodName := ⟨RX5, "eaters", "(IIII)I"⟩
abbrev cX5_taken : ByteArray := prog_1_method_27_code
def yX5_taken : MethodName := ⟨RX5, "taken", "(II)I"⟩
abbrev cX5_eatsOf : ByteArray := prog_1_method_28_code
def yX5_eatsOf : MethodName := ⟨RX5, "eatsOf", "(II)I"⟩
abbrev cX5_hungersOf : ByteArray := prog_1_method_29_code
def yX5_hungersOf : MethodName := ⟨RX5, "hungersOf", "(IIIII)I"⟩
abbrev cX5_kindAbove : ByteArray := prog_1_method_30_code
def yX5_kindAbove : MethodName := ⟨RX5, "kindAbove", "(I)I"⟩
abbrev cX5_isUnder : ByteArray := prog_1_method_31_code
def yX5_isUnder : MethodName := ⟨RX5, "isUnder", "(II)Z"⟩
abbrev cX5_waysTo : ByteArray := prog_1_method_32_code
def yX5_waysTo : MethodName := ⟨RX5, "waysTo", "(I)I"⟩
abbrev cX5_ordersTo : ByteArray := prog_1_method_33_code
def yX5_ordersTo : MethodName := ⟨RX5, "ordersTo", "(I)J"⟩
abbrev cX5_choices : ByteArray := prog_1_method_34_code
def yX5_choices : MethodName := ⟨RX5, "choices", "(II)J"⟩
abbrev cX5_notSo : ByteArray := prog_1_method_35_code
def yX5_notSo : MethodName := ⟨RX5, "notSo", "(I)I"⟩
abbrev cX5_pacesOf : ByteArray := prog_1_method_36_code
def yX5_pacesOf : MethodName := ⟨RX5, "pacesOf", "(II)I"⟩
abbrev cX5_commonDivisor : ByteArray := prog_1_method_37_code
def yX5_commonDivisor : MethodName := ⟨RX5, "commonDivisor", "(II)I"⟩
def RX6 : String := "FirstOneModel"
def TX6 : u_T := fun k => match k with
  | 0 => ("FirstOneModel", "thrown", "I", false)
  | 1 => ("FirstOneModel", "texts", "[I", true)
  | 2 => ("FirstOneModel", "textSize", "[I", true)
  | 3 => ("FirstOneModel", "textCount", "I", false)
  | 4 => ("FirstOneModel", "rule", "I", false)
  | 5 => ("FirstOneModel", "tape", "[I", true)
  | 6 => ("FirstOneModel", "taped", "I", false)
  | 7 => ("FirstOneModel", "batter", "I", false)
  | 8 => ("FirstOneModel", "pans", "I", false)
  | 9 => ("FirstOneModel", "kinds", "[I", true)
  | 10 => ("FirstOneModel", "numbers", "[I", true)
  | 11 => ("FirstOneModel", "wants", "[I", true)
  | 12 => ("FirstOneModel", "paces", "[I", true)
  | 13 => ("FirstOneModel", "eaterMany", "I", false)
  | 14 => ("FirstOneModel", "away", "I", false)
  | 15 => ("FirstOneModel", "ofCake", "I", false)
  | 16 => ("FirstOneModel", "ofMinute", "I", false)
  | 17 => ("FirstOneModel", "ofHad", "I", false)
  | 18 => ("FirstOneModel", "ofWant", "I", false)
  | 19 => ("FirstOneModel", "ofEater", "I", false)
  | 20 => ("FirstOneModel", "ofLate", "I", false)
  | 21 => ("FirstOneModel", "from", "I", false)
  | 22 => ("FirstOneModel", "size", "I", false)
  | 23 => ("FirstOneModel", "here", "I", false)
  | 24 => ("FirstOneModel", "token", "I", false)
  | 25 => ("FirstOneModel", "tokenAt", "I", false)
  | 26 => ("FirstOneModel", "tokenWorth", "J", false)
  | 27 => ("FirstOneModel", "open", "I", false)
  | 28 => ("FirstOneModel", "bad", "Z", false)
  | 29 => ("FirstOneModel", "fault", "I", false)
  | 30 => ("FirstOneModel", "had", "[I", true)
  | 31 => ("FirstOneModel", "doneAt", "[I", true)
  | 32 => ("FirstOneModel", "waits", "[I", true)
  | 33 => ("FirstOneModel", "readyAt", "[I", true)
  | 34 => ("FirstOneModel", "servedAt", "[I", true)
  | 35 => ("FirstOneModel", "giving", "[I", true)
  | 36 => ("FirstOneModel", "cost", "I", false)
  | 37 => ("FirstOneModel", "fair", "I", false)
  | 38 => ("FirstOneModel", "given", "I", false)
  | 39 => ("FirstOneModel", "wasted", "I", false)
  | 40 => ("FirstOneModel", "bestGiving", "[I", true)
  | 41 => ("FirstOneModel", "bestCost", "I", false)
  | 42 => ("FirstOneModel", "isFound", "Z", false)
  | 43 => ("FirstOneModel", "kept", "[I", true)
  | 44 => ("FirstOneModel", "manyKept", "I", false)
  | 45 => ("FirstOneModel", "batterKept", "I", false)
  | 46 => ("FirstOneModel", "pansKept", "I", false)
  | 47 => ("FirstOneModel", "ruleKept", "I", false)
  | 48 => ("FirstOneModel", "isThere", "[Z", true)
  | 49 => ("FirstOneModel", "sorts", "[I", true)
  | 50 => ("FirstOneModel", "sheetSize", "[I", true)
  | _ => ("FirstOneModel", "items", "[I", true)
def tyX6 : Nat → FieldType := fun k => match k with
  | 0 => .int
  | 1 => .array .int
  | 2 => .array .int
  | 3 => .int
  | 4 => .int
  | 5 => .array .int
  | 6 => .int
  | 7 => .int
  | 8 => .int
  | 9 => .array .int
  | 10 => .array .int
  | 11 => .array .int
  | 12 => .array .int
  | 13 => .int
  | 14 => .int
  | 15 => .int
  | 16 => .int
  | 17 => .int
  | 18 => .int
  | 19 => .int
  | 20 => .int
  | 21 => .int
  | 22 => .int
  | 23 => .int
  | 24 => .int
  | 25 => .int
  | 26 => .long
  | 27 => .int
  | 28 => .boolean
  | 29 => .int
  | 30 => .array .int
  | 31 => .array .int
  | 32 => .array .int
  | 33 => .array .int
  | 34 => .array .int
  | 35 => .array .int
  | 36 => .int
  | 37 => .int
  | 38 => .int
  | 39 => .int
  | 40 => .array .int
  | 41 => .int
  | 42 => .boolean
  | 43 => .array .int
  | 44 => .int
  | 45 => .int
  | 46 => .int
  | 47 => .int
  | 48 => .array .boolean
  | 49 => .array .int
  | 50 => .array .int
  | _ => .array .int
abbrev wsX60 : List Cond := u_ws RX6 TX6 52
theorem nmX6 : ∀ a, a < 52 → ∀ b, b < 52 → a ≠ b → (TX6 a).2.1 ≠ (TX6 b).2.1 := by decide +kernel
theorem tyX6_ok : ∀ k, k < 52 → parseFieldDescriptor (TX6 k).2.2.1 = some (tyX6 k) := by decide +kernel
abbrev cX6_in : ByteArray := prog_8_method_2_code
def yX6_in : MethodName := ⟨RX6, "in", "(JJJ)Z"⟩
abbrev cX6_within : ByteArray := prog_8_method_3_code
def yX6_within : MethodName := ⟨RX6, "within", "(III)I"⟩
abbrev cX6_init : ByteArray := prog_8_method_4_code
def yX6_init : MethodName := ⟨RX6, "<init>", "()V"⟩
abbrev cX6_spell : ByteArray := prog_8_method_5_code
def yX6_spell : MethodName := ⟨RX6, "spell", "(IIIIIIIII)V"⟩
abbrev cX6_isEater : ByteArray := prog_8_method_6_code
def yX6_isEater : MethodName := ⟨RX6, "isEater", "(I)Z"⟩
abbrev cX6_isCake : ByteArray := prog_8_method_7_code
def yX6_isCake : MethodName := ⟨RX6, "isCake", "(I)Z"⟩
abbrev cX6_set : ByteArray := prog_8_method_8_code
def yX6_set : MethodName := ⟨RX6, "set", "(III)I"⟩
abbrev cX6_eater : ByteArray := prog_8_method_9_code
def yX6_eater : MethodName := ⟨RX6, "eater", "(III)I"⟩
abbrev cX6_eatsOf : ByteArray := prog_8_method_10_code
def yX6_eatsOf : MethodName := ⟨RX6, "eatsOf", "(I)I"⟩
abbrev cX6_told : ByteArray := prog_8_method_11_code
def yX6_told : MethodName := ⟨RX6, "told", "(II)I"⟩
abbrev cX6_feed : ByteArray := prog_8_method_12_code
def yX6_feed : MethodName := ⟨RX6, "feed", "(I)I"⟩
abbrev cX6_byteAt : ByteArray := prog_8_method_13_code
def yX6_byteAt : MethodName := ⟨RX6, "byteAt", "(I)I"⟩
abbrev cX6_next : ByteArray := prog_8_method_14_code
def yX6_next : MethodName := ⟨RX6, "next", "()V"⟩
abbrev cX6_fail : ByteArray := prog_8_method_15_code
def yX6_fail : MethodName := ⟨RX6, "fail", "()V"⟩
abbrev cX6_isLetter : ByteArray := prog_8_method_16_code
def yX6_isLetter : MethodName := ⟨RX6, "isLetter", "(II)Z"⟩
abbrev cX6_isWord : ByteArray := prog_8_method_17_code
def yX6_isWord : MethodName := ⟨RX6, "isWord", "(IIIIIIII)Z"⟩
abbrev cX6_isSign : ByteArray := prog_8_method_18_code
def yX6_isSign : MethodName := ⟨RX6, "isSign", "(I)Z"⟩
abbrev cX6_opens : ByteArray := prog_8_method_19_code
def yX6_opens : MethodName := ⟨RX6, "opens", "()Z"⟩
abbrev cX6_name : ByteArray := prog_8_method_20_code
def yX6_name : MethodName := ⟨RX6, "name", "()I"⟩
abbrev cX6_atom : ByteArray := prog_8_method_21_code
def yX6_atom : MethodName := ⟨RX6, "atom", "()I"⟩
abbrev cX6_term : ByteArray := prog_8_method_22_code
def yX6_term : MethodName := ⟨RX6, "term", "()I"⟩
abbrev cX6_added : ByteArray := prog_8_method_23_code
def yX6_added : MethodName := ⟨RX6, "added", "()I"⟩
abbrev cX6_not : ByteArray := prog_8_method_24_code
def yX6_not : MethodName := ⟨RX6, "not", "()I"⟩
abbrev cX6_both : ByteArray := prog_8_method_25_code
def yX6_both : MethodName := ⟨RX6, "both", "()I"⟩
abbrev cX6_either : ByteArray := prog_8_method_26_code
def yX6_either : MethodName := ⟨RX6, "either", "()I"⟩
abbrev cX6_part : ByteArray := prog_8_method_27_code
def yX6_part : MethodName := ⟨RX6, "part", "(Z)I"⟩
abbrev cX6_read : ByteArray := prog_8_method_28_code
def yX6_read : MethodName := ⟨RX6, "read", "(II)I"⟩
abbrev cX6_text : ByteArray := prog_8_method_29_code
def yX6_text : MethodName := ⟨RX6, "text", "()I"⟩
abbrev cX6_force : ByteArray := prog_8_method_30_code
def yX6_force : MethodName := ⟨RX6, "force", "(I)I"⟩
abbrev cX6_takesOf : ByteArray := prog_8_method_31_code
def yX6_takesOf : MethodName := ⟨RX6, "takesOf", "(I)I"⟩
abbrev cX6_hungersOf : ByteArray := prog_8_method_32_code
def yX6_hungersOf : MethodName := ⟨RX6, "hungersOf", "(IIII)I"⟩
abbrev cX6_worthOf : ByteArray := prog_8_method_33_code
def yX6_worthOf : MethodName := ⟨RX6, "worthOf", "(IIIII)I"⟩
abbrev cX6_readyOf : ByteArray := prog_8_method_34_code
def yX6_readyOf : MethodName := ⟨RX6, "readyOf", "(I)I"⟩
abbrev cX6_ready : ByteArray := prog_8_method_35_code
def yX6_ready : MethodName := ⟨RX6, "ready", "(I)I"⟩
abbrev cX6_leastHad : ByteArray := prog_8_method_36_code
def yX6_leastHad : MethodName := ⟨RX6, "leastHad", "()I"⟩
abbrev cX6_mostHad : ByteArray := prog_8_method_37_code
def yX6_mostHad : MethodName := ⟨RX6, "mostHad", "()I"⟩
abbrev cX6_hungriest : ByteArray := prog_8_method_38_code
def yX6_hungriest : MethodName := ⟨RX6, "hungriest", "(I)I"⟩
abbrev cX6_whoHas : ByteArray := prog_8_method_39_code
def yX6_whoHas : MethodName := ⟨RX6, "whoHas", "()I"⟩
abbrev cX6_towards : ByteArray := prog_8_method_40_code
def yX6_towards : MethodName := ⟨RX6, "towards", "(IIII)I"⟩
abbrev cX6_gives : ByteArray := prog_8_method_41_code
def yX6_gives : MethodName := ⟨RX6, "gives", "(III)V"⟩
abbrev cX6_bakes : ByteArray := prog_8_method_42_code
def yX6_bakes : MethodName := ⟨RX6, "bakes", "(II)V"⟩
abbrev cX6_sups : ByteArray := prog_8_method_43_code
def yX6_sups : MethodName := ⟨RX6, "sups", "(II)V"⟩
abbrev cX6_isTells : ByteArray := prog_8_method_44_code
def yX6_isTells : MethodName := ⟨RX6, "isTells", "(I)Z"⟩
abbrev cX6_tells : ByteArray := prog_8_method_45_code
def yX6_tells : MethodName := ⟨RX6, "tells", "(I)I"⟩
abbrev cX6_supper : ByteArray := prog_8_method_46_code
def yX6_supper : MethodName := ⟨RX6, "supper", "(III)I"⟩
abbrev cX6_heap : ByteArray := prog_8_method_47_code
def yX6_heap : MethodName := ⟨RX6, "heap", "(II)I"⟩
abbrev cX6_tries : ByteArray := prog_8_method_48_code
def yX6_tries : MethodName := ⟨RX6, "tries", "(II)V"⟩
abbrev cX6_best : ByteArray := prog_8_method_49_code
def yX6_best : MethodName := ⟨RX6, "best", "(II)I"⟩
abbrev cX6_keep : ByteArray := prog_8_method_50_code
def yX6_keep : MethodName := ⟨RX6, "keep", "(I)I"⟩
abbrev cX6_second : ByteArray := prog_8_method_51_code
def yX6_second : MethodName := ⟨RX6, "second", "()I"⟩
abbrev cX6_leave : ByteArray := prog_8_method_52_code
def yX6_leave : MethodName := ⟨RX6, "leave", "()I"⟩
abbrev cX6_servedMany : ByteArray := prog_8_method_53_code
def yX6_servedMany : MethodName := ⟨RX6, "servedMany", "()I"⟩
abbrev cX6_waysOf : ByteArray := prog_8_method_54_code
def yX6_waysOf : MethodName := ⟨RX6, "waysOf", "(I)J"⟩
abbrev cX6_ordersOf : ByteArray := prog_8_method_55_code
def yX6_ordersOf : MethodName := ⟨RX6, "ordersOf", "(I)J"⟩
abbrev cX6_plates : ByteArray := prog_8_method_56_code
def yX6_plates : MethodName := ⟨RX6, "plates", "(II)J"⟩
abbrev cX6_isEatenSo : ByteArray := prog_8_method_57_code
def yX6_isEatenSo : MethodName := ⟨RX6, "isEatenSo", "(II)Z"⟩
abbrev cX6_eaten : ByteArray := prog_8_method_58_code
def yX6_eaten : MethodName := ⟨RX6, "eaten", "(II)I"⟩
abbrev cX6_film : ByteArray := prog_8_method_59_code
def yX6_film : MethodName := ⟨RX6, "film", "(II)I"⟩
abbrev cX6_draws : ByteArray := prog_8_method_60_code
def yX6_draws : MethodName := ⟨RX6, "draws", "(I)I"⟩
abbrev cX6_drawn : ByteArray := prog_8_method_61_code
def yX6_drawn : MethodName := ⟨RX6, "drawn", "(I)J"⟩
abbrev cX6_chance : ByteArray := prog_8_method_62_code
def yX6_chance : MethodName := ⟨RX6, "chance", "(III)J"⟩
abbrev cX6_image : ByteArray := prog_8_method_63_code
def yX6_image : MethodName := ⟨RX6, "image", "()I"⟩
abbrev cX6_back : ByteArray := prog_8_method_64_code
def yX6_back : MethodName := ⟨RX6, "back", "()I"⟩
abbrev cX6_count : ByteArray := prog_8_method_65_code
def yX6_count : MethodName := ⟨RX6, "count", "(I)I"⟩
abbrev cX6_isSheet : ByteArray := prog_8_method_66_code
def yX6_isSheet : MethodName := ⟨RX6, "isSheet", "(I)Z"⟩
abbrev cX6_sheet : ByteArray := prog_8_method_67_code
def yX6_sheet : MethodName := ⟨RX6, "sheet", "(III)I"⟩
abbrev cX6_cell : ByteArray := prog_8_method_68_code
def yX6_cell : MethodName := ⟨RX6, "cell", "(III)I"⟩
abbrev cX6_copy : ByteArray := prog_8_method_69_code
def yX6_copy : MethodName := ⟨RX6, "copy", "(IIIII)I"⟩
abbrev cX6_eaters : ByteArray := prog_8_method_70_code
def yX6_eaters : MethodName := ⟨RX6, "eaters", "(IIII)I"⟩
abbrev cX6_over : ByteArray := prog_8_method_71_code
def yX6_over : MethodName := ⟨RX6, "over", "(I)I"⟩
abbrev cX6_taken : ByteArray := prog_8_method_72_code
def yX6_taken : MethodName := ⟨RX6, "taken", "(II)I"⟩
def RJx145de : String := "java/io/Serializable"
def TJx145de : u_T := fun k => match k with
  | _ => ("", "", "", false)
def tyJx145de : Nat → FieldType := fun k => match k with
  | _ => .int
abbrev wsJx145de0 : List Cond := u_ws RJx145de TJx145de 0
theorem nmJx145de : ∀ a, a < 0 → ∀ b, b < 0 → a ≠ b → (TJx145de a).2.1 ≠ (TJx145de b).2.1 := by decide +kernel
theorem tyJx145de_ok : ∀ k, k < 0 → parseFieldDescriptor (TJx145de k).2.2.1 = some (tyJx145de k) := by decide +kernel
def RJx9f9b0 : String := "java/lang/CharSequence"
def TJx9f9b0 : u_T := fun k => match k with
  | _ => ("", "", "", false)
def tyJx9f9b0 : Nat → FieldType := fun k => match k with
  | _ => .int
abbrev wsJx9f9b00 : List Cond := u_ws RJx9f9b0 TJx9f9b0 0
theorem nmJx9f9b0 : ∀ a, a < 0 → ∀ b, b < 0 → a ≠ b → (TJx9f9b0 a).2.1 ≠ (TJx9f9b0 b).2.1 := by decide +kernel
theorem tyJx9f9b0_ok : ∀ k, k < 0 → parseFieldDescriptor (TJx9f9b0 k).2.2.1 = some (tyJx9f9b0 k) := by decide +kernel
def RJxb160c : String := "java/lang/Comparable"
def TJxb160c : u_T := fun k => match k with
  | _ => ("", "", "", false)
def tyJxb160c : Nat → FieldType := fun k => match k with
  | _ => .int
abbrev wsJxb160c0 : List Cond := u_ws RJxb160c TJxb160c 0
theorem nmJxb160c : ∀ a, a < 0 → ∀ b, b < 0 → a ≠ b → (TJxb160c a).2.1 ≠ (TJxb160c b).2.1 := by decide +kernel
theorem tyJxb160c_ok : ∀ k, k < 0 → parseFieldDescriptor (TJxb160c k).2.2.1 = some (tyJxb160c k) := by decide +kernel
def RJ9 : String := "java/lang/Math"
def TJ9 : u_T := fun k => match k with
  | _ => ("", "", "", false)
def tyJ9 : Nat → FieldType := fun k => match k with
  | _ => .int
abbrev wsJ90 : List Cond := u_ws RJ9 TJ9 0
theorem nmJ9 : ∀ a, a < 0 → ∀ b, b < 0 → a ≠ b → (TJ9 a).2.1 ≠ (TJ9 b).2.1 := by decide +kernel
theorem tyJ9_ok : ∀ k, k < 0 → parseFieldDescriptor (TJ9 k).2.2.1 = some (tyJ9 k) := by decide +kernel
abbrev cJ9_max_7cf53 : ByteArray := prog_9_method_65_code
def yJ9_max_7cf53 : MethodName := ⟨RJ9, "max", "(II)I"⟩
abbrev cJ9_min_7cf53 : ByteArray := prog_9_method_69_code
def yJ9_min_7cf53 : MethodName := ⟨RJ9, "min", "(II)I"⟩
def RJ0 : String := "java/lang/String"
def TJ0 : u_T := fun k => match k with
  | _ => ("", "", "", false)
def tyJ0 : Nat → FieldType := fun k => match k with
  | _ => .int
abbrev wsJ00 : List Cond := u_ws RJ0 TJ0 0
theorem nmJ0 : ∀ a, a < 0 → ∀ b, b < 0 → a ≠ b → (TJ0 a).2.1 ≠ (TJ0 b).2.1 := by decide +kernel
theorem tyJ0_ok : ∀ k, k < 0 → parseFieldDescriptor (TJ0 k).2.2.1 = some (tyJ0 k) := by decide +kernel
abbrev cJ0_length_8abf5 : ByteArray := prog_10_method_54_code
def yJ0_length_8abf5 : MethodName := ⟨RJ0, "length", "()I"⟩
abbrev cJ0_charAt_5068e : ByteArray := prog_10_method_56_code
def yJ0_charAt_5068e : MethodName := ⟨RJ0, "charAt", "(I)C"⟩
abbrev cJ0_coder_7d493 : ByteArray := prog_10_method_152_code
def yJ0_coder_7d493 : MethodName := ⟨RJ0, "coder", "()B"⟩
abbrev cJ0_isLatin1_aae02 : ByteArray := prog_10_method_154_code
def yJ0_isLatin1_aae02 : MethodName := ⟨RJ0, "isLatin1", "()Z"⟩
abbrev cJ0_checkIndex_df160 : ByteArray := prog_10_method_155_code
def yJ0_checkIndex_df160 : MethodName := ⟨RJ0, "checkIndex", "(II)V"⟩
def RJ1 : String := "java/lang/StringLatin1"
def TJ1 : u_T := fun k => match k with
  | _ => ("", "", "", false)
def tyJ1 : Nat → FieldType := fun k => match k with
  | _ => .int
abbrev wsJ10 : List Cond := u_ws RJ1 TJ1 0
theorem nmJ1 : ∀ a, a < 0 → ∀ b, b < 0 → a ≠ b → (TJ1 a).2.1 ≠ (TJ1 b).2.1 := by decide +kernel
theorem tyJ1_ok : ∀ k, k < 0 → parseFieldDescriptor (TJ1 k).2.2.1 = some (tyJ1 k) := by decide +kernel
abbrev cJ1_charAt_3b067 : ByteArray := prog_11_method_2_code
def yJ1_charAt_3b067 : MethodName := ⟨RJ1, "charAt", "([BI)C"⟩
def RJ2 : String := "java/lang/StringUTF16"
def TJ2 : u_T := fun k => match k with
  | _ => ("", "", "", false)
def tyJ2 : Nat → FieldType := fun k => match k with
  | _ => .int
abbrev wsJ20 : List Cond := u_ws RJ2 TJ2 0
theorem nmJ2 : ∀ a, a < 0 → ∀ b, b < 0 → a ≠ b → (TJ2 a).2.1 ≠ (TJ2 b).2.1 := by decide +kernel
theorem tyJ2_ok : ∀ k, k < 0 → parseFieldDescriptor (TJ2 k).2.2.1 = some (tyJ2 k) := by decide +kernel
abbrev cJ2_getChar_3b067 : ByteArray := prog_12_method_5_code
def yJ2_getChar_3b067 : MethodName := ⟨RJ2, "getChar", "([BI)C"⟩
abbrev cJ2_length_9d52b : ByteArray := prog_12_method_6_code
def yJ2_length_9d52b : MethodName := ⟨RJ2, "length", "([B)I"⟩
abbrev cJ2_charAt_3b067 : ByteArray := prog_12_method_83_code
def yJ2_charAt_3b067 : MethodName := ⟨RJ2, "charAt", "([BI)C"⟩
abbrev cJ2_checkIndex_2214a : ByteArray := prog_12_method_91_code
def yJ2_checkIndex_2214a : MethodName := ⟨RJ2, "checkIndex", "(I[B)V"⟩
def RJ10 : String := "java/lang/System"
def TJ10 : u_T := fun k => match k with
  | _ => ("", "", "", false)
def tyJ10 : Nat → FieldType := fun k => match k with
  | _ => .int
abbrev wsJ100 : List Cond := u_ws RJ10 TJ10 0
theorem nmJ10 : ∀ a, a < 0 → ∀ b, b < 0 → a ≠ b → (TJ10 a).2.1 ≠ (TJ10 b).2.1 := by decide +kernel
theorem tyJ10_ok : ∀ k, k < 0 → parseFieldDescriptor (TJ10 k).2.2.1 = some (tyJ10 k) := by decide +kernel
def RJxfd54e : String := "java/lang/constant/Constable"
def TJxfd54e : u_T := fun k => match k with
  | _ => ("", "", "", false)
def tyJxfd54e : Nat → FieldType := fun k => match k with
  | _ => .int
abbrev wsJxfd54e0 : List Cond := u_ws RJxfd54e TJxfd54e 0
theorem nmJxfd54e : ∀ a, a < 0 → ∀ b, b < 0 → a ≠ b → (TJxfd54e a).2.1 ≠ (TJxfd54e b).2.1 := by decide +kernel
theorem tyJxfd54e_ok : ∀ k, k < 0 → parseFieldDescriptor (TJxfd54e k).2.2.1 = some (tyJxfd54e k) := by decide +kernel
def RJx3cf43 : String := "java/lang/constant/ConstantDesc"
def TJx3cf43 : u_T := fun k => match k with
  | _ => ("", "", "", false)
def tyJx3cf43 : Nat → FieldType := fun k => match k with
  | _ => .int
abbrev wsJx3cf430 : List Cond := u_ws RJx3cf43 TJx3cf43 0
theorem nmJx3cf43 : ∀ a, a < 0 → ∀ b, b < 0 → a ≠ b → (TJx3cf43 a).2.1 ≠ (TJx3cf43 b).2.1 := by decide +kernel
theorem tyJx3cf43_ok : ∀ k, k < 0 → parseFieldDescriptor (TJx3cf43 k).2.2.1 = some (tyJx3cf43 k) := by decide +kernel
def RJ7 : String := "java/util/Arrays"
def TJ7 : u_T := fun k => match k with
  | _ => ("", "", "", false)
def tyJ7 : Nat → FieldType := fun k => match k with
  | _ => .int
abbrev wsJ70 : List Cond := u_ws RJ7 TJ7 0
theorem nmJ7 : ∀ a, a < 0 → ∀ b, b < 0 → a ≠ b → (TJ7 a).2.1 ≠ (TJ7 b).2.1 := by decide +kernel
theorem tyJ7_ok : ∀ k, k < 0 → parseFieldDescriptor (TJ7 k).2.2.1 = some (tyJ7 k) := by decide +kernel
abbrev cJ7_fill_53178 : ByteArray := prog_14_method_103_code
def yJ7_fill_53178 : MethodName := ⟨RJ7, "fill", "([II)V"⟩
def RJ3 : String := "jdk/internal/util/Preconditions"
def TJ3 : u_T := fun k => match k with
  | _ => ("", "", "", false)
def tyJ3 : Nat → FieldType := fun k => match k with
  | _ => .int
abbrev wsJ30 : List Cond := u_ws RJ3 TJ3 0
theorem nmJ3 : ∀ a, a < 0 → ∀ b, b < 0 → a ≠ b → (TJ3 a).2.1 ≠ (TJ3 b).2.1 := by decide +kernel
theorem tyJ3_ok : ∀ k, k < 0 → parseFieldDescriptor (TJ3 k).2.2.1 = some (tyJ3 k) := by decide +kernel
abbrev cJ3_checkIndex_8e157 : ByteArray := prog_15_method_11_code
def yJ3_checkIndex_8e157 : MethodName := ⟨RJ3, "checkIndex", "(IILjava/util/function/BiFunction;)I"⟩
def RL : String := "FirstOneLaw"
abbrev cL_law : ByteArray := code
def yL_law : MethodName := ⟨RL, "law", "([I)Z"⟩
abbrev vwCl : List vw_C := [(RX0, TX0, 10), (RX1, TX1, 3), (RX2, TX2, 17), (RX3, TX3, 8), (RX4, TX4, 5), (RX5, TX5, 7), (RX6, TX6, 52)]
end
section
theorem dX0_init_0 : decode cX0_init 0 = .ok (.aload_n 0, 1) := by decide +kernel
theorem dX0_init_1 : decode cX0_init 1 = .ok (.invokespecial 5, 3) := by decide +kernel
theorem dX0_init_4 : decode cX0_init 4 = .ok (.aload_n 0, 1) := by decide +kernel
theorem dX0_init_5 : decode cX0_init 5 = .ok (.sipush 160, 3) := by decide +kernel
theorem dX0_init_8 : decode cX0_init 8 = .ok (.newarray .int, 2) := by decide +kernel
theorem dX0_init_10 : decode cX0_init 10 = .ok (.putfield 11, 3) := by decide +kernel
theorem dX0_init_13 : decode cX0_init 13 = .ok (.aload_n 0, 1) := by decide +kernel
theorem dX0_init_14 : decode cX0_init 14 = .ok (.sipush 160, 3) := by decide +kernel
theorem dX0_init_17 : decode cX0_init 17 = .ok (.newarray .int, 2) := by decide +kernel
theorem dX0_init_19 : decode cX0_init 19 = .ok (.putfield 15, 3) := by decide +kernel
theorem dX0_init_22 : decode cX0_init 22 = .ok (.aload_n 0, 1) := by decide +kernel
theorem dX0_init_23 : decode cX0_init 23 = .ok (.iconst 3, 1) := by decide +kernel
theorem dX0_init_24 : decode cX0_init 24 = .ok (.newarray .int, 2) := by decide +kernel
theorem dX0_init_26 : decode cX0_init 26 = .ok (.putfield 18, 3) := by decide +kernel
theorem dX0_init_29 : decode cX0_init 29 = .ok (.return_, 1) := by decide +kernel
theorem dX0_append_0 : decode cX0_append 0 = .ok (.aload_n 0, 1) := by decide +kernel
theorem dX0_append_1 : decode cX0_append 1 = .ok (.getfield 21, 3) := by decide +kernel
theorem dX0_append_4 : decode cX0_append 4 = .ok (.ifCond .lt 13, 3) := by decide +kernel
theorem dX0_append_7 : decode cX0_append 7 = .ok (.aload_n 0, 1) := by decide +kernel
theorem dX0_append_8 : decode cX0_append 8 = .ok (.getfield 21, 3) := by decide +kernel
theorem dX0_append_11 : decode cX0_append 11 = .ok (.sipush 160, 3) := by decide +kernel
theorem dX0_append_14 : decode cX0_append 14 = .ok (.if_icmp .lt 5, 3) := by decide +kernel
theorem dX0_append_17 : decode cX0_append 17 = .ok (.iconst 0, 1) := by decide +kernel
theorem dX0_append_18 : decode cX0_append 18 = .ok (.ireturn, 1) := by decide +kernel
theorem dX0_append_19 : decode cX0_append 19 = .ok (.aload_n 0, 1) := by decide +kernel
theorem dX0_append_20 : decode cX0_append 20 = .ok (.getfield 11, 3) := by decide +kernel
theorem dX0_append_23 : decode cX0_append 23 = .ok (.aload_n 0, 1) := by decide +kernel
theorem dX0_append_24 : decode cX0_append 24 = .ok (.getfield 21, 3) := by decide +kernel
theorem dX0_append_27 : decode cX0_append 27 = .ok (.iload_n 1, 1) := by decide +kernel
theorem dX0_append_28 : decode cX0_append 28 = .ok (.iastore, 1) := by decide +kernel
theorem dX0_append_29 : decode cX0_append 29 = .ok (.aload_n 0, 1) := by decide +kernel
theorem dX0_append_30 : decode cX0_append 30 = .ok (.dup, 1) := by decide +kernel
theorem dX0_append_31 : decode cX0_append 31 = .ok (.getfield 21, 3) := by decide +kernel
theorem dX0_append_34 : decode cX0_append 34 = .ok (.iconst 1, 1) := by decide +kernel
theorem dX0_append_35 : decode cX0_append 35 = .ok (.iadd, 1) := by decide +kernel
theorem dX0_append_36 : decode cX0_append 36 = .ok (.putfield 21, 3) := by decide +kernel
theorem dX0_append_39 : decode cX0_append 39 = .ok (.iconst 1, 1) := by decide +kernel
theorem dX0_append_40 : decode cX0_append 40 = .ok (.ireturn, 1) := by decide +kernel
theorem dX0_write_0 : decode cX0_write 0 = .ok (.aload_n 1, 1) := by decide +kernel
theorem dX0_write_1 : decode cX0_write 1 = .ok (.ifnonnull 4, 3) := by decide +kernel
theorem dX0_write_4 : decode cX0_write 4 = .ok (.return_, 1) := by decide +kernel
theorem dX0_write_5 : decode cX0_write 5 = .ok (.iconst 0, 1) := by decide +kernel
theorem dX0_write_6 : decode cX0_write 6 = .ok (.istore_n 2, 1) := by decide +kernel
theorem dX0_write_7 : decode cX0_write 7 = .ok (.iload_n 2, 1) := by decide +kernel
theorem dX0_write_8 : decode cX0_write 8 = .ok (.aload_n 1, 1) := by decide +kernel
theorem dX0_write_9 : decode cX0_write 9 = .ok (.invokevirtual 25, 3) := by decide +kernel
theorem dX0_write_12 : decode cX0_write 12 = .ok (.if_icmp .ge 26, 3) := by decide +kernel
theorem dX0_write_15 : decode cX0_write 15 = .ok (.iload_n 2, 1) := by decide +kernel
theorem dX0_write_16 : decode cX0_write 16 = .ok (.sipush 160, 3) := by decide +kernel
theorem dX0_write_19 : decode cX0_write 19 = .ok (.if_icmp .ge 19, 3) := by decide +kernel
theorem dX0_write_22 : decode cX0_write 22 = .ok (.aload_n 0, 1) := by decide +kernel
theorem dX0_write_23 : decode cX0_write 23 = .ok (.aload_n 1, 1) := by decide +kernel
theorem dX0_write_24 : decode cX0_write 24 = .ok (.iload_n 2, 1) := by decide +kernel
theorem dX0_write_25 : decode cX0_write 25 = .ok (.invokevirtual 31, 3) := by decide +kernel
theorem dX0_write_28 : decode cX0_write 28 = .ok (.invokevirtual 35, 3) := by decide +kernel
theorem dX0_write_31 : decode cX0_write 31 = .ok (.pop, 1) := by decide +kernel
theorem dX0_write_32 : decode cX0_write 32 = .ok (.iinc 2 1, 3) := by decide +kernel
theorem dX0_write_35 : decode cX0_write 35 = .ok (.goto (-28), 3) := by decide +kernel
theorem dX0_write_38 : decode cX0_write 38 = .ok (.return_, 1) := by decide +kernel
theorem dX0_reads_0 : decode cX0_reads 0 = .ok (.aload_n 0, 1) := by decide +kernel
theorem dX0_reads_1 : decode cX0_reads 1 = .ok (.iconst 0, 1) := by decide +kernel
theorem dX0_reads_2 : decode cX0_reads 2 = .ok (.putfield 39, 3) := by decide +kernel
theorem dX0_reads_5 : decode cX0_reads 5 = .ok (.aload_n 0, 1) := by decide +kernel
theorem dX0_reads_6 : decode cX0_reads 6 = .ok (.iconst 0, 1) := by decide +kernel
theorem dX0_reads_7 : decode cX0_reads 7 = .ok (.putfield 42, 3) := by decide +kernel
theorem dX0_reads_10 : decode cX0_reads 10 = .ok (.aload_n 0, 1) := by decide +kernel
theorem dX0_reads_11 : decode cX0_reads 11 = .ok (.iconst (-1), 1) := by decide +kernel
theorem dX0_reads_12 : decode cX0_reads 12 = .ok (.putfield 44, 3) := by decide +kernel
theorem dX0_reads_15 : decode cX0_reads 15 = .ok (.aload_n 0, 1) := by decide +kernel
theorem dX0_reads_16 : decode cX0_reads 16 = .ok (.invokevirtual 47, 3) := by decide +kernel
theorem dX0_reads_19 : decode cX0_reads 19 = .ok (.iconst 0, 1) := by decide +kernel
theorem dX0_reads_20 : decode cX0_reads 20 = .ok (.istore_n 1, 1) := by decide +kernel
theorem dX0_reads_21 : decode cX0_reads 21 = .ok (.iload_n 1, 1) := by decide +kernel
theorem dX0_reads_22 : decode cX0_reads 22 = .ok (.iconst 3, 1) := by decide +kernel
theorem dX0_reads_23 : decode cX0_reads 23 = .ok (.if_icmp .ge 39, 3) := by decide +kernel
theorem dX0_reads_26 : decode cX0_reads 26 = .ok (.aload_n 0, 1) := by decide +kernel
theorem dX0_reads_27 : decode cX0_reads 27 = .ok (.bipush 100, 2) := by decide +kernel
theorem dX0_reads_29 : decode cX0_reads 29 = .ok (.iload_n 1, 1) := by decide +kernel
theorem dX0_reads_30 : decode cX0_reads 30 = .ok (.iadd, 1) := by decide +kernel
theorem dX0_reads_31 : decode cX0_reads 31 = .ok (.invokevirtual 50, 3) := by decide +kernel
theorem dX0_reads_34 : decode cX0_reads 34 = .ok (.aload_n 0, 1) := by decide +kernel
theorem dX0_reads_35 : decode cX0_reads 35 = .ok (.iconst 0, 1) := by decide +kernel
theorem dX0_reads_36 : decode cX0_reads 36 = .ok (.iconst 0, 1) := by decide +kernel
theorem dX0_reads_37 : decode cX0_reads 37 = .ok (.invokevirtual 54, 3) := by decide +kernel
theorem dX0_reads_40 : decode cX0_reads 40 = .ok (.aload_n 0, 1) := by decide +kernel
theorem dX0_reads_41 : decode cX0_reads 41 = .ok (.bipush 59, 2) := by decide +kernel
theorem dX0_reads_43 : decode cX0_reads 43 = .ok (.invokevirtual 50, 3) := by decide +kernel
theorem dX0_reads_46 : decode cX0_reads 46 = .ok (.aload_n 0, 1) := by decide +kernel
theorem dX0_reads_47 : decode cX0_reads 47 = .ok (.getfield 18, 3) := by decide +kernel
theorem dX0_reads_50 : decode cX0_reads 50 = .ok (.iload_n 1, 1) := by decide +kernel
theorem dX0_reads_51 : decode cX0_reads 51 = .ok (.aload_n 0, 1) := by decide +kernel
theorem dX0_reads_52 : decode cX0_reads 52 = .ok (.getfield 42, 3) := by decide +kernel
theorem dX0_reads_55 : decode cX0_reads 55 = .ok (.iastore, 1) := by decide +kernel
theorem dX0_reads_56 : decode cX0_reads 56 = .ok (.iinc 1 1, 3) := by decide +kernel
theorem dX0_reads_59 : decode cX0_reads 59 = .ok (.goto (-38), 3) := by decide +kernel
theorem dX0_reads_62 : decode cX0_reads 62 = .ok (.aload_n 0, 1) := by decide +kernel
theorem dX0_reads_63 : decode cX0_reads 63 = .ok (.iconst 0, 1) := by decide +kernel
theorem dX0_reads_64 : decode cX0_reads 64 = .ok (.invokevirtual 50, 3) := by decide +kernel
theorem dX0_reads_67 : decode cX0_reads 67 = .ok (.aload_n 0, 1) := by decide +kernel
theorem dX0_reads_68 : decode cX0_reads 68 = .ok (.iconst 0, 1) := by decide +kernel
theorem dX0_reads_69 : decode cX0_reads 69 = .ok (.putfield 21, 3) := by decide +kernel
theorem dX0_reads_72 : decode cX0_reads 72 = .ok (.aload_n 0, 1) := by decide +kernel
theorem dX0_reads_73 : decode cX0_reads 73 = .ok (.getfield 44, 3) := by decide +kernel
theorem dX0_reads_76 : decode cX0_reads 76 = .ok (.iconst (-1), 1) := by decide +kernel
theorem dX0_reads_77 : decode cX0_reads 77 = .ok (.if_icmp .ne 7, 3) := by decide +kernel
theorem dX0_reads_80 : decode cX0_reads 80 = .ok (.iconst 1, 1) := by decide +kernel
theorem dX0_reads_81 : decode cX0_reads 81 = .ok (.goto 4, 3) := by decide +kernel
theorem dX0_reads_84 : decode cX0_reads 84 = .ok (.iconst 0, 1) := by decide +kernel
theorem dX0_reads_85 : decode cX0_reads 85 = .ok (.ireturn, 1) := by decide +kernel
theorem dX0_demand_0 : decode cX0_demand 0 = .ok (.aload_n 0, 1) := by decide +kernel
theorem dX0_demand_1 : decode cX0_demand 1 = .ok (.getfield 58, 3) := by decide +kernel
theorem dX0_demand_4 : decode cX0_demand 4 = .ok (.iload_n 1, 1) := by decide +kernel
theorem dX0_demand_5 : decode cX0_demand 5 = .ok (.if_icmp .ne 10, 3) := by decide +kernel
theorem dX0_demand_8 : decode cX0_demand 8 = .ok (.aload_n 0, 1) := by decide +kernel
theorem dX0_demand_9 : decode cX0_demand 9 = .ok (.invokevirtual 47, 3) := by decide +kernel
theorem dX0_demand_12 : decode cX0_demand 12 = .ok (.goto 7, 3) := by decide +kernel
theorem dX0_demand_15 : decode cX0_demand 15 = .ok (.aload_n 0, 1) := by decide +kernel
theorem dX0_demand_16 : decode cX0_demand 16 = .ok (.invokevirtual 61, 3) := by decide +kernel
theorem dX0_demand_19 : decode cX0_demand 19 = .ok (.return_, 1) := by decide +kernel
theorem dX0_breakOff_0 : decode cX0_breakOff 0 = .ok (.aload_n 0, 1) := by decide +kernel
theorem dX0_breakOff_1 : decode cX0_breakOff 1 = .ok (.getfield 44, 3) := by decide +kernel
theorem dX0_breakOff_4 : decode cX0_breakOff 4 = .ok (.iconst (-1), 1) := by decide +kernel
theorem dX0_breakOff_5 : decode cX0_breakOff 5 = .ok (.if_icmp .ne 11, 3) := by decide +kernel
theorem dX0_breakOff_8 : decode cX0_breakOff 8 = .ok (.aload_n 0, 1) := by decide +kernel
theorem dX0_breakOff_9 : decode cX0_breakOff 9 = .ok (.aload_n 0, 1) := by decide +kernel
theorem dX0_breakOff_10 : decode cX0_breakOff 10 = .ok (.getfield 64, 3) := by decide +kernel
theorem dX0_breakOff_13 : decode cX0_breakOff 13 = .ok (.putfield 44, 3) := by decide +kernel
theorem dX0_breakOff_16 : decode cX0_breakOff 16 = .ok (.aload_n 0, 1) := by decide +kernel
theorem dX0_breakOff_17 : decode cX0_breakOff 17 = .ok (.iconst 1, 1) := by decide +kernel
theorem dX0_breakOff_18 : decode cX0_breakOff 18 = .ok (.putfield 58, 3) := by decide +kernel
theorem dX0_breakOff_21 : decode cX0_breakOff 21 = .ok (.return_, 1) := by decide +kernel
theorem dX0_put_0 : decode cX0_put 0 = .ok (.aload_n 0, 1) := by decide +kernel
theorem dX0_put_1 : decode cX0_put 1 = .ok (.getfield 42, 3) := by decide +kernel
theorem dX0_put_4 : decode cX0_put 4 = .ok (.ifCond .lt 33, 3) := by decide +kernel
theorem dX0_put_7 : decode cX0_put 7 = .ok (.aload_n 0, 1) := by decide +kernel
theorem dX0_put_8 : decode cX0_put 8 = .ok (.getfield 42, 3) := by decide +kernel
theorem dX0_put_11 : decode cX0_put 11 = .ok (.sipush 160, 3) := by decide +kernel
theorem dX0_put_14 : decode cX0_put 14 = .ok (.if_icmp .ge 23, 3) := by decide +kernel
theorem dX0_put_17 : decode cX0_put 17 = .ok (.aload_n 0, 1) := by decide +kernel
theorem dX0_put_18 : decode cX0_put 18 = .ok (.getfield 15, 3) := by decide +kernel
theorem dX0_put_21 : decode cX0_put 21 = .ok (.aload_n 0, 1) := by decide +kernel
theorem dX0_put_22 : decode cX0_put 22 = .ok (.getfield 42, 3) := by decide +kernel
theorem dX0_put_25 : decode cX0_put 25 = .ok (.iload_n 1, 1) := by decide +kernel
theorem dX0_put_26 : decode cX0_put 26 = .ok (.iastore, 1) := by decide +kernel
theorem dX0_put_27 : decode cX0_put 27 = .ok (.aload_n 0, 1) := by decide +kernel
theorem dX0_put_28 : decode cX0_put 28 = .ok (.dup, 1) := by decide +kernel
theorem dX0_put_29 : decode cX0_put 29 = .ok (.getfield 42, 3) := by decide +kernel
theorem dX0_put_32 : decode cX0_put 32 = .ok (.iconst 1, 1) := by decide +kernel
theorem dX0_put_33 : decode cX0_put 33 = .ok (.iadd, 1) := by decide +kernel
theorem dX0_put_34 : decode cX0_put 34 = .ok (.putfield 42, 3) := by decide +kernel
theorem dX0_put_37 : decode cX0_put 37 = .ok (.return_, 1) := by decide +kernel
theorem dX0_reckon_0 : decode cX0_reckon 0 = .ok (.iload_n 1, 1) := by decide +kernel
theorem dX0_reckon_1 : decode cX0_reckon 1 = .ok (.iconst 5, 1) := by decide +kernel
theorem dX0_reckon_2 : decode cX0_reckon 2 = .ok (.if_icmp .lt 9, 3) := by decide +kernel
theorem dX0_reckon_5 : decode cX0_reckon 5 = .ok (.aload_n 0, 1) := by decide +kernel
theorem dX0_reckon_6 : decode cX0_reckon 6 = .ok (.iload_n 2, 1) := by decide +kernel
theorem dX0_reckon_7 : decode cX0_reckon 7 = .ok (.invokevirtual 67, 3) := by decide +kernel
theorem dX0_reckon_10 : decode cX0_reckon 10 = .ok (.return_, 1) := by decide +kernel
theorem dX0_reckon_11 : decode cX0_reckon 11 = .ok (.iload_n 1, 1) := by decide +kernel
theorem dX0_reckon_12 : decode cX0_reckon 12 = .ok (.iconst 2, 1) := by decide +kernel
theorem dX0_reckon_13 : decode cX0_reckon 13 = .ok (.if_icmp .ne 42, 3) := by decide +kernel
theorem dX0_reckon_16 : decode cX0_reckon 16 = .ok (.aload_n 0, 1) := by decide +kernel
theorem dX0_reckon_17 : decode cX0_reckon 17 = .ok (.getfield 58, 3) := by decide +kernel
theorem dX0_reckon_20 : decode cX0_reckon 20 = .ok (.bipush 105, 2) := by decide +kernel
theorem dX0_reckon_22 : decode cX0_reckon 22 = .ok (.if_icmp .ne 33, 3) := by decide +kernel
theorem dX0_reckon_25 : decode cX0_reckon 25 = .ok (.iload_n 2, 1) := by decide +kernel
theorem dX0_reckon_26 : decode cX0_reckon 26 = .ok (.iconst 5, 1) := by decide +kernel
theorem dX0_reckon_27 : decode cX0_reckon 27 = .ok (.if_icmp .lt 8, 3) := by decide +kernel
theorem dX0_reckon_30 : decode cX0_reckon 30 = .ok (.aload_n 0, 1) := by decide +kernel
theorem dX0_reckon_31 : decode cX0_reckon 31 = .ok (.invokevirtual 61, 3) := by decide +kernel
theorem dX0_reckon_34 : decode cX0_reckon 34 = .ok (.return_, 1) := by decide +kernel
theorem dX0_reckon_35 : decode cX0_reckon 35 = .ok (.aload_n 0, 1) := by decide +kernel
theorem dX0_reckon_36 : decode cX0_reckon 36 = .ok (.invokevirtual 47, 3) := by decide +kernel
theorem dX0_reckon_39 : decode cX0_reckon 39 = .ok (.aload_n 0, 1) := by decide +kernel
theorem dX0_reckon_40 : decode cX0_reckon 40 = .ok (.iconst 2, 1) := by decide +kernel
theorem dX0_reckon_41 : decode cX0_reckon 41 = .ok (.iload_n 2, 1) := by decide +kernel
theorem dX0_reckon_42 : decode cX0_reckon 42 = .ok (.iconst 1, 1) := by decide +kernel
theorem dX0_reckon_43 : decode cX0_reckon 43 = .ok (.iadd, 1) := by decide +kernel
theorem dX0_reckon_44 : decode cX0_reckon 44 = .ok (.invokevirtual 54, 3) := by decide +kernel
theorem dX0_reckon_47 : decode cX0_reckon 47 = .ok (.aload_n 0, 1) := by decide +kernel
theorem dX0_reckon_48 : decode cX0_reckon 48 = .ok (.sipush 20105, 3) := by decide +kernel
theorem dX0_reckon_51 : decode cX0_reckon 51 = .ok (.invokevirtual 70, 3) := by decide +kernel
theorem dX0_reckon_54 : decode cX0_reckon 54 = .ok (.return_, 1) := by decide +kernel
theorem dX0_reckon_55 : decode cX0_reckon 55 = .ok (.aload_n 0, 1) := by decide +kernel
theorem dX0_reckon_56 : decode cX0_reckon 56 = .ok (.iload_n 1, 1) := by decide +kernel
theorem dX0_reckon_57 : decode cX0_reckon 57 = .ok (.iconst 1, 1) := by decide +kernel
theorem dX0_reckon_58 : decode cX0_reckon 58 = .ok (.iadd, 1) := by decide +kernel
theorem dX0_reckon_59 : decode cX0_reckon 59 = .ok (.iload_n 2, 1) := by decide +kernel
theorem dX0_reckon_60 : decode cX0_reckon 60 = .ok (.invokevirtual 54, 3) := by decide +kernel
theorem dX0_reckon_63 : decode cX0_reckon 63 = .ok (.iload_n 1, 1) := by decide +kernel
theorem dX0_reckon_64 : decode cX0_reckon 64 = .ok (.iconst 2, 1) := by decide +kernel
theorem dX0_reckon_65 : decode cX0_reckon 65 = .ok (.if_icmp .ne 7, 3) := by decide +kernel
theorem dX0_reckon_68 : decode cX0_reckon 68 = .ok (.iconst 1, 1) := by decide +kernel
theorem dX0_reckon_69 : decode cX0_reckon 69 = .ok (.goto 6, 3) := by decide +kernel
theorem dX0_reckon_72 : decode cX0_reckon 72 = .ok (.sipush 160, 3) := by decide +kernel
theorem dX0_reckon_75 : decode cX0_reckon 75 = .ok (.istore_n 3, 1) := by decide +kernel
theorem dX0_reckon_76 : decode cX0_reckon 76 = .ok (.iconst 0, 1) := by decide +kernel
theorem dX0_reckon_77 : decode cX0_reckon 77 = .ok (.istore 4, 2) := by decide +kernel
theorem dX0_reckon_79 : decode cX0_reckon 79 = .ok (.iload 4, 2) := by decide +kernel
theorem dX0_reckon_81 : decode cX0_reckon 81 = .ok (.iload_n 3, 1) := by decide +kernel
theorem dX0_reckon_82 : decode cX0_reckon 82 = .ok (.if_icmp .ge 48, 3) := by decide +kernel
theorem dX0_reckon_85 : decode cX0_reckon 85 = .ok (.aload_n 0, 1) := by decide +kernel
theorem dX0_reckon_86 : decode cX0_reckon 86 = .ok (.getfield 58, 3) := by decide +kernel
theorem dX0_reckon_89 : decode cX0_reckon 89 = .ok (.invokestatic 73, 3) := by decide +kernel
theorem dX0_reckon_92 : decode cX0_reckon 92 = .ok (.iload_n 1, 1) := by decide +kernel
theorem dX0_reckon_93 : decode cX0_reckon 93 = .ok (.if_icmp .ne 37, 3) := by decide +kernel
theorem dX0_reckon_96 : decode cX0_reckon 96 = .ok (.aload_n 0, 1) := by decide +kernel
theorem dX0_reckon_97 : decode cX0_reckon 97 = .ok (.getfield 58, 3) := by decide +kernel
theorem dX0_reckon_100 : decode cX0_reckon 100 = .ok (.istore 5, 2) := by decide +kernel
theorem dX0_reckon_102 : decode cX0_reckon 102 = .ok (.aload_n 0, 1) := by decide +kernel
theorem dX0_reckon_103 : decode cX0_reckon 103 = .ok (.invokevirtual 47, 3) := by decide +kernel
theorem dX0_reckon_106 : decode cX0_reckon 106 = .ok (.aload_n 0, 1) := by decide +kernel
theorem dX0_reckon_107 : decode cX0_reckon 107 = .ok (.iload_n 1, 1) := by decide +kernel
theorem dX0_reckon_108 : decode cX0_reckon 108 = .ok (.iconst 1, 1) := by decide +kernel
theorem dX0_reckon_109 : decode cX0_reckon 109 = .ok (.iadd, 1) := by decide +kernel
theorem dX0_reckon_110 : decode cX0_reckon 110 = .ok (.iload_n 2, 1) := by decide +kernel
theorem dX0_reckon_111 : decode cX0_reckon 111 = .ok (.invokevirtual 54, 3) := by decide +kernel
theorem dX0_reckon_114 : decode cX0_reckon 114 = .ok (.aload_n 0, 1) := by decide +kernel
theorem dX0_reckon_115 : decode cX0_reckon 115 = .ok (.sipush 20000, 3) := by decide +kernel
theorem dX0_reckon_118 : decode cX0_reckon 118 = .ok (.iload 5, 2) := by decide +kernel
theorem dX0_reckon_120 : decode cX0_reckon 120 = .ok (.iadd, 1) := by decide +kernel
theorem dX0_reckon_121 : decode cX0_reckon 121 = .ok (.invokevirtual 70, 3) := by decide +kernel
theorem dX0_reckon_124 : decode cX0_reckon 124 = .ok (.iinc 4 1, 3) := by decide +kernel
theorem dX0_reckon_127 : decode cX0_reckon 127 = .ok (.goto (-48), 3) := by decide +kernel
theorem dX0_reckon_130 : decode cX0_reckon 130 = .ok (.return_, 1) := by decide +kernel
theorem dX0_one_0 : decode cX0_one 0 = .ok (.aload_n 0, 1) := by decide +kernel
theorem dX0_one_1 : decode cX0_one 1 = .ok (.getfield 58, 3) := by decide +kernel
theorem dX0_one_4 : decode cX0_one 4 = .ok (.istore_n 2, 1) := by decide +kernel
theorem dX0_one_5 : decode cX0_one 5 = .ok (.iload_n 2, 1) := by decide +kernel
theorem dX0_one_6 : decode cX0_one 6 = .ok (.iconst 2, 1) := by decide +kernel
theorem dX0_one_7 : decode cX0_one 7 = .ok (.if_icmp .eq 8, 3) := by decide +kernel
theorem dX0_one_10 : decode cX0_one 10 = .ok (.iload_n 2, 1) := by decide +kernel
theorem dX0_one_11 : decode cX0_one 11 = .ok (.iconst 3, 1) := by decide +kernel
theorem dX0_one_12 : decode cX0_one 12 = .ok (.if_icmp .ne 16, 3) := by decide +kernel
theorem dX0_one_15 : decode cX0_one 15 = .ok (.aload_n 0, 1) := by decide +kernel
theorem dX0_one_16 : decode cX0_one 16 = .ok (.aload_n 0, 1) := by decide +kernel
theorem dX0_one_17 : decode cX0_one 17 = .ok (.getfield 77, 3) := by decide +kernel
theorem dX0_one_20 : decode cX0_one 20 = .ok (.invokevirtual 70, 3) := by decide +kernel
theorem dX0_one_23 : decode cX0_one 23 = .ok (.aload_n 0, 1) := by decide +kernel
theorem dX0_one_24 : decode cX0_one 24 = .ok (.invokevirtual 47, 3) := by decide +kernel
theorem dX0_one_27 : decode cX0_one 27 = .ok (.return_, 1) := by decide +kernel
theorem dX0_one_28 : decode cX0_one 28 = .ok (.iload_n 2, 1) := by decide +kernel
theorem dX0_one_29 : decode cX0_one 29 = .ok (.bipush 45, 2) := by decide +kernel
theorem dX0_one_31 : decode cX0_one 31 = .ok (.if_icmp .eq 9, 3) := by decide +kernel
theorem dX0_one_34 : decode cX0_one 34 = .ok (.iload_n 2, 1) := by decide +kernel
theorem dX0_one_35 : decode cX0_one 35 = .ok (.bipush 40, 2) := by decide +kernel
theorem dX0_one_37 : decode cX0_one 37 = .ok (.if_icmp .ne 8, 3) := by decide +kernel
theorem dX0_one_40 : decode cX0_one 40 = .ok (.iload_n 1, 1) := by decide +kernel
theorem dX0_one_41 : decode cX0_one 41 = .ok (.iconst 5, 1) := by decide +kernel
theorem dX0_one_42 : decode cX0_one 42 = .ok (.if_icmp .lt 8, 3) := by decide +kernel
theorem dX0_one_45 : decode cX0_one 45 = .ok (.aload_n 0, 1) := by decide +kernel
theorem dX0_one_46 : decode cX0_one 46 = .ok (.invokevirtual 61, 3) := by decide +kernel
theorem dX0_one_49 : decode cX0_one 49 = .ok (.return_, 1) := by decide +kernel
theorem dX0_one_50 : decode cX0_one 50 = .ok (.aload_n 0, 1) := by decide +kernel
theorem dX0_one_51 : decode cX0_one 51 = .ok (.invokevirtual 47, 3) := by decide +kernel
theorem dX0_one_54 : decode cX0_one 54 = .ok (.iload_n 2, 1) := by decide +kernel
theorem dX0_one_55 : decode cX0_one 55 = .ok (.bipush 45, 2) := by decide +kernel
theorem dX0_one_57 : decode cX0_one 57 = .ok (.if_icmp .ne 18, 3) := by decide +kernel
theorem dX0_one_60 : decode cX0_one 60 = .ok (.aload_n 0, 1) := by decide +kernel
theorem dX0_one_61 : decode cX0_one 61 = .ok (.iload_n 1, 1) := by decide +kernel
theorem dX0_one_62 : decode cX0_one 62 = .ok (.iconst 1, 1) := by decide +kernel
theorem dX0_one_63 : decode cX0_one 63 = .ok (.iadd, 1) := by decide +kernel
theorem dX0_one_64 : decode cX0_one 64 = .ok (.invokevirtual 67, 3) := by decide +kernel
theorem dX0_one_67 : decode cX0_one 67 = .ok (.aload_n 0, 1) := by decide +kernel
theorem dX0_one_68 : decode cX0_one 68 = .ok (.sipush 20000, 3) := by decide +kernel
theorem dX0_one_71 : decode cX0_one 71 = .ok (.invokevirtual 70, 3) := by decide +kernel
theorem dX0_one_74 : decode cX0_one 74 = .ok (.return_, 1) := by decide +kernel
theorem dX0_one_75 : decode cX0_one 75 = .ok (.aload_n 0, 1) := by decide +kernel
theorem dX0_one_76 : decode cX0_one 76 = .ok (.iconst 0, 1) := by decide +kernel
theorem dX0_one_77 : decode cX0_one 77 = .ok (.iload_n 1, 1) := by decide +kernel
theorem dX0_one_78 : decode cX0_one 78 = .ok (.iconst 1, 1) := by decide +kernel
theorem dX0_one_79 : decode cX0_one 79 = .ok (.iadd, 1) := by decide +kernel
theorem dX0_one_80 : decode cX0_one 80 = .ok (.invokevirtual 54, 3) := by decide +kernel
theorem dX0_one_83 : decode cX0_one 83 = .ok (.aload_n 0, 1) := by decide +kernel
theorem dX0_one_84 : decode cX0_one 84 = .ok (.getfield 58, 3) := by decide +kernel
theorem dX0_one_87 : decode cX0_one 87 = .ok (.bipush 41, 2) := by decide +kernel
theorem dX0_one_89 : decode cX0_one 89 = .ok (.if_icmp .ne 10, 3) := by decide +kernel
theorem dX0_one_92 : decode cX0_one 92 = .ok (.aload_n 0, 1) := by decide +kernel
theorem dX0_one_93 : decode cX0_one 93 = .ok (.invokevirtual 47, 3) := by decide +kernel
theorem dX0_one_96 : decode cX0_one 96 = .ok (.goto 7, 3) := by decide +kernel
theorem dX0_one_99 : decode cX0_one 99 = .ok (.aload_n 0, 1) := by decide +kernel
theorem dX0_one_100 : decode cX0_one 100 = .ok (.invokevirtual 61, 3) := by decide +kernel
theorem dX0_one_103 : decode cX0_one 103 = .ok (.return_, 1) := by decide +kernel
theorem dX0_levelOf_0 : decode cX0_levelOf 0 = .ok (.iload_n 0, 1) := by decide +kernel
theorem dX0_levelOf_1 : decode cX0_levelOf 1 = .ok (.lookupswitch 77 #[(42, 75), (43, 73), (45, 73), (60, 71), (61, 71), (103, 67), (104, 69)], 67) := by decide +kernel
theorem dX0_levelOf_68 : decode cX0_levelOf 68 = .ok (.iconst 0, 1) := by decide +kernel
theorem dX0_levelOf_69 : decode cX0_levelOf 69 = .ok (.ireturn, 1) := by decide +kernel
theorem dX0_levelOf_70 : decode cX0_levelOf 70 = .ok (.iconst 1, 1) := by decide +kernel
theorem dX0_levelOf_71 : decode cX0_levelOf 71 = .ok (.ireturn, 1) := by decide +kernel
theorem dX0_levelOf_72 : decode cX0_levelOf 72 = .ok (.iconst 2, 1) := by decide +kernel
theorem dX0_levelOf_73 : decode cX0_levelOf 73 = .ok (.ireturn, 1) := by decide +kernel
theorem dX0_levelOf_74 : decode cX0_levelOf 74 = .ok (.iconst 3, 1) := by decide +kernel
theorem dX0_levelOf_75 : decode cX0_levelOf 75 = .ok (.ireturn, 1) := by decide +kernel
theorem dX0_levelOf_76 : decode cX0_levelOf 76 = .ok (.iconst 4, 1) := by decide +kernel
theorem dX0_levelOf_77 : decode cX0_levelOf 77 = .ok (.ireturn, 1) := by decide +kernel
theorem dX0_levelOf_78 : decode cX0_levelOf 78 = .ok (.iconst (-1), 1) := by decide +kernel
theorem dX0_levelOf_79 : decode cX0_levelOf 79 = .ok (.ireturn, 1) := by decide +kernel
theorem dX0_byteAt_0 : decode cX0_byteAt 0 = .ok (.iload_n 1, 1) := by decide +kernel
theorem dX0_byteAt_1 : decode cX0_byteAt 1 = .ok (.ifCond .lt 27, 3) := by decide +kernel
theorem dX0_byteAt_4 : decode cX0_byteAt 4 = .ok (.iload_n 1, 1) := by decide +kernel
theorem dX0_byteAt_5 : decode cX0_byteAt 5 = .ok (.aload_n 0, 1) := by decide +kernel
theorem dX0_byteAt_6 : decode cX0_byteAt 6 = .ok (.getfield 21, 3) := by decide +kernel
theorem dX0_byteAt_9 : decode cX0_byteAt 9 = .ok (.if_icmp .ge 19, 3) := by decide +kernel
theorem dX0_byteAt_12 : decode cX0_byteAt 12 = .ok (.iload_n 1, 1) := by decide +kernel
theorem dX0_byteAt_13 : decode cX0_byteAt 13 = .ok (.sipush 160, 3) := by decide +kernel
theorem dX0_byteAt_16 : decode cX0_byteAt 16 = .ok (.if_icmp .ge 12, 3) := by decide +kernel
theorem dX0_byteAt_19 : decode cX0_byteAt 19 = .ok (.aload_n 0, 1) := by decide +kernel
theorem dX0_byteAt_20 : decode cX0_byteAt 20 = .ok (.getfield 11, 3) := by decide +kernel
theorem dX0_byteAt_23 : decode cX0_byteAt 23 = .ok (.iload_n 1, 1) := by decide +kernel
theorem dX0_byteAt_24 : decode cX0_byteAt 24 = .ok (.iaload, 1) := by decide +kernel
theorem dX0_byteAt_25 : decode cX0_byteAt 25 = .ok (.goto 4, 3) := by decide +kernel
theorem dX0_byteAt_28 : decode cX0_byteAt 28 = .ok (.iconst (-1), 1) := by decide +kernel
theorem dX0_byteAt_29 : decode cX0_byteAt 29 = .ok (.ireturn, 1) := by decide +kernel
theorem dX0_step_0 : decode cX0_step 0 = .ok (.iconst 0, 1) := by decide +kernel
theorem dX0_step_1 : decode cX0_step 1 = .ok (.istore_n 1, 1) := by decide +kernel
theorem dX0_step_2 : decode cX0_step 2 = .ok (.iload_n 1, 1) := by decide +kernel
theorem dX0_step_3 : decode cX0_step 3 = .ok (.sipush 160, 3) := by decide +kernel
theorem dX0_step_6 : decode cX0_step 6 = .ok (.if_icmp .ge 45, 3) := by decide +kernel
theorem dX0_step_9 : decode cX0_step 9 = .ok (.aload_n 0, 1) := by decide +kernel
theorem dX0_step_10 : decode cX0_step 10 = .ok (.aload_n 0, 1) := by decide +kernel
theorem dX0_step_11 : decode cX0_step 11 = .ok (.getfield 39, 3) := by decide +kernel
theorem dX0_step_14 : decode cX0_step 14 = .ok (.invokevirtual 80, 3) := by decide +kernel
theorem dX0_step_17 : decode cX0_step 17 = .ok (.bipush 32, 2) := by decide +kernel
theorem dX0_step_19 : decode cX0_step 19 = .ok (.if_icmp .eq 16, 3) := by decide +kernel
theorem dX0_step_22 : decode cX0_step 22 = .ok (.aload_n 0, 1) := by decide +kernel
theorem dX0_step_23 : decode cX0_step 23 = .ok (.aload_n 0, 1) := by decide +kernel
theorem dX0_step_24 : decode cX0_step 24 = .ok (.getfield 39, 3) := by decide +kernel
theorem dX0_step_27 : decode cX0_step 27 = .ok (.invokevirtual 80, 3) := by decide +kernel
theorem dX0_step_30 : decode cX0_step 30 = .ok (.bipush 10, 2) := by decide +kernel
theorem dX0_step_32 : decode cX0_step 32 = .ok (.if_icmp .ne 19, 3) := by decide +kernel
theorem dX0_step_35 : decode cX0_step 35 = .ok (.aload_n 0, 1) := by decide +kernel
theorem dX0_step_36 : decode cX0_step 36 = .ok (.dup, 1) := by decide +kernel
theorem dX0_step_37 : decode cX0_step 37 = .ok (.getfield 39, 3) := by decide +kernel
theorem dX0_step_40 : decode cX0_step 40 = .ok (.iconst 1, 1) := by decide +kernel
theorem dX0_step_41 : decode cX0_step 41 = .ok (.iadd, 1) := by decide +kernel
theorem dX0_step_42 : decode cX0_step 42 = .ok (.putfield 39, 3) := by decide +kernel
theorem dX0_step_45 : decode cX0_step 45 = .ok (.iinc 1 1, 3) := by decide +kernel
theorem dX0_step_48 : decode cX0_step 48 = .ok (.goto (-46), 3) := by decide +kernel
theorem dX0_step_51 : decode cX0_step 51 = .ok (.aload_n 0, 1) := by decide +kernel
theorem dX0_step_52 : decode cX0_step 52 = .ok (.aload_n 0, 1) := by decide +kernel
theorem dX0_step_53 : decode cX0_step 53 = .ok (.getfield 39, 3) := by decide +kernel
theorem dX0_step_56 : decode cX0_step 56 = .ok (.putfield 64, 3) := by decide +kernel
theorem dX0_step_59 : decode cX0_step 59 = .ok (.aload_n 0, 1) := by decide +kernel
theorem dX0_step_60 : decode cX0_step 60 = .ok (.aload_n 0, 1) := by decide +kernel
theorem dX0_step_61 : decode cX0_step 61 = .ok (.getfield 39, 3) := by decide +kernel
theorem dX0_step_64 : decode cX0_step 64 = .ok (.invokevirtual 80, 3) := by decide +kernel
theorem dX0_step_67 : decode cX0_step 67 = .ok (.istore_n 1, 1) := by decide +kernel
theorem dX0_step_68 : decode cX0_step 68 = .ok (.iload_n 1, 1) := by decide +kernel
theorem dX0_step_69 : decode cX0_step 69 = .ok (.iconst (-1), 1) := by decide +kernel
theorem dX0_step_70 : decode cX0_step 70 = .ok (.if_icmp .ne 11, 3) := by decide +kernel
theorem dX0_step_73 : decode cX0_step 73 = .ok (.aload_n 0, 1) := by decide +kernel
theorem dX0_step_74 : decode cX0_step 74 = .ok (.iconst 0, 1) := by decide +kernel
theorem dX0_step_75 : decode cX0_step 75 = .ok (.putfield 58, 3) := by decide +kernel
theorem dX0_step_78 : decode cX0_step 78 = .ok (.goto 57, 3) := by decide +kernel
theorem dX0_step_81 : decode cX0_step 81 = .ok (.iload_n 1, 1) := by decide +kernel
theorem dX0_step_82 : decode cX0_step 82 = .ok (.invokestatic 83, 3) := by decide +kernel
theorem dX0_step_85 : decode cX0_step 85 = .ok (.ifCond .eq 10, 3) := by decide +kernel
theorem dX0_step_88 : decode cX0_step 88 = .ok (.aload_n 0, 1) := by decide +kernel
theorem dX0_step_89 : decode cX0_step 89 = .ok (.invokevirtual 86, 3) := by decide +kernel
theorem dX0_step_92 : decode cX0_step 92 = .ok (.goto 43, 3) := by decide +kernel
theorem dX0_step_95 : decode cX0_step 95 = .ok (.iload_n 1, 1) := by decide +kernel
theorem dX0_step_96 : decode cX0_step 96 = .ok (.invokestatic 89, 3) := by decide +kernel
theorem dX0_step_99 : decode cX0_step 99 = .ok (.ifCond .eq 10, 3) := by decide +kernel
theorem dX0_step_102 : decode cX0_step 102 = .ok (.aload_n 0, 1) := by decide +kernel
theorem dX0_step_103 : decode cX0_step 103 = .ok (.invokevirtual 92, 3) := by decide +kernel
theorem dX0_step_106 : decode cX0_step 106 = .ok (.goto 29, 3) := by decide +kernel
theorem dX0_step_109 : decode cX0_step 109 = .ok (.aload_n 0, 1) := by decide +kernel
theorem dX0_step_110 : decode cX0_step 110 = .ok (.iload_n 1, 1) := by decide +kernel
theorem dX0_step_111 : decode cX0_step 111 = .ok (.invokestatic 95, 3) := by decide +kernel
theorem dX0_step_114 : decode cX0_step 114 = .ok (.ifCond .eq 7, 3) := by decide +kernel
theorem dX0_step_117 : decode cX0_step 117 = .ok (.iload_n 1, 1) := by decide +kernel
theorem dX0_step_118 : decode cX0_step 118 = .ok (.goto 4, 3) := by decide +kernel
theorem dX0_step_121 : decode cX0_step 121 = .ok (.iconst 1, 1) := by decide +kernel
theorem dX0_step_122 : decode cX0_step 122 = .ok (.putfield 58, 3) := by decide +kernel
theorem dX0_step_125 : decode cX0_step 125 = .ok (.aload_n 0, 1) := by decide +kernel
theorem dX0_step_126 : decode cX0_step 126 = .ok (.dup, 1) := by decide +kernel
theorem dX0_step_127 : decode cX0_step 127 = .ok (.getfield 39, 3) := by decide +kernel
theorem dX0_step_130 : decode cX0_step 130 = .ok (.iconst 1, 1) := by decide +kernel
theorem dX0_step_131 : decode cX0_step 131 = .ok (.iadd, 1) := by decide +kernel
theorem dX0_step_132 : decode cX0_step 132 = .ok (.putfield 39, 3) := by decide +kernel
theorem dX0_step_135 : decode cX0_step 135 = .ok (.return_, 1) := by decide +kernel
theorem dX0_readWord_0 : decode cX0_readWord 0 = .ok (.iconst 0, 1) := by decide +kernel
theorem dX0_readWord_1 : decode cX0_readWord 1 = .ok (.istore_n 1, 1) := by decide +kernel
theorem dX0_readWord_2 : decode cX0_readWord 2 = .ok (.iload_n 1, 1) := by decide +kernel
theorem dX0_readWord_3 : decode cX0_readWord 3 = .ok (.sipush 160, 3) := by decide +kernel
theorem dX0_readWord_6 : decode cX0_readWord 6 = .ok (.if_icmp .ge 33, 3) := by decide +kernel
theorem dX0_readWord_9 : decode cX0_readWord 9 = .ok (.aload_n 0, 1) := by decide +kernel
theorem dX0_readWord_10 : decode cX0_readWord 10 = .ok (.aload_n 0, 1) := by decide +kernel
theorem dX0_readWord_11 : decode cX0_readWord 11 = .ok (.getfield 39, 3) := by decide +kernel
theorem dX0_readWord_14 : decode cX0_readWord 14 = .ok (.invokevirtual 80, 3) := by decide +kernel
theorem dX0_readWord_17 : decode cX0_readWord 17 = .ok (.invokestatic 83, 3) := by decide +kernel
theorem dX0_readWord_20 : decode cX0_readWord 20 = .ok (.ifCond .eq 19, 3) := by decide +kernel
theorem dX0_readWord_23 : decode cX0_readWord 23 = .ok (.aload_n 0, 1) := by decide +kernel
theorem dX0_readWord_24 : decode cX0_readWord 24 = .ok (.dup, 1) := by decide +kernel
theorem dX0_readWord_25 : decode cX0_readWord 25 = .ok (.getfield 39, 3) := by decide +kernel
theorem dX0_readWord_28 : decode cX0_readWord 28 = .ok (.iconst 1, 1) := by decide +kernel
theorem dX0_readWord_29 : decode cX0_readWord 29 = .ok (.iadd, 1) := by decide +kernel
theorem dX0_readWord_30 : decode cX0_readWord 30 = .ok (.putfield 39, 3) := by decide +kernel
theorem dX0_readWord_33 : decode cX0_readWord 33 = .ok (.iinc 1 1, 3) := by decide +kernel
theorem dX0_readWord_36 : decode cX0_readWord 36 = .ok (.goto (-34), 3) := by decide +kernel
theorem dX0_readWord_39 : decode cX0_readWord 39 = .ok (.aload_n 0, 1) := by decide +kernel
theorem dX0_readWord_40 : decode cX0_readWord 40 = .ok (.iconst 1, 1) := by decide +kernel
theorem dX0_readWord_41 : decode cX0_readWord 41 = .ok (.putfield 58, 3) := by decide +kernel
theorem dX0_readWord_44 : decode cX0_readWord 44 = .ok (.iconst 0, 1) := by decide +kernel
theorem dX0_readWord_45 : decode cX0_readWord 45 = .ok (.istore_n 1, 1) := by decide +kernel
theorem dX0_readWord_46 : decode cX0_readWord 46 = .ok (.iload_n 1, 1) := by decide +kernel
theorem dX0_readWord_47 : decode cX0_readWord 47 = .ok (.bipush 12, 2) := by decide +kernel
theorem dX0_readWord_49 : decode cX0_readWord 49 = .ok (.if_icmp .ge 50, 3) := by decide +kernel
theorem dX0_readWord_52 : decode cX0_readWord 52 = .ok (.aload_n 0, 1) := by decide +kernel
theorem dX0_readWord_53 : decode cX0_readWord 53 = .ok (.iload_n 1, 1) := by decide +kernel
theorem dX0_readWord_54 : decode cX0_readWord 54 = .ok (.invokestatic 98, 3) := by decide +kernel
theorem dX0_readWord_57 : decode cX0_readWord 57 = .ok (.invokevirtual 102, 3) := by decide +kernel
theorem dX0_readWord_60 : decode cX0_readWord 60 = .ok (.ifCond .eq 33, 3) := by decide +kernel
theorem dX0_readWord_63 : decode cX0_readWord 63 = .ok (.aload_n 0, 1) := by decide +kernel
theorem dX0_readWord_64 : decode cX0_readWord 64 = .ok (.iload_n 1, 1) := by decide +kernel
theorem dX0_readWord_65 : decode cX0_readWord 65 = .ok (.bipush 6, 2) := by decide +kernel
theorem dX0_readWord_67 : decode cX0_readWord 67 = .ok (.if_icmp .ge 7, 3) := by decide +kernel
theorem dX0_readWord_70 : decode cX0_readWord 70 = .ok (.iconst 3, 1) := by decide +kernel
theorem dX0_readWord_71 : decode cX0_readWord 71 = .ok (.goto 10, 3) := by decide +kernel
theorem dX0_readWord_74 : decode cX0_readWord 74 = .ok (.bipush 100, 2) := by decide +kernel
theorem dX0_readWord_76 : decode cX0_readWord 76 = .ok (.iload_n 1, 1) := by decide +kernel
theorem dX0_readWord_77 : decode cX0_readWord 77 = .ok (.iadd, 1) := by decide +kernel
theorem dX0_readWord_78 : decode cX0_readWord 78 = .ok (.bipush 6, 2) := by decide +kernel
theorem dX0_readWord_80 : decode cX0_readWord 80 = .ok (.isub, 1) := by decide +kernel
theorem dX0_readWord_81 : decode cX0_readWord 81 = .ok (.putfield 58, 3) := by decide +kernel
theorem dX0_readWord_84 : decode cX0_readWord 84 = .ok (.aload_n 0, 1) := by decide +kernel
theorem dX0_readWord_85 : decode cX0_readWord 85 = .ok (.sipush 10000, 3) := by decide +kernel
theorem dX0_readWord_88 : decode cX0_readWord 88 = .ok (.iload_n 1, 1) := by decide +kernel
theorem dX0_readWord_89 : decode cX0_readWord 89 = .ok (.iadd, 1) := by decide +kernel
theorem dX0_readWord_90 : decode cX0_readWord 90 = .ok (.putfield 77, 3) := by decide +kernel
theorem dX0_readWord_93 : decode cX0_readWord 93 = .ok (.iinc 1 1, 3) := by decide +kernel
theorem dX0_readWord_96 : decode cX0_readWord 96 = .ok (.goto (-50), 3) := by decide +kernel
theorem dX0_readWord_99 : decode cX0_readWord 99 = .ok (.return_, 1) := by decide +kernel
theorem dX0_isWord_0 : decode cX0_isWord 0 = .ok (.aload_n 1, 1) := by decide +kernel
theorem dX0_isWord_1 : decode cX0_isWord 1 = .ok (.ifnull 19, 3) := by decide +kernel
theorem dX0_isWord_4 : decode cX0_isWord 4 = .ok (.aload_n 1, 1) := by decide +kernel
theorem dX0_isWord_5 : decode cX0_isWord 5 = .ok (.invokevirtual 25, 3) := by decide +kernel
theorem dX0_isWord_8 : decode cX0_isWord 8 = .ok (.aload_n 0, 1) := by decide +kernel
theorem dX0_isWord_9 : decode cX0_isWord 9 = .ok (.getfield 39, 3) := by decide +kernel
theorem dX0_isWord_12 : decode cX0_isWord 12 = .ok (.aload_n 0, 1) := by decide +kernel
theorem dX0_isWord_13 : decode cX0_isWord 13 = .ok (.getfield 64, 3) := by decide +kernel
theorem dX0_isWord_16 : decode cX0_isWord 16 = .ok (.isub, 1) := by decide +kernel
theorem dX0_isWord_17 : decode cX0_isWord 17 = .ok (.if_icmp .eq 5, 3) := by decide +kernel
theorem dX0_isWord_20 : decode cX0_isWord 20 = .ok (.iconst 0, 1) := by decide +kernel
theorem dX0_isWord_21 : decode cX0_isWord 21 = .ok (.ireturn, 1) := by decide +kernel
theorem dX0_isWord_22 : decode cX0_isWord 22 = .ok (.iconst 0, 1) := by decide +kernel
theorem dX0_isWord_23 : decode cX0_isWord 23 = .ok (.istore_n 2, 1) := by decide +kernel
theorem dX0_isWord_24 : decode cX0_isWord 24 = .ok (.iload_n 2, 1) := by decide +kernel
theorem dX0_isWord_25 : decode cX0_isWord 25 = .ok (.aload_n 1, 1) := by decide +kernel
theorem dX0_isWord_26 : decode cX0_isWord 26 = .ok (.invokevirtual 25, 3) := by decide +kernel
theorem dX0_isWord_29 : decode cX0_isWord 29 = .ok (.if_icmp .ge 29, 3) := by decide +kernel
theorem dX0_isWord_32 : decode cX0_isWord 32 = .ok (.aload_n 1, 1) := by decide +kernel
theorem dX0_isWord_33 : decode cX0_isWord 33 = .ok (.iload_n 2, 1) := by decide +kernel
theorem dX0_isWord_34 : decode cX0_isWord 34 = .ok (.invokevirtual 31, 3) := by decide +kernel
theorem dX0_isWord_37 : decode cX0_isWord 37 = .ok (.aload_n 0, 1) := by decide +kernel
theorem dX0_isWord_38 : decode cX0_isWord 38 = .ok (.aload_n 0, 1) := by decide +kernel
theorem dX0_isWord_39 : decode cX0_isWord 39 = .ok (.getfield 64, 3) := by decide +kernel
theorem dX0_isWord_42 : decode cX0_isWord 42 = .ok (.iload_n 2, 1) := by decide +kernel
theorem dX0_isWord_43 : decode cX0_isWord 43 = .ok (.iadd, 1) := by decide +kernel
theorem dX0_isWord_44 : decode cX0_isWord 44 = .ok (.invokevirtual 80, 3) := by decide +kernel
theorem dX0_isWord_47 : decode cX0_isWord 47 = .ok (.if_icmp .eq 5, 3) := by decide +kernel
theorem dX0_isWord_50 : decode cX0_isWord 50 = .ok (.iconst 0, 1) := by decide +kernel
theorem dX0_isWord_51 : decode cX0_isWord 51 = .ok (.ireturn, 1) := by decide +kernel
theorem dX0_isWord_52 : decode cX0_isWord 52 = .ok (.iinc 2 1, 3) := by decide +kernel
theorem dX0_isWord_55 : decode cX0_isWord 55 = .ok (.goto (-31), 3) := by decide +kernel
theorem dX0_isWord_58 : decode cX0_isWord 58 = .ok (.iconst 1, 1) := by decide +kernel
theorem dX0_isWord_59 : decode cX0_isWord 59 = .ok (.ireturn, 1) := by decide +kernel
theorem dX0_readNumber_0 : decode cX0_readNumber 0 = .ok (.iconst 0, 1) := by decide +kernel
theorem dX0_readNumber_1 : decode cX0_readNumber 1 = .ok (.istore_n 1, 1) := by decide +kernel
theorem dX0_readNumber_2 : decode cX0_readNumber 2 = .ok (.iconst 0, 1) := by decide +kernel
theorem dX0_readNumber_3 : decode cX0_readNumber 3 = .ok (.istore_n 2, 1) := by decide +kernel
theorem dX0_readNumber_4 : decode cX0_readNumber 4 = .ok (.iconst 0, 1) := by decide +kernel
theorem dX0_readNumber_5 : decode cX0_readNumber 5 = .ok (.istore_n 3, 1) := by decide +kernel
theorem dX0_readNumber_6 : decode cX0_readNumber 6 = .ok (.iload_n 3, 1) := by decide +kernel
theorem dX0_readNumber_7 : decode cX0_readNumber 7 = .ok (.sipush 160, 3) := by decide +kernel
theorem dX0_readNumber_10 : decode cX0_readNumber 10 = .ok (.if_icmp .ge 58, 3) := by decide +kernel
theorem dX0_readNumber_13 : decode cX0_readNumber 13 = .ok (.aload_n 0, 1) := by decide +kernel
theorem dX0_readNumber_14 : decode cX0_readNumber 14 = .ok (.aload_n 0, 1) := by decide +kernel
theorem dX0_readNumber_15 : decode cX0_readNumber 15 = .ok (.getfield 39, 3) := by decide +kernel
theorem dX0_readNumber_18 : decode cX0_readNumber 18 = .ok (.invokevirtual 80, 3) := by decide +kernel
theorem dX0_readNumber_21 : decode cX0_readNumber 21 = .ok (.invokestatic 89, 3) := by decide +kernel
theorem dX0_readNumber_24 : decode cX0_readNumber 24 = .ok (.ifCond .eq 44, 3) := by decide +kernel
theorem dX0_readNumber_27 : decode cX0_readNumber 27 = .ok (.iload_n 2, 1) := by decide +kernel
theorem dX0_readNumber_28 : decode cX0_readNumber 28 = .ok (.iconst 4, 1) := by decide +kernel
theorem dX0_readNumber_29 : decode cX0_readNumber 29 = .ok (.if_icmp .ge 20, 3) := by decide +kernel
theorem dX0_readNumber_32 : decode cX0_readNumber 32 = .ok (.iload_n 1, 1) := by decide +kernel
theorem dX0_readNumber_33 : decode cX0_readNumber 33 = .ok (.bipush 10, 2) := by decide +kernel
theorem dX0_readNumber_35 : decode cX0_readNumber 35 = .ok (.imul, 1) := by decide +kernel
theorem dX0_readNumber_36 : decode cX0_readNumber 36 = .ok (.aload_n 0, 1) := by decide +kernel
theorem dX0_readNumber_37 : decode cX0_readNumber 37 = .ok (.aload_n 0, 1) := by decide +kernel
theorem dX0_readNumber_38 : decode cX0_readNumber 38 = .ok (.getfield 39, 3) := by decide +kernel
theorem dX0_readNumber_41 : decode cX0_readNumber 41 = .ok (.invokevirtual 80, 3) := by decide +kernel
theorem dX0_readNumber_44 : decode cX0_readNumber 44 = .ok (.iadd, 1) := by decide +kernel
theorem dX0_readNumber_45 : decode cX0_readNumber 45 = .ok (.bipush 48, 2) := by decide +kernel
theorem dX0_readNumber_47 : decode cX0_readNumber 47 = .ok (.isub, 1) := by decide +kernel
theorem dX0_readNumber_48 : decode cX0_readNumber 48 = .ok (.istore_n 1, 1) := by decide +kernel
theorem dX0_readNumber_49 : decode cX0_readNumber 49 = .ok (.iinc 2 1, 3) := by decide +kernel
theorem dX0_readNumber_52 : decode cX0_readNumber 52 = .ok (.aload_n 0, 1) := by decide +kernel
theorem dX0_readNumber_53 : decode cX0_readNumber 53 = .ok (.dup, 1) := by decide +kernel
theorem dX0_readNumber_54 : decode cX0_readNumber 54 = .ok (.getfield 39, 3) := by decide +kernel
theorem dX0_readNumber_57 : decode cX0_readNumber 57 = .ok (.iconst 1, 1) := by decide +kernel
theorem dX0_readNumber_58 : decode cX0_readNumber 58 = .ok (.iadd, 1) := by decide +kernel
theorem dX0_readNumber_59 : decode cX0_readNumber 59 = .ok (.putfield 39, 3) := by decide +kernel
theorem dX0_readNumber_62 : decode cX0_readNumber 62 = .ok (.iinc 3 1, 3) := by decide +kernel
theorem dX0_readNumber_65 : decode cX0_readNumber 65 = .ok (.goto (-59), 3) := by decide +kernel
theorem dX0_readNumber_68 : decode cX0_readNumber 68 = .ok (.aload_n 0, 1) := by decide +kernel
theorem dX0_readNumber_69 : decode cX0_readNumber 69 = .ok (.iload_n 2, 1) := by decide +kernel
theorem dX0_readNumber_70 : decode cX0_readNumber 70 = .ok (.iconst 4, 1) := by decide +kernel
theorem dX0_readNumber_71 : decode cX0_readNumber 71 = .ok (.if_icmp .le 7, 3) := by decide +kernel
theorem dX0_readNumber_74 : decode cX0_readNumber 74 = .ok (.iconst 1, 1) := by decide +kernel
theorem dX0_readNumber_75 : decode cX0_readNumber 75 = .ok (.goto 4, 3) := by decide +kernel
theorem dX0_readNumber_78 : decode cX0_readNumber 78 = .ok (.iconst 2, 1) := by decide +kernel
theorem dX0_readNumber_79 : decode cX0_readNumber 79 = .ok (.putfield 58, 3) := by decide +kernel
theorem dX0_readNumber_82 : decode cX0_readNumber 82 = .ok (.aload_n 0, 1) := by decide +kernel
theorem dX0_readNumber_83 : decode cX0_readNumber 83 = .ok (.iload_n 1, 1) := by decide +kernel
theorem dX0_readNumber_84 : decode cX0_readNumber 84 = .ok (.putfield 77, 3) := by decide +kernel
theorem dX0_readNumber_87 : decode cX0_readNumber 87 = .ok (.return_, 1) := by decide +kernel
theorem dX0_isLetter_0 : decode cX0_isLetter 0 = .ok (.iload_n 0, 1) := by decide +kernel
theorem dX0_isLetter_1 : decode cX0_isLetter 1 = .ok (.bipush 97, 2) := by decide +kernel
theorem dX0_isLetter_3 : decode cX0_isLetter 3 = .ok (.if_icmp .lt 13, 3) := by decide +kernel
theorem dX0_isLetter_6 : decode cX0_isLetter 6 = .ok (.iload_n 0, 1) := by decide +kernel
theorem dX0_isLetter_7 : decode cX0_isLetter 7 = .ok (.bipush 122, 2) := by decide +kernel
theorem dX0_isLetter_9 : decode cX0_isLetter 9 = .ok (.if_icmp .gt 7, 3) := by decide +kernel
theorem dX0_isLetter_12 : decode cX0_isLetter 12 = .ok (.iconst 1, 1) := by decide +kernel
theorem dX0_isLetter_13 : decode cX0_isLetter 13 = .ok (.goto 4, 3) := by decide +kernel
theorem dX0_isLetter_16 : decode cX0_isLetter 16 = .ok (.iconst 0, 1) := by decide +kernel
theorem dX0_isLetter_17 : decode cX0_isLetter 17 = .ok (.ireturn, 1) := by decide +kernel
theorem dX0_isDigit_0 : decode cX0_isDigit 0 = .ok (.iload_n 0, 1) := by decide +kernel
theorem dX0_isDigit_1 : decode cX0_isDigit 1 = .ok (.bipush 48, 2) := by decide +kernel
theorem dX0_isDigit_3 : decode cX0_isDigit 3 = .ok (.if_icmp .lt 13, 3) := by decide +kernel
theorem dX0_isDigit_6 : decode cX0_isDigit 6 = .ok (.iload_n 0, 1) := by decide +kernel
theorem dX0_isDigit_7 : decode cX0_isDigit 7 = .ok (.bipush 57, 2) := by decide +kernel
theorem dX0_isDigit_9 : decode cX0_isDigit 9 = .ok (.if_icmp .gt 7, 3) := by decide +kernel
theorem dX0_isDigit_12 : decode cX0_isDigit 12 = .ok (.iconst 1, 1) := by decide +kernel
theorem dX0_isDigit_13 : decode cX0_isDigit 13 = .ok (.goto 4, 3) := by decide +kernel
theorem dX0_isDigit_16 : decode cX0_isDigit 16 = .ok (.iconst 0, 1) := by decide +kernel
theorem dX0_isDigit_17 : decode cX0_isDigit 17 = .ok (.ireturn, 1) := by decide +kernel
theorem dX0_isSign_0 : decode cX0_isSign 0 = .ok (.iload_n 0, 1) := by decide +kernel
theorem dX0_isSign_1 : decode cX0_isSign 1 = .ok (.bipush 40, 2) := by decide +kernel
theorem dX0_isSign_3 : decode cX0_isSign 3 = .ok (.if_icmp .eq 45, 3) := by decide +kernel
theorem dX0_isSign_6 : decode cX0_isSign 6 = .ok (.iload_n 0, 1) := by decide +kernel
theorem dX0_isSign_7 : decode cX0_isSign 7 = .ok (.bipush 41, 2) := by decide +kernel
theorem dX0_isSign_9 : decode cX0_isSign 9 = .ok (.if_icmp .eq 39, 3) := by decide +kernel
theorem dX0_isSign_12 : decode cX0_isSign 12 = .ok (.iload_n 0, 1) := by decide +kernel
theorem dX0_isSign_13 : decode cX0_isSign 13 = .ok (.bipush 59, 2) := by decide +kernel
theorem dX0_isSign_15 : decode cX0_isSign 15 = .ok (.if_icmp .eq 33, 3) := by decide +kernel
theorem dX0_isSign_18 : decode cX0_isSign 18 = .ok (.iload_n 0, 1) := by decide +kernel
theorem dX0_isSign_19 : decode cX0_isSign 19 = .ok (.bipush 43, 2) := by decide +kernel
theorem dX0_isSign_21 : decode cX0_isSign 21 = .ok (.if_icmp .eq 27, 3) := by decide +kernel
theorem dX0_isSign_24 : decode cX0_isSign 24 = .ok (.iload_n 0, 1) := by decide +kernel
theorem dX0_isSign_25 : decode cX0_isSign 25 = .ok (.bipush 45, 2) := by decide +kernel
theorem dX0_isSign_27 : decode cX0_isSign 27 = .ok (.if_icmp .eq 21, 3) := by decide +kernel
theorem dX0_isSign_30 : decode cX0_isSign 30 = .ok (.iload_n 0, 1) := by decide +kernel
theorem dX0_isSign_31 : decode cX0_isSign 31 = .ok (.bipush 42, 2) := by decide +kernel
theorem dX0_isSign_33 : decode cX0_isSign 33 = .ok (.if_icmp .eq 15, 3) := by decide +kernel
theorem dX0_isSign_36 : decode cX0_isSign 36 = .ok (.iload_n 0, 1) := by decide +kernel
theorem dX0_isSign_37 : decode cX0_isSign 37 = .ok (.bipush 60, 2) := by decide +kernel
theorem dX0_isSign_39 : decode cX0_isSign 39 = .ok (.if_icmp .eq 9, 3) := by decide +kernel
theorem dX0_isSign_42 : decode cX0_isSign 42 = .ok (.iload_n 0, 1) := by decide +kernel
theorem dX0_isSign_43 : decode cX0_isSign 43 = .ok (.bipush 61, 2) := by decide +kernel
theorem dX0_isSign_45 : decode cX0_isSign 45 = .ok (.if_icmp .ne 7, 3) := by decide +kernel
theorem dX0_isSign_48 : decode cX0_isSign 48 = .ok (.iconst 1, 1) := by decide +kernel
theorem dX0_isSign_49 : decode cX0_isSign 49 = .ok (.goto 4, 3) := by decide +kernel
theorem dX0_isSign_52 : decode cX0_isSign 52 = .ok (.iconst 0, 1) := by decide +kernel
theorem dX0_isSign_53 : decode cX0_isSign 53 = .ok (.ireturn, 1) := by decide +kernel
theorem dX0_wordOf_0 : decode cX0_wordOf 0 = .ok (.iload_n 0, 1) := by decide +kernel
theorem dX0_wordOf_1 : decode cX0_wordOf 1 = .ok (.tableswitch 92 0 10 #[59, 62, 65, 68, 71, 74, 77, 80, 83, 86, 89], 59) := by decide +kernel
theorem dX0_wordOf_60 : decode cX0_wordOf 60 = .ok (.ldc 106, 2) := by decide +kernel
theorem dX0_wordOf_62 : decode cX0_wordOf 62 = .ok (.areturn, 1) := by decide +kernel
theorem dX0_wordOf_63 : decode cX0_wordOf 63 = .ok (.ldc 108, 2) := by decide +kernel
theorem dX0_wordOf_65 : decode cX0_wordOf 65 = .ok (.areturn, 1) := by decide +kernel
theorem dX0_wordOf_66 : decode cX0_wordOf 66 = .ok (.ldc 110, 2) := by decide +kernel
theorem dX0_wordOf_68 : decode cX0_wordOf 68 = .ok (.areturn, 1) := by decide +kernel
theorem dX0_wordOf_69 : decode cX0_wordOf 69 = .ok (.ldc 112, 2) := by decide +kernel
theorem dX0_wordOf_71 : decode cX0_wordOf 71 = .ok (.areturn, 1) := by decide +kernel
theorem dX0_wordOf_72 : decode cX0_wordOf 72 = .ok (.ldc 114, 2) := by decide +kernel
theorem dX0_wordOf_74 : decode cX0_wordOf 74 = .ok (.areturn, 1) := by decide +kernel
theorem dX0_wordOf_75 : decode cX0_wordOf 75 = .ok (.ldc 116, 2) := by decide +kernel
theorem dX0_wordOf_77 : decode cX0_wordOf 77 = .ok (.areturn, 1) := by decide +kernel
theorem dX0_wordOf_78 : decode cX0_wordOf 78 = .ok (.ldc 118, 2) := by decide +kernel
theorem dX0_wordOf_80 : decode cX0_wordOf 80 = .ok (.areturn, 1) := by decide +kernel
theorem dX0_wordOf_81 : decode cX0_wordOf 81 = .ok (.ldc 120, 2) := by decide +kernel
theorem dX0_wordOf_83 : decode cX0_wordOf 83 = .ok (.areturn, 1) := by decide +kernel
theorem dX0_wordOf_84 : decode cX0_wordOf 84 = .ok (.ldc 122, 2) := by decide +kernel
theorem dX0_wordOf_86 : decode cX0_wordOf 86 = .ok (.areturn, 1) := by decide +kernel
theorem dX0_wordOf_87 : decode cX0_wordOf 87 = .ok (.ldc 124, 2) := by decide +kernel
theorem dX0_wordOf_89 : decode cX0_wordOf 89 = .ok (.areturn, 1) := by decide +kernel
theorem dX0_wordOf_90 : decode cX0_wordOf 90 = .ok (.ldc 126, 2) := by decide +kernel
theorem dX0_wordOf_92 : decode cX0_wordOf 92 = .ok (.areturn, 1) := by decide +kernel
theorem dX0_wordOf_93 : decode cX0_wordOf 93 = .ok (.ldc 128, 2) := by decide +kernel
theorem dX0_wordOf_95 : decode cX0_wordOf 95 = .ok (.areturn, 1) := by decide +kernel
theorem dX1_init_0 : decode cX1_init 0 = .ok (.aload_n 0, 1) := by decide +kernel
theorem dX1_init_1 : decode cX1_init 1 = .ok (.invokespecial 3, 3) := by decide +kernel
theorem dX1_init_4 : decode cX1_init 4 = .ok (.aload_n 0, 1) := by decide +kernel
theorem dX1_init_5 : decode cX1_init 5 = .ok (.iconst 4, 1) := by decide +kernel
theorem dX1_init_6 : decode cX1_init 6 = .ok (.newarray .int, 2) := by decide +kernel
theorem dX1_init_8 : decode cX1_init 8 = .ok (.dup, 1) := by decide +kernel
theorem dX1_init_9 : decode cX1_init 9 = .ok (.iconst 0, 1) := by decide +kernel
theorem dX1_init_10 : decode cX1_init 10 = .ok (.iconst (-1), 1) := by decide +kernel
theorem dX1_init_11 : decode cX1_init 11 = .ok (.iastore, 1) := by decide +kernel
theorem dX1_init_12 : decode cX1_init 12 = .ok (.dup, 1) := by decide +kernel
theorem dX1_init_13 : decode cX1_init 13 = .ok (.iconst 1, 1) := by decide +kernel
theorem dX1_init_14 : decode cX1_init 14 = .ok (.iconst (-1), 1) := by decide +kernel
theorem dX1_init_15 : decode cX1_init 15 = .ok (.iastore, 1) := by decide +kernel
theorem dX1_init_16 : decode cX1_init 16 = .ok (.dup, 1) := by decide +kernel
theorem dX1_init_17 : decode cX1_init 17 = .ok (.iconst 2, 1) := by decide +kernel
theorem dX1_init_18 : decode cX1_init 18 = .ok (.iconst (-1), 1) := by decide +kernel
theorem dX1_init_19 : decode cX1_init 19 = .ok (.iastore, 1) := by decide +kernel
theorem dX1_init_20 : decode cX1_init 20 = .ok (.dup, 1) := by decide +kernel
theorem dX1_init_21 : decode cX1_init 21 = .ok (.iconst 3, 1) := by decide +kernel
theorem dX1_init_22 : decode cX1_init 22 = .ok (.iconst (-1), 1) := by decide +kernel
theorem dX1_init_23 : decode cX1_init 23 = .ok (.iastore, 1) := by decide +kernel
theorem dX1_init_24 : decode cX1_init 24 = .ok (.putfield 9, 3) := by decide +kernel
theorem dX1_init_27 : decode cX1_init 27 = .ok (.aload_n 0, 1) := by decide +kernel
theorem dX1_init_28 : decode cX1_init 28 = .ok (.iconst 4, 1) := by decide +kernel
theorem dX1_init_29 : decode cX1_init 29 = .ok (.newarray .int, 2) := by decide +kernel
theorem dX1_init_31 : decode cX1_init 31 = .ok (.putfield 15, 3) := by decide +kernel
theorem dX1_init_34 : decode cX1_init 34 = .ok (.aload_n 0, 1) := by decide +kernel
theorem dX1_init_35 : decode cX1_init 35 = .ok (.sipush 160, 3) := by decide +kernel
theorem dX1_init_38 : decode cX1_init 38 = .ok (.newarray .int, 2) := by decide +kernel
theorem dX1_init_40 : decode cX1_init 40 = .ok (.putfield 18, 3) := by decide +kernel
theorem dX1_init_43 : decode cX1_init 43 = .ok (.return_, 1) := by decide +kernel
theorem dX1_has_0 : decode cX1_has 0 = .ok (.iload_n 1, 1) := by decide +kernel
theorem dX1_has_1 : decode cX1_has 1 = .ok (.ifCond .lt 12, 3) := by decide +kernel
theorem dX1_has_4 : decode cX1_has 4 = .ok (.iload_n 1, 1) := by decide +kernel
theorem dX1_has_5 : decode cX1_has 5 = .ok (.iconst 4, 1) := by decide +kernel
theorem dX1_has_6 : decode cX1_has 6 = .ok (.if_icmp .ge 7, 3) := by decide +kernel
theorem dX1_has_9 : decode cX1_has 9 = .ok (.iconst 1, 1) := by decide +kernel
theorem dX1_has_10 : decode cX1_has 10 = .ok (.goto 4, 3) := by decide +kernel
theorem dX1_has_13 : decode cX1_has 13 = .ok (.iconst 0, 1) := by decide +kernel
theorem dX1_has_14 : decode cX1_has 14 = .ok (.ireturn, 1) := by decide +kernel
theorem dX1_isMissing_0 : decode cX1_isMissing 0 = .ok (.aload_n 0, 1) := by decide +kernel
theorem dX1_isMissing_1 : decode cX1_isMissing 1 = .ok (.iload_n 1, 1) := by decide +kernel
theorem dX1_isMissing_2 : decode cX1_isMissing 2 = .ok (.invokevirtual 21, 3) := by decide +kernel
theorem dX1_isMissing_5 : decode cX1_isMissing 5 = .ok (.ifCond .eq 13, 3) := by decide +kernel
theorem dX1_isMissing_8 : decode cX1_isMissing 8 = .ok (.aload_n 0, 1) := by decide +kernel
theorem dX1_isMissing_9 : decode cX1_isMissing 9 = .ok (.getfield 9, 3) := by decide +kernel
theorem dX1_isMissing_12 : decode cX1_isMissing 12 = .ok (.iload_n 1, 1) := by decide +kernel
theorem dX1_isMissing_13 : decode cX1_isMissing 13 = .ok (.iaload, 1) := by decide +kernel
theorem dX1_isMissing_14 : decode cX1_isMissing 14 = .ok (.iconst (-1), 1) := by decide +kernel
theorem dX1_isMissing_15 : decode cX1_isMissing 15 = .ok (.if_icmp .ne 7, 3) := by decide +kernel
theorem dX1_isMissing_18 : decode cX1_isMissing 18 = .ok (.iconst 1, 1) := by decide +kernel
theorem dX1_isMissing_19 : decode cX1_isMissing 19 = .ok (.goto 4, 3) := by decide +kernel
theorem dX1_isMissing_22 : decode cX1_isMissing 22 = .ok (.iconst 0, 1) := by decide +kernel
theorem dX1_isMissing_23 : decode cX1_isMissing 23 = .ok (.ireturn, 1) := by decide +kernel
theorem dX1_sortOf_0 : decode cX1_sortOf 0 = .ok (.aload_n 0, 1) := by decide +kernel
theorem dX1_sortOf_1 : decode cX1_sortOf 1 = .ok (.iload_n 1, 1) := by decide +kernel
theorem dX1_sortOf_2 : decode cX1_sortOf 2 = .ok (.invokevirtual 21, 3) := by decide +kernel
theorem dX1_sortOf_5 : decode cX1_sortOf 5 = .ok (.ifCond .eq 12, 3) := by decide +kernel
theorem dX1_sortOf_8 : decode cX1_sortOf 8 = .ok (.aload_n 0, 1) := by decide +kernel
theorem dX1_sortOf_9 : decode cX1_sortOf 9 = .ok (.getfield 9, 3) := by decide +kernel
theorem dX1_sortOf_12 : decode cX1_sortOf 12 = .ok (.iload_n 1, 1) := by decide +kernel
theorem dX1_sortOf_13 : decode cX1_sortOf 13 = .ok (.iaload, 1) := by decide +kernel
theorem dX1_sortOf_14 : decode cX1_sortOf 14 = .ok (.goto 4, 3) := by decide +kernel
theorem dX1_sortOf_17 : decode cX1_sortOf 17 = .ok (.iconst (-1), 1) := by decide +kernel
theorem dX1_sortOf_18 : decode cX1_sortOf 18 = .ok (.ireturn, 1) := by decide +kernel
theorem dX1_sizeOf_0 : decode cX1_sizeOf 0 = .ok (.aload_n 0, 1) := by decide +kernel
theorem dX1_sizeOf_1 : decode cX1_sizeOf 1 = .ok (.iload_n 1, 1) := by decide +kernel
theorem dX1_sizeOf_2 : decode cX1_sizeOf 2 = .ok (.invokevirtual 21, 3) := by decide +kernel
theorem dX1_sizeOf_5 : decode cX1_sizeOf 5 = .ok (.ifCond .eq 12, 3) := by decide +kernel
theorem dX1_sizeOf_8 : decode cX1_sizeOf 8 = .ok (.aload_n 0, 1) := by decide +kernel
theorem dX1_sizeOf_9 : decode cX1_sizeOf 9 = .ok (.getfield 15, 3) := by decide +kernel
theorem dX1_sizeOf_12 : decode cX1_sizeOf 12 = .ok (.iload_n 1, 1) := by decide +kernel
theorem dX1_sizeOf_13 : decode cX1_sizeOf 13 = .ok (.iaload, 1) := by decide +kernel
theorem dX1_sizeOf_14 : decode cX1_sizeOf 14 = .ok (.goto 4, 3) := by decide +kernel
theorem dX1_sizeOf_17 : decode cX1_sizeOf 17 = .ok (.iconst 0, 1) := by decide +kernel
theorem dX1_sizeOf_18 : decode cX1_sizeOf 18 = .ok (.ireturn, 1) := by decide +kernel
theorem dX1_spans_0 : decode cX1_spans 0 = .ok (.iload_n 2, 1) := by decide +kernel
theorem dX1_spans_1 : decode cX1_spans 1 = .ok (.ifCond .lt 31, 3) := by decide +kernel
theorem dX1_spans_4 : decode cX1_spans 4 = .ok (.iload_n 3, 1) := by decide +kernel
theorem dX1_spans_5 : decode cX1_spans 5 = .ok (.ifCond .lt 27, 3) := by decide +kernel
theorem dX1_spans_8 : decode cX1_spans 8 = .ok (.iload_n 3, 1) := by decide +kernel
theorem dX1_spans_9 : decode cX1_spans 9 = .ok (.aload_n 0, 1) := by decide +kernel
theorem dX1_spans_10 : decode cX1_spans 10 = .ok (.iload_n 1, 1) := by decide +kernel
theorem dX1_spans_11 : decode cX1_spans 11 = .ok (.invokevirtual 25, 3) := by decide +kernel
theorem dX1_spans_14 : decode cX1_spans 14 = .ok (.if_icmp .gt 18, 3) := by decide +kernel
theorem dX1_spans_17 : decode cX1_spans 17 = .ok (.iload_n 2, 1) := by decide +kernel
theorem dX1_spans_18 : decode cX1_spans 18 = .ok (.aload_n 0, 1) := by decide +kernel
theorem dX1_spans_19 : decode cX1_spans 19 = .ok (.iload_n 1, 1) := by decide +kernel
theorem dX1_spans_20 : decode cX1_spans 20 = .ok (.invokevirtual 25, 3) := by decide +kernel
theorem dX1_spans_23 : decode cX1_spans 23 = .ok (.iload_n 3, 1) := by decide +kernel
theorem dX1_spans_24 : decode cX1_spans 24 = .ok (.isub, 1) := by decide +kernel
theorem dX1_spans_25 : decode cX1_spans 25 = .ok (.if_icmp .gt 7, 3) := by decide +kernel
theorem dX1_spans_28 : decode cX1_spans 28 = .ok (.iconst 1, 1) := by decide +kernel
theorem dX1_spans_29 : decode cX1_spans 29 = .ok (.goto 4, 3) := by decide +kernel
theorem dX1_spans_32 : decode cX1_spans 32 = .ok (.iconst 0, 1) := by decide +kernel
theorem dX1_spans_33 : decode cX1_spans 33 = .ok (.ireturn, 1) := by decide +kernel
theorem dX1_item_0 : decode cX1_item 0 = .ok (.aload_n 0, 1) := by decide +kernel
theorem dX1_item_1 : decode cX1_item 1 = .ok (.iload_n 1, 1) := by decide +kernel
theorem dX1_item_2 : decode cX1_item 2 = .ok (.iload_n 2, 1) := by decide +kernel
theorem dX1_item_3 : decode cX1_item 3 = .ok (.iconst 1, 1) := by decide +kernel
theorem dX1_item_4 : decode cX1_item 4 = .ok (.invokevirtual 29, 3) := by decide +kernel
theorem dX1_item_7 : decode cX1_item 7 = .ok (.ifCond .eq 17, 3) := by decide +kernel
theorem dX1_item_10 : decode cX1_item 10 = .ok (.aload_n 0, 1) := by decide +kernel
theorem dX1_item_11 : decode cX1_item 11 = .ok (.getfield 18, 3) := by decide +kernel
theorem dX1_item_14 : decode cX1_item 14 = .ok (.iload_n 1, 1) := by decide +kernel
theorem dX1_item_15 : decode cX1_item 15 = .ok (.bipush 40, 2) := by decide +kernel
theorem dX1_item_17 : decode cX1_item 17 = .ok (.imul, 1) := by decide +kernel
theorem dX1_item_18 : decode cX1_item 18 = .ok (.iload_n 2, 1) := by decide +kernel
theorem dX1_item_19 : decode cX1_item 19 = .ok (.iadd, 1) := by decide +kernel
theorem dX1_item_20 : decode cX1_item 20 = .ok (.iaload, 1) := by decide +kernel
theorem dX1_item_21 : decode cX1_item 21 = .ok (.goto 4, 3) := by decide +kernel
theorem dX1_item_24 : decode cX1_item 24 = .ok (.iconst 0, 1) := by decide +kernel
theorem dX1_item_25 : decode cX1_item 25 = .ok (.ireturn, 1) := by decide +kernel
theorem dX1_put_0 : decode cX1_put 0 = .ok (.aload_n 0, 1) := by decide +kernel
theorem dX1_put_1 : decode cX1_put 1 = .ok (.iload_n 1, 1) := by decide +kernel
theorem dX1_put_2 : decode cX1_put 2 = .ok (.iload_n 2, 1) := by decide +kernel
theorem dX1_put_3 : decode cX1_put 3 = .ok (.iconst 1, 1) := by decide +kernel
theorem dX1_put_4 : decode cX1_put 4 = .ok (.invokevirtual 29, 3) := by decide +kernel
theorem dX1_put_7 : decode cX1_put 7 = .ok (.ifCond .ne 4, 3) := by decide +kernel
theorem dX1_put_10 : decode cX1_put 10 = .ok (.return_, 1) := by decide +kernel
theorem dX1_put_11 : decode cX1_put 11 = .ok (.iload_n 3, 1) := by decide +kernel
theorem dX1_put_12 : decode cX1_put 12 = .ok (.istore 4, 2) := by decide +kernel
theorem dX1_put_14 : decode cX1_put 14 = .ok (.aload_n 0, 1) := by decide +kernel
theorem dX1_put_15 : decode cX1_put 15 = .ok (.getfield 9, 3) := by decide +kernel
theorem dX1_put_18 : decode cX1_put 18 = .ok (.iload_n 1, 1) := by decide +kernel
theorem dX1_put_19 : decode cX1_put 19 = .ok (.iaload, 1) := by decide +kernel
theorem dX1_put_20 : decode cX1_put 20 = .ok (.ifCond .ne 10, 3) := by decide +kernel
theorem dX1_put_23 : decode cX1_put 23 = .ok (.iload_n 3, 1) := by decide +kernel
theorem dX1_put_24 : decode cX1_put 24 = .ok (.i2b, 1) := by decide +kernel
theorem dX1_put_25 : decode cX1_put 25 = .ok (.istore 4, 2) := by decide +kernel
theorem dX1_put_27 : decode cX1_put 27 = .ok (.goto 17, 3) := by decide +kernel
theorem dX1_put_30 : decode cX1_put 30 = .ok (.aload_n 0, 1) := by decide +kernel
theorem dX1_put_31 : decode cX1_put 31 = .ok (.getfield 9, 3) := by decide +kernel
theorem dX1_put_34 : decode cX1_put 34 = .ok (.iload_n 1, 1) := by decide +kernel
theorem dX1_put_35 : decode cX1_put 35 = .ok (.iaload, 1) := by decide +kernel
theorem dX1_put_36 : decode cX1_put 36 = .ok (.iconst 1, 1) := by decide +kernel
theorem dX1_put_37 : decode cX1_put 37 = .ok (.if_icmp .ne 7, 3) := by decide +kernel
theorem dX1_put_40 : decode cX1_put 40 = .ok (.iload_n 3, 1) := by decide +kernel
theorem dX1_put_41 : decode cX1_put 41 = .ok (.i2s, 1) := by decide +kernel
theorem dX1_put_42 : decode cX1_put 42 = .ok (.istore 4, 2) := by decide +kernel
theorem dX1_put_44 : decode cX1_put 44 = .ok (.aload_n 0, 1) := by decide +kernel
theorem dX1_put_45 : decode cX1_put 45 = .ok (.getfield 18, 3) := by decide +kernel
theorem dX1_put_48 : decode cX1_put 48 = .ok (.iload_n 1, 1) := by decide +kernel
theorem dX1_put_49 : decode cX1_put 49 = .ok (.bipush 40, 2) := by decide +kernel
theorem dX1_put_51 : decode cX1_put 51 = .ok (.imul, 1) := by decide +kernel
theorem dX1_put_52 : decode cX1_put 52 = .ok (.iload_n 2, 1) := by decide +kernel
theorem dX1_put_53 : decode cX1_put 53 = .ok (.iadd, 1) := by decide +kernel
theorem dX1_put_54 : decode cX1_put 54 = .ok (.iload 4, 2) := by decide +kernel
theorem dX1_put_56 : decode cX1_put 56 = .ok (.iastore, 1) := by decide +kernel
theorem dX1_put_57 : decode cX1_put 57 = .ok (.return_, 1) := by decide +kernel
theorem dX1_lay_0 : decode cX1_lay 0 = .ok (.aload_n 0, 1) := by decide +kernel
theorem dX1_lay_1 : decode cX1_lay 1 = .ok (.iload_n 1, 1) := by decide +kernel
theorem dX1_lay_2 : decode cX1_lay 2 = .ok (.invokevirtual 21, 3) := by decide +kernel
theorem dX1_lay_5 : decode cX1_lay 5 = .ok (.ifCond .eq 13, 3) := by decide +kernel
theorem dX1_lay_8 : decode cX1_lay 8 = .ok (.iload_n 3, 1) := by decide +kernel
theorem dX1_lay_9 : decode cX1_lay 9 = .ok (.ifCond .lt 9, 3) := by decide +kernel
theorem dX1_lay_12 : decode cX1_lay 12 = .ok (.iload_n 3, 1) := by decide +kernel
theorem dX1_lay_13 : decode cX1_lay 13 = .ok (.bipush 40, 2) := by decide +kernel
theorem dX1_lay_15 : decode cX1_lay 15 = .ok (.if_icmp .le 4, 3) := by decide +kernel
theorem dX1_lay_18 : decode cX1_lay 18 = .ok (.return_, 1) := by decide +kernel
theorem dX1_lay_19 : decode cX1_lay 19 = .ok (.aload_n 0, 1) := by decide +kernel
theorem dX1_lay_20 : decode cX1_lay 20 = .ok (.getfield 9, 3) := by decide +kernel
theorem dX1_lay_23 : decode cX1_lay 23 = .ok (.iload_n 1, 1) := by decide +kernel
theorem dX1_lay_24 : decode cX1_lay 24 = .ok (.iload_n 2, 1) := by decide +kernel
theorem dX1_lay_25 : decode cX1_lay 25 = .ok (.iastore, 1) := by decide +kernel
theorem dX1_lay_26 : decode cX1_lay 26 = .ok (.aload_n 0, 1) := by decide +kernel
theorem dX1_lay_27 : decode cX1_lay 27 = .ok (.getfield 15, 3) := by decide +kernel
theorem dX1_lay_30 : decode cX1_lay 30 = .ok (.iload_n 1, 1) := by decide +kernel
theorem dX1_lay_31 : decode cX1_lay 31 = .ok (.iload_n 3, 1) := by decide +kernel
theorem dX1_lay_32 : decode cX1_lay 32 = .ok (.iastore, 1) := by decide +kernel
theorem dX1_lay_33 : decode cX1_lay 33 = .ok (.iconst 0, 1) := by decide +kernel
theorem dX1_lay_34 : decode cX1_lay 34 = .ok (.istore 4, 2) := by decide +kernel
theorem dX1_lay_36 : decode cX1_lay 36 = .ok (.iload 4, 2) := by decide +kernel
theorem dX1_lay_38 : decode cX1_lay 38 = .ok (.iload_n 3, 1) := by decide +kernel
theorem dX1_lay_39 : decode cX1_lay 39 = .ok (.if_icmp .ge 22, 3) := by decide +kernel
theorem dX1_lay_42 : decode cX1_lay 42 = .ok (.aload_n 0, 1) := by decide +kernel
theorem dX1_lay_43 : decode cX1_lay 43 = .ok (.getfield 18, 3) := by decide +kernel
theorem dX1_lay_46 : decode cX1_lay 46 = .ok (.iload_n 1, 1) := by decide +kernel
theorem dX1_lay_47 : decode cX1_lay 47 = .ok (.bipush 40, 2) := by decide +kernel
theorem dX1_lay_49 : decode cX1_lay 49 = .ok (.imul, 1) := by decide +kernel
theorem dX1_lay_50 : decode cX1_lay 50 = .ok (.iload 4, 2) := by decide +kernel
theorem dX1_lay_52 : decode cX1_lay 52 = .ok (.iadd, 1) := by decide +kernel
theorem dX1_lay_53 : decode cX1_lay 53 = .ok (.iconst 0, 1) := by decide +kernel
theorem dX1_lay_54 : decode cX1_lay 54 = .ok (.iastore, 1) := by decide +kernel
theorem dX1_lay_55 : decode cX1_lay 55 = .ok (.iinc 4 1, 3) := by decide +kernel
theorem dX1_lay_58 : decode cX1_lay 58 = .ok (.goto (-22), 3) := by decide +kernel
theorem dX1_lay_61 : decode cX1_lay 61 = .ok (.return_, 1) := by decide +kernel
theorem dX1_move_0 : decode cX1_move 0 = .ok (.aload_n 0, 1) := by decide +kernel
theorem dX1_move_1 : decode cX1_move 1 = .ok (.iload_n 1, 1) := by decide +kernel
theorem dX1_move_2 : decode cX1_move 2 = .ok (.iload_n 2, 1) := by decide +kernel
theorem dX1_move_3 : decode cX1_move 3 = .ok (.iload 5, 2) := by decide +kernel
theorem dX1_move_5 : decode cX1_move 5 = .ok (.invokevirtual 29, 3) := by decide +kernel
theorem dX1_move_8 : decode cX1_move 8 = .ok (.ifCond .eq 41, 3) := by decide +kernel
theorem dX1_move_11 : decode cX1_move 11 = .ok (.aload_n 0, 1) := by decide +kernel
theorem dX1_move_12 : decode cX1_move 12 = .ok (.iload_n 3, 1) := by decide +kernel
theorem dX1_move_13 : decode cX1_move 13 = .ok (.iload 4, 2) := by decide +kernel
theorem dX1_move_15 : decode cX1_move 15 = .ok (.iload 5, 2) := by decide +kernel
theorem dX1_move_17 : decode cX1_move 17 = .ok (.invokevirtual 29, 3) := by decide +kernel
theorem dX1_move_20 : decode cX1_move 20 = .ok (.ifCond .eq 29, 3) := by decide +kernel
theorem dX1_move_23 : decode cX1_move 23 = .ok (.aload_n 0, 1) := by decide +kernel
theorem dX1_move_24 : decode cX1_move 24 = .ok (.getfield 18, 3) := by decide +kernel
theorem dX1_move_27 : decode cX1_move 27 = .ok (.iload_n 1, 1) := by decide +kernel
theorem dX1_move_28 : decode cX1_move 28 = .ok (.bipush 40, 2) := by decide +kernel
theorem dX1_move_30 : decode cX1_move 30 = .ok (.imul, 1) := by decide +kernel
theorem dX1_move_31 : decode cX1_move 31 = .ok (.iload_n 2, 1) := by decide +kernel
theorem dX1_move_32 : decode cX1_move 32 = .ok (.iadd, 1) := by decide +kernel
theorem dX1_move_33 : decode cX1_move 33 = .ok (.aload_n 0, 1) := by decide +kernel
theorem dX1_move_34 : decode cX1_move 34 = .ok (.getfield 18, 3) := by decide +kernel
theorem dX1_move_37 : decode cX1_move 37 = .ok (.iload_n 3, 1) := by decide +kernel
theorem dX1_move_38 : decode cX1_move 38 = .ok (.bipush 40, 2) := by decide +kernel
theorem dX1_move_40 : decode cX1_move 40 = .ok (.imul, 1) := by decide +kernel
theorem dX1_move_41 : decode cX1_move 41 = .ok (.iload 4, 2) := by decide +kernel
theorem dX1_move_43 : decode cX1_move 43 = .ok (.iadd, 1) := by decide +kernel
theorem dX1_move_44 : decode cX1_move 44 = .ok (.iload 5, 2) := by decide +kernel
theorem dX1_move_46 : decode cX1_move 46 = .ok (.invokestatic 33, 3) := by decide +kernel
theorem dX1_move_49 : decode cX1_move 49 = .ok (.return_, 1) := by decide +kernel
theorem dX3_init_0 : decode cX3_init 0 = .ok (.aload_n 0, 1) := by decide +kernel
theorem dX3_init_1 : decode cX3_init 1 = .ok (.invokespecial 3, 3) := by decide +kernel
theorem dX3_init_4 : decode cX3_init 4 = .ok (.aload_n 0, 1) := by decide +kernel
theorem dX3_init_5 : decode cX3_init 5 = .ok (.bipush 8, 2) := by decide +kernel
theorem dX3_init_7 : decode cX3_init 7 = .ok (.putfield 9, 3) := by decide +kernel
theorem dX3_init_10 : decode cX3_init 10 = .ok (.aload_n 0, 1) := by decide +kernel
theorem dX3_init_11 : decode cX3_init 11 = .ok (.iconst 1, 1) := by decide +kernel
theorem dX3_init_12 : decode cX3_init 12 = .ok (.putfield 15, 3) := by decide +kernel
theorem dX3_init_15 : decode cX3_init 15 = .ok (.aload_n 0, 1) := by decide +kernel
theorem dX3_init_16 : decode cX3_init 16 = .ok (.iconst 5, 1) := by decide +kernel
theorem dX3_init_17 : decode cX3_init 17 = .ok (.newarray .int, 2) := by decide +kernel
theorem dX3_init_19 : decode cX3_init 19 = .ok (.putfield 18, 3) := by decide +kernel
theorem dX3_init_22 : decode cX3_init 22 = .ok (.aload_n 0, 1) := by decide +kernel
theorem dX3_init_23 : decode cX3_init 23 = .ok (.iconst 5, 1) := by decide +kernel
theorem dX3_init_24 : decode cX3_init 24 = .ok (.newarray .int, 2) := by decide +kernel
theorem dX3_init_26 : decode cX3_init 26 = .ok (.putfield 22, 3) := by decide +kernel
theorem dX3_init_29 : decode cX3_init 29 = .ok (.aload_n 0, 1) := by decide +kernel
theorem dX3_init_30 : decode cX3_init 30 = .ok (.iconst 5, 1) := by decide +kernel
theorem dX3_init_31 : decode cX3_init 31 = .ok (.newarray .int, 2) := by decide +kernel
theorem dX3_init_33 : decode cX3_init 33 = .ok (.putfield 25, 3) := by decide +kernel
theorem dX3_init_36 : decode cX3_init 36 = .ok (.aload_n 0, 1) := by decide +kernel
theorem dX3_init_37 : decode cX3_init 37 = .ok (.iconst 5, 1) := by decide +kernel
theorem dX3_init_38 : decode cX3_init 38 = .ok (.newarray .int, 2) := by decide +kernel
theorem dX3_init_40 : decode cX3_init 40 = .ok (.putfield 28, 3) := by decide +kernel
theorem dX3_init_43 : decode cX3_init 43 = .ok (.return_, 1) := by decide +kernel
theorem dX3_has_0 : decode cX3_has 0 = .ok (.iload_n 1, 1) := by decide +kernel
theorem dX3_has_1 : decode cX3_has 1 = .ok (.ifCond .lt 20, 3) := by decide +kernel
theorem dX3_has_4 : decode cX3_has 4 = .ok (.iload_n 1, 1) := by decide +kernel
theorem dX3_has_5 : decode cX3_has 5 = .ok (.iconst 5, 1) := by decide +kernel
theorem dX3_has_6 : decode cX3_has 6 = .ok (.if_icmp .ge 15, 3) := by decide +kernel
theorem dX3_has_9 : decode cX3_has 9 = .ok (.iload_n 1, 1) := by decide +kernel
theorem dX3_has_10 : decode cX3_has 10 = .ok (.aload_n 0, 1) := by decide +kernel
theorem dX3_has_11 : decode cX3_has 11 = .ok (.getfield 31, 3) := by decide +kernel
theorem dX3_has_14 : decode cX3_has 14 = .ok (.if_icmp .ge 7, 3) := by decide +kernel
theorem dX3_has_17 : decode cX3_has 17 = .ok (.iconst 1, 1) := by decide +kernel
theorem dX3_has_18 : decode cX3_has 18 = .ok (.goto 4, 3) := by decide +kernel
theorem dX3_has_21 : decode cX3_has 21 = .ok (.iconst 0, 1) := by decide +kernel
theorem dX3_has_22 : decode cX3_has 22 = .ok (.ireturn, 1) := by decide +kernel
theorem dX3_change_0 : decode cX3_change 0 = .ok (.iload_n 1, 1) := by decide +kernel
theorem dX3_change_1 : decode cX3_change 1 = .ok (.ifCond .ne 17, 3) := by decide +kernel
theorem dX3_change_4 : decode cX3_change 4 = .ok (.aload_n 0, 1) := by decide +kernel
theorem dX3_change_5 : decode cX3_change 5 = .ok (.getfield 9, 3) := by decide +kernel
theorem dX3_change_8 : decode cX3_change 8 = .ok (.istore 4, 2) := by decide +kernel
theorem dX3_change_10 : decode cX3_change 10 = .ok (.aload_n 0, 1) := by decide +kernel
theorem dX3_change_11 : decode cX3_change 11 = .ok (.iload_n 3, 1) := by decide +kernel
theorem dX3_change_12 : decode cX3_change 12 = .ok (.putfield 9, 3) := by decide +kernel
theorem dX3_change_15 : decode cX3_change 15 = .ok (.iload 4, 2) := by decide +kernel
theorem dX3_change_17 : decode cX3_change 17 = .ok (.ireturn, 1) := by decide +kernel
theorem dX3_change_18 : decode cX3_change 18 = .ok (.iload_n 1, 1) := by decide +kernel
theorem dX3_change_19 : decode cX3_change 19 = .ok (.iconst 1, 1) := by decide +kernel
theorem dX3_change_20 : decode cX3_change 20 = .ok (.if_icmp .ne 17, 3) := by decide +kernel
theorem dX3_change_23 : decode cX3_change 23 = .ok (.aload_n 0, 1) := by decide +kernel
theorem dX3_change_24 : decode cX3_change 24 = .ok (.getfield 15, 3) := by decide +kernel
theorem dX3_change_27 : decode cX3_change 27 = .ok (.istore 4, 2) := by decide +kernel
theorem dX3_change_29 : decode cX3_change 29 = .ok (.aload_n 0, 1) := by decide +kernel
theorem dX3_change_30 : decode cX3_change 30 = .ok (.iload_n 3, 1) := by decide +kernel
theorem dX3_change_31 : decode cX3_change 31 = .ok (.putfield 15, 3) := by decide +kernel
theorem dX3_change_34 : decode cX3_change 34 = .ok (.iload 4, 2) := by decide +kernel
theorem dX3_change_36 : decode cX3_change 36 = .ok (.ireturn, 1) := by decide +kernel
theorem dX3_change_37 : decode cX3_change 37 = .ok (.aload_n 0, 1) := by decide +kernel
theorem dX3_change_38 : decode cX3_change 38 = .ok (.iload_n 2, 1) := by decide +kernel
theorem dX3_change_39 : decode cX3_change 39 = .ok (.invokevirtual 34, 3) := by decide +kernel
theorem dX3_change_42 : decode cX3_change 42 = .ok (.ifCond .ne 6, 3) := by decide +kernel
theorem dX3_change_45 : decode cX3_change 45 = .ok (.bipush (-2), 2) := by decide +kernel
theorem dX3_change_47 : decode cX3_change 47 = .ok (.ireturn, 1) := by decide +kernel
theorem dX3_change_48 : decode cX3_change 48 = .ok (.aload_n 0, 1) := by decide +kernel
theorem dX3_change_49 : decode cX3_change 49 = .ok (.getfield 28, 3) := by decide +kernel
theorem dX3_change_52 : decode cX3_change 52 = .ok (.astore 5, 2) := by decide +kernel
theorem dX3_change_54 : decode cX3_change 54 = .ok (.iload_n 1, 1) := by decide +kernel
theorem dX3_change_55 : decode cX3_change 55 = .ok (.iconst 2, 1) := by decide +kernel
theorem dX3_change_56 : decode cX3_change 56 = .ok (.if_icmp .ne 12, 3) := by decide +kernel
theorem dX3_change_59 : decode cX3_change 59 = .ok (.aload_n 0, 1) := by decide +kernel
theorem dX3_change_60 : decode cX3_change 60 = .ok (.getfield 22, 3) := by decide +kernel
theorem dX3_change_63 : decode cX3_change 63 = .ok (.astore 5, 2) := by decide +kernel
theorem dX3_change_65 : decode cX3_change 65 = .ok (.goto 14, 3) := by decide +kernel
theorem dX3_change_68 : decode cX3_change 68 = .ok (.iload_n 1, 1) := by decide +kernel
theorem dX3_change_69 : decode cX3_change 69 = .ok (.iconst 3, 1) := by decide +kernel
theorem dX3_change_70 : decode cX3_change 70 = .ok (.if_icmp .ne 9, 3) := by decide +kernel
theorem dX3_change_73 : decode cX3_change 73 = .ok (.aload_n 0, 1) := by decide +kernel
theorem dX3_change_74 : decode cX3_change 74 = .ok (.getfield 25, 3) := by decide +kernel
theorem dX3_change_77 : decode cX3_change 77 = .ok (.astore 5, 2) := by decide +kernel
theorem dX3_change_79 : decode cX3_change 79 = .ok (.aload 5, 2) := by decide +kernel
theorem dX3_change_81 : decode cX3_change 81 = .ok (.iload_n 2, 1) := by decide +kernel
theorem dX3_change_82 : decode cX3_change 82 = .ok (.iaload, 1) := by decide +kernel
theorem dX3_change_83 : decode cX3_change 83 = .ok (.istore 4, 2) := by decide +kernel
theorem dX3_change_85 : decode cX3_change 85 = .ok (.aload 5, 2) := by decide +kernel
theorem dX3_change_87 : decode cX3_change 87 = .ok (.iload_n 2, 1) := by decide +kernel
theorem dX3_change_88 : decode cX3_change 88 = .ok (.iload_n 3, 1) := by decide +kernel
theorem dX3_change_89 : decode cX3_change 89 = .ok (.iastore, 1) := by decide +kernel
theorem dX3_change_90 : decode cX3_change 90 = .ok (.iload 4, 2) := by decide +kernel
theorem dX3_change_92 : decode cX3_change 92 = .ok (.ireturn, 1) := by decide +kernel
theorem dX3_seat_0 : decode cX3_seat 0 = .ok (.iload_n 1, 1) := by decide +kernel
theorem dX3_seat_1 : decode cX3_seat 1 = .ok (.ifCond .lt 24, 3) := by decide +kernel
theorem dX3_seat_4 : decode cX3_seat 4 = .ok (.iload_n 1, 1) := by decide +kernel
theorem dX3_seat_5 : decode cX3_seat 5 = .ok (.bipush 6, 2) := by decide +kernel
theorem dX3_seat_7 : decode cX3_seat 7 = .ok (.if_icmp .ge 18, 3) := by decide +kernel
theorem dX3_seat_10 : decode cX3_seat 10 = .ok (.iload_n 2, 1) := by decide +kernel
theorem dX3_seat_11 : decode cX3_seat 11 = .ok (.ifCond .lt 14, 3) := by decide +kernel
theorem dX3_seat_14 : decode cX3_seat 14 = .ok (.iload_n 3, 1) := by decide +kernel
theorem dX3_seat_15 : decode cX3_seat 15 = .ok (.iconst 1, 1) := by decide +kernel
theorem dX3_seat_16 : decode cX3_seat 16 = .ok (.if_icmp .lt 9, 3) := by decide +kernel
theorem dX3_seat_19 : decode cX3_seat 19 = .ok (.iload_n 3, 1) := by decide +kernel
theorem dX3_seat_20 : decode cX3_seat 20 = .ok (.bipush 20, 2) := by decide +kernel
theorem dX3_seat_22 : decode cX3_seat 22 = .ok (.if_icmp .le 6, 3) := by decide +kernel
theorem dX3_seat_25 : decode cX3_seat 25 = .ok (.bipush (-2), 2) := by decide +kernel
theorem dX3_seat_27 : decode cX3_seat 27 = .ok (.ireturn, 1) := by decide +kernel
theorem dX3_seat_28 : decode cX3_seat 28 = .ok (.iload_n 2, 1) := by decide +kernel
theorem dX3_seat_29 : decode cX3_seat 29 = .ok (.bipush 100, 2) := by decide +kernel
theorem dX3_seat_31 : decode cX3_seat 31 = .ok (.idiv, 1) := by decide +kernel
theorem dX3_seat_32 : decode cX3_seat 32 = .ok (.bipush 9, 2) := by decide +kernel
theorem dX3_seat_34 : decode cX3_seat 34 = .ok (.if_icmp .gt 12, 3) := by decide +kernel
theorem dX3_seat_37 : decode cX3_seat 37 = .ok (.iload_n 2, 1) := by decide +kernel
theorem dX3_seat_38 : decode cX3_seat 38 = .ok (.bipush 100, 2) := by decide +kernel
theorem dX3_seat_40 : decode cX3_seat 40 = .ok (.irem, 1) := by decide +kernel
theorem dX3_seat_41 : decode cX3_seat 41 = .ok (.bipush 12, 2) := by decide +kernel
theorem dX3_seat_43 : decode cX3_seat 43 = .ok (.if_icmp .le 6, 3) := by decide +kernel
theorem dX3_seat_46 : decode cX3_seat 46 = .ok (.bipush (-2), 2) := by decide +kernel
theorem dX3_seat_48 : decode cX3_seat 48 = .ok (.ireturn, 1) := by decide +kernel
theorem dX3_seat_49 : decode cX3_seat 49 = .ok (.aload_n 0, 1) := by decide +kernel
theorem dX3_seat_50 : decode cX3_seat 50 = .ok (.getfield 31, 3) := by decide +kernel
theorem dX3_seat_53 : decode cX3_seat 53 = .ok (.ifCond .lt 11, 3) := by decide +kernel
theorem dX3_seat_56 : decode cX3_seat 56 = .ok (.aload_n 0, 1) := by decide +kernel
theorem dX3_seat_57 : decode cX3_seat 57 = .ok (.getfield 31, 3) := by decide +kernel
theorem dX3_seat_60 : decode cX3_seat 60 = .ok (.iconst 5, 1) := by decide +kernel
theorem dX3_seat_61 : decode cX3_seat 61 = .ok (.if_icmp .lt 6, 3) := by decide +kernel
theorem dX3_seat_64 : decode cX3_seat 64 = .ok (.bipush (-4), 2) := by decide +kernel
theorem dX3_seat_66 : decode cX3_seat 66 = .ok (.ireturn, 1) := by decide +kernel
theorem dX3_seat_67 : decode cX3_seat 67 = .ok (.aload_n 0, 1) := by decide +kernel
theorem dX3_seat_68 : decode cX3_seat 68 = .ok (.getfield 18, 3) := by decide +kernel
theorem dX3_seat_71 : decode cX3_seat 71 = .ok (.aload_n 0, 1) := by decide +kernel
theorem dX3_seat_72 : decode cX3_seat 72 = .ok (.getfield 31, 3) := by decide +kernel
theorem dX3_seat_75 : decode cX3_seat 75 = .ok (.iload_n 1, 1) := by decide +kernel
theorem dX3_seat_76 : decode cX3_seat 76 = .ok (.iastore, 1) := by decide +kernel
theorem dX3_seat_77 : decode cX3_seat 77 = .ok (.aload_n 0, 1) := by decide +kernel
theorem dX3_seat_78 : decode cX3_seat 78 = .ok (.getfield 22, 3) := by decide +kernel
theorem dX3_seat_81 : decode cX3_seat 81 = .ok (.aload_n 0, 1) := by decide +kernel
theorem dX3_seat_82 : decode cX3_seat 82 = .ok (.getfield 31, 3) := by decide +kernel
theorem dX3_seat_85 : decode cX3_seat 85 = .ok (.iload_n 2, 1) := by decide +kernel
theorem dX3_seat_86 : decode cX3_seat 86 = .ok (.bipush 100, 2) := by decide +kernel
theorem dX3_seat_88 : decode cX3_seat 88 = .ok (.idiv, 1) := by decide +kernel
theorem dX3_seat_89 : decode cX3_seat 89 = .ok (.iastore, 1) := by decide +kernel
theorem dX3_seat_90 : decode cX3_seat 90 = .ok (.aload_n 0, 1) := by decide +kernel
theorem dX3_seat_91 : decode cX3_seat 91 = .ok (.getfield 25, 3) := by decide +kernel
theorem dX3_seat_94 : decode cX3_seat 94 = .ok (.aload_n 0, 1) := by decide +kernel
theorem dX3_seat_95 : decode cX3_seat 95 = .ok (.getfield 31, 3) := by decide +kernel
theorem dX3_seat_98 : decode cX3_seat 98 = .ok (.iload_n 2, 1) := by decide +kernel
theorem dX3_seat_99 : decode cX3_seat 99 = .ok (.bipush 100, 2) := by decide +kernel
theorem dX3_seat_101 : decode cX3_seat 101 = .ok (.irem, 1) := by decide +kernel
theorem dX3_seat_102 : decode cX3_seat 102 = .ok (.iastore, 1) := by decide +kernel
theorem dX3_seat_103 : decode cX3_seat 103 = .ok (.aload_n 0, 1) := by decide +kernel
theorem dX3_seat_104 : decode cX3_seat 104 = .ok (.getfield 28, 3) := by decide +kernel
theorem dX3_seat_107 : decode cX3_seat 107 = .ok (.aload_n 0, 1) := by decide +kernel
theorem dX3_seat_108 : decode cX3_seat 108 = .ok (.getfield 31, 3) := by decide +kernel
theorem dX3_seat_111 : decode cX3_seat 111 = .ok (.iload_n 3, 1) := by decide +kernel
theorem dX3_seat_112 : decode cX3_seat 112 = .ok (.iastore, 1) := by decide +kernel
theorem dX3_seat_113 : decode cX3_seat 113 = .ok (.aload_n 0, 1) := by decide +kernel
theorem dX3_seat_114 : decode cX3_seat 114 = .ok (.dup, 1) := by decide +kernel
theorem dX3_seat_115 : decode cX3_seat 115 = .ok (.getfield 31, 3) := by decide +kernel
theorem dX3_seat_118 : decode cX3_seat 118 = .ok (.iconst 1, 1) := by decide +kernel
theorem dX3_seat_119 : decode cX3_seat 119 = .ok (.iadd, 1) := by decide +kernel
theorem dX3_seat_120 : decode cX3_seat 120 = .ok (.putfield 31, 3) := by decide +kernel
theorem dX3_seat_123 : decode cX3_seat 123 = .ok (.aload_n 0, 1) := by decide +kernel
theorem dX3_seat_124 : decode cX3_seat 124 = .ok (.getfield 31, 3) := by decide +kernel
theorem dX3_seat_127 : decode cX3_seat 127 = .ok (.iconst 1, 1) := by decide +kernel
theorem dX3_seat_128 : decode cX3_seat 128 = .ok (.isub, 1) := by decide +kernel
theorem dX3_seat_129 : decode cX3_seat 129 = .ok (.ireturn, 1) := by decide +kernel
theorem dX3_wantOfAll_0 : decode cX3_wantOfAll 0 = .ok (.iconst 0, 1) := by decide +kernel
theorem dX3_wantOfAll_1 : decode cX3_wantOfAll 1 = .ok (.istore_n 1, 1) := by decide +kernel
theorem dX3_wantOfAll_2 : decode cX3_wantOfAll 2 = .ok (.iconst 0, 1) := by decide +kernel
theorem dX3_wantOfAll_3 : decode cX3_wantOfAll 3 = .ok (.istore_n 2, 1) := by decide +kernel
theorem dX3_wantOfAll_4 : decode cX3_wantOfAll 4 = .ok (.iload_n 2, 1) := by decide +kernel
theorem dX3_wantOfAll_5 : decode cX3_wantOfAll 5 = .ok (.iconst 5, 1) := by decide +kernel
theorem dX3_wantOfAll_6 : decode cX3_wantOfAll 6 = .ok (.if_icmp .ge 26, 3) := by decide +kernel
theorem dX3_wantOfAll_9 : decode cX3_wantOfAll 9 = .ok (.iload_n 2, 1) := by decide +kernel
theorem dX3_wantOfAll_10 : decode cX3_wantOfAll 10 = .ok (.aload_n 0, 1) := by decide +kernel
theorem dX3_wantOfAll_11 : decode cX3_wantOfAll 11 = .ok (.getfield 31, 3) := by decide +kernel
theorem dX3_wantOfAll_14 : decode cX3_wantOfAll 14 = .ok (.if_icmp .ge 18, 3) := by decide +kernel
theorem dX3_wantOfAll_17 : decode cX3_wantOfAll 17 = .ok (.iload_n 1, 1) := by decide +kernel
theorem dX3_wantOfAll_18 : decode cX3_wantOfAll 18 = .ok (.aload_n 0, 1) := by decide +kernel
theorem dX3_wantOfAll_19 : decode cX3_wantOfAll 19 = .ok (.getfield 25, 3) := by decide +kernel
theorem dX3_wantOfAll_22 : decode cX3_wantOfAll 22 = .ok (.iload_n 2, 1) := by decide +kernel
theorem dX3_wantOfAll_23 : decode cX3_wantOfAll 23 = .ok (.iaload, 1) := by decide +kernel
theorem dX3_wantOfAll_24 : decode cX3_wantOfAll 24 = .ok (.iadd, 1) := by decide +kernel
theorem dX3_wantOfAll_25 : decode cX3_wantOfAll 25 = .ok (.istore_n 1, 1) := by decide +kernel
theorem dX3_wantOfAll_26 : decode cX3_wantOfAll 26 = .ok (.iinc 2 1, 3) := by decide +kernel
theorem dX3_wantOfAll_29 : decode cX3_wantOfAll 29 = .ok (.goto (-25), 3) := by decide +kernel
theorem dX3_wantOfAll_32 : decode cX3_wantOfAll 32 = .ok (.iload_n 1, 1) := by decide +kernel
theorem dX3_wantOfAll_33 : decode cX3_wantOfAll 33 = .ok (.ireturn, 1) := by decide +kernel
theorem dX3_become_0 : decode cX3_become 0 = .ok (.aload_n 1, 1) := by decide +kernel
theorem dX3_become_1 : decode cX3_become 1 = .ok (.ifnonnull 4, 3) := by decide +kernel
theorem dX3_become_4 : decode cX3_become 4 = .ok (.return_, 1) := by decide +kernel
theorem dX3_become_5 : decode cX3_become 5 = .ok (.aload_n 0, 1) := by decide +kernel
theorem dX3_become_6 : decode cX3_become 6 = .ok (.aload_n 1, 1) := by decide +kernel
theorem dX3_become_7 : decode cX3_become 7 = .ok (.getfield 9, 3) := by decide +kernel
theorem dX3_become_10 : decode cX3_become 10 = .ok (.putfield 9, 3) := by decide +kernel
theorem dX3_become_13 : decode cX3_become 13 = .ok (.aload_n 0, 1) := by decide +kernel
theorem dX3_become_14 : decode cX3_become 14 = .ok (.aload_n 1, 1) := by decide +kernel
theorem dX3_become_15 : decode cX3_become 15 = .ok (.getfield 15, 3) := by decide +kernel
theorem dX3_become_18 : decode cX3_become 18 = .ok (.putfield 15, 3) := by decide +kernel
theorem dX3_become_21 : decode cX3_become 21 = .ok (.aload_n 0, 1) := by decide +kernel
theorem dX3_become_22 : decode cX3_become 22 = .ok (.aload_n 1, 1) := by decide +kernel
theorem dX3_become_23 : decode cX3_become 23 = .ok (.getfield 38, 3) := by decide +kernel
theorem dX3_become_26 : decode cX3_become 26 = .ok (.putfield 38, 3) := by decide +kernel
theorem dX3_become_29 : decode cX3_become 29 = .ok (.aload_n 0, 1) := by decide +kernel
theorem dX3_become_30 : decode cX3_become 30 = .ok (.aload_n 1, 1) := by decide +kernel
theorem dX3_become_31 : decode cX3_become 31 = .ok (.getfield 31, 3) := by decide +kernel
theorem dX3_become_34 : decode cX3_become 34 = .ok (.putfield 31, 3) := by decide +kernel
theorem dX3_become_37 : decode cX3_become 37 = .ok (.iconst 0, 1) := by decide +kernel
theorem dX3_become_38 : decode cX3_become 38 = .ok (.istore_n 2, 1) := by decide +kernel
theorem dX3_become_39 : decode cX3_become 39 = .ok (.iload_n 2, 1) := by decide +kernel
theorem dX3_become_40 : decode cX3_become 40 = .ok (.iconst 5, 1) := by decide +kernel
theorem dX3_become_41 : decode cX3_become 41 = .ok (.if_icmp .ge 57, 3) := by decide +kernel
theorem dX3_become_44 : decode cX3_become 44 = .ok (.aload_n 0, 1) := by decide +kernel
theorem dX3_become_45 : decode cX3_become 45 = .ok (.getfield 18, 3) := by decide +kernel
theorem dX3_become_48 : decode cX3_become 48 = .ok (.iload_n 2, 1) := by decide +kernel
theorem dX3_become_49 : decode cX3_become 49 = .ok (.aload_n 1, 1) := by decide +kernel
theorem dX3_become_50 : decode cX3_become 50 = .ok (.getfield 18, 3) := by decide +kernel
theorem dX3_become_53 : decode cX3_become 53 = .ok (.iload_n 2, 1) := by decide +kernel
theorem dX3_become_54 : decode cX3_become 54 = .ok (.iaload, 1) := by decide +kernel
theorem dX3_become_55 : decode cX3_become 55 = .ok (.iastore, 1) := by decide +kernel
theorem dX3_become_56 : decode cX3_become 56 = .ok (.aload_n 0, 1) := by decide +kernel
theorem dX3_become_57 : decode cX3_become 57 = .ok (.getfield 22, 3) := by decide +kernel
theorem dX3_become_60 : decode cX3_become 60 = .ok (.iload_n 2, 1) := by decide +kernel
theorem dX3_become_61 : decode cX3_become 61 = .ok (.aload_n 1, 1) := by decide +kernel
theorem dX3_become_62 : decode cX3_become 62 = .ok (.getfield 22, 3) := by decide +kernel
theorem dX3_become_65 : decode cX3_become 65 = .ok (.iload_n 2, 1) := by decide +kernel
theorem dX3_become_66 : decode cX3_become 66 = .ok (.iaload, 1) := by decide +kernel
theorem dX3_become_67 : decode cX3_become 67 = .ok (.iastore, 1) := by decide +kernel
theorem dX3_become_68 : decode cX3_become 68 = .ok (.aload_n 0, 1) := by decide +kernel
theorem dX3_become_69 : decode cX3_become 69 = .ok (.getfield 25, 3) := by decide +kernel
theorem dX3_become_72 : decode cX3_become 72 = .ok (.iload_n 2, 1) := by decide +kernel
theorem dX3_become_73 : decode cX3_become 73 = .ok (.aload_n 1, 1) := by decide +kernel
theorem dX3_become_74 : decode cX3_become 74 = .ok (.getfield 25, 3) := by decide +kernel
theorem dX3_become_77 : decode cX3_become 77 = .ok (.iload_n 2, 1) := by decide +kernel
theorem dX3_become_78 : decode cX3_become 78 = .ok (.iaload, 1) := by decide +kernel
theorem dX3_become_79 : decode cX3_become 79 = .ok (.iastore, 1) := by decide +kernel
theorem dX3_become_80 : decode cX3_become 80 = .ok (.aload_n 0, 1) := by decide +kernel
theorem dX3_become_81 : decode cX3_become 81 = .ok (.getfield 28, 3) := by decide +kernel
theorem dX3_become_84 : decode cX3_become 84 = .ok (.iload_n 2, 1) := by decide +kernel
theorem dX3_become_85 : decode cX3_become 85 = .ok (.aload_n 1, 1) := by decide +kernel
theorem dX3_become_86 : decode cX3_become 86 = .ok (.getfield 28, 3) := by decide +kernel
theorem dX3_become_89 : decode cX3_become 89 = .ok (.iload_n 2, 1) := by decide +kernel
theorem dX3_become_90 : decode cX3_become 90 = .ok (.iaload, 1) := by decide +kernel
theorem dX3_become_91 : decode cX3_become 91 = .ok (.iastore, 1) := by decide +kernel
theorem dX3_become_92 : decode cX3_become 92 = .ok (.iinc 2 1, 3) := by decide +kernel
theorem dX3_become_95 : decode cX3_become 95 = .ok (.goto (-56), 3) := by decide +kernel
theorem dX3_become_98 : decode cX3_become 98 = .ok (.return_, 1) := by decide +kernel
theorem dX4_init_0 : decode cX4_init 0 = .ok (.aload_n 0, 1) := by decide +kernel
theorem dX4_init_1 : decode cX4_init 1 = .ok (.invokespecial 3, 3) := by decide +kernel
theorem dX4_init_4 : decode cX4_init 4 = .ok (.aload_n 0, 1) := by decide +kernel
theorem dX4_init_5 : decode cX4_init 5 = .ok (.sipush 960, 3) := by decide +kernel
theorem dX4_init_8 : decode cX4_init 8 = .ok (.newarray .int, 2) := by decide +kernel
theorem dX4_init_10 : decode cX4_init 10 = .ok (.putfield 9, 3) := by decide +kernel
theorem dX4_init_13 : decode cX4_init 13 = .ok (.aload_n 0, 1) := by decide +kernel
theorem dX4_init_14 : decode cX4_init 14 = .ok (.bipush 18, 2) := by decide +kernel
theorem dX4_init_16 : decode cX4_init 16 = .ok (.newarray .int, 2) := by decide +kernel
theorem dX4_init_18 : decode cX4_init 18 = .ok (.putfield 15, 3) := by decide +kernel
theorem dX4_init_21 : decode cX4_init 21 = .ok (.aload_n 0, 1) := by decide +kernel
theorem dX4_init_22 : decode cX4_init 22 = .ok (.bipush 6, 2) := by decide +kernel
theorem dX4_init_24 : decode cX4_init 24 = .ok (.newarray .int, 2) := by decide +kernel
theorem dX4_init_26 : decode cX4_init 26 = .ok (.putfield 18, 3) := by decide +kernel
theorem dX4_init_29 : decode cX4_init 29 = .ok (.aload_n 0, 1) := by decide +kernel
theorem dX4_init_30 : decode cX4_init 30 = .ok (.sipush 160, 3) := by decide +kernel
theorem dX4_init_33 : decode cX4_init 33 = .ok (.newarray .int, 2) := by decide +kernel
theorem dX4_init_35 : decode cX4_init 35 = .ok (.putfield 21, 3) := by decide +kernel
theorem dX4_init_38 : decode cX4_init 38 = .ok (.return_, 1) := by decide +kernel
theorem dX4_add_0 : decode cX4_add 0 = .ok (.aload_n 1, 1) := by decide +kernel
theorem dX4_add_1 : decode cX4_add 1 = .ok (.ifnull 19, 3) := by decide +kernel
theorem dX4_add_4 : decode cX4_add 4 = .ok (.aload_n 0, 1) := by decide +kernel
theorem dX4_add_5 : decode cX4_add 5 = .ok (.getfield 24, 3) := by decide +kernel
theorem dX4_add_8 : decode cX4_add 8 = .ok (.ifCond .lt 12, 3) := by decide +kernel
theorem dX4_add_11 : decode cX4_add 11 = .ok (.aload_n 0, 1) := by decide +kernel
theorem dX4_add_12 : decode cX4_add 12 = .ok (.getfield 24, 3) := by decide +kernel
theorem dX4_add_15 : decode cX4_add 15 = .ok (.bipush 6, 2) := by decide +kernel
theorem dX4_add_17 : decode cX4_add 17 = .ok (.if_icmp .lt 6, 3) := by decide +kernel
theorem dX4_add_20 : decode cX4_add 20 = .ok (.bipush (-4), 2) := by decide +kernel
theorem dX4_add_22 : decode cX4_add 22 = .ok (.ireturn, 1) := by decide +kernel
theorem dX4_add_23 : decode cX4_add 23 = .ok (.iconst 0, 1) := by decide +kernel
theorem dX4_add_24 : decode cX4_add 24 = .ok (.istore_n 2, 1) := by decide +kernel
theorem dX4_add_25 : decode cX4_add 25 = .ok (.iload_n 2, 1) := by decide +kernel
theorem dX4_add_26 : decode cX4_add 26 = .ok (.sipush 160, 3) := by decide +kernel
theorem dX4_add_29 : decode cX4_add 29 = .ok (.if_icmp .ge 30, 3) := by decide +kernel
theorem dX4_add_32 : decode cX4_add 32 = .ok (.aload_n 0, 1) := by decide +kernel
theorem dX4_add_33 : decode cX4_add 33 = .ok (.getfield 9, 3) := by decide +kernel
theorem dX4_add_36 : decode cX4_add 36 = .ok (.aload_n 0, 1) := by decide +kernel
theorem dX4_add_37 : decode cX4_add 37 = .ok (.getfield 24, 3) := by decide +kernel
theorem dX4_add_40 : decode cX4_add 40 = .ok (.sipush 160, 3) := by decide +kernel
theorem dX4_add_43 : decode cX4_add 43 = .ok (.imul, 1) := by decide +kernel
theorem dX4_add_44 : decode cX4_add 44 = .ok (.iload_n 2, 1) := by decide +kernel
theorem dX4_add_45 : decode cX4_add 45 = .ok (.iadd, 1) := by decide +kernel
theorem dX4_add_46 : decode cX4_add 46 = .ok (.aload_n 1, 1) := by decide +kernel
theorem dX4_add_47 : decode cX4_add 47 = .ok (.getfield 28, 3) := by decide +kernel
theorem dX4_add_50 : decode cX4_add 50 = .ok (.iload_n 2, 1) := by decide +kernel
theorem dX4_add_51 : decode cX4_add 51 = .ok (.iaload, 1) := by decide +kernel
theorem dX4_add_52 : decode cX4_add 52 = .ok (.iastore, 1) := by decide +kernel
theorem dX4_add_53 : decode cX4_add 53 = .ok (.iinc 2 1, 3) := by decide +kernel
theorem dX4_add_56 : decode cX4_add 56 = .ok (.goto (-31), 3) := by decide +kernel
theorem dX4_add_59 : decode cX4_add 59 = .ok (.iconst 0, 1) := by decide +kernel
theorem dX4_add_60 : decode cX4_add 60 = .ok (.istore_n 2, 1) := by decide +kernel
theorem dX4_add_61 : decode cX4_add 61 = .ok (.iload_n 2, 1) := by decide +kernel
theorem dX4_add_62 : decode cX4_add 62 = .ok (.iconst 3, 1) := by decide +kernel
theorem dX4_add_63 : decode cX4_add 63 = .ok (.if_icmp .ge 28, 3) := by decide +kernel
theorem dX4_add_66 : decode cX4_add 66 = .ok (.aload_n 0, 1) := by decide +kernel
theorem dX4_add_67 : decode cX4_add 67 = .ok (.getfield 15, 3) := by decide +kernel
theorem dX4_add_70 : decode cX4_add 70 = .ok (.aload_n 0, 1) := by decide +kernel
theorem dX4_add_71 : decode cX4_add 71 = .ok (.getfield 24, 3) := by decide +kernel
theorem dX4_add_74 : decode cX4_add 74 = .ok (.iconst 3, 1) := by decide +kernel
theorem dX4_add_75 : decode cX4_add 75 = .ok (.imul, 1) := by decide +kernel
theorem dX4_add_76 : decode cX4_add 76 = .ok (.iload_n 2, 1) := by decide +kernel
theorem dX4_add_77 : decode cX4_add 77 = .ok (.iadd, 1) := by decide +kernel
theorem dX4_add_78 : decode cX4_add 78 = .ok (.aload_n 1, 1) := by decide +kernel
theorem dX4_add_79 : decode cX4_add 79 = .ok (.getfield 33, 3) := by decide +kernel
theorem dX4_add_82 : decode cX4_add 82 = .ok (.iload_n 2, 1) := by decide +kernel
theorem dX4_add_83 : decode cX4_add 83 = .ok (.iaload, 1) := by decide +kernel
theorem dX4_add_84 : decode cX4_add 84 = .ok (.iastore, 1) := by decide +kernel
theorem dX4_add_85 : decode cX4_add 85 = .ok (.iinc 2 1, 3) := by decide +kernel
theorem dX4_add_88 : decode cX4_add 88 = .ok (.goto (-27), 3) := by decide +kernel
theorem dX4_add_91 : decode cX4_add 91 = .ok (.aload_n 0, 1) := by decide +kernel
theorem dX4_add_92 : decode cX4_add 92 = .ok (.dup, 1) := by decide +kernel
theorem dX4_add_93 : decode cX4_add 93 = .ok (.getfield 24, 3) := by decide +kernel
theorem dX4_add_96 : decode cX4_add 96 = .ok (.iconst 1, 1) := by decide +kernel
theorem dX4_add_97 : decode cX4_add 97 = .ok (.iadd, 1) := by decide +kernel
theorem dX4_add_98 : decode cX4_add 98 = .ok (.putfield 24, 3) := by decide +kernel
theorem dX4_add_101 : decode cX4_add 101 = .ok (.aload_n 0, 1) := by decide +kernel
theorem dX4_add_102 : decode cX4_add 102 = .ok (.getfield 24, 3) := by decide +kernel
theorem dX4_add_105 : decode cX4_add 105 = .ok (.iconst 1, 1) := by decide +kernel
theorem dX4_add_106 : decode cX4_add 106 = .ok (.isub, 1) := by decide +kernel
theorem dX4_add_107 : decode cX4_add 107 = .ok (.ireturn, 1) := by decide +kernel
theorem dX4_name_0 : decode cX4_name 0 = .ok (.aload_n 0, 1) := by decide +kernel
theorem dX4_name_1 : decode cX4_name 1 = .ok (.getfield 18, 3) := by decide +kernel
theorem dX4_name_4 : decode cX4_name 4 = .ok (.iconst 0, 1) := by decide +kernel
theorem dX4_name_5 : decode cX4_name 5 = .ok (.iload_n 1, 1) := by decide +kernel
theorem dX4_name_6 : decode cX4_name 6 = .ok (.iastore, 1) := by decide +kernel
theorem dX4_name_7 : decode cX4_name 7 = .ok (.aload_n 0, 1) := by decide +kernel
theorem dX4_name_8 : decode cX4_name 8 = .ok (.getfield 18, 3) := by decide +kernel
theorem dX4_name_11 : decode cX4_name 11 = .ok (.iconst 1, 1) := by decide +kernel
theorem dX4_name_12 : decode cX4_name 12 = .ok (.iload_n 2, 1) := by decide +kernel
theorem dX4_name_13 : decode cX4_name 13 = .ok (.iastore, 1) := by decide +kernel
theorem dX4_name_14 : decode cX4_name 14 = .ok (.aload_n 0, 1) := by decide +kernel
theorem dX4_name_15 : decode cX4_name 15 = .ok (.getfield 18, 3) := by decide +kernel
theorem dX4_name_18 : decode cX4_name 18 = .ok (.iconst 2, 1) := by decide +kernel
theorem dX4_name_19 : decode cX4_name 19 = .ok (.iload_n 3, 1) := by decide +kernel
theorem dX4_name_20 : decode cX4_name 20 = .ok (.iastore, 1) := by decide +kernel
theorem dX4_name_21 : decode cX4_name 21 = .ok (.aload_n 0, 1) := by decide +kernel
theorem dX4_name_22 : decode cX4_name 22 = .ok (.getfield 18, 3) := by decide +kernel
theorem dX4_name_25 : decode cX4_name 25 = .ok (.iconst 3, 1) := by decide +kernel
theorem dX4_name_26 : decode cX4_name 26 = .ok (.iload 4, 2) := by decide +kernel
theorem dX4_name_28 : decode cX4_name 28 = .ok (.iastore, 1) := by decide +kernel
theorem dX4_name_29 : decode cX4_name 29 = .ok (.aload_n 0, 1) := by decide +kernel
theorem dX4_name_30 : decode cX4_name 30 = .ok (.getfield 18, 3) := by decide +kernel
theorem dX4_name_33 : decode cX4_name 33 = .ok (.iconst 4, 1) := by decide +kernel
theorem dX4_name_34 : decode cX4_name 34 = .ok (.iload 5, 2) := by decide +kernel
theorem dX4_name_36 : decode cX4_name 36 = .ok (.iastore, 1) := by decide +kernel
theorem dX4_name_37 : decode cX4_name 37 = .ok (.aload_n 0, 1) := by decide +kernel
theorem dX4_name_38 : decode cX4_name 38 = .ok (.getfield 18, 3) := by decide +kernel
theorem dX4_name_41 : decode cX4_name 41 = .ok (.iconst 5, 1) := by decide +kernel
theorem dX4_name_42 : decode cX4_name 42 = .ok (.iload 6, 2) := by decide +kernel
theorem dX4_name_44 : decode cX4_name 44 = .ok (.iastore, 1) := by decide +kernel
theorem dX4_name_45 : decode cX4_name 45 = .ok (.return_, 1) := by decide +kernel
theorem dX4_valueOf_0 : decode cX4_valueOf 0 = .ok (.iload_n 1, 1) := by decide +kernel
theorem dX4_valueOf_1 : decode cX4_valueOf 1 = .ok (.ifCond .lt 18, 3) := by decide +kernel
theorem dX4_valueOf_4 : decode cX4_valueOf 4 = .ok (.iload_n 1, 1) := by decide +kernel
theorem dX4_valueOf_5 : decode cX4_valueOf 5 = .ok (.bipush 6, 2) := by decide +kernel
theorem dX4_valueOf_7 : decode cX4_valueOf 7 = .ok (.if_icmp .ge 12, 3) := by decide +kernel
theorem dX4_valueOf_10 : decode cX4_valueOf 10 = .ok (.iload_n 2, 1) := by decide +kernel
theorem dX4_valueOf_11 : decode cX4_valueOf 11 = .ok (.ifCond .lt 8, 3) := by decide +kernel
theorem dX4_valueOf_14 : decode cX4_valueOf 14 = .ok (.iload_n 2, 1) := by decide +kernel
theorem dX4_valueOf_15 : decode cX4_valueOf 15 = .ok (.iconst 3, 1) := by decide +kernel
theorem dX4_valueOf_16 : decode cX4_valueOf 16 = .ok (.if_icmp .lt 5, 3) := by decide +kernel
theorem dX4_valueOf_19 : decode cX4_valueOf 19 = .ok (.iconst 0, 1) := by decide +kernel
theorem dX4_valueOf_20 : decode cX4_valueOf 20 = .ok (.ireturn, 1) := by decide +kernel
theorem dX4_valueOf_21 : decode cX4_valueOf 21 = .ok (.iload_n 2, 1) := by decide +kernel
theorem dX4_valueOf_22 : decode cX4_valueOf 22 = .ok (.ifCond .ne 7, 3) := by decide +kernel
theorem dX4_valueOf_25 : decode cX4_valueOf 25 = .ok (.iconst 0, 1) := by decide +kernel
theorem dX4_valueOf_26 : decode cX4_valueOf 26 = .ok (.goto 15, 3) := by decide +kernel
theorem dX4_valueOf_29 : decode cX4_valueOf 29 = .ok (.aload_n 0, 1) := by decide +kernel
theorem dX4_valueOf_30 : decode cX4_valueOf 30 = .ok (.getfield 15, 3) := by decide +kernel
theorem dX4_valueOf_33 : decode cX4_valueOf 33 = .ok (.iload_n 1, 1) := by decide +kernel
theorem dX4_valueOf_34 : decode cX4_valueOf 34 = .ok (.iconst 3, 1) := by decide +kernel
theorem dX4_valueOf_35 : decode cX4_valueOf 35 = .ok (.imul, 1) := by decide +kernel
theorem dX4_valueOf_36 : decode cX4_valueOf 36 = .ok (.iload_n 2, 1) := by decide +kernel
theorem dX4_valueOf_37 : decode cX4_valueOf 37 = .ok (.iadd, 1) := by decide +kernel
theorem dX4_valueOf_38 : decode cX4_valueOf 38 = .ok (.iconst 1, 1) := by decide +kernel
theorem dX4_valueOf_39 : decode cX4_valueOf 39 = .ok (.isub, 1) := by decide +kernel
theorem dX4_valueOf_40 : decode cX4_valueOf 40 = .ok (.iaload, 1) := by decide +kernel
theorem dX4_valueOf_41 : decode cX4_valueOf 41 = .ok (.istore_n 3, 1) := by decide +kernel
theorem dX4_valueOf_42 : decode cX4_valueOf 42 = .ok (.aload_n 0, 1) := by decide +kernel
theorem dX4_valueOf_43 : decode cX4_valueOf 43 = .ok (.getfield 15, 3) := by decide +kernel
theorem dX4_valueOf_46 : decode cX4_valueOf 46 = .ok (.iload_n 1, 1) := by decide +kernel
theorem dX4_valueOf_47 : decode cX4_valueOf 47 = .ok (.iconst 3, 1) := by decide +kernel
theorem dX4_valueOf_48 : decode cX4_valueOf 48 = .ok (.imul, 1) := by decide +kernel
theorem dX4_valueOf_49 : decode cX4_valueOf 49 = .ok (.iload_n 2, 1) := by decide +kernel
theorem dX4_valueOf_50 : decode cX4_valueOf 50 = .ok (.iadd, 1) := by decide +kernel
theorem dX4_valueOf_51 : decode cX4_valueOf 51 = .ok (.iaload, 1) := by decide +kernel
theorem dX4_valueOf_52 : decode cX4_valueOf 52 = .ok (.istore 4, 2) := by decide +kernel
theorem dX4_valueOf_54 : decode cX4_valueOf 54 = .ok (.iconst 0, 1) := by decide +kernel
theorem dX4_valueOf_55 : decode cX4_valueOf 55 = .ok (.istore 5, 2) := by decide +kernel
theorem dX4_valueOf_57 : decode cX4_valueOf 57 = .ok (.iconst 0, 1) := by decide +kernel
theorem dX4_valueOf_58 : decode cX4_valueOf 58 = .ok (.iload_n 3, 1) := by decide +kernel
theorem dX4_valueOf_59 : decode cX4_valueOf 59 = .ok (.invokestatic 34, 3) := by decide +kernel
theorem dX4_valueOf_62 : decode cX4_valueOf 62 = .ok (.istore 6, 2) := by decide +kernel
theorem dX4_valueOf_64 : decode cX4_valueOf 64 = .ok (.iload 6, 2) := by decide +kernel
theorem dX4_valueOf_66 : decode cX4_valueOf 66 = .ok (.iload 4, 2) := by decide +kernel
theorem dX4_valueOf_68 : decode cX4_valueOf 68 = .ok (.if_icmp .ge 157, 3) := by decide +kernel
theorem dX4_valueOf_71 : decode cX4_valueOf 71 = .ok (.iload 6, 2) := by decide +kernel
theorem dX4_valueOf_73 : decode cX4_valueOf 73 = .ok (.sipush 160, 3) := by decide +kernel
theorem dX4_valueOf_76 : decode cX4_valueOf 76 = .ok (.if_icmp .ge 149, 3) := by decide +kernel
theorem dX4_valueOf_79 : decode cX4_valueOf 79 = .ok (.iload 5, 2) := by decide +kernel
theorem dX4_valueOf_81 : decode cX4_valueOf 81 = .ok (.sipush 160, 3) := by decide +kernel
theorem dX4_valueOf_84 : decode cX4_valueOf 84 = .ok (.if_icmp .ge 141, 3) := by decide +kernel
theorem dX4_valueOf_87 : decode cX4_valueOf 87 = .ok (.aload_n 0, 1) := by decide +kernel
theorem dX4_valueOf_88 : decode cX4_valueOf 88 = .ok (.getfield 9, 3) := by decide +kernel
theorem dX4_valueOf_91 : decode cX4_valueOf 91 = .ok (.iload_n 1, 1) := by decide +kernel
theorem dX4_valueOf_92 : decode cX4_valueOf 92 = .ok (.sipush 160, 3) := by decide +kernel
theorem dX4_valueOf_95 : decode cX4_valueOf 95 = .ok (.imul, 1) := by decide +kernel
theorem dX4_valueOf_96 : decode cX4_valueOf 96 = .ok (.iload 6, 2) := by decide +kernel
theorem dX4_valueOf_98 : decode cX4_valueOf 98 = .ok (.iadd, 1) := by decide +kernel
theorem dX4_valueOf_99 : decode cX4_valueOf 99 = .ok (.iaload, 1) := by decide +kernel
theorem dX4_valueOf_100 : decode cX4_valueOf 100 = .ok (.istore 7, 2) := by decide +kernel
theorem dX4_valueOf_102 : decode cX4_valueOf 102 = .ok (.iload 7, 2) := by decide +kernel
theorem dX4_valueOf_104 : decode cX4_valueOf 104 = .ok (.sipush 20000, 3) := by decide +kernel
theorem dX4_valueOf_107 : decode cX4_valueOf 107 = .ok (.if_icmp .ge 22, 3) := by decide +kernel
theorem dX4_valueOf_110 : decode cX4_valueOf 110 = .ok (.aload_n 0, 1) := by decide +kernel
theorem dX4_valueOf_111 : decode cX4_valueOf 111 = .ok (.getfield 21, 3) := by decide +kernel
theorem dX4_valueOf_114 : decode cX4_valueOf 114 = .ok (.iload 5, 2) := by decide +kernel
theorem dX4_valueOf_116 : decode cX4_valueOf 116 = .ok (.aload_n 0, 1) := by decide +kernel
theorem dX4_valueOf_117 : decode cX4_valueOf 117 = .ok (.iload 7, 2) := by decide +kernel
theorem dX4_valueOf_119 : decode cX4_valueOf 119 = .ok (.invokevirtual 40, 3) := by decide +kernel
theorem dX4_valueOf_122 : decode cX4_valueOf 122 = .ok (.iastore, 1) := by decide +kernel
theorem dX4_valueOf_123 : decode cX4_valueOf 123 = .ok (.iinc 5 1, 3) := by decide +kernel
theorem dX4_valueOf_126 : decode cX4_valueOf 126 = .ok (.goto 93, 3) := by decide +kernel
theorem dX4_valueOf_129 : decode cX4_valueOf 129 = .ok (.iload 7, 2) := by decide +kernel
theorem dX4_valueOf_131 : decode cX4_valueOf 131 = .ok (.sipush 20000, 3) := by decide +kernel
theorem dX4_valueOf_134 : decode cX4_valueOf 134 = .ok (.if_icmp .eq 11, 3) := by decide +kernel
theorem dX4_valueOf_137 : decode cX4_valueOf 137 = .ok (.iload 7, 2) := by decide +kernel
theorem dX4_valueOf_139 : decode cX4_valueOf 139 = .ok (.sipush 20105, 3) := by decide +kernel
theorem dX4_valueOf_142 : decode cX4_valueOf 142 = .ok (.if_icmp .ne 34, 3) := by decide +kernel
theorem dX4_valueOf_145 : decode cX4_valueOf 145 = .ok (.iload 5, 2) := by decide +kernel
theorem dX4_valueOf_147 : decode cX4_valueOf 147 = .ok (.ifCond .le 72, 3) := by decide +kernel
theorem dX4_valueOf_150 : decode cX4_valueOf 150 = .ok (.aload_n 0, 1) := by decide +kernel
theorem dX4_valueOf_151 : decode cX4_valueOf 151 = .ok (.getfield 21, 3) := by decide +kernel
theorem dX4_valueOf_154 : decode cX4_valueOf 154 = .ok (.iload 5, 2) := by decide +kernel
theorem dX4_valueOf_156 : decode cX4_valueOf 156 = .ok (.iconst 1, 1) := by decide +kernel
theorem dX4_valueOf_157 : decode cX4_valueOf 157 = .ok (.isub, 1) := by decide +kernel
theorem dX4_valueOf_158 : decode cX4_valueOf 158 = .ok (.iload 7, 2) := by decide +kernel
theorem dX4_valueOf_160 : decode cX4_valueOf 160 = .ok (.aload_n 0, 1) := by decide +kernel
theorem dX4_valueOf_161 : decode cX4_valueOf 161 = .ok (.getfield 21, 3) := by decide +kernel
theorem dX4_valueOf_164 : decode cX4_valueOf 164 = .ok (.iload 5, 2) := by decide +kernel
theorem dX4_valueOf_166 : decode cX4_valueOf 166 = .ok (.iconst 1, 1) := by decide +kernel
theorem dX4_valueOf_167 : decode cX4_valueOf 167 = .ok (.isub, 1) := by decide +kernel
theorem dX4_valueOf_168 : decode cX4_valueOf 168 = .ok (.iaload, 1) := by decide +kernel
theorem dX4_valueOf_169 : decode cX4_valueOf 169 = .ok (.invokestatic 44, 3) := by decide +kernel
theorem dX4_valueOf_172 : decode cX4_valueOf 172 = .ok (.iastore, 1) := by decide +kernel
theorem dX4_valueOf_173 : decode cX4_valueOf 173 = .ok (.goto 46, 3) := by decide +kernel
theorem dX4_valueOf_176 : decode cX4_valueOf 176 = .ok (.iload 5, 2) := by decide +kernel
theorem dX4_valueOf_178 : decode cX4_valueOf 178 = .ok (.iconst 1, 1) := by decide +kernel
theorem dX4_valueOf_179 : decode cX4_valueOf 179 = .ok (.if_icmp .le 40, 3) := by decide +kernel
theorem dX4_valueOf_182 : decode cX4_valueOf 182 = .ok (.iinc 5 (-1), 3) := by decide +kernel
theorem dX4_valueOf_185 : decode cX4_valueOf 185 = .ok (.aload_n 0, 1) := by decide +kernel
theorem dX4_valueOf_186 : decode cX4_valueOf 186 = .ok (.getfield 21, 3) := by decide +kernel
theorem dX4_valueOf_189 : decode cX4_valueOf 189 = .ok (.iload 5, 2) := by decide +kernel
theorem dX4_valueOf_191 : decode cX4_valueOf 191 = .ok (.iconst 1, 1) := by decide +kernel
theorem dX4_valueOf_192 : decode cX4_valueOf 192 = .ok (.isub, 1) := by decide +kernel
theorem dX4_valueOf_193 : decode cX4_valueOf 193 = .ok (.iload 7, 2) := by decide +kernel
theorem dX4_valueOf_195 : decode cX4_valueOf 195 = .ok (.sipush 20000, 3) := by decide +kernel
theorem dX4_valueOf_198 : decode cX4_valueOf 198 = .ok (.isub, 1) := by decide +kernel
theorem dX4_valueOf_199 : decode cX4_valueOf 199 = .ok (.aload_n 0, 1) := by decide +kernel
theorem dX4_valueOf_200 : decode cX4_valueOf 200 = .ok (.getfield 21, 3) := by decide +kernel
theorem dX4_valueOf_203 : decode cX4_valueOf 203 = .ok (.iload 5, 2) := by decide +kernel
theorem dX4_valueOf_205 : decode cX4_valueOf 205 = .ok (.iconst 1, 1) := by decide +kernel
theorem dX4_valueOf_206 : decode cX4_valueOf 206 = .ok (.isub, 1) := by decide +kernel
theorem dX4_valueOf_207 : decode cX4_valueOf 207 = .ok (.iaload, 1) := by decide +kernel
theorem dX4_valueOf_208 : decode cX4_valueOf 208 = .ok (.aload_n 0, 1) := by decide +kernel
theorem dX4_valueOf_209 : decode cX4_valueOf 209 = .ok (.getfield 21, 3) := by decide +kernel
theorem dX4_valueOf_212 : decode cX4_valueOf 212 = .ok (.iload 5, 2) := by decide +kernel
theorem dX4_valueOf_214 : decode cX4_valueOf 214 = .ok (.iaload, 1) := by decide +kernel
theorem dX4_valueOf_215 : decode cX4_valueOf 215 = .ok (.invokestatic 47, 3) := by decide +kernel
theorem dX4_valueOf_218 : decode cX4_valueOf 218 = .ok (.iastore, 1) := by decide +kernel
theorem dX4_valueOf_219 : decode cX4_valueOf 219 = .ok (.iinc 6 1, 3) := by decide +kernel
theorem dX4_valueOf_222 : decode cX4_valueOf 222 = .ok (.goto (-158), 3) := by decide +kernel
theorem dX4_valueOf_225 : decode cX4_valueOf 225 = .ok (.iload 5, 2) := by decide +kernel
theorem dX4_valueOf_227 : decode cX4_valueOf 227 = .ok (.ifCond .le 12, 3) := by decide +kernel
theorem dX4_valueOf_230 : decode cX4_valueOf 230 = .ok (.aload_n 0, 1) := by decide +kernel
theorem dX4_valueOf_231 : decode cX4_valueOf 231 = .ok (.getfield 21, 3) := by decide +kernel
theorem dX4_valueOf_234 : decode cX4_valueOf 234 = .ok (.iconst 0, 1) := by decide +kernel
theorem dX4_valueOf_235 : decode cX4_valueOf 235 = .ok (.iaload, 1) := by decide +kernel
theorem dX4_valueOf_236 : decode cX4_valueOf 236 = .ok (.goto 4, 3) := by decide +kernel
theorem dX4_valueOf_239 : decode cX4_valueOf 239 = .ok (.iconst 0, 1) := by decide +kernel
theorem dX4_valueOf_240 : decode cX4_valueOf 240 = .ok (.ireturn, 1) := by decide +kernel
theorem dX4_operand_0 : decode cX4_operand 0 = .ok (.iload_n 1, 1) := by decide +kernel
theorem dX4_operand_1 : decode cX4_operand 1 = .ok (.sipush 10000, 3) := by decide +kernel
theorem dX4_operand_4 : decode cX4_operand 4 = .ok (.isub, 1) := by decide +kernel
theorem dX4_operand_5 : decode cX4_operand 5 = .ok (.istore_n 2, 1) := by decide +kernel
theorem dX4_operand_6 : decode cX4_operand 6 = .ok (.iload_n 2, 1) := by decide +kernel
theorem dX4_operand_7 : decode cX4_operand 7 = .ok (.ifCond .ge 5, 3) := by decide +kernel
theorem dX4_operand_10 : decode cX4_operand 10 = .ok (.iload_n 1, 1) := by decide +kernel
theorem dX4_operand_11 : decode cX4_operand 11 = .ok (.ireturn, 1) := by decide +kernel
theorem dX4_operand_12 : decode cX4_operand 12 = .ok (.iload_n 2, 1) := by decide +kernel
theorem dX4_operand_13 : decode cX4_operand 13 = .ok (.bipush 6, 2) := by decide +kernel
theorem dX4_operand_15 : decode cX4_operand 15 = .ok (.if_icmp .ge 12, 3) := by decide +kernel
theorem dX4_operand_18 : decode cX4_operand 18 = .ok (.aload_n 0, 1) := by decide +kernel
theorem dX4_operand_19 : decode cX4_operand 19 = .ok (.getfield 18, 3) := by decide +kernel
theorem dX4_operand_22 : decode cX4_operand 22 = .ok (.iload_n 2, 1) := by decide +kernel
theorem dX4_operand_23 : decode cX4_operand 23 = .ok (.iaload, 1) := by decide +kernel
theorem dX4_operand_24 : decode cX4_operand 24 = .ok (.goto 4, 3) := by decide +kernel
theorem dX4_operand_27 : decode cX4_operand 27 = .ok (.iconst 0, 1) := by decide +kernel
theorem dX4_operand_28 : decode cX4_operand 28 = .ok (.ireturn, 1) := by decide +kernel
theorem dX4_turned_0 : decode cX4_turned 0 = .ok (.iload_n 0, 1) := by decide +kernel
theorem dX4_turned_1 : decode cX4_turned 1 = .ok (.sipush 20000, 3) := by decide +kernel
theorem dX4_turned_4 : decode cX4_turned 4 = .ok (.if_icmp .ne 6, 3) := by decide +kernel
theorem dX4_turned_7 : decode cX4_turned 7 = .ok (.iload_n 1, 1) := by decide +kernel
theorem dX4_turned_8 : decode cX4_turned 8 = .ok (.ineg, 1) := by decide +kernel
theorem dX4_turned_9 : decode cX4_turned 9 = .ok (.ireturn, 1) := by decide +kernel
theorem dX4_turned_10 : decode cX4_turned 10 = .ok (.iload_n 1, 1) := by decide +kernel
theorem dX4_turned_11 : decode cX4_turned 11 = .ok (.ifCond .ne 7, 3) := by decide +kernel
theorem dX4_turned_14 : decode cX4_turned 14 = .ok (.iconst 1, 1) := by decide +kernel
theorem dX4_turned_15 : decode cX4_turned 15 = .ok (.goto 4, 3) := by decide +kernel
theorem dX4_turned_18 : decode cX4_turned 18 = .ok (.iconst 0, 1) := by decide +kernel
theorem dX4_turned_19 : decode cX4_turned 19 = .ok (.ireturn, 1) := by decide +kernel
theorem dX4_joined_0 : decode cX4_joined 0 = .ok (.iload_n 0, 1) := by decide +kernel
theorem dX4_joined_1 : decode cX4_joined 1 = .ok (.lookupswitch 117 #[(43, 109), (45, 113), (60, 87), (61, 98), (103, 59), (104, 73)], 59) := by decide +kernel
theorem dX4_joined_60 : decode cX4_joined 60 = .ok (.iload_n 1, 1) := by decide +kernel
theorem dX4_joined_61 : decode cX4_joined 61 = .ok (.ifCond .ne 7, 3) := by decide +kernel
theorem dX4_joined_64 : decode cX4_joined 64 = .ok (.iload_n 2, 1) := by decide +kernel
theorem dX4_joined_65 : decode cX4_joined 65 = .ok (.ifCond .eq 7, 3) := by decide +kernel
theorem dX4_joined_68 : decode cX4_joined 68 = .ok (.iconst 1, 1) := by decide +kernel
theorem dX4_joined_69 : decode cX4_joined 69 = .ok (.goto 4, 3) := by decide +kernel
theorem dX4_joined_72 : decode cX4_joined 72 = .ok (.iconst 0, 1) := by decide +kernel
theorem dX4_joined_73 : decode cX4_joined 73 = .ok (.ireturn, 1) := by decide +kernel
theorem dX4_joined_74 : decode cX4_joined 74 = .ok (.iload_n 1, 1) := by decide +kernel
theorem dX4_joined_75 : decode cX4_joined 75 = .ok (.ifCond .eq 11, 3) := by decide +kernel
theorem dX4_joined_78 : decode cX4_joined 78 = .ok (.iload_n 2, 1) := by decide +kernel
theorem dX4_joined_79 : decode cX4_joined 79 = .ok (.ifCond .eq 7, 3) := by decide +kernel
theorem dX4_joined_82 : decode cX4_joined 82 = .ok (.iconst 1, 1) := by decide +kernel
theorem dX4_joined_83 : decode cX4_joined 83 = .ok (.goto 4, 3) := by decide +kernel
theorem dX4_joined_86 : decode cX4_joined 86 = .ok (.iconst 0, 1) := by decide +kernel
theorem dX4_joined_87 : decode cX4_joined 87 = .ok (.ireturn, 1) := by decide +kernel
theorem dX4_joined_88 : decode cX4_joined 88 = .ok (.iload_n 1, 1) := by decide +kernel
theorem dX4_joined_89 : decode cX4_joined 89 = .ok (.iload_n 2, 1) := by decide +kernel
theorem dX4_joined_90 : decode cX4_joined 90 = .ok (.if_icmp .ge 7, 3) := by decide +kernel
theorem dX4_joined_93 : decode cX4_joined 93 = .ok (.iconst 1, 1) := by decide +kernel
theorem dX4_joined_94 : decode cX4_joined 94 = .ok (.goto 4, 3) := by decide +kernel
theorem dX4_joined_97 : decode cX4_joined 97 = .ok (.iconst 0, 1) := by decide +kernel
theorem dX4_joined_98 : decode cX4_joined 98 = .ok (.ireturn, 1) := by decide +kernel
theorem dX4_joined_99 : decode cX4_joined 99 = .ok (.iload_n 1, 1) := by decide +kernel
theorem dX4_joined_100 : decode cX4_joined 100 = .ok (.iload_n 2, 1) := by decide +kernel
theorem dX4_joined_101 : decode cX4_joined 101 = .ok (.if_icmp .ne 7, 3) := by decide +kernel
theorem dX4_joined_104 : decode cX4_joined 104 = .ok (.iconst 1, 1) := by decide +kernel
theorem dX4_joined_105 : decode cX4_joined 105 = .ok (.goto 4, 3) := by decide +kernel
theorem dX4_joined_108 : decode cX4_joined 108 = .ok (.iconst 0, 1) := by decide +kernel
theorem dX4_joined_109 : decode cX4_joined 109 = .ok (.ireturn, 1) := by decide +kernel
theorem dX4_joined_110 : decode cX4_joined 110 = .ok (.iload_n 1, 1) := by decide +kernel
theorem dX4_joined_111 : decode cX4_joined 111 = .ok (.iload_n 2, 1) := by decide +kernel
theorem dX4_joined_112 : decode cX4_joined 112 = .ok (.iadd, 1) := by decide +kernel
theorem dX4_joined_113 : decode cX4_joined 113 = .ok (.ireturn, 1) := by decide +kernel
theorem dX4_joined_114 : decode cX4_joined 114 = .ok (.iload_n 1, 1) := by decide +kernel
theorem dX4_joined_115 : decode cX4_joined 115 = .ok (.iload_n 2, 1) := by decide +kernel
theorem dX4_joined_116 : decode cX4_joined 116 = .ok (.isub, 1) := by decide +kernel
theorem dX4_joined_117 : decode cX4_joined 117 = .ok (.ireturn, 1) := by decide +kernel
theorem dX4_joined_118 : decode cX4_joined 118 = .ok (.iload_n 1, 1) := by decide +kernel
theorem dX4_joined_119 : decode cX4_joined 119 = .ok (.iload_n 2, 1) := by decide +kernel
theorem dX4_joined_120 : decode cX4_joined 120 = .ok (.imul, 1) := by decide +kernel
theorem dX4_joined_121 : decode cX4_joined 121 = .ok (.ireturn, 1) := by decide +kernel
theorem dJ9_max_7cf53_0 : decode cJ9_max_7cf53 0 = .ok (.iload_n 0, 1) := by decide +kernel
theorem dJ9_max_7cf53_1 : decode cJ9_max_7cf53 1 = .ok (.iload_n 1, 1) := by decide +kernel
theorem dJ9_max_7cf53_2 : decode cJ9_max_7cf53 2 = .ok (.if_icmp .lt 7, 3) := by decide +kernel
theorem dJ9_max_7cf53_5 : decode cJ9_max_7cf53 5 = .ok (.iload_n 0, 1) := by decide +kernel
theorem dJ9_max_7cf53_6 : decode cJ9_max_7cf53 6 = .ok (.goto 4, 3) := by decide +kernel
theorem dJ9_max_7cf53_9 : decode cJ9_max_7cf53 9 = .ok (.iload_n 1, 1) := by decide +kernel
theorem dJ9_max_7cf53_10 : decode cJ9_max_7cf53 10 = .ok (.ireturn, 1) := by decide +kernel
theorem dJ9_min_7cf53_0 : decode cJ9_min_7cf53 0 = .ok (.iload_n 0, 1) := by decide +kernel
theorem dJ9_min_7cf53_1 : decode cJ9_min_7cf53 1 = .ok (.iload_n 1, 1) := by decide +kernel
theorem dJ9_min_7cf53_2 : decode cJ9_min_7cf53 2 = .ok (.if_icmp .gt 7, 3) := by decide +kernel
theorem dJ9_min_7cf53_5 : decode cJ9_min_7cf53 5 = .ok (.iload_n 0, 1) := by decide +kernel
theorem dJ9_min_7cf53_6 : decode cJ9_min_7cf53 6 = .ok (.goto 4, 3) := by decide +kernel
theorem dJ9_min_7cf53_9 : decode cJ9_min_7cf53 9 = .ok (.iload_n 1, 1) := by decide +kernel
theorem dJ9_min_7cf53_10 : decode cJ9_min_7cf53 10 = .ok (.ireturn, 1) := by decide +kernel
theorem dJ0_length_8abf5_0 : decode cJ0_length_8abf5 0 = .ok (.aload_n 0, 1) := by decide +kernel
theorem dJ0_length_8abf5_1 : decode cJ0_length_8abf5 1 = .ok (.getfield 9, 3) := by decide +kernel
theorem dJ0_length_8abf5_4 : decode cJ0_length_8abf5 4 = .ok (.arraylength, 1) := by decide +kernel
theorem dJ0_length_8abf5_5 : decode cJ0_length_8abf5 5 = .ok (.aload_n 0, 1) := by decide +kernel
theorem dJ0_length_8abf5_6 : decode cJ0_length_8abf5 6 = .ok (.invokevirtual 335, 3) := by decide +kernel
theorem dJ0_length_8abf5_9 : decode cJ0_length_8abf5 9 = .ok (.ishr, 1) := by decide +kernel
theorem dJ0_length_8abf5_10 : decode cJ0_length_8abf5 10 = .ok (.ireturn, 1) := by decide +kernel
theorem dJ0_charAt_5068e_0 : decode cJ0_charAt_5068e 0 = .ok (.aload_n 0, 1) := by decide +kernel
theorem dJ0_charAt_5068e_1 : decode cJ0_charAt_5068e 1 = .ok (.invokevirtual 492, 3) := by decide +kernel
theorem dJ0_charAt_5068e_4 : decode cJ0_charAt_5068e 4 = .ok (.ifCond .eq 12, 3) := by decide +kernel
theorem dJ0_charAt_5068e_7 : decode cJ0_charAt_5068e 7 = .ok (.aload_n 0, 1) := by decide +kernel
theorem dJ0_charAt_5068e_8 : decode cJ0_charAt_5068e 8 = .ok (.getfield 9, 3) := by decide +kernel
theorem dJ0_charAt_5068e_11 : decode cJ0_charAt_5068e 11 = .ok (.iload_n 1, 1) := by decide +kernel
theorem dJ0_charAt_5068e_12 : decode cJ0_charAt_5068e 12 = .ok (.invokestatic 495, 3) := by decide +kernel
theorem dJ0_charAt_5068e_15 : decode cJ0_charAt_5068e 15 = .ok (.ireturn, 1) := by decide +kernel
theorem dJ0_charAt_5068e_16 : decode cJ0_charAt_5068e 16 = .ok (.aload_n 0, 1) := by decide +kernel
theorem dJ0_charAt_5068e_17 : decode cJ0_charAt_5068e 17 = .ok (.getfield 9, 3) := by decide +kernel
theorem dJ0_charAt_5068e_20 : decode cJ0_charAt_5068e 20 = .ok (.iload_n 1, 1) := by decide +kernel
theorem dJ0_charAt_5068e_21 : decode cJ0_charAt_5068e 21 = .ok (.invokestatic 498, 3) := by decide +kernel
theorem dJ0_charAt_5068e_24 : decode cJ0_charAt_5068e 24 = .ok (.ireturn, 1) := by decide +kernel
theorem dJ0_coder_7d493_0 : decode cJ0_coder_7d493 0 = .ok (.getstatic 38, 3) := by decide +kernel
theorem dJ0_coder_7d493_3 : decode cJ0_coder_7d493 3 = .ok (.ifCond .eq 10, 3) := by decide +kernel
theorem dJ0_coder_7d493_6 : decode cJ0_coder_7d493 6 = .ok (.aload_n 0, 1) := by decide +kernel
theorem dJ0_coder_7d493_7 : decode cJ0_coder_7d493 7 = .ok (.getfield 15, 3) := by decide +kernel
theorem dJ0_coder_7d493_10 : decode cJ0_coder_7d493 10 = .ok (.goto 4, 3) := by decide +kernel
theorem dJ0_coder_7d493_13 : decode cJ0_coder_7d493 13 = .ok (.iconst 1, 1) := by decide +kernel
theorem dJ0_coder_7d493_14 : decode cJ0_coder_7d493 14 = .ok (.ireturn, 1) := by decide +kernel
theorem dJ0_isLatin1_aae02_0 : decode cJ0_isLatin1_aae02 0 = .ok (.getstatic 38, 3) := by decide +kernel
theorem dJ0_isLatin1_aae02_3 : decode cJ0_isLatin1_aae02 3 = .ok (.ifCond .eq 14, 3) := by decide +kernel
theorem dJ0_isLatin1_aae02_6 : decode cJ0_isLatin1_aae02 6 = .ok (.aload_n 0, 1) := by decide +kernel
theorem dJ0_isLatin1_aae02_7 : decode cJ0_isLatin1_aae02 7 = .ok (.getfield 15, 3) := by decide +kernel
theorem dJ0_isLatin1_aae02_10 : decode cJ0_isLatin1_aae02 10 = .ok (.ifCond .ne 7, 3) := by decide +kernel
theorem dJ0_isLatin1_aae02_13 : decode cJ0_isLatin1_aae02 13 = .ok (.iconst 1, 1) := by decide +kernel
theorem dJ0_isLatin1_aae02_14 : decode cJ0_isLatin1_aae02 14 = .ok (.goto 4, 3) := by decide +kernel
theorem dJ0_isLatin1_aae02_17 : decode cJ0_isLatin1_aae02 17 = .ok (.iconst 0, 1) := by decide +kernel
theorem dJ0_isLatin1_aae02_18 : decode cJ0_isLatin1_aae02 18 = .ok (.ireturn, 1) := by decide +kernel
theorem dJ0_checkIndex_df160_0 : decode cJ0_checkIndex_df160 0 = .ok (.iload_n 0, 1) := by decide +kernel
theorem dJ0_checkIndex_df160_1 : decode cJ0_checkIndex_df160 1 = .ok (.iload_n 1, 1) := by decide +kernel
theorem dJ0_checkIndex_df160_2 : decode cJ0_checkIndex_df160 2 = .ok (.getstatic 1053, 3) := by decide +kernel
theorem dJ0_checkIndex_df160_5 : decode cJ0_checkIndex_df160 5 = .ok (.invokestatic 1059, 3) := by decide +kernel
theorem dJ0_checkIndex_df160_8 : decode cJ0_checkIndex_df160 8 = .ok (.pop, 1) := by decide +kernel
theorem dJ0_checkIndex_df160_9 : decode cJ0_checkIndex_df160 9 = .ok (.return_, 1) := by decide +kernel
theorem dJ1_charAt_3b067_0 : decode cJ1_charAt_3b067 0 = .ok (.iload_n 1, 1) := by decide +kernel
theorem dJ1_charAt_3b067_1 : decode cJ1_charAt_3b067 1 = .ok (.aload_n 0, 1) := by decide +kernel
theorem dJ1_charAt_3b067_2 : decode cJ1_charAt_3b067 2 = .ok (.arraylength, 1) := by decide +kernel
theorem dJ1_charAt_3b067_3 : decode cJ1_charAt_3b067 3 = .ok (.invokestatic 9, 3) := by decide +kernel
theorem dJ1_charAt_3b067_6 : decode cJ1_charAt_3b067 6 = .ok (.aload_n 0, 1) := by decide +kernel
theorem dJ1_charAt_3b067_7 : decode cJ1_charAt_3b067 7 = .ok (.iload_n 1, 1) := by decide +kernel
theorem dJ1_charAt_3b067_8 : decode cJ1_charAt_3b067 8 = .ok (.baload, 1) := by decide +kernel
theorem dJ1_charAt_3b067_9 : decode cJ1_charAt_3b067 9 = .ok (.sipush 255, 3) := by decide +kernel
theorem dJ1_charAt_3b067_12 : decode cJ1_charAt_3b067 12 = .ok (.iand, 1) := by decide +kernel
theorem dJ1_charAt_3b067_13 : decode cJ1_charAt_3b067 13 = .ok (.i2c, 1) := by decide +kernel
theorem dJ1_charAt_3b067_14 : decode cJ1_charAt_3b067 14 = .ok (.ireturn, 1) := by decide +kernel
theorem dJ2_getChar_3b067_0 : decode cJ2_getChar_3b067 0 = .ok (.getstatic 44, 3) := by decide +kernel
theorem dJ2_getChar_3b067_3 : decode cJ2_getChar_3b067 3 = .ok (.ifCond .ne 25, 3) := by decide +kernel
theorem dJ2_getChar_3b067_6 : decode cJ2_getChar_3b067 6 = .ok (.iload_n 1, 1) := by decide +kernel
theorem dJ2_getChar_3b067_7 : decode cJ2_getChar_3b067 7 = .ok (.ifCond .lt 11, 3) := by decide +kernel
theorem dJ2_getChar_3b067_10 : decode cJ2_getChar_3b067 10 = .ok (.iload_n 1, 1) := by decide +kernel
theorem dJ2_getChar_3b067_11 : decode cJ2_getChar_3b067 11 = .ok (.aload_n 0, 1) := by decide +kernel
theorem dJ2_getChar_3b067_12 : decode cJ2_getChar_3b067 12 = .ok (.invokestatic 48, 3) := by decide +kernel
theorem dJ2_getChar_3b067_15 : decode cJ2_getChar_3b067 15 = .ok (.if_icmp .lt 13, 3) := by decide +kernel
theorem dJ2_getChar_3b067_18 : decode cJ2_getChar_3b067 18 = .ok (.new 52, 3) := by decide +kernel
theorem dJ2_getChar_3b067_21 : decode cJ2_getChar_3b067 21 = .ok (.dup, 1) := by decide +kernel
theorem dJ2_getChar_3b067_22 : decode cJ2_getChar_3b067 22 = .ok (.ldc 54, 2) := by decide +kernel
theorem dJ2_getChar_3b067_24 : decode cJ2_getChar_3b067 24 = .ok (.invokespecial 56, 3) := by decide +kernel
theorem dJ2_getChar_3b067_27 : decode cJ2_getChar_3b067 27 = .ok (.athrow, 1) := by decide +kernel
theorem dJ2_getChar_3b067_28 : decode cJ2_getChar_3b067 28 = .ok (.iload_n 1, 1) := by decide +kernel
theorem dJ2_getChar_3b067_29 : decode cJ2_getChar_3b067 29 = .ok (.iconst 1, 1) := by decide +kernel
theorem dJ2_getChar_3b067_30 : decode cJ2_getChar_3b067 30 = .ok (.ishl, 1) := by decide +kernel
theorem dJ2_getChar_3b067_31 : decode cJ2_getChar_3b067 31 = .ok (.istore_n 1, 1) := by decide +kernel
theorem dJ2_getChar_3b067_32 : decode cJ2_getChar_3b067 32 = .ok (.aload_n 0, 1) := by decide +kernel
theorem dJ2_getChar_3b067_33 : decode cJ2_getChar_3b067 33 = .ok (.iload_n 1, 1) := by decide +kernel
theorem dJ2_getChar_3b067_34 : decode cJ2_getChar_3b067 34 = .ok (.iinc 1 1, 3) := by decide +kernel
theorem dJ2_getChar_3b067_37 : decode cJ2_getChar_3b067 37 = .ok (.baload, 1) := by decide +kernel
theorem dJ2_getChar_3b067_38 : decode cJ2_getChar_3b067 38 = .ok (.sipush 255, 3) := by decide +kernel
theorem dJ2_getChar_3b067_41 : decode cJ2_getChar_3b067 41 = .ok (.iand, 1) := by decide +kernel
theorem dJ2_getChar_3b067_42 : decode cJ2_getChar_3b067 42 = .ok (.getstatic 59, 3) := by decide +kernel
theorem dJ2_getChar_3b067_45 : decode cJ2_getChar_3b067 45 = .ok (.ishl, 1) := by decide +kernel
theorem dJ2_getChar_3b067_46 : decode cJ2_getChar_3b067 46 = .ok (.aload_n 0, 1) := by decide +kernel
theorem dJ2_getChar_3b067_47 : decode cJ2_getChar_3b067 47 = .ok (.iload_n 1, 1) := by decide +kernel
theorem dJ2_getChar_3b067_48 : decode cJ2_getChar_3b067 48 = .ok (.baload, 1) := by decide +kernel
theorem dJ2_getChar_3b067_49 : decode cJ2_getChar_3b067 49 = .ok (.sipush 255, 3) := by decide +kernel
theorem dJ2_getChar_3b067_52 : decode cJ2_getChar_3b067 52 = .ok (.iand, 1) := by decide +kernel
theorem dJ2_getChar_3b067_53 : decode cJ2_getChar_3b067 53 = .ok (.getstatic 63, 3) := by decide +kernel
theorem dJ2_getChar_3b067_56 : decode cJ2_getChar_3b067 56 = .ok (.ishl, 1) := by decide +kernel
theorem dJ2_getChar_3b067_57 : decode cJ2_getChar_3b067 57 = .ok (.ior, 1) := by decide +kernel
theorem dJ2_getChar_3b067_58 : decode cJ2_getChar_3b067 58 = .ok (.i2c, 1) := by decide +kernel
theorem dJ2_getChar_3b067_59 : decode cJ2_getChar_3b067 59 = .ok (.ireturn, 1) := by decide +kernel
theorem dJ2_length_9d52b_0 : decode cJ2_length_9d52b 0 = .ok (.aload_n 0, 1) := by decide +kernel
theorem dJ2_length_9d52b_1 : decode cJ2_length_9d52b 1 = .ok (.arraylength, 1) := by decide +kernel
theorem dJ2_length_9d52b_2 : decode cJ2_length_9d52b 2 = .ok (.iconst 1, 1) := by decide +kernel
theorem dJ2_length_9d52b_3 : decode cJ2_length_9d52b 3 = .ok (.ishr, 1) := by decide +kernel
theorem dJ2_length_9d52b_4 : decode cJ2_length_9d52b 4 = .ok (.ireturn, 1) := by decide +kernel
theorem dJ2_charAt_3b067_0 : decode cJ2_charAt_3b067 0 = .ok (.iload_n 1, 1) := by decide +kernel
theorem dJ2_charAt_3b067_1 : decode cJ2_charAt_3b067 1 = .ok (.aload_n 0, 1) := by decide +kernel
theorem dJ2_charAt_3b067_2 : decode cJ2_charAt_3b067 2 = .ok (.invokestatic 67, 3) := by decide +kernel
theorem dJ2_charAt_3b067_5 : decode cJ2_charAt_3b067 5 = .ok (.aload_n 0, 1) := by decide +kernel
theorem dJ2_charAt_3b067_6 : decode cJ2_charAt_3b067 6 = .ok (.iload_n 1, 1) := by decide +kernel
theorem dJ2_charAt_3b067_7 : decode cJ2_charAt_3b067 7 = .ok (.invokestatic 71, 3) := by decide +kernel
theorem dJ2_charAt_3b067_10 : decode cJ2_charAt_3b067 10 = .ok (.ireturn, 1) := by decide +kernel
theorem dJ2_checkIndex_2214a_0 : decode cJ2_checkIndex_2214a 0 = .ok (.iload_n 0, 1) := by decide +kernel
theorem dJ2_checkIndex_2214a_1 : decode cJ2_checkIndex_2214a 1 = .ok (.aload_n 1, 1) := by decide +kernel
theorem dJ2_checkIndex_2214a_2 : decode cJ2_checkIndex_2214a 2 = .ok (.invokestatic 48, 3) := by decide +kernel
theorem dJ2_checkIndex_2214a_5 : decode cJ2_checkIndex_2214a 5 = .ok (.invokestatic 414, 3) := by decide +kernel
theorem dJ2_checkIndex_2214a_8 : decode cJ2_checkIndex_2214a 8 = .ok (.return_, 1) := by decide +kernel
theorem dJ7_fill_53178_0 : decode cJ7_fill_53178 0 = .ok (.iconst 0, 1) := by decide +kernel
theorem dJ7_fill_53178_1 : decode cJ7_fill_53178 1 = .ok (.istore_n 2, 1) := by decide +kernel
theorem dJ7_fill_53178_2 : decode cJ7_fill_53178 2 = .ok (.aload_n 0, 1) := by decide +kernel
theorem dJ7_fill_53178_3 : decode cJ7_fill_53178 3 = .ok (.arraylength, 1) := by decide +kernel
theorem dJ7_fill_53178_4 : decode cJ7_fill_53178 4 = .ok (.istore_n 3, 1) := by decide +kernel
theorem dJ7_fill_53178_5 : decode cJ7_fill_53178 5 = .ok (.iload_n 2, 1) := by decide +kernel
theorem dJ7_fill_53178_6 : decode cJ7_fill_53178 6 = .ok (.iload_n 3, 1) := by decide +kernel
theorem dJ7_fill_53178_7 : decode cJ7_fill_53178 7 = .ok (.if_icmp .ge 13, 3) := by decide +kernel
theorem dJ7_fill_53178_10 : decode cJ7_fill_53178 10 = .ok (.aload_n 0, 1) := by decide +kernel
theorem dJ7_fill_53178_11 : decode cJ7_fill_53178 11 = .ok (.iload_n 2, 1) := by decide +kernel
theorem dJ7_fill_53178_12 : decode cJ7_fill_53178 12 = .ok (.iload_n 1, 1) := by decide +kernel
theorem dJ7_fill_53178_13 : decode cJ7_fill_53178 13 = .ok (.iastore, 1) := by decide +kernel
theorem dJ7_fill_53178_14 : decode cJ7_fill_53178 14 = .ok (.iinc 2 1, 3) := by decide +kernel
theorem dJ7_fill_53178_17 : decode cJ7_fill_53178 17 = .ok (.goto (-12), 3) := by decide +kernel
theorem dJ7_fill_53178_20 : decode cJ7_fill_53178 20 = .ok (.return_, 1) := by decide +kernel
theorem dJ3_checkIndex_8e157_0 : decode cJ3_checkIndex_8e157 0 = .ok (.iload_n 0, 1) := by decide +kernel
theorem dJ3_checkIndex_8e157_1 : decode cJ3_checkIndex_8e157 1 = .ok (.ifCond .lt 8, 3) := by decide +kernel
theorem dJ3_checkIndex_8e157_4 : decode cJ3_checkIndex_8e157 4 = .ok (.iload_n 0, 1) := by decide +kernel
theorem dJ3_checkIndex_8e157_5 : decode cJ3_checkIndex_8e157 5 = .ok (.iload_n 1, 1) := by decide +kernel
theorem dJ3_checkIndex_8e157_6 : decode cJ3_checkIndex_8e157 6 = .ok (.if_icmp .lt 10, 3) := by decide +kernel
theorem dJ3_checkIndex_8e157_9 : decode cJ3_checkIndex_8e157 9 = .ok (.aload_n 2, 1) := by decide +kernel
theorem dJ3_checkIndex_8e157_10 : decode cJ3_checkIndex_8e157 10 = .ok (.iload_n 0, 1) := by decide +kernel
theorem dJ3_checkIndex_8e157_11 : decode cJ3_checkIndex_8e157 11 = .ok (.iload_n 1, 1) := by decide +kernel
theorem dJ3_checkIndex_8e157_12 : decode cJ3_checkIndex_8e157 12 = .ok (.invokestatic 95, 3) := by decide +kernel
theorem dJ3_checkIndex_8e157_15 : decode cJ3_checkIndex_8e157 15 = .ok (.athrow, 1) := by decide +kernel
theorem dJ3_checkIndex_8e157_16 : decode cJ3_checkIndex_8e157 16 = .ok (.iload_n 0, 1) := by decide +kernel
theorem dJ3_checkIndex_8e157_17 : decode cJ3_checkIndex_8e157 17 = .ok (.ireturn, 1) := by decide +kernel
end
section
theorem dX2_init_0 : decode cX2_init 0 = .ok (.aload_n 0, 1) := by decide +kernel
theorem dX2_init_1 : decode cX2_init 1 = .ok (.invokespecial 3, 3) := by decide +kernel
theorem dX2_init_4 : decode cX2_init 4 = .ok (.aload_n 0, 1) := by decide +kernel
theorem dX2_init_5 : decode cX2_init 5 = .ok (.bipush 12, 2) := by decide +kernel
theorem dX2_init_7 : decode cX2_init 7 = .ok (.newarray .int, 2) := by decide +kernel
theorem dX2_init_9 : decode cX2_init 9 = .ok (.putfield 9, 3) := by decide +kernel
theorem dX2_init_12 : decode cX2_init 12 = .ok (.aload_n 0, 1) := by decide +kernel
theorem dX2_init_13 : decode cX2_init 13 = .ok (.bipush 12, 2) := by decide +kernel
theorem dX2_init_15 : decode cX2_init 15 = .ok (.newarray .int, 2) := by decide +kernel
theorem dX2_init_17 : decode cX2_init 17 = .ok (.putfield 15, 3) := by decide +kernel
theorem dX2_init_20 : decode cX2_init 20 = .ok (.aload_n 0, 1) := by decide +kernel
theorem dX2_init_21 : decode cX2_init 21 = .ok (.bipush 12, 2) := by decide +kernel
theorem dX2_init_23 : decode cX2_init 23 = .ok (.newarray .int, 2) := by decide +kernel
theorem dX2_init_25 : decode cX2_init 25 = .ok (.putfield 18, 3) := by decide +kernel
theorem dX2_init_28 : decode cX2_init 28 = .ok (.aload_n 0, 1) := by decide +kernel
theorem dX2_init_29 : decode cX2_init 29 = .ok (.iconst 5, 1) := by decide +kernel
theorem dX2_init_30 : decode cX2_init 30 = .ok (.newarray .int, 2) := by decide +kernel
theorem dX2_init_32 : decode cX2_init 32 = .ok (.putfield 21, 3) := by decide +kernel
theorem dX2_init_35 : decode cX2_init 35 = .ok (.aload_n 0, 1) := by decide +kernel
theorem dX2_init_36 : decode cX2_init 36 = .ok (.iconst 5, 1) := by decide +kernel
theorem dX2_init_37 : decode cX2_init 37 = .ok (.newarray .int, 2) := by decide +kernel
theorem dX2_init_39 : decode cX2_init 39 = .ok (.putfield 24, 3) := by decide +kernel
theorem dX2_init_42 : decode cX2_init 42 = .ok (.aload_n 0, 1) := by decide +kernel
theorem dX2_init_43 : decode cX2_init 43 = .ok (.iconst 5, 1) := by decide +kernel
theorem dX2_init_44 : decode cX2_init 44 = .ok (.newarray .int, 2) := by decide +kernel
theorem dX2_init_46 : decode cX2_init 46 = .ok (.putfield 27, 3) := by decide +kernel
theorem dX2_init_49 : decode cX2_init 49 = .ok (.aload_n 0, 1) := by decide +kernel
theorem dX2_init_50 : decode cX2_init 50 = .ok (.iconst 5, 1) := by decide +kernel
theorem dX2_init_51 : decode cX2_init 51 = .ok (.newarray .int, 2) := by decide +kernel
theorem dX2_init_53 : decode cX2_init 53 = .ok (.putfield 30, 3) := by decide +kernel
theorem dX2_init_56 : decode cX2_init 56 = .ok (.aload_n 0, 1) := by decide +kernel
theorem dX2_init_57 : decode cX2_init 57 = .ok (.sipush 3900, 3) := by decide +kernel
theorem dX2_init_60 : decode cX2_init 60 = .ok (.newarray .int, 2) := by decide +kernel
theorem dX2_init_62 : decode cX2_init 62 = .ok (.putfield 33, 3) := by decide +kernel
theorem dX2_init_65 : decode cX2_init 65 = .ok (.aload_n 0, 1) := by decide +kernel
theorem dX2_init_66 : decode cX2_init 66 = .ok (.aload_n 1, 1) := by decide +kernel
theorem dX2_init_67 : decode cX2_init 67 = .ok (.putfield 36, 3) := by decide +kernel
theorem dX2_init_70 : decode cX2_init 70 = .ok (.aload_n 0, 1) := by decide +kernel
theorem dX2_init_71 : decode cX2_init 71 = .ok (.aload_n 2, 1) := by decide +kernel
theorem dX2_init_72 : decode cX2_init 72 = .ok (.putfield 40, 3) := by decide +kernel
theorem dX2_init_75 : decode cX2_init 75 = .ok (.return_, 1) := by decide +kernel
theorem dX2_bake_0 : decode cX2_bake 0 = .ok (.iconst 0, 1) := by decide +kernel
theorem dX2_bake_1 : decode cX2_bake 1 = .ok (.istore_n 2, 1) := by decide +kernel
theorem dX2_bake_2 : decode cX2_bake 2 = .ok (.iload_n 2, 1) := by decide +kernel
theorem dX2_bake_3 : decode cX2_bake 3 = .ok (.bipush 12, 2) := by decide +kernel
theorem dX2_bake_5 : decode cX2_bake 5 = .ok (.if_icmp .ge 79, 3) := by decide +kernel
theorem dX2_bake_8 : decode cX2_bake 8 = .ok (.aload_n 0, 1) := by decide +kernel
theorem dX2_bake_9 : decode cX2_bake 9 = .ok (.getfield 40, 3) := by decide +kernel
theorem dX2_bake_12 : decode cX2_bake 12 = .ok (.iload_n 2, 1) := by decide +kernel
theorem dX2_bake_13 : decode cX2_bake 13 = .ok (.iconst 0, 1) := by decide +kernel
theorem dX2_bake_14 : decode cX2_bake 14 = .ok (.iconst 0, 1) := by decide +kernel
theorem dX2_bake_15 : decode cX2_bake 15 = .ok (.iconst 0, 1) := by decide +kernel
theorem dX2_bake_16 : decode cX2_bake 16 = .ok (.iconst 0, 1) := by decide +kernel
theorem dX2_bake_17 : decode cX2_bake 17 = .ok (.iconst 0, 1) := by decide +kernel
theorem dX2_bake_18 : decode cX2_bake 18 = .ok (.invokevirtual 44, 3) := by decide +kernel
theorem dX2_bake_21 : decode cX2_bake 21 = .ok (.iconst 1, 1) := by decide +kernel
theorem dX2_bake_22 : decode cX2_bake 22 = .ok (.aload_n 0, 1) := by decide +kernel
theorem dX2_bake_23 : decode cX2_bake 23 = .ok (.getfield 40, 3) := by decide +kernel
theorem dX2_bake_26 : decode cX2_bake 26 = .ok (.aload_n 0, 1) := by decide +kernel
theorem dX2_bake_27 : decode cX2_bake 27 = .ok (.getfield 36, 3) := by decide +kernel
theorem dX2_bake_30 : decode cX2_bake 30 = .ok (.getfield 50, 3) := by decide +kernel
theorem dX2_bake_33 : decode cX2_bake 33 = .ok (.iconst 0, 1) := by decide +kernel
theorem dX2_bake_34 : decode cX2_bake 34 = .ok (.invokevirtual 56, 3) := by decide +kernel
theorem dX2_bake_37 : decode cX2_bake 37 = .ok (.bipush 20, 2) := by decide +kernel
theorem dX2_bake_39 : decode cX2_bake 39 = .ok (.invokestatic 60, 3) := by decide +kernel
theorem dX2_bake_42 : decode cX2_bake 42 = .ok (.istore_n 3, 1) := by decide +kernel
theorem dX2_bake_43 : decode cX2_bake 43 = .ok (.iload_n 2, 1) := by decide +kernel
theorem dX2_bake_44 : decode cX2_bake 44 = .ok (.iload_n 1, 1) := by decide +kernel
theorem dX2_bake_45 : decode cX2_bake 45 = .ok (.isub, 1) := by decide +kernel
theorem dX2_bake_46 : decode cX2_bake 46 = .ok (.istore 4, 2) := by decide +kernel
theorem dX2_bake_48 : decode cX2_bake 48 = .ok (.aload_n 0, 1) := by decide +kernel
theorem dX2_bake_49 : decode cX2_bake 49 = .ok (.getfield 9, 3) := by decide +kernel
theorem dX2_bake_52 : decode cX2_bake 52 = .ok (.iload_n 2, 1) := by decide +kernel
theorem dX2_bake_53 : decode cX2_bake 53 = .ok (.iload 4, 2) := by decide +kernel
theorem dX2_bake_55 : decode cX2_bake 55 = .ok (.ifCond .lt 21, 3) := by decide +kernel
theorem dX2_bake_58 : decode cX2_bake 58 = .ok (.iload 4, 2) := by decide +kernel
theorem dX2_bake_60 : decode cX2_bake 60 = .ok (.iload_n 2, 1) := by decide +kernel
theorem dX2_bake_61 : decode cX2_bake 61 = .ok (.if_icmp .ge 15, 3) := by decide +kernel
theorem dX2_bake_64 : decode cX2_bake 64 = .ok (.aload_n 0, 1) := by decide +kernel
theorem dX2_bake_65 : decode cX2_bake 65 = .ok (.getfield 9, 3) := by decide +kernel
theorem dX2_bake_68 : decode cX2_bake 68 = .ok (.iload 4, 2) := by decide +kernel
theorem dX2_bake_70 : decode cX2_bake 70 = .ok (.iaload, 1) := by decide +kernel
theorem dX2_bake_71 : decode cX2_bake 71 = .ok (.iload_n 3, 1) := by decide +kernel
theorem dX2_bake_72 : decode cX2_bake 72 = .ok (.iadd, 1) := by decide +kernel
theorem dX2_bake_73 : decode cX2_bake 73 = .ok (.goto 4, 3) := by decide +kernel
theorem dX2_bake_76 : decode cX2_bake 76 = .ok (.iload_n 3, 1) := by decide +kernel
theorem dX2_bake_77 : decode cX2_bake 77 = .ok (.iastore, 1) := by decide +kernel
theorem dX2_bake_78 : decode cX2_bake 78 = .ok (.iinc 2 1, 3) := by decide +kernel
theorem dX2_bake_81 : decode cX2_bake 81 = .ok (.goto (-79), 3) := by decide +kernel
theorem dX2_bake_84 : decode cX2_bake 84 = .ok (.aload_n 0, 1) := by decide +kernel
theorem dX2_bake_85 : decode cX2_bake 85 = .ok (.iconst 1, 1) := by decide +kernel
theorem dX2_bake_86 : decode cX2_bake 86 = .ok (.invokevirtual 64, 3) := by decide +kernel
theorem dX2_bake_89 : decode cX2_bake 89 = .ok (.return_, 1) := by decide +kernel
theorem dX2_lay_0 : decode cX2_lay 0 = .ok (.aload_n 0, 1) := by decide +kernel
theorem dX2_lay_1 : decode cX2_lay 1 = .ok (.iload_n 1, 1) := by decide +kernel
theorem dX2_lay_2 : decode cX2_lay 2 = .ok (.invokevirtual 68, 3) := by decide +kernel
theorem dX2_lay_5 : decode cX2_lay 5 = .ok (.aload_n 0, 1) := by decide +kernel
theorem dX2_lay_6 : decode cX2_lay 6 = .ok (.iconst (-1), 1) := by decide +kernel
theorem dX2_lay_7 : decode cX2_lay 7 = .ok (.putfield 71, 3) := by decide +kernel
theorem dX2_lay_10 : decode cX2_lay 10 = .ok (.iconst 0, 1) := by decide +kernel
theorem dX2_lay_11 : decode cX2_lay 11 = .ok (.istore_n 2, 1) := by decide +kernel
theorem dX2_lay_12 : decode cX2_lay 12 = .ok (.iload_n 2, 1) := by decide +kernel
theorem dX2_lay_13 : decode cX2_lay 13 = .ok (.iconst 5, 1) := by decide +kernel
theorem dX2_lay_14 : decode cX2_lay 14 = .ok (.if_icmp .ge 43, 3) := by decide +kernel
theorem dX2_lay_17 : decode cX2_lay 17 = .ok (.aload_n 0, 1) := by decide +kernel
theorem dX2_lay_18 : decode cX2_lay 18 = .ok (.getfield 21, 3) := by decide +kernel
theorem dX2_lay_21 : decode cX2_lay 21 = .ok (.iload_n 2, 1) := by decide +kernel
theorem dX2_lay_22 : decode cX2_lay 22 = .ok (.aload_n 0, 1) := by decide +kernel
theorem dX2_lay_23 : decode cX2_lay 23 = .ok (.getfield 36, 3) := by decide +kernel
theorem dX2_lay_26 : decode cX2_lay 26 = .ok (.getfield 74, 3) := by decide +kernel
theorem dX2_lay_29 : decode cX2_lay 29 = .ok (.iload_n 2, 1) := by decide +kernel
theorem dX2_lay_30 : decode cX2_lay 30 = .ok (.iaload, 1) := by decide +kernel
theorem dX2_lay_31 : decode cX2_lay 31 = .ok (.aload_n 0, 1) := by decide +kernel
theorem dX2_lay_32 : decode cX2_lay 32 = .ok (.getfield 36, 3) := by decide +kernel
theorem dX2_lay_35 : decode cX2_lay 35 = .ok (.getfield 77, 3) := by decide +kernel
theorem dX2_lay_38 : decode cX2_lay 38 = .ok (.iload_n 2, 1) := by decide +kernel
theorem dX2_lay_39 : decode cX2_lay 39 = .ok (.iaload, 1) := by decide +kernel
theorem dX2_lay_40 : decode cX2_lay 40 = .ok (.invokestatic 80, 3) := by decide +kernel
theorem dX2_lay_43 : decode cX2_lay 43 = .ok (.iastore, 1) := by decide +kernel
theorem dX2_lay_44 : decode cX2_lay 44 = .ok (.aload_n 0, 1) := by decide +kernel
theorem dX2_lay_45 : decode cX2_lay 45 = .ok (.getfield 24, 3) := by decide +kernel
theorem dX2_lay_48 : decode cX2_lay 48 = .ok (.iload_n 2, 1) := by decide +kernel
theorem dX2_lay_49 : decode cX2_lay 49 = .ok (.iconst 0, 1) := by decide +kernel
theorem dX2_lay_50 : decode cX2_lay 50 = .ok (.iastore, 1) := by decide +kernel
theorem dX2_lay_51 : decode cX2_lay 51 = .ok (.iinc 2 1, 3) := by decide +kernel
theorem dX2_lay_54 : decode cX2_lay 54 = .ok (.goto (-42), 3) := by decide +kernel
theorem dX2_lay_57 : decode cX2_lay 57 = .ok (.aload_n 0, 1) := by decide +kernel
theorem dX2_lay_58 : decode cX2_lay 58 = .ok (.iconst 0, 1) := by decide +kernel
theorem dX2_lay_59 : decode cX2_lay 59 = .ok (.putfield 83, 3) := by decide +kernel
theorem dX2_lay_62 : decode cX2_lay 62 = .ok (.aload_n 0, 1) := by decide +kernel
theorem dX2_lay_63 : decode cX2_lay 63 = .ok (.getfield 33, 3) := by decide +kernel
theorem dX2_lay_66 : decode cX2_lay 66 = .ok (.iconst (-1), 1) := by decide +kernel
theorem dX2_lay_67 : decode cX2_lay 67 = .ok (.invokestatic 86, 3) := by decide +kernel
theorem dX2_lay_70 : decode cX2_lay 70 = .ok (.return_, 1) := by decide +kernel
theorem dX2_heapUp_0 : decode cX2_heapUp 0 = .ok (.iconst 1, 1) := by decide +kernel
theorem dX2_heapUp_1 : decode cX2_heapUp 1 = .ok (.iload_n 1, 1) := by decide +kernel
theorem dX2_heapUp_2 : decode cX2_heapUp 2 = .ok (.invokestatic 92, 3) := by decide +kernel
theorem dX2_heapUp_5 : decode cX2_heapUp 5 = .ok (.istore_n 2, 1) := by decide +kernel
theorem dX2_heapUp_6 : decode cX2_heapUp 6 = .ok (.aload_n 0, 1) := by decide +kernel
theorem dX2_heapUp_7 : decode cX2_heapUp 7 = .ok (.lconst 0, 1) := by decide +kernel
theorem dX2_heapUp_8 : decode cX2_heapUp 8 = .ok (.putfield 97, 3) := by decide +kernel
theorem dX2_heapUp_11 : decode cX2_heapUp 11 = .ok (.iconst 0, 1) := by decide +kernel
theorem dX2_heapUp_12 : decode cX2_heapUp 12 = .ok (.istore_n 3, 1) := by decide +kernel
theorem dX2_heapUp_13 : decode cX2_heapUp 13 = .ok (.iload_n 3, 1) := by decide +kernel
theorem dX2_heapUp_14 : decode cX2_heapUp 14 = .ok (.bipush 12, 2) := by decide +kernel
theorem dX2_heapUp_16 : decode cX2_heapUp 16 = .ok (.if_icmp .ge 110, 3) := by decide +kernel
theorem dX2_heapUp_19 : decode cX2_heapUp 19 = .ok (.iload_n 3, 1) := by decide +kernel
theorem dX2_heapUp_20 : decode cX2_heapUp 20 = .ok (.aload_n 0, 1) := by decide +kernel
theorem dX2_heapUp_21 : decode cX2_heapUp 21 = .ok (.getfield 36, 3) := by decide +kernel
theorem dX2_heapUp_24 : decode cX2_heapUp 24 = .ok (.getfield 101, 3) := by decide +kernel
theorem dX2_heapUp_27 : decode cX2_heapUp 27 = .ok (.if_icmp .ge 99, 3) := by decide +kernel
theorem dX2_heapUp_30 : decode cX2_heapUp 30 = .ok (.iconst 0, 1) := by decide +kernel
theorem dX2_heapUp_31 : decode cX2_heapUp 31 = .ok (.istore 4, 2) := by decide +kernel
theorem dX2_heapUp_33 : decode cX2_heapUp 33 = .ok (.iload_n 3, 1) := by decide +kernel
theorem dX2_heapUp_34 : decode cX2_heapUp 34 = .ok (.iload_n 3, 1) := by decide +kernel
theorem dX2_heapUp_35 : decode cX2_heapUp 35 = .ok (.iload_n 2, 1) := by decide +kernel
theorem dX2_heapUp_36 : decode cX2_heapUp 36 = .ok (.irem, 1) := by decide +kernel
theorem dX2_heapUp_37 : decode cX2_heapUp 37 = .ok (.isub, 1) := by decide +kernel
theorem dX2_heapUp_38 : decode cX2_heapUp 38 = .ok (.istore 5, 2) := by decide +kernel
theorem dX2_heapUp_40 : decode cX2_heapUp 40 = .ok (.iload 5, 2) := by decide +kernel
theorem dX2_heapUp_42 : decode cX2_heapUp 42 = .ok (.istore 6, 2) := by decide +kernel
theorem dX2_heapUp_44 : decode cX2_heapUp 44 = .ok (.iload 6, 2) := by decide +kernel
theorem dX2_heapUp_46 : decode cX2_heapUp 46 = .ok (.iload 5, 2) := by decide +kernel
theorem dX2_heapUp_48 : decode cX2_heapUp 48 = .ok (.iload_n 2, 1) := by decide +kernel
theorem dX2_heapUp_49 : decode cX2_heapUp 49 = .ok (.iadd, 1) := by decide +kernel
theorem dX2_heapUp_50 : decode cX2_heapUp 50 = .ok (.if_icmp .ge 42, 3) := by decide +kernel
theorem dX2_heapUp_53 : decode cX2_heapUp 53 = .ok (.iload 6, 2) := by decide +kernel
theorem dX2_heapUp_55 : decode cX2_heapUp 55 = .ok (.bipush 12, 2) := by decide +kernel
theorem dX2_heapUp_57 : decode cX2_heapUp 57 = .ok (.if_icmp .ge 35, 3) := by decide +kernel
theorem dX2_heapUp_60 : decode cX2_heapUp 60 = .ok (.iload 6, 2) := by decide +kernel
theorem dX2_heapUp_62 : decode cX2_heapUp 62 = .ok (.aload_n 0, 1) := by decide +kernel
theorem dX2_heapUp_63 : decode cX2_heapUp 63 = .ok (.getfield 36, 3) := by decide +kernel
theorem dX2_heapUp_66 : decode cX2_heapUp 66 = .ok (.getfield 101, 3) := by decide +kernel
theorem dX2_heapUp_69 : decode cX2_heapUp 69 = .ok (.if_icmp .ge 23, 3) := by decide +kernel
theorem dX2_heapUp_72 : decode cX2_heapUp 72 = .ok (.iload 4, 2) := by decide +kernel
theorem dX2_heapUp_74 : decode cX2_heapUp 74 = .ok (.aload_n 0, 1) := by decide +kernel
theorem dX2_heapUp_75 : decode cX2_heapUp 75 = .ok (.getfield 9, 3) := by decide +kernel
theorem dX2_heapUp_78 : decode cX2_heapUp 78 = .ok (.iload 6, 2) := by decide +kernel
theorem dX2_heapUp_80 : decode cX2_heapUp 80 = .ok (.iaload, 1) := by decide +kernel
theorem dX2_heapUp_81 : decode cX2_heapUp 81 = .ok (.invokestatic 92, 3) := by decide +kernel
theorem dX2_heapUp_84 : decode cX2_heapUp 84 = .ok (.istore 4, 2) := by decide +kernel
theorem dX2_heapUp_86 : decode cX2_heapUp 86 = .ok (.iinc 6 1, 3) := by decide +kernel
theorem dX2_heapUp_89 : decode cX2_heapUp 89 = .ok (.goto (-45), 3) := by decide +kernel
theorem dX2_heapUp_92 : decode cX2_heapUp 92 = .ok (.aload_n 0, 1) := by decide +kernel
theorem dX2_heapUp_93 : decode cX2_heapUp 93 = .ok (.getfield 15, 3) := by decide +kernel
theorem dX2_heapUp_96 : decode cX2_heapUp 96 = .ok (.iload_n 3, 1) := by decide +kernel
theorem dX2_heapUp_97 : decode cX2_heapUp 97 = .ok (.iload 4, 2) := by decide +kernel
theorem dX2_heapUp_99 : decode cX2_heapUp 99 = .ok (.iastore, 1) := by decide +kernel
theorem dX2_heapUp_100 : decode cX2_heapUp 100 = .ok (.iload 4, 2) := by decide +kernel
theorem dX2_heapUp_102 : decode cX2_heapUp 102 = .ok (.bipush 60, 2) := by decide +kernel
theorem dX2_heapUp_104 : decode cX2_heapUp 104 = .ok (.if_icmp .ge 16, 3) := by decide +kernel
theorem dX2_heapUp_107 : decode cX2_heapUp 107 = .ok (.aload_n 0, 1) := by decide +kernel
theorem dX2_heapUp_108 : decode cX2_heapUp 108 = .ok (.dup, 1) := by decide +kernel
theorem dX2_heapUp_109 : decode cX2_heapUp 109 = .ok (.getfield 97, 3) := by decide +kernel
theorem dX2_heapUp_112 : decode cX2_heapUp 112 = .ok (.lconst 1, 1) := by decide +kernel
theorem dX2_heapUp_113 : decode cX2_heapUp 113 = .ok (.iload 4, 2) := by decide +kernel
theorem dX2_heapUp_115 : decode cX2_heapUp 115 = .ok (.lshl, 1) := by decide +kernel
theorem dX2_heapUp_116 : decode cX2_heapUp 116 = .ok (.lor, 1) := by decide +kernel
theorem dX2_heapUp_117 : decode cX2_heapUp 117 = .ok (.putfield 97, 3) := by decide +kernel
theorem dX2_heapUp_120 : decode cX2_heapUp 120 = .ok (.iinc 3 1, 3) := by decide +kernel
theorem dX2_heapUp_123 : decode cX2_heapUp 123 = .ok (.goto (-110), 3) := by decide +kernel
theorem dX2_heapUp_126 : decode cX2_heapUp 126 = .ok (.return_, 1) := by decide +kernel
theorem dX2_servedCakes_0 : decode cX2_servedCakes 0 = .ok (.iconst 0, 1) := by decide +kernel
theorem dX2_servedCakes_1 : decode cX2_servedCakes 1 = .ok (.istore_n 1, 1) := by decide +kernel
theorem dX2_servedCakes_2 : decode cX2_servedCakes 2 = .ok (.iconst 0, 1) := by decide +kernel
theorem dX2_servedCakes_3 : decode cX2_servedCakes 3 = .ok (.istore_n 2, 1) := by decide +kernel
theorem dX2_servedCakes_4 : decode cX2_servedCakes 4 = .ok (.iload_n 2, 1) := by decide +kernel
theorem dX2_servedCakes_5 : decode cX2_servedCakes 5 = .ok (.bipush 12, 2) := by decide +kernel
theorem dX2_servedCakes_7 : decode cX2_servedCakes 7 = .ok (.if_icmp .ge 34, 3) := by decide +kernel
theorem dX2_servedCakes_10 : decode cX2_servedCakes 10 = .ok (.iload_n 2, 1) := by decide +kernel
theorem dX2_servedCakes_11 : decode cX2_servedCakes 11 = .ok (.aload_n 0, 1) := by decide +kernel
theorem dX2_servedCakes_12 : decode cX2_servedCakes 12 = .ok (.getfield 36, 3) := by decide +kernel
theorem dX2_servedCakes_15 : decode cX2_servedCakes 15 = .ok (.getfield 101, 3) := by decide +kernel
theorem dX2_servedCakes_18 : decode cX2_servedCakes 18 = .ok (.if_icmp .ge 23, 3) := by decide +kernel
theorem dX2_servedCakes_21 : decode cX2_servedCakes 21 = .ok (.aload_n 0, 1) := by decide +kernel
theorem dX2_servedCakes_22 : decode cX2_servedCakes 22 = .ok (.getfield 9, 3) := by decide +kernel
theorem dX2_servedCakes_25 : decode cX2_servedCakes 25 = .ok (.iload_n 2, 1) := by decide +kernel
theorem dX2_servedCakes_26 : decode cX2_servedCakes 26 = .ok (.iaload, 1) := by decide +kernel
theorem dX2_servedCakes_27 : decode cX2_servedCakes 27 = .ok (.bipush 60, 2) := by decide +kernel
theorem dX2_servedCakes_29 : decode cX2_servedCakes 29 = .ok (.if_icmp .ge 6, 3) := by decide +kernel
theorem dX2_servedCakes_32 : decode cX2_servedCakes 32 = .ok (.iinc 1 1, 3) := by decide +kernel
theorem dX2_servedCakes_35 : decode cX2_servedCakes 35 = .ok (.iinc 2 1, 3) := by decide +kernel
theorem dX2_servedCakes_38 : decode cX2_servedCakes 38 = .ok (.goto (-34), 3) := by decide +kernel
theorem dX2_servedCakes_41 : decode cX2_servedCakes 41 = .ok (.iload_n 1, 1) := by decide +kernel
theorem dX2_servedCakes_42 : decode cX2_servedCakes 42 = .ok (.ireturn, 1) := by decide +kernel
theorem dX2_planTurns_0 : decode cX2_planTurns 0 = .ok (.iconst 1, 1) := by decide +kernel
theorem dX2_planTurns_1 : decode cX2_planTurns 1 = .ok (.aload_n 0, 1) := by decide +kernel
theorem dX2_planTurns_2 : decode cX2_planTurns 2 = .ok (.getfield 36, 3) := by decide +kernel
theorem dX2_planTurns_5 : decode cX2_planTurns 5 = .ok (.getfield 104, 3) := by decide +kernel
theorem dX2_planTurns_8 : decode cX2_planTurns 8 = .ok (.invokestatic 92, 3) := by decide +kernel
theorem dX2_planTurns_11 : decode cX2_planTurns 11 = .ok (.istore_n 1, 1) := by decide +kernel
theorem dX2_planTurns_12 : decode cX2_planTurns 12 = .ok (.iconst 0, 1) := by decide +kernel
theorem dX2_planTurns_13 : decode cX2_planTurns 13 = .ok (.istore_n 2, 1) := by decide +kernel
theorem dX2_planTurns_14 : decode cX2_planTurns 14 = .ok (.iload_n 2, 1) := by decide +kernel
theorem dX2_planTurns_15 : decode cX2_planTurns 15 = .ok (.bipush 12, 2) := by decide +kernel
theorem dX2_planTurns_17 : decode cX2_planTurns 17 = .ok (.if_icmp .ge 18, 3) := by decide +kernel
theorem dX2_planTurns_20 : decode cX2_planTurns 20 = .ok (.aload_n 0, 1) := by decide +kernel
theorem dX2_planTurns_21 : decode cX2_planTurns 21 = .ok (.getfield 18, 3) := by decide +kernel
theorem dX2_planTurns_24 : decode cX2_planTurns 24 = .ok (.iload_n 2, 1) := by decide +kernel
theorem dX2_planTurns_25 : decode cX2_planTurns 25 = .ok (.iload_n 2, 1) := by decide +kernel
theorem dX2_planTurns_26 : decode cX2_planTurns 26 = .ok (.iload_n 1, 1) := by decide +kernel
theorem dX2_planTurns_27 : decode cX2_planTurns 27 = .ok (.irem, 1) := by decide +kernel
theorem dX2_planTurns_28 : decode cX2_planTurns 28 = .ok (.iastore, 1) := by decide +kernel
theorem dX2_planTurns_29 : decode cX2_planTurns 29 = .ok (.iinc 2 1, 3) := by decide +kernel
theorem dX2_planTurns_32 : decode cX2_planTurns 32 = .ok (.goto (-18), 3) := by decide +kernel
theorem dX2_planTurns_35 : decode cX2_planTurns 35 = .ok (.return_, 1) := by decide +kernel
theorem dX2_planFirst_0 : decode cX2_planFirst 0 = .ok (.iconst 1, 1) := by decide +kernel
theorem dX2_planFirst_1 : decode cX2_planFirst 1 = .ok (.aload_n 0, 1) := by decide +kernel
theorem dX2_planFirst_2 : decode cX2_planFirst 2 = .ok (.getfield 36, 3) := by decide +kernel
theorem dX2_planFirst_5 : decode cX2_planFirst 5 = .ok (.getfield 104, 3) := by decide +kernel
theorem dX2_planFirst_8 : decode cX2_planFirst 8 = .ok (.invokestatic 92, 3) := by decide +kernel
theorem dX2_planFirst_11 : decode cX2_planFirst 11 = .ok (.istore_n 3, 1) := by decide +kernel
theorem dX2_planFirst_12 : decode cX2_planFirst 12 = .ok (.iload_n 2, 1) := by decide +kernel
theorem dX2_planFirst_13 : decode cX2_planFirst 13 = .ok (.istore 4, 2) := by decide +kernel
theorem dX2_planFirst_15 : decode cX2_planFirst 15 = .ok (.iload_n 1, 1) := by decide +kernel
theorem dX2_planFirst_16 : decode cX2_planFirst 16 = .ok (.bipush 12, 2) := by decide +kernel
theorem dX2_planFirst_18 : decode cX2_planFirst 18 = .ok (.invokestatic 107, 3) := by decide +kernel
theorem dX2_planFirst_21 : decode cX2_planFirst 21 = .ok (.iconst 1, 1) := by decide +kernel
theorem dX2_planFirst_22 : decode cX2_planFirst 22 = .ok (.isub, 1) := by decide +kernel
theorem dX2_planFirst_23 : decode cX2_planFirst 23 = .ok (.istore 5, 2) := by decide +kernel
theorem dX2_planFirst_25 : decode cX2_planFirst 25 = .ok (.iload 5, 2) := by decide +kernel
theorem dX2_planFirst_27 : decode cX2_planFirst 27 = .ok (.ifCond .lt 26, 3) := by decide +kernel
theorem dX2_planFirst_30 : decode cX2_planFirst 30 = .ok (.aload_n 0, 1) := by decide +kernel
theorem dX2_planFirst_31 : decode cX2_planFirst 31 = .ok (.getfield 18, 3) := by decide +kernel
theorem dX2_planFirst_34 : decode cX2_planFirst 34 = .ok (.iload 5, 2) := by decide +kernel
theorem dX2_planFirst_36 : decode cX2_planFirst 36 = .ok (.iload 4, 2) := by decide +kernel
theorem dX2_planFirst_38 : decode cX2_planFirst 38 = .ok (.iload_n 3, 1) := by decide +kernel
theorem dX2_planFirst_39 : decode cX2_planFirst 39 = .ok (.irem, 1) := by decide +kernel
theorem dX2_planFirst_40 : decode cX2_planFirst 40 = .ok (.iastore, 1) := by decide +kernel
theorem dX2_planFirst_41 : decode cX2_planFirst 41 = .ok (.iload 4, 2) := by decide +kernel
theorem dX2_planFirst_43 : decode cX2_planFirst 43 = .ok (.iload_n 3, 1) := by decide +kernel
theorem dX2_planFirst_44 : decode cX2_planFirst 44 = .ok (.idiv, 1) := by decide +kernel
theorem dX2_planFirst_45 : decode cX2_planFirst 45 = .ok (.istore 4, 2) := by decide +kernel
theorem dX2_planFirst_47 : decode cX2_planFirst 47 = .ok (.iinc 5 (-1), 3) := by decide +kernel
theorem dX2_planFirst_50 : decode cX2_planFirst 50 = .ok (.goto (-25), 3) := by decide +kernel
theorem dX2_planFirst_53 : decode cX2_planFirst 53 = .ok (.return_, 1) := by decide +kernel
theorem dX2_planDrawn_0 : decode cX2_planDrawn 0 = .ok (.iconst 1, 1) := by decide +kernel
theorem dX2_planDrawn_1 : decode cX2_planDrawn 1 = .ok (.aload_n 0, 1) := by decide +kernel
theorem dX2_planDrawn_2 : decode cX2_planDrawn 2 = .ok (.getfield 36, 3) := by decide +kernel
theorem dX2_planDrawn_5 : decode cX2_planDrawn 5 = .ok (.getfield 104, 3) := by decide +kernel
theorem dX2_planDrawn_8 : decode cX2_planDrawn 8 = .ok (.invokestatic 92, 3) := by decide +kernel
theorem dX2_planDrawn_11 : decode cX2_planDrawn 11 = .ok (.istore_n 2, 1) := by decide +kernel
theorem dX2_planDrawn_12 : decode cX2_planDrawn 12 = .ok (.iload_n 1, 1) := by decide +kernel
theorem dX2_planDrawn_13 : decode cX2_planDrawn 13 = .ok (.istore_n 3, 1) := by decide +kernel
theorem dX2_planDrawn_14 : decode cX2_planDrawn 14 = .ok (.iconst 0, 1) := by decide +kernel
theorem dX2_planDrawn_15 : decode cX2_planDrawn 15 = .ok (.istore 4, 2) := by decide +kernel
theorem dX2_planDrawn_17 : decode cX2_planDrawn 17 = .ok (.iload 4, 2) := by decide +kernel
theorem dX2_planDrawn_19 : decode cX2_planDrawn 19 = .ok (.bipush 12, 2) := by decide +kernel
theorem dX2_planDrawn_21 : decode cX2_planDrawn 21 = .ok (.if_icmp .ge 31, 3) := by decide +kernel
theorem dX2_planDrawn_24 : decode cX2_planDrawn 24 = .ok (.iload_n 3, 1) := by decide +kernel
theorem dX2_planDrawn_25 : decode cX2_planDrawn 25 = .ok (.ldc 110, 2) := by decide +kernel
theorem dX2_planDrawn_27 : decode cX2_planDrawn 27 = .ok (.imul, 1) := by decide +kernel
theorem dX2_planDrawn_28 : decode cX2_planDrawn 28 = .ok (.sipush 12345, 3) := by decide +kernel
theorem dX2_planDrawn_31 : decode cX2_planDrawn 31 = .ok (.iadd, 1) := by decide +kernel
theorem dX2_planDrawn_32 : decode cX2_planDrawn 32 = .ok (.istore_n 3, 1) := by decide +kernel
theorem dX2_planDrawn_33 : decode cX2_planDrawn 33 = .ok (.aload_n 0, 1) := by decide +kernel
theorem dX2_planDrawn_34 : decode cX2_planDrawn 34 = .ok (.getfield 18, 3) := by decide +kernel
theorem dX2_planDrawn_37 : decode cX2_planDrawn 37 = .ok (.iload 4, 2) := by decide +kernel
theorem dX2_planDrawn_39 : decode cX2_planDrawn 39 = .ok (.iload_n 3, 1) := by decide +kernel
theorem dX2_planDrawn_40 : decode cX2_planDrawn 40 = .ok (.bipush 9, 2) := by decide +kernel
theorem dX2_planDrawn_42 : decode cX2_planDrawn 42 = .ok (.iushr, 1) := by decide +kernel
theorem dX2_planDrawn_43 : decode cX2_planDrawn 43 = .ok (.iload_n 2, 1) := by decide +kernel
theorem dX2_planDrawn_44 : decode cX2_planDrawn 44 = .ok (.irem, 1) := by decide +kernel
theorem dX2_planDrawn_45 : decode cX2_planDrawn 45 = .ok (.iastore, 1) := by decide +kernel
theorem dX2_planDrawn_46 : decode cX2_planDrawn 46 = .ok (.iinc 4 1, 3) := by decide +kernel
theorem dX2_planDrawn_49 : decode cX2_planDrawn 49 = .ok (.goto (-32), 3) := by decide +kernel
theorem dX2_planDrawn_52 : decode cX2_planDrawn 52 = .ok (.return_, 1) := by decide +kernel
theorem dX2_run_0 : decode cX2_run 0 = .ok (.iconst 0, 1) := by decide +kernel
theorem dX2_run_1 : decode cX2_run 1 = .ok (.istore_n 2, 1) := by decide +kernel
theorem dX2_run_2 : decode cX2_run 2 = .ok (.iload_n 2, 1) := by decide +kernel
theorem dX2_run_3 : decode cX2_run 3 = .ok (.iconst 5, 1) := by decide +kernel
theorem dX2_run_4 : decode cX2_run 4 = .ok (.if_icmp .ge 30, 3) := by decide +kernel
theorem dX2_run_7 : decode cX2_run 7 = .ok (.aload_n 0, 1) := by decide +kernel
theorem dX2_run_8 : decode cX2_run 8 = .ok (.getfield 24, 3) := by decide +kernel
theorem dX2_run_11 : decode cX2_run 11 = .ok (.iload_n 2, 1) := by decide +kernel
theorem dX2_run_12 : decode cX2_run 12 = .ok (.iconst 0, 1) := by decide +kernel
theorem dX2_run_13 : decode cX2_run 13 = .ok (.iastore, 1) := by decide +kernel
theorem dX2_run_14 : decode cX2_run 14 = .ok (.aload_n 0, 1) := by decide +kernel
theorem dX2_run_15 : decode cX2_run 15 = .ok (.getfield 27, 3) := by decide +kernel
theorem dX2_run_18 : decode cX2_run 18 = .ok (.iload_n 2, 1) := by decide +kernel
theorem dX2_run_19 : decode cX2_run 19 = .ok (.iconst 0, 1) := by decide +kernel
theorem dX2_run_20 : decode cX2_run 20 = .ok (.iastore, 1) := by decide +kernel
theorem dX2_run_21 : decode cX2_run 21 = .ok (.aload_n 0, 1) := by decide +kernel
theorem dX2_run_22 : decode cX2_run 22 = .ok (.getfield 30, 3) := by decide +kernel
theorem dX2_run_25 : decode cX2_run 25 = .ok (.iload_n 2, 1) := by decide +kernel
theorem dX2_run_26 : decode cX2_run 26 = .ok (.iconst (-1), 1) := by decide +kernel
theorem dX2_run_27 : decode cX2_run 27 = .ok (.iastore, 1) := by decide +kernel
theorem dX2_run_28 : decode cX2_run 28 = .ok (.iinc 2 1, 3) := by decide +kernel
theorem dX2_run_31 : decode cX2_run 31 = .ok (.goto (-29), 3) := by decide +kernel
theorem dX2_run_34 : decode cX2_run 34 = .ok (.aload_n 0, 1) := by decide +kernel
theorem dX2_run_35 : decode cX2_run 35 = .ok (.iconst 0, 1) := by decide +kernel
theorem dX2_run_36 : decode cX2_run 36 = .ok (.putfield 83, 3) := by decide +kernel
theorem dX2_run_39 : decode cX2_run 39 = .ok (.aload_n 0, 1) := by decide +kernel
theorem dX2_run_40 : decode cX2_run 40 = .ok (.iconst 0, 1) := by decide +kernel
theorem dX2_run_41 : decode cX2_run 41 = .ok (.putfield 111, 3) := by decide +kernel
theorem dX2_run_44 : decode cX2_run 44 = .ok (.aload_n 0, 1) := by decide +kernel
theorem dX2_run_45 : decode cX2_run 45 = .ok (.iconst 0, 1) := by decide +kernel
theorem dX2_run_46 : decode cX2_run 46 = .ok (.putfield 114, 3) := by decide +kernel
theorem dX2_run_49 : decode cX2_run 49 = .ok (.aload_n 0, 1) := by decide +kernel
theorem dX2_run_50 : decode cX2_run 50 = .ok (.iconst 0, 1) := by decide +kernel
theorem dX2_run_51 : decode cX2_run 51 = .ok (.putfield 117, 3) := by decide +kernel
theorem dX2_run_54 : decode cX2_run 54 = .ok (.aload_n 0, 1) := by decide +kernel
theorem dX2_run_55 : decode cX2_run 55 = .ok (.iconst 0, 1) := by decide +kernel
theorem dX2_run_56 : decode cX2_run 56 = .ok (.putfield 120, 3) := by decide +kernel
theorem dX2_run_59 : decode cX2_run 59 = .ok (.iconst 0, 1) := by decide +kernel
theorem dX2_run_60 : decode cX2_run 60 = .ok (.istore_n 2, 1) := by decide +kernel
theorem dX2_run_61 : decode cX2_run 61 = .ok (.iload_n 2, 1) := by decide +kernel
theorem dX2_run_62 : decode cX2_run 62 = .ok (.bipush 60, 2) := by decide +kernel
theorem dX2_run_64 : decode cX2_run 64 = .ok (.if_icmp .ge 53, 3) := by decide +kernel
theorem dX2_run_67 : decode cX2_run 67 = .ok (.aload_n 0, 1) := by decide +kernel
theorem dX2_run_68 : decode cX2_run 68 = .ok (.getfield 97, 3) := by decide +kernel
theorem dX2_run_71 : decode cX2_run 71 = .ok (.iload_n 2, 1) := by decide +kernel
theorem dX2_run_72 : decode cX2_run 72 = .ok (.lshr, 1) := by decide +kernel
theorem dX2_run_73 : decode cX2_run 73 = .ok (.lconst 1, 1) := by decide +kernel
theorem dX2_run_74 : decode cX2_run 74 = .ok (.land, 1) := by decide +kernel
theorem dX2_run_75 : decode cX2_run 75 = .ok (.lconst 0, 1) := by decide +kernel
theorem dX2_run_76 : decode cX2_run 76 = .ok (.lcmp, 1) := by decide +kernel
theorem dX2_run_77 : decode cX2_run 77 = .ok (.ifCond .eq 29, 3) := by decide +kernel
theorem dX2_run_80 : decode cX2_run 80 = .ok (.aload_n 0, 1) := by decide +kernel
theorem dX2_run_81 : decode cX2_run 81 = .ok (.iload_n 1, 1) := by decide +kernel
theorem dX2_run_82 : decode cX2_run 82 = .ok (.iload_n 2, 1) := by decide +kernel
theorem dX2_run_83 : decode cX2_run 83 = .ok (.invokevirtual 123, 3) := by decide +kernel
theorem dX2_run_86 : decode cX2_run 86 = .ok (.aload_n 0, 1) := by decide +kernel
theorem dX2_run_87 : decode cX2_run 87 = .ok (.aload_n 0, 1) := by decide +kernel
theorem dX2_run_88 : decode cX2_run 88 = .ok (.getfield 114, 3) := by decide +kernel
theorem dX2_run_91 : decode cX2_run 91 = .ok (.aload_n 0, 1) := by decide +kernel
theorem dX2_run_92 : decode cX2_run 92 = .ok (.invokevirtual 127, 3) := by decide +kernel
theorem dX2_run_95 : decode cX2_run 95 = .ok (.aload_n 0, 1) := by decide +kernel
theorem dX2_run_96 : decode cX2_run 96 = .ok (.getfield 83, 3) := by decide +kernel
theorem dX2_run_99 : decode cX2_run 99 = .ok (.isub, 1) := by decide +kernel
theorem dX2_run_100 : decode cX2_run 100 = .ok (.invokestatic 92, 3) := by decide +kernel
theorem dX2_run_103 : decode cX2_run 103 = .ok (.putfield 114, 3) := by decide +kernel
theorem dX2_run_106 : decode cX2_run 106 = .ok (.aload_n 0, 1) := by decide +kernel
theorem dX2_run_107 : decode cX2_run 107 = .ok (.iload_n 2, 1) := by decide +kernel
theorem dX2_run_108 : decode cX2_run 108 = .ok (.invokevirtual 131, 3) := by decide +kernel
theorem dX2_run_111 : decode cX2_run 111 = .ok (.iinc 2 1, 3) := by decide +kernel
theorem dX2_run_114 : decode cX2_run 114 = .ok (.goto (-53), 3) := by decide +kernel
theorem dX2_run_117 : decode cX2_run 117 = .ok (.return_, 1) := by decide +kernel
theorem dX2_serve_0 : decode cX2_serve 0 = .ok (.iconst 0, 1) := by decide +kernel
theorem dX2_serve_1 : decode cX2_serve 1 = .ok (.istore_n 3, 1) := by decide +kernel
theorem dX2_serve_2 : decode cX2_serve 2 = .ok (.iload_n 3, 1) := by decide +kernel
theorem dX2_serve_3 : decode cX2_serve 3 = .ok (.bipush 12, 2) := by decide +kernel
theorem dX2_serve_5 : decode cX2_serve 5 = .ok (.if_icmp .ge 100, 3) := by decide +kernel
theorem dX2_serve_8 : decode cX2_serve 8 = .ok (.iload_n 3, 1) := by decide +kernel
theorem dX2_serve_9 : decode cX2_serve 9 = .ok (.aload_n 0, 1) := by decide +kernel
theorem dX2_serve_10 : decode cX2_serve 10 = .ok (.getfield 36, 3) := by decide +kernel
theorem dX2_serve_13 : decode cX2_serve 13 = .ok (.getfield 101, 3) := by decide +kernel
theorem dX2_serve_16 : decode cX2_serve 16 = .ok (.if_icmp .ge 89, 3) := by decide +kernel
theorem dX2_serve_19 : decode cX2_serve 19 = .ok (.aload_n 0, 1) := by decide +kernel
theorem dX2_serve_20 : decode cX2_serve 20 = .ok (.getfield 15, 3) := by decide +kernel
theorem dX2_serve_23 : decode cX2_serve 23 = .ok (.iload_n 3, 1) := by decide +kernel
theorem dX2_serve_24 : decode cX2_serve 24 = .ok (.iaload, 1) := by decide +kernel
theorem dX2_serve_25 : decode cX2_serve 25 = .ok (.iload_n 2, 1) := by decide +kernel
theorem dX2_serve_26 : decode cX2_serve 26 = .ok (.if_icmp .ne 73, 3) := by decide +kernel
theorem dX2_serve_29 : decode cX2_serve 29 = .ok (.iconst (-1), 1) := by decide +kernel
theorem dX2_serve_30 : decode cX2_serve 30 = .ok (.istore 4, 2) := by decide +kernel
theorem dX2_serve_32 : decode cX2_serve 32 = .ok (.iload_n 1, 1) := by decide +kernel
theorem dX2_serve_33 : decode cX2_serve 33 = .ok (.ifCond .ne 14, 3) := by decide +kernel
theorem dX2_serve_36 : decode cX2_serve 36 = .ok (.aload_n 0, 1) := by decide +kernel
theorem dX2_serve_37 : decode cX2_serve 37 = .ok (.getfield 18, 3) := by decide +kernel
theorem dX2_serve_40 : decode cX2_serve 40 = .ok (.iload_n 3, 1) := by decide +kernel
theorem dX2_serve_41 : decode cX2_serve 41 = .ok (.iaload, 1) := by decide +kernel
theorem dX2_serve_42 : decode cX2_serve 42 = .ok (.istore 4, 2) := by decide +kernel
theorem dX2_serve_44 : decode cX2_serve 44 = .ok (.goto 47, 3) := by decide +kernel
theorem dX2_serve_47 : decode cX2_serve 47 = .ok (.iload_n 1, 1) := by decide +kernel
theorem dX2_serve_48 : decode cX2_serve 48 = .ok (.iconst 1, 1) := by decide +kernel
theorem dX2_serve_49 : decode cX2_serve 49 = .ok (.if_icmp .ne 21, 3) := by decide +kernel
theorem dX2_serve_52 : decode cX2_serve 52 = .ok (.iload_n 3, 1) := by decide +kernel
theorem dX2_serve_53 : decode cX2_serve 53 = .ok (.iconst 1, 1) := by decide +kernel
theorem dX2_serve_54 : decode cX2_serve 54 = .ok (.aload_n 0, 1) := by decide +kernel
theorem dX2_serve_55 : decode cX2_serve 55 = .ok (.getfield 36, 3) := by decide +kernel
theorem dX2_serve_58 : decode cX2_serve 58 = .ok (.getfield 104, 3) := by decide +kernel
theorem dX2_serve_61 : decode cX2_serve 61 = .ok (.invokestatic 92, 3) := by decide +kernel
theorem dX2_serve_64 : decode cX2_serve 64 = .ok (.irem, 1) := by decide +kernel
theorem dX2_serve_65 : decode cX2_serve 65 = .ok (.istore 4, 2) := by decide +kernel
theorem dX2_serve_67 : decode cX2_serve 67 = .ok (.goto 24, 3) := by decide +kernel
theorem dX2_serve_70 : decode cX2_serve 70 = .ok (.iload_n 1, 1) := by decide +kernel
theorem dX2_serve_71 : decode cX2_serve 71 = .ok (.iconst 2, 1) := by decide +kernel
theorem dX2_serve_72 : decode cX2_serve 72 = .ok (.if_icmp .ne 13, 3) := by decide +kernel
theorem dX2_serve_75 : decode cX2_serve 75 = .ok (.aload_n 0, 1) := by decide +kernel
theorem dX2_serve_76 : decode cX2_serve 76 = .ok (.iload_n 2, 1) := by decide +kernel
theorem dX2_serve_77 : decode cX2_serve 77 = .ok (.invokevirtual 134, 3) := by decide +kernel
theorem dX2_serve_80 : decode cX2_serve 80 = .ok (.istore 4, 2) := by decide +kernel
theorem dX2_serve_82 : decode cX2_serve 82 = .ok (.goto 9, 3) := by decide +kernel
theorem dX2_serve_85 : decode cX2_serve 85 = .ok (.aload_n 0, 1) := by decide +kernel
theorem dX2_serve_86 : decode cX2_serve 86 = .ok (.invokevirtual 138, 3) := by decide +kernel
theorem dX2_serve_89 : decode cX2_serve 89 = .ok (.istore 4, 2) := by decide +kernel
theorem dX2_serve_91 : decode cX2_serve 91 = .ok (.aload_n 0, 1) := by decide +kernel
theorem dX2_serve_92 : decode cX2_serve 92 = .ok (.iload_n 3, 1) := by decide +kernel
theorem dX2_serve_93 : decode cX2_serve 93 = .ok (.iload_n 2, 1) := by decide +kernel
theorem dX2_serve_94 : decode cX2_serve 94 = .ok (.iload 4, 2) := by decide +kernel
theorem dX2_serve_96 : decode cX2_serve 96 = .ok (.invokevirtual 141, 3) := by decide +kernel
theorem dX2_serve_99 : decode cX2_serve 99 = .ok (.iinc 3 1, 3) := by decide +kernel
theorem dX2_serve_102 : decode cX2_serve 102 = .ok (.goto (-100), 3) := by decide +kernel
theorem dX2_serve_105 : decode cX2_serve 105 = .ok (.return_, 1) := by decide +kernel
theorem dX2_give_0 : decode cX2_give 0 = .ok (.aload_n 0, 1) := by decide +kernel
theorem dX2_give_1 : decode cX2_give 1 = .ok (.iload_n 3, 1) := by decide +kernel
theorem dX2_give_2 : decode cX2_give 2 = .ok (.invokevirtual 145, 3) := by decide +kernel
theorem dX2_give_5 : decode cX2_give 5 = .ok (.ifCond .ne 14, 3) := by decide +kernel
theorem dX2_give_8 : decode cX2_give 8 = .ok (.aload_n 0, 1) := by decide +kernel
theorem dX2_give_9 : decode cX2_give 9 = .ok (.dup, 1) := by decide +kernel
theorem dX2_give_10 : decode cX2_give 10 = .ok (.getfield 120, 3) := by decide +kernel
theorem dX2_give_13 : decode cX2_give 13 = .ok (.iconst 1, 1) := by decide +kernel
theorem dX2_give_14 : decode cX2_give 14 = .ok (.iadd, 1) := by decide +kernel
theorem dX2_give_15 : decode cX2_give 15 = .ok (.putfield 120, 3) := by decide +kernel
theorem dX2_give_18 : decode cX2_give 18 = .ok (.return_, 1) := by decide +kernel
theorem dX2_give_19 : decode cX2_give 19 = .ok (.iload_n 2, 1) := by decide +kernel
theorem dX2_give_20 : decode cX2_give 20 = .ok (.aload_n 0, 1) := by decide +kernel
theorem dX2_give_21 : decode cX2_give 21 = .ok (.getfield 30, 3) := by decide +kernel
theorem dX2_give_24 : decode cX2_give 24 = .ok (.iload_n 3, 1) := by decide +kernel
theorem dX2_give_25 : decode cX2_give 25 = .ok (.iaload, 1) := by decide +kernel
theorem dX2_give_26 : decode cX2_give 26 = .ok (.invokestatic 92, 3) := by decide +kernel
theorem dX2_give_29 : decode cX2_give 29 = .ok (.istore 4, 2) := by decide +kernel
theorem dX2_give_31 : decode cX2_give 31 = .ok (.aload_n 0, 1) := by decide +kernel
theorem dX2_give_32 : decode cX2_give 32 = .ok (.getfield 40, 3) := by decide +kernel
theorem dX2_give_35 : decode cX2_give 35 = .ok (.iload_n 1, 1) := by decide +kernel
theorem dX2_give_36 : decode cX2_give 36 = .ok (.iload 4, 2) := by decide +kernel
theorem dX2_give_38 : decode cX2_give 38 = .ok (.aload_n 0, 1) := by decide +kernel
theorem dX2_give_39 : decode cX2_give 39 = .ok (.getfield 24, 3) := by decide +kernel
theorem dX2_give_42 : decode cX2_give 42 = .ok (.iload_n 3, 1) := by decide +kernel
theorem dX2_give_43 : decode cX2_give 43 = .ok (.iaload, 1) := by decide +kernel
theorem dX2_give_44 : decode cX2_give 44 = .ok (.aload_n 0, 1) := by decide +kernel
theorem dX2_give_45 : decode cX2_give 45 = .ok (.getfield 36, 3) := by decide +kernel
theorem dX2_give_48 : decode cX2_give 48 = .ok (.getfield 149, 3) := by decide +kernel
theorem dX2_give_51 : decode cX2_give 51 = .ok (.iload_n 3, 1) := by decide +kernel
theorem dX2_give_52 : decode cX2_give 52 = .ok (.iaload, 1) := by decide +kernel
theorem dX2_give_53 : decode cX2_give 53 = .ok (.iload_n 3, 1) := by decide +kernel
theorem dX2_give_54 : decode cX2_give 54 = .ok (.iload 4, 2) := by decide +kernel
theorem dX2_give_56 : decode cX2_give 56 = .ok (.aload_n 0, 1) := by decide +kernel
theorem dX2_give_57 : decode cX2_give 57 = .ok (.getfield 9, 3) := by decide +kernel
theorem dX2_give_60 : decode cX2_give 60 = .ok (.iload_n 1, 1) := by decide +kernel
theorem dX2_give_61 : decode cX2_give 61 = .ok (.iaload, 1) := by decide +kernel
theorem dX2_give_62 : decode cX2_give 62 = .ok (.isub, 1) := by decide +kernel
theorem dX2_give_63 : decode cX2_give 63 = .ok (.invokevirtual 44, 3) := by decide +kernel
theorem dX2_give_66 : decode cX2_give 66 = .ok (.aload_n 0, 1) := by decide +kernel
theorem dX2_give_67 : decode cX2_give 67 = .ok (.dup, 1) := by decide +kernel
theorem dX2_give_68 : decode cX2_give 68 = .ok (.getfield 111, 3) := by decide +kernel
theorem dX2_give_71 : decode cX2_give 71 = .ok (.iconst 0, 1) := by decide +kernel
theorem dX2_give_72 : decode cX2_give 72 = .ok (.aload_n 0, 1) := by decide +kernel
theorem dX2_give_73 : decode cX2_give 73 = .ok (.getfield 40, 3) := by decide +kernel
theorem dX2_give_76 : decode cX2_give 76 = .ok (.aload_n 0, 1) := by decide +kernel
theorem dX2_give_77 : decode cX2_give 77 = .ok (.getfield 36, 3) := by decide +kernel
theorem dX2_give_80 : decode cX2_give 80 = .ok (.getfield 50, 3) := by decide +kernel
theorem dX2_give_83 : decode cX2_give 83 = .ok (.iconst 2, 1) := by decide +kernel
theorem dX2_give_84 : decode cX2_give 84 = .ok (.invokevirtual 56, 3) := by decide +kernel
theorem dX2_give_87 : decode cX2_give 87 = .ok (.bipush 99, 2) := by decide +kernel
theorem dX2_give_89 : decode cX2_give 89 = .ok (.invokestatic 60, 3) := by decide +kernel
theorem dX2_give_92 : decode cX2_give 92 = .ok (.isub, 1) := by decide +kernel
theorem dX2_give_93 : decode cX2_give 93 = .ok (.putfield 111, 3) := by decide +kernel
theorem dX2_give_96 : decode cX2_give 96 = .ok (.aload_n 0, 1) := by decide +kernel
theorem dX2_give_97 : decode cX2_give 97 = .ok (.getfield 24, 3) := by decide +kernel
theorem dX2_give_100 : decode cX2_give 100 = .ok (.iload_n 3, 1) := by decide +kernel
theorem dX2_give_101 : decode cX2_give 101 = .ok (.dup2, 1) := by decide +kernel
theorem dX2_give_102 : decode cX2_give 102 = .ok (.iaload, 1) := by decide +kernel
theorem dX2_give_103 : decode cX2_give 103 = .ok (.iconst 1, 1) := by decide +kernel
theorem dX2_give_104 : decode cX2_give 104 = .ok (.iadd, 1) := by decide +kernel
theorem dX2_give_105 : decode cX2_give 105 = .ok (.iastore, 1) := by decide +kernel
theorem dX2_give_106 : decode cX2_give 106 = .ok (.aload_n 0, 1) := by decide +kernel
theorem dX2_give_107 : decode cX2_give 107 = .ok (.dup, 1) := by decide +kernel
theorem dX2_give_108 : decode cX2_give 108 = .ok (.getfield 117, 3) := by decide +kernel
theorem dX2_give_111 : decode cX2_give 111 = .ok (.iconst 1, 1) := by decide +kernel
theorem dX2_give_112 : decode cX2_give 112 = .ok (.iadd, 1) := by decide +kernel
theorem dX2_give_113 : decode cX2_give 113 = .ok (.putfield 117, 3) := by decide +kernel
theorem dX2_give_116 : decode cX2_give 116 = .ok (.aload_n 0, 1) := by decide +kernel
theorem dX2_give_117 : decode cX2_give 117 = .ok (.getfield 30, 3) := by decide +kernel
theorem dX2_give_120 : decode cX2_give 120 = .ok (.iload_n 3, 1) := by decide +kernel
theorem dX2_give_121 : decode cX2_give 121 = .ok (.iload 4, 2) := by decide +kernel
theorem dX2_give_123 : decode cX2_give 123 = .ok (.aload_n 0, 1) := by decide +kernel
theorem dX2_give_124 : decode cX2_give 124 = .ok (.getfield 21, 3) := by decide +kernel
theorem dX2_give_127 : decode cX2_give 127 = .ok (.iload_n 3, 1) := by decide +kernel
theorem dX2_give_128 : decode cX2_give 128 = .ok (.iaload, 1) := by decide +kernel
theorem dX2_give_129 : decode cX2_give 129 = .ok (.iadd, 1) := by decide +kernel
theorem dX2_give_130 : decode cX2_give 130 = .ok (.iastore, 1) := by decide +kernel
theorem dX2_give_131 : decode cX2_give 131 = .ok (.aload_n 0, 1) := by decide +kernel
theorem dX2_give_132 : decode cX2_give 132 = .ok (.invokevirtual 138, 3) := by decide +kernel
theorem dX2_give_135 : decode cX2_give 135 = .ok (.istore 5, 2) := by decide +kernel
theorem dX2_give_137 : decode cX2_give 137 = .ok (.aload_n 0, 1) := by decide +kernel
theorem dX2_give_138 : decode cX2_give 138 = .ok (.aload_n 0, 1) := by decide +kernel
theorem dX2_give_139 : decode cX2_give 139 = .ok (.iload 5, 2) := by decide +kernel
theorem dX2_give_141 : decode cX2_give 141 = .ok (.invokevirtual 145, 3) := by decide +kernel
theorem dX2_give_144 : decode cX2_give 144 = .ok (.ifCond .eq 13, 3) := by decide +kernel
theorem dX2_give_147 : decode cX2_give 147 = .ok (.aload_n 0, 1) := by decide +kernel
theorem dX2_give_148 : decode cX2_give 148 = .ok (.getfield 24, 3) := by decide +kernel
theorem dX2_give_151 : decode cX2_give 151 = .ok (.iload 5, 2) := by decide +kernel
theorem dX2_give_153 : decode cX2_give 153 = .ok (.iaload, 1) := by decide +kernel
theorem dX2_give_154 : decode cX2_give 154 = .ok (.goto 4, 3) := by decide +kernel
theorem dX2_give_157 : decode cX2_give 157 = .ok (.iconst 0, 1) := by decide +kernel
theorem dX2_give_158 : decode cX2_give 158 = .ok (.putfield 83, 3) := by decide +kernel
theorem dX2_give_161 : decode cX2_give 161 = .ok (.return_, 1) := by decide +kernel
theorem dX2_pass_0 : decode cX2_pass 0 = .ok (.iconst 0, 1) := by decide +kernel
theorem dX2_pass_1 : decode cX2_pass 1 = .ok (.istore_n 2, 1) := by decide +kernel
theorem dX2_pass_2 : decode cX2_pass 2 = .ok (.iload_n 2, 1) := by decide +kernel
theorem dX2_pass_3 : decode cX2_pass 3 = .ok (.iconst 5, 1) := by decide +kernel
theorem dX2_pass_4 : decode cX2_pass 4 = .ok (.if_icmp .ge 70, 3) := by decide +kernel
theorem dX2_pass_7 : decode cX2_pass 7 = .ok (.aload_n 0, 1) := by decide +kernel
theorem dX2_pass_8 : decode cX2_pass 8 = .ok (.iload_n 2, 1) := by decide +kernel
theorem dX2_pass_9 : decode cX2_pass 9 = .ok (.invokevirtual 145, 3) := by decide +kernel
theorem dX2_pass_12 : decode cX2_pass 12 = .ok (.ifCond .eq 56, 3) := by decide +kernel
theorem dX2_pass_15 : decode cX2_pass 15 = .ok (.aload_n 0, 1) := by decide +kernel
theorem dX2_pass_16 : decode cX2_pass 16 = .ok (.getfield 24, 3) := by decide +kernel
theorem dX2_pass_19 : decode cX2_pass 19 = .ok (.iload_n 2, 1) := by decide +kernel
theorem dX2_pass_20 : decode cX2_pass 20 = .ok (.iaload, 1) := by decide +kernel
theorem dX2_pass_21 : decode cX2_pass 21 = .ok (.aload_n 0, 1) := by decide +kernel
theorem dX2_pass_22 : decode cX2_pass 22 = .ok (.getfield 36, 3) := by decide +kernel
theorem dX2_pass_25 : decode cX2_pass 25 = .ok (.getfield 149, 3) := by decide +kernel
theorem dX2_pass_28 : decode cX2_pass 28 = .ok (.iload_n 2, 1) := by decide +kernel
theorem dX2_pass_29 : decode cX2_pass 29 = .ok (.iaload, 1) := by decide +kernel
theorem dX2_pass_30 : decode cX2_pass 30 = .ok (.if_icmp .ge 38, 3) := by decide +kernel
theorem dX2_pass_33 : decode cX2_pass 33 = .ok (.aload_n 0, 1) := by decide +kernel
theorem dX2_pass_34 : decode cX2_pass 34 = .ok (.getfield 30, 3) := by decide +kernel
theorem dX2_pass_37 : decode cX2_pass 37 = .ok (.iload_n 2, 1) := by decide +kernel
theorem dX2_pass_38 : decode cX2_pass 38 = .ok (.iaload, 1) := by decide +kernel
theorem dX2_pass_39 : decode cX2_pass 39 = .ok (.iload_n 1, 1) := by decide +kernel
theorem dX2_pass_40 : decode cX2_pass 40 = .ok (.if_icmp .gt 28, 3) := by decide +kernel
theorem dX2_pass_43 : decode cX2_pass 43 = .ok (.aload_n 0, 1) := by decide +kernel
theorem dX2_pass_44 : decode cX2_pass 44 = .ok (.getfield 27, 3) := by decide +kernel
theorem dX2_pass_47 : decode cX2_pass 47 = .ok (.iload_n 2, 1) := by decide +kernel
theorem dX2_pass_48 : decode cX2_pass 48 = .ok (.dup2, 1) := by decide +kernel
theorem dX2_pass_49 : decode cX2_pass 49 = .ok (.iaload, 1) := by decide +kernel
theorem dX2_pass_50 : decode cX2_pass 50 = .ok (.iconst 1, 1) := by decide +kernel
theorem dX2_pass_51 : decode cX2_pass 51 = .ok (.iadd, 1) := by decide +kernel
theorem dX2_pass_52 : decode cX2_pass 52 = .ok (.iastore, 1) := by decide +kernel
theorem dX2_pass_53 : decode cX2_pass 53 = .ok (.aload_n 0, 1) := by decide +kernel
theorem dX2_pass_54 : decode cX2_pass 54 = .ok (.dup, 1) := by decide +kernel
theorem dX2_pass_55 : decode cX2_pass 55 = .ok (.getfield 111, 3) := by decide +kernel
theorem dX2_pass_58 : decode cX2_pass 58 = .ok (.aload_n 0, 1) := by decide +kernel
theorem dX2_pass_59 : decode cX2_pass 59 = .ok (.iload_n 2, 1) := by decide +kernel
theorem dX2_pass_60 : decode cX2_pass 60 = .ok (.iload_n 1, 1) := by decide +kernel
theorem dX2_pass_61 : decode cX2_pass 61 = .ok (.invokevirtual 152, 3) := by decide +kernel
theorem dX2_pass_64 : decode cX2_pass 64 = .ok (.iadd, 1) := by decide +kernel
theorem dX2_pass_65 : decode cX2_pass 65 = .ok (.putfield 111, 3) := by decide +kernel
theorem dX2_pass_68 : decode cX2_pass 68 = .ok (.iinc 2 1, 3) := by decide +kernel
theorem dX2_pass_71 : decode cX2_pass 71 = .ok (.goto (-69), 3) := by decide +kernel
theorem dX2_pass_74 : decode cX2_pass 74 = .ok (.return_, 1) := by decide +kernel
theorem dX2_sits_0 : decode cX2_sits 0 = .ok (.aload_n 0, 1) := by decide +kernel
theorem dX2_sits_1 : decode cX2_sits 1 = .ok (.getfield 36, 3) := by decide +kernel
theorem dX2_sits_4 : decode cX2_sits 4 = .ok (.iload_n 1, 1) := by decide +kernel
theorem dX2_sits_5 : decode cX2_sits 5 = .ok (.invokevirtual 155, 3) := by decide +kernel
theorem dX2_sits_8 : decode cX2_sits 8 = .ok (.ifCond .eq 15, 3) := by decide +kernel
theorem dX2_sits_11 : decode cX2_sits 11 = .ok (.iload_n 1, 1) := by decide +kernel
theorem dX2_sits_12 : decode cX2_sits 12 = .ok (.aload_n 0, 1) := by decide +kernel
theorem dX2_sits_13 : decode cX2_sits 13 = .ok (.getfield 71, 3) := by decide +kernel
theorem dX2_sits_16 : decode cX2_sits 16 = .ok (.if_icmp .eq 7, 3) := by decide +kernel
theorem dX2_sits_19 : decode cX2_sits 19 = .ok (.iconst 1, 1) := by decide +kernel
theorem dX2_sits_20 : decode cX2_sits 20 = .ok (.goto 4, 3) := by decide +kernel
theorem dX2_sits_23 : decode cX2_sits 23 = .ok (.iconst 0, 1) := by decide +kernel
theorem dX2_sits_24 : decode cX2_sits 24 = .ok (.ireturn, 1) := by decide +kernel
theorem dX2_hungers_0 : decode cX2_hungers 0 = .ok (.iload_n 1, 1) := by decide +kernel
theorem dX2_hungers_1 : decode cX2_hungers 1 = .ok (.bipush 60, 2) := by decide +kernel
theorem dX2_hungers_3 : decode cX2_hungers 3 = .ok (.imul, 1) := by decide +kernel
theorem dX2_hungers_4 : decode cX2_hungers 4 = .ok (.iload_n 2, 1) := by decide +kernel
theorem dX2_hungers_5 : decode cX2_hungers 5 = .ok (.iadd, 1) := by decide +kernel
theorem dX2_hungers_6 : decode cX2_hungers 6 = .ok (.bipush 13, 2) := by decide +kernel
theorem dX2_hungers_8 : decode cX2_hungers 8 = .ok (.imul, 1) := by decide +kernel
theorem dX2_hungers_9 : decode cX2_hungers 9 = .ok (.aload_n 0, 1) := by decide +kernel
theorem dX2_hungers_10 : decode cX2_hungers 10 = .ok (.getfield 24, 3) := by decide +kernel
theorem dX2_hungers_13 : decode cX2_hungers 13 = .ok (.iload_n 1, 1) := by decide +kernel
theorem dX2_hungers_14 : decode cX2_hungers 14 = .ok (.iaload, 1) := by decide +kernel
theorem dX2_hungers_15 : decode cX2_hungers 15 = .ok (.iadd, 1) := by decide +kernel
theorem dX2_hungers_16 : decode cX2_hungers 16 = .ok (.istore_n 3, 1) := by decide +kernel
theorem dX2_hungers_17 : decode cX2_hungers 17 = .ok (.iload_n 3, 1) := by decide +kernel
theorem dX2_hungers_18 : decode cX2_hungers 18 = .ok (.ifCond .lt 12, 3) := by decide +kernel
theorem dX2_hungers_21 : decode cX2_hungers 21 = .ok (.iload_n 3, 1) := by decide +kernel
theorem dX2_hungers_22 : decode cX2_hungers 22 = .ok (.aload_n 0, 1) := by decide +kernel
theorem dX2_hungers_23 : decode cX2_hungers 23 = .ok (.getfield 33, 3) := by decide +kernel
theorem dX2_hungers_26 : decode cX2_hungers 26 = .ok (.arraylength, 1) := by decide +kernel
theorem dX2_hungers_27 : decode cX2_hungers 27 = .ok (.if_icmp .lt 5, 3) := by decide +kernel
theorem dX2_hungers_30 : decode cX2_hungers 30 = .ok (.iconst 0, 1) := by decide +kernel
theorem dX2_hungers_31 : decode cX2_hungers 31 = .ok (.ireturn, 1) := by decide +kernel
theorem dX2_hungers_32 : decode cX2_hungers 32 = .ok (.aload_n 0, 1) := by decide +kernel
theorem dX2_hungers_33 : decode cX2_hungers 33 = .ok (.getfield 33, 3) := by decide +kernel
theorem dX2_hungers_36 : decode cX2_hungers 36 = .ok (.iload_n 3, 1) := by decide +kernel
theorem dX2_hungers_37 : decode cX2_hungers 37 = .ok (.iaload, 1) := by decide +kernel
theorem dX2_hungers_38 : decode cX2_hungers 38 = .ok (.iconst (-1), 1) := by decide +kernel
theorem dX2_hungers_39 : decode cX2_hungers 39 = .ok (.if_icmp .ne 56, 3) := by decide +kernel
theorem dX2_hungers_42 : decode cX2_hungers 42 = .ok (.aload_n 0, 1) := by decide +kernel
theorem dX2_hungers_43 : decode cX2_hungers 43 = .ok (.getfield 40, 3) := by decide +kernel
theorem dX2_hungers_46 : decode cX2_hungers 46 = .ok (.iconst 0, 1) := by decide +kernel
theorem dX2_hungers_47 : decode cX2_hungers 47 = .ok (.iload_n 2, 1) := by decide +kernel
theorem dX2_hungers_48 : decode cX2_hungers 48 = .ok (.aload_n 0, 1) := by decide +kernel
theorem dX2_hungers_49 : decode cX2_hungers 49 = .ok (.getfield 24, 3) := by decide +kernel
theorem dX2_hungers_52 : decode cX2_hungers 52 = .ok (.iload_n 1, 1) := by decide +kernel
theorem dX2_hungers_53 : decode cX2_hungers 53 = .ok (.iaload, 1) := by decide +kernel
theorem dX2_hungers_54 : decode cX2_hungers 54 = .ok (.aload_n 0, 1) := by decide +kernel
theorem dX2_hungers_55 : decode cX2_hungers 55 = .ok (.getfield 36, 3) := by decide +kernel
theorem dX2_hungers_58 : decode cX2_hungers 58 = .ok (.getfield 149, 3) := by decide +kernel
theorem dX2_hungers_61 : decode cX2_hungers 61 = .ok (.iload_n 1, 1) := by decide +kernel
theorem dX2_hungers_62 : decode cX2_hungers 62 = .ok (.iaload, 1) := by decide +kernel
theorem dX2_hungers_63 : decode cX2_hungers 63 = .ok (.iload_n 1, 1) := by decide +kernel
theorem dX2_hungers_64 : decode cX2_hungers 64 = .ok (.iconst 0, 1) := by decide +kernel
theorem dX2_hungers_65 : decode cX2_hungers 65 = .ok (.invokevirtual 44, 3) := by decide +kernel
theorem dX2_hungers_68 : decode cX2_hungers 68 = .ok (.aload_n 0, 1) := by decide +kernel
theorem dX2_hungers_69 : decode cX2_hungers 69 = .ok (.getfield 33, 3) := by decide +kernel
theorem dX2_hungers_72 : decode cX2_hungers 72 = .ok (.iload_n 3, 1) := by decide +kernel
theorem dX2_hungers_73 : decode cX2_hungers 73 = .ok (.iconst 0, 1) := by decide +kernel
theorem dX2_hungers_74 : decode cX2_hungers 74 = .ok (.aload_n 0, 1) := by decide +kernel
theorem dX2_hungers_75 : decode cX2_hungers 75 = .ok (.getfield 40, 3) := by decide +kernel
theorem dX2_hungers_78 : decode cX2_hungers 78 = .ok (.aload_n 0, 1) := by decide +kernel
theorem dX2_hungers_79 : decode cX2_hungers 79 = .ok (.getfield 36, 3) := by decide +kernel
theorem dX2_hungers_82 : decode cX2_hungers 82 = .ok (.getfield 50, 3) := by decide +kernel
theorem dX2_hungers_85 : decode cX2_hungers 85 = .ok (.iconst 1, 1) := by decide +kernel
theorem dX2_hungers_86 : decode cX2_hungers 86 = .ok (.invokevirtual 56, 3) := by decide +kernel
theorem dX2_hungers_89 : decode cX2_hungers 89 = .ok (.bipush 99, 2) := by decide +kernel
theorem dX2_hungers_91 : decode cX2_hungers 91 = .ok (.invokestatic 60, 3) := by decide +kernel
theorem dX2_hungers_94 : decode cX2_hungers 94 = .ok (.iastore, 1) := by decide +kernel
theorem dX2_hungers_95 : decode cX2_hungers 95 = .ok (.aload_n 0, 1) := by decide +kernel
theorem dX2_hungers_96 : decode cX2_hungers 96 = .ok (.getfield 36, 3) := by decide +kernel
theorem dX2_hungers_99 : decode cX2_hungers 99 = .ok (.getfield 74, 3) := by decide +kernel
theorem dX2_hungers_102 : decode cX2_hungers 102 = .ok (.iload_n 1, 1) := by decide +kernel
theorem dX2_hungers_103 : decode cX2_hungers 103 = .ok (.iaload, 1) := by decide +kernel
theorem dX2_hungers_104 : decode cX2_hungers 104 = .ok (.aload_n 0, 1) := by decide +kernel
theorem dX2_hungers_105 : decode cX2_hungers 105 = .ok (.getfield 36, 3) := by decide +kernel
theorem dX2_hungers_108 : decode cX2_hungers 108 = .ok (.getfield 158, 3) := by decide +kernel
theorem dX2_hungers_111 : decode cX2_hungers 111 = .ok (.iload_n 1, 1) := by decide +kernel
theorem dX2_hungers_112 : decode cX2_hungers 112 = .ok (.iaload, 1) := by decide +kernel
theorem dX2_hungers_113 : decode cX2_hungers 113 = .ok (.aload_n 0, 1) := by decide +kernel
theorem dX2_hungers_114 : decode cX2_hungers 114 = .ok (.getfield 33, 3) := by decide +kernel
theorem dX2_hungers_117 : decode cX2_hungers 117 = .ok (.iload_n 3, 1) := by decide +kernel
theorem dX2_hungers_118 : decode cX2_hungers 118 = .ok (.iaload, 1) := by decide +kernel
theorem dX2_hungers_119 : decode cX2_hungers 119 = .ok (.aload_n 0, 1) := by decide +kernel
theorem dX2_hungers_120 : decode cX2_hungers 120 = .ok (.getfield 24, 3) := by decide +kernel
theorem dX2_hungers_123 : decode cX2_hungers 123 = .ok (.iload_n 1, 1) := by decide +kernel
theorem dX2_hungers_124 : decode cX2_hungers 124 = .ok (.iaload, 1) := by decide +kernel
theorem dX2_hungers_125 : decode cX2_hungers 125 = .ok (.aload_n 0, 1) := by decide +kernel
theorem dX2_hungers_126 : decode cX2_hungers 126 = .ok (.getfield 83, 3) := by decide +kernel
theorem dX2_hungers_129 : decode cX2_hungers 129 = .ok (.invokestatic 161, 3) := by decide +kernel
theorem dX2_hungers_132 : decode cX2_hungers 132 = .ok (.ireturn, 1) := by decide +kernel
theorem dX2_hungriest_0 : decode cX2_hungriest 0 = .ok (.iconst (-1), 1) := by decide +kernel
theorem dX2_hungriest_1 : decode cX2_hungriest 1 = .ok (.istore_n 2, 1) := by decide +kernel
theorem dX2_hungriest_2 : decode cX2_hungriest 2 = .ok (.iconst 0, 1) := by decide +kernel
theorem dX2_hungriest_3 : decode cX2_hungriest 3 = .ok (.istore_n 3, 1) := by decide +kernel
theorem dX2_hungriest_4 : decode cX2_hungriest 4 = .ok (.iconst 0, 1) := by decide +kernel
theorem dX2_hungriest_5 : decode cX2_hungriest 5 = .ok (.istore 4, 2) := by decide +kernel
theorem dX2_hungriest_7 : decode cX2_hungriest 7 = .ok (.iload 4, 2) := by decide +kernel
theorem dX2_hungriest_9 : decode cX2_hungriest 9 = .ok (.iconst 5, 1) := by decide +kernel
theorem dX2_hungriest_10 : decode cX2_hungriest 10 = .ok (.if_icmp .ge 64, 3) := by decide +kernel
theorem dX2_hungriest_13 : decode cX2_hungriest 13 = .ok (.aload_n 0, 1) := by decide +kernel
theorem dX2_hungriest_14 : decode cX2_hungriest 14 = .ok (.iload 4, 2) := by decide +kernel
theorem dX2_hungriest_16 : decode cX2_hungriest 16 = .ok (.invokevirtual 145, 3) := by decide +kernel
theorem dX2_hungriest_19 : decode cX2_hungriest 19 = .ok (.ifCond .eq 49, 3) := by decide +kernel
theorem dX2_hungriest_22 : decode cX2_hungriest 22 = .ok (.aload_n 0, 1) := by decide +kernel
theorem dX2_hungriest_23 : decode cX2_hungriest 23 = .ok (.getfield 24, 3) := by decide +kernel
theorem dX2_hungriest_26 : decode cX2_hungriest 26 = .ok (.iload 4, 2) := by decide +kernel
theorem dX2_hungriest_28 : decode cX2_hungriest 28 = .ok (.iaload, 1) := by decide +kernel
theorem dX2_hungriest_29 : decode cX2_hungriest 29 = .ok (.aload_n 0, 1) := by decide +kernel
theorem dX2_hungriest_30 : decode cX2_hungriest 30 = .ok (.getfield 36, 3) := by decide +kernel
theorem dX2_hungriest_33 : decode cX2_hungriest 33 = .ok (.getfield 149, 3) := by decide +kernel
theorem dX2_hungriest_36 : decode cX2_hungriest 36 = .ok (.iload 4, 2) := by decide +kernel
theorem dX2_hungriest_38 : decode cX2_hungriest 38 = .ok (.iaload, 1) := by decide +kernel
theorem dX2_hungriest_39 : decode cX2_hungriest 39 = .ok (.if_icmp .ge 29, 3) := by decide +kernel
theorem dX2_hungriest_42 : decode cX2_hungriest 42 = .ok (.aload_n 0, 1) := by decide +kernel
theorem dX2_hungriest_43 : decode cX2_hungriest 43 = .ok (.iload 4, 2) := by decide +kernel
theorem dX2_hungriest_45 : decode cX2_hungriest 45 = .ok (.iload_n 1, 1) := by decide +kernel
theorem dX2_hungriest_46 : decode cX2_hungriest 46 = .ok (.invokevirtual 152, 3) := by decide +kernel
theorem dX2_hungriest_49 : decode cX2_hungriest 49 = .ok (.istore 5, 2) := by decide +kernel
theorem dX2_hungriest_51 : decode cX2_hungriest 51 = .ok (.iload_n 2, 1) := by decide +kernel
theorem dX2_hungriest_52 : decode cX2_hungriest 52 = .ok (.iconst (-1), 1) := by decide +kernel
theorem dX2_hungriest_53 : decode cX2_hungriest 53 = .ok (.if_icmp .eq 9, 3) := by decide +kernel
theorem dX2_hungriest_56 : decode cX2_hungriest 56 = .ok (.iload 5, 2) := by decide +kernel
theorem dX2_hungriest_58 : decode cX2_hungriest 58 = .ok (.iload_n 3, 1) := by decide +kernel
theorem dX2_hungriest_59 : decode cX2_hungriest 59 = .ok (.if_icmp .le 9, 3) := by decide +kernel
theorem dX2_hungriest_62 : decode cX2_hungriest 62 = .ok (.iload 4, 2) := by decide +kernel
theorem dX2_hungriest_64 : decode cX2_hungriest 64 = .ok (.istore_n 2, 1) := by decide +kernel
theorem dX2_hungriest_65 : decode cX2_hungriest 65 = .ok (.iload 5, 2) := by decide +kernel
theorem dX2_hungriest_67 : decode cX2_hungriest 67 = .ok (.istore_n 3, 1) := by decide +kernel
theorem dX2_hungriest_68 : decode cX2_hungriest 68 = .ok (.iinc 4 1, 3) := by decide +kernel
theorem dX2_hungriest_71 : decode cX2_hungriest 71 = .ok (.goto (-64), 3) := by decide +kernel
theorem dX2_hungriest_74 : decode cX2_hungriest 74 = .ok (.iload_n 2, 1) := by decide +kernel
theorem dX2_hungriest_75 : decode cX2_hungriest 75 = .ok (.ireturn, 1) := by decide +kernel
theorem dX2_firstOfLeast_0 : decode cX2_firstOfLeast 0 = .ok (.iconst (-1), 1) := by decide +kernel
theorem dX2_firstOfLeast_1 : decode cX2_firstOfLeast 1 = .ok (.istore_n 1, 1) := by decide +kernel
theorem dX2_firstOfLeast_2 : decode cX2_firstOfLeast 2 = .ok (.iconst 0, 1) := by decide +kernel
theorem dX2_firstOfLeast_3 : decode cX2_firstOfLeast 3 = .ok (.istore_n 2, 1) := by decide +kernel
theorem dX2_firstOfLeast_4 : decode cX2_firstOfLeast 4 = .ok (.iconst 0, 1) := by decide +kernel
theorem dX2_firstOfLeast_5 : decode cX2_firstOfLeast 5 = .ok (.istore_n 3, 1) := by decide +kernel
theorem dX2_firstOfLeast_6 : decode cX2_firstOfLeast 6 = .ok (.iload_n 3, 1) := by decide +kernel
theorem dX2_firstOfLeast_7 : decode cX2_firstOfLeast 7 = .ok (.iconst 5, 1) := by decide +kernel
theorem dX2_firstOfLeast_8 : decode cX2_firstOfLeast 8 = .ok (.if_icmp .ge 41, 3) := by decide +kernel
theorem dX2_firstOfLeast_11 : decode cX2_firstOfLeast 11 = .ok (.aload_n 0, 1) := by decide +kernel
theorem dX2_firstOfLeast_12 : decode cX2_firstOfLeast 12 = .ok (.iload_n 3, 1) := by decide +kernel
theorem dX2_firstOfLeast_13 : decode cX2_firstOfLeast 13 = .ok (.invokevirtual 145, 3) := by decide +kernel
theorem dX2_firstOfLeast_16 : decode cX2_firstOfLeast 16 = .ok (.ifCond .eq 27, 3) := by decide +kernel
theorem dX2_firstOfLeast_19 : decode cX2_firstOfLeast 19 = .ok (.iload_n 1, 1) := by decide +kernel
theorem dX2_firstOfLeast_20 : decode cX2_firstOfLeast 20 = .ok (.iconst (-1), 1) := by decide +kernel
theorem dX2_firstOfLeast_21 : decode cX2_firstOfLeast 21 = .ok (.if_icmp .eq 13, 3) := by decide +kernel
theorem dX2_firstOfLeast_24 : decode cX2_firstOfLeast 24 = .ok (.aload_n 0, 1) := by decide +kernel
theorem dX2_firstOfLeast_25 : decode cX2_firstOfLeast 25 = .ok (.getfield 24, 3) := by decide +kernel
theorem dX2_firstOfLeast_28 : decode cX2_firstOfLeast 28 = .ok (.iload_n 3, 1) := by decide +kernel
theorem dX2_firstOfLeast_29 : decode cX2_firstOfLeast 29 = .ok (.iaload, 1) := by decide +kernel
theorem dX2_firstOfLeast_30 : decode cX2_firstOfLeast 30 = .ok (.iload_n 2, 1) := by decide +kernel
theorem dX2_firstOfLeast_31 : decode cX2_firstOfLeast 31 = .ok (.if_icmp .ge 12, 3) := by decide +kernel
theorem dX2_firstOfLeast_34 : decode cX2_firstOfLeast 34 = .ok (.iload_n 3, 1) := by decide +kernel
theorem dX2_firstOfLeast_35 : decode cX2_firstOfLeast 35 = .ok (.istore_n 1, 1) := by decide +kernel
theorem dX2_firstOfLeast_36 : decode cX2_firstOfLeast 36 = .ok (.aload_n 0, 1) := by decide +kernel
theorem dX2_firstOfLeast_37 : decode cX2_firstOfLeast 37 = .ok (.getfield 24, 3) := by decide +kernel
theorem dX2_firstOfLeast_40 : decode cX2_firstOfLeast 40 = .ok (.iload_n 3, 1) := by decide +kernel
theorem dX2_firstOfLeast_41 : decode cX2_firstOfLeast 41 = .ok (.iaload, 1) := by decide +kernel
theorem dX2_firstOfLeast_42 : decode cX2_firstOfLeast 42 = .ok (.istore_n 2, 1) := by decide +kernel
theorem dX2_firstOfLeast_43 : decode cX2_firstOfLeast 43 = .ok (.iinc 3 1, 3) := by decide +kernel
theorem dX2_firstOfLeast_46 : decode cX2_firstOfLeast 46 = .ok (.goto (-40), 3) := by decide +kernel
theorem dX2_firstOfLeast_49 : decode cX2_firstOfLeast 49 = .ok (.iload_n 1, 1) := by decide +kernel
theorem dX2_firstOfLeast_50 : decode cX2_firstOfLeast 50 = .ok (.ireturn, 1) := by decide +kernel
theorem dX2_mostHad_0 : decode cX2_mostHad 0 = .ok (.iconst 0, 1) := by decide +kernel
theorem dX2_mostHad_1 : decode cX2_mostHad 1 = .ok (.istore_n 1, 1) := by decide +kernel
theorem dX2_mostHad_2 : decode cX2_mostHad 2 = .ok (.iconst 0, 1) := by decide +kernel
theorem dX2_mostHad_3 : decode cX2_mostHad 3 = .ok (.istore_n 2, 1) := by decide +kernel
theorem dX2_mostHad_4 : decode cX2_mostHad 4 = .ok (.iload_n 2, 1) := by decide +kernel
theorem dX2_mostHad_5 : decode cX2_mostHad 5 = .ok (.iconst 5, 1) := by decide +kernel
theorem dX2_mostHad_6 : decode cX2_mostHad 6 = .ok (.if_icmp .ge 28, 3) := by decide +kernel
theorem dX2_mostHad_9 : decode cX2_mostHad 9 = .ok (.aload_n 0, 1) := by decide +kernel
theorem dX2_mostHad_10 : decode cX2_mostHad 10 = .ok (.iload_n 2, 1) := by decide +kernel
theorem dX2_mostHad_11 : decode cX2_mostHad 11 = .ok (.invokevirtual 145, 3) := by decide +kernel
theorem dX2_mostHad_14 : decode cX2_mostHad 14 = .ok (.ifCond .eq 14, 3) := by decide +kernel
theorem dX2_mostHad_17 : decode cX2_mostHad 17 = .ok (.iload_n 1, 1) := by decide +kernel
theorem dX2_mostHad_18 : decode cX2_mostHad 18 = .ok (.aload_n 0, 1) := by decide +kernel
theorem dX2_mostHad_19 : decode cX2_mostHad 19 = .ok (.getfield 24, 3) := by decide +kernel
theorem dX2_mostHad_22 : decode cX2_mostHad 22 = .ok (.iload_n 2, 1) := by decide +kernel
theorem dX2_mostHad_23 : decode cX2_mostHad 23 = .ok (.iaload, 1) := by decide +kernel
theorem dX2_mostHad_24 : decode cX2_mostHad 24 = .ok (.invokestatic 92, 3) := by decide +kernel
theorem dX2_mostHad_27 : decode cX2_mostHad 27 = .ok (.istore_n 1, 1) := by decide +kernel
theorem dX2_mostHad_28 : decode cX2_mostHad 28 = .ok (.iinc 2 1, 3) := by decide +kernel
theorem dX2_mostHad_31 : decode cX2_mostHad 31 = .ok (.goto (-27), 3) := by decide +kernel
theorem dX2_mostHad_34 : decode cX2_mostHad 34 = .ok (.iload_n 1, 1) := by decide +kernel
theorem dX2_mostHad_35 : decode cX2_mostHad 35 = .ok (.ireturn, 1) := by decide +kernel
theorem dX2_isAnswer_0 : decode cX2_isAnswer 0 = .ok (.iload_n 1, 1) := by decide +kernel
theorem dX2_isAnswer_1 : decode cX2_isAnswer 1 = .ok (.bipush 10, 2) := by decide +kernel
theorem dX2_isAnswer_3 : decode cX2_isAnswer 3 = .ok (.if_icmp .ge 18, 3) := by decide +kernel
theorem dX2_isAnswer_6 : decode cX2_isAnswer 6 = .ok (.iload_n 1, 1) := by decide +kernel
theorem dX2_isAnswer_7 : decode cX2_isAnswer 7 = .ok (.ifCond .lt 12, 3) := by decide +kernel
theorem dX2_isAnswer_10 : decode cX2_isAnswer 10 = .ok (.iload_n 1, 1) := by decide +kernel
theorem dX2_isAnswer_11 : decode cX2_isAnswer 11 = .ok (.iconst 3, 1) := by decide +kernel
theorem dX2_isAnswer_12 : decode cX2_isAnswer 12 = .ok (.if_icmp .gt 7, 3) := by decide +kernel
theorem dX2_isAnswer_15 : decode cX2_isAnswer 15 = .ok (.iconst 1, 1) := by decide +kernel
theorem dX2_isAnswer_16 : decode cX2_isAnswer 16 = .ok (.goto 4, 3) := by decide +kernel
theorem dX2_isAnswer_19 : decode cX2_isAnswer 19 = .ok (.iconst 0, 1) := by decide +kernel
theorem dX2_isAnswer_20 : decode cX2_isAnswer 20 = .ok (.ireturn, 1) := by decide +kernel
theorem dX2_isAnswer_21 : decode cX2_isAnswer 21 = .ok (.iload_n 1, 1) := by decide +kernel
theorem dX2_isAnswer_22 : decode cX2_isAnswer 22 = .ok (.bipush 40, 2) := by decide +kernel
theorem dX2_isAnswer_24 : decode cX2_isAnswer 24 = .ok (.if_icmp .ge 21, 3) := by decide +kernel
theorem dX2_isAnswer_27 : decode cX2_isAnswer 27 = .ok (.aload_n 0, 1) := by decide +kernel
theorem dX2_isAnswer_28 : decode cX2_isAnswer 28 = .ok (.getfield 36, 3) := by decide +kernel
theorem dX2_isAnswer_31 : decode cX2_isAnswer 31 = .ok (.iload_n 1, 1) := by decide +kernel
theorem dX2_isAnswer_32 : decode cX2_isAnswer 32 = .ok (.bipush 10, 2) := by decide +kernel
theorem dX2_isAnswer_34 : decode cX2_isAnswer 34 = .ok (.irem, 1) := by decide +kernel
theorem dX2_isAnswer_35 : decode cX2_isAnswer 35 = .ok (.invokevirtual 155, 3) := by decide +kernel
theorem dX2_isAnswer_38 : decode cX2_isAnswer 38 = .ok (.ifCond .eq 7, 3) := by decide +kernel
theorem dX2_isAnswer_41 : decode cX2_isAnswer 41 = .ok (.iconst 1, 1) := by decide +kernel
theorem dX2_isAnswer_42 : decode cX2_isAnswer 42 = .ok (.goto 4, 3) := by decide +kernel
theorem dX2_isAnswer_45 : decode cX2_isAnswer 45 = .ok (.iconst 0, 1) := by decide +kernel
theorem dX2_isAnswer_46 : decode cX2_isAnswer 46 = .ok (.ireturn, 1) := by decide +kernel
theorem dX2_answer_0 : decode cX2_answer 0 = .ok (.iload_n 1, 1) := by decide +kernel
theorem dX2_answer_1 : decode cX2_answer 1 = .ok (.tableswitch 51 0 3 #[31, 36, 41, 46], 31) := by decide +kernel
theorem dX2_answer_32 : decode cX2_answer 32 = .ok (.aload_n 0, 1) := by decide +kernel
theorem dX2_answer_33 : decode cX2_answer 33 = .ok (.getfield 111, 3) := by decide +kernel
theorem dX2_answer_36 : decode cX2_answer 36 = .ok (.ireturn, 1) := by decide +kernel
theorem dX2_answer_37 : decode cX2_answer 37 = .ok (.aload_n 0, 1) := by decide +kernel
theorem dX2_answer_38 : decode cX2_answer 38 = .ok (.getfield 114, 3) := by decide +kernel
theorem dX2_answer_41 : decode cX2_answer 41 = .ok (.ireturn, 1) := by decide +kernel
theorem dX2_answer_42 : decode cX2_answer 42 = .ok (.aload_n 0, 1) := by decide +kernel
theorem dX2_answer_43 : decode cX2_answer 43 = .ok (.getfield 117, 3) := by decide +kernel
theorem dX2_answer_46 : decode cX2_answer 46 = .ok (.ireturn, 1) := by decide +kernel
theorem dX2_answer_47 : decode cX2_answer 47 = .ok (.aload_n 0, 1) := by decide +kernel
theorem dX2_answer_48 : decode cX2_answer 48 = .ok (.getfield 120, 3) := by decide +kernel
theorem dX2_answer_51 : decode cX2_answer 51 = .ok (.ireturn, 1) := by decide +kernel
theorem dX2_answer_52 : decode cX2_answer 52 = .ok (.aload_n 0, 1) := by decide +kernel
theorem dX2_answer_53 : decode cX2_answer 53 = .ok (.iload_n 1, 1) := by decide +kernel
theorem dX2_answer_54 : decode cX2_answer 54 = .ok (.bipush 10, 2) := by decide +kernel
theorem dX2_answer_56 : decode cX2_answer 56 = .ok (.idiv, 1) := by decide +kernel
theorem dX2_answer_57 : decode cX2_answer 57 = .ok (.iload_n 1, 1) := by decide +kernel
theorem dX2_answer_58 : decode cX2_answer 58 = .ok (.bipush 10, 2) := by decide +kernel
theorem dX2_answer_60 : decode cX2_answer 60 = .ok (.irem, 1) := by decide +kernel
theorem dX2_answer_61 : decode cX2_answer 61 = .ok (.invokevirtual 165, 3) := by decide +kernel
theorem dX2_answer_64 : decode cX2_answer 64 = .ok (.ireturn, 1) := by decide +kernel
theorem dX2_ofOne_0 : decode cX2_ofOne 0 = .ok (.aload_n 0, 1) := by decide +kernel
theorem dX2_ofOne_1 : decode cX2_ofOne 1 = .ok (.getfield 36, 3) := by decide +kernel
theorem dX2_ofOne_4 : decode cX2_ofOne 4 = .ok (.iload_n 2, 1) := by decide +kernel
theorem dX2_ofOne_5 : decode cX2_ofOne 5 = .ok (.invokevirtual 155, 3) := by decide +kernel
theorem dX2_ofOne_8 : decode cX2_ofOne 8 = .ok (.ifCond .ne 6, 3) := by decide +kernel
theorem dX2_ofOne_11 : decode cX2_ofOne 11 = .ok (.ldc 168, 2) := by decide +kernel
theorem dX2_ofOne_13 : decode cX2_ofOne 13 = .ok (.ireturn, 1) := by decide +kernel
theorem dX2_ofOne_14 : decode cX2_ofOne 14 = .ok (.iload_n 1, 1) := by decide +kernel
theorem dX2_ofOne_15 : decode cX2_ofOne 15 = .ok (.iconst 1, 1) := by decide +kernel
theorem dX2_ofOne_16 : decode cX2_ofOne 16 = .ok (.if_icmp .ne 10, 3) := by decide +kernel
theorem dX2_ofOne_19 : decode cX2_ofOne 19 = .ok (.aload_n 0, 1) := by decide +kernel
theorem dX2_ofOne_20 : decode cX2_ofOne 20 = .ok (.getfield 24, 3) := by decide +kernel
theorem dX2_ofOne_23 : decode cX2_ofOne 23 = .ok (.iload_n 2, 1) := by decide +kernel
theorem dX2_ofOne_24 : decode cX2_ofOne 24 = .ok (.iaload, 1) := by decide +kernel
theorem dX2_ofOne_25 : decode cX2_ofOne 25 = .ok (.ireturn, 1) := by decide +kernel
theorem dX2_ofOne_26 : decode cX2_ofOne 26 = .ok (.iload_n 1, 1) := by decide +kernel
theorem dX2_ofOne_27 : decode cX2_ofOne 27 = .ok (.iconst 2, 1) := by decide +kernel
theorem dX2_ofOne_28 : decode cX2_ofOne 28 = .ok (.if_icmp .ne 12, 3) := by decide +kernel
theorem dX2_ofOne_31 : decode cX2_ofOne 31 = .ok (.aload_n 0, 1) := by decide +kernel
theorem dX2_ofOne_32 : decode cX2_ofOne 32 = .ok (.getfield 27, 3) := by decide +kernel
theorem dX2_ofOne_35 : decode cX2_ofOne 35 = .ok (.iload_n 2, 1) := by decide +kernel
theorem dX2_ofOne_36 : decode cX2_ofOne 36 = .ok (.iaload, 1) := by decide +kernel
theorem dX2_ofOne_37 : decode cX2_ofOne 37 = .ok (.goto 9, 3) := by decide +kernel
theorem dX2_ofOne_40 : decode cX2_ofOne 40 = .ok (.aload_n 0, 1) := by decide +kernel
theorem dX2_ofOne_41 : decode cX2_ofOne 41 = .ok (.getfield 30, 3) := by decide +kernel
theorem dX2_ofOne_44 : decode cX2_ofOne 44 = .ok (.iload_n 2, 1) := by decide +kernel
theorem dX2_ofOne_45 : decode cX2_ofOne 45 = .ok (.iaload, 1) := by decide +kernel
theorem dX2_ofOne_46 : decode cX2_ofOne 46 = .ok (.ireturn, 1) := by decide +kernel
theorem dX2_lastTold_0 : decode cX2_lastTold 0 = .ok (.aload_n 0, 1) := by decide +kernel
theorem dX2_lastTold_1 : decode cX2_lastTold 1 = .ok (.getfield 36, 3) := by decide +kernel
theorem dX2_lastTold_4 : decode cX2_lastTold 4 = .ok (.iload_n 1, 1) := by decide +kernel
theorem dX2_lastTold_5 : decode cX2_lastTold 5 = .ok (.invokevirtual 155, 3) := by decide +kernel
theorem dX2_lastTold_8 : decode cX2_lastTold 8 = .ok (.ifCond .eq 17, 3) := by decide +kernel
theorem dX2_lastTold_11 : decode cX2_lastTold 11 = .ok (.aload_n 0, 1) := by decide +kernel
theorem dX2_lastTold_12 : decode cX2_lastTold 12 = .ok (.getfield 30, 3) := by decide +kernel
theorem dX2_lastTold_15 : decode cX2_lastTold 15 = .ok (.iload_n 1, 1) := by decide +kernel
theorem dX2_lastTold_16 : decode cX2_lastTold 16 = .ok (.iaload, 1) := by decide +kernel
theorem dX2_lastTold_17 : decode cX2_lastTold 17 = .ok (.bipush 60, 2) := by decide +kernel
theorem dX2_lastTold_19 : decode cX2_lastTold 19 = .ok (.invokestatic 107, 3) := by decide +kernel
theorem dX2_lastTold_22 : decode cX2_lastTold 22 = .ok (.goto 4, 3) := by decide +kernel
theorem dX2_lastTold_25 : decode cX2_lastTold 25 = .ok (.iconst (-1), 1) := by decide +kernel
theorem dX2_lastTold_26 : decode cX2_lastTold 26 = .ok (.ireturn, 1) := by decide +kernel
theorem dX2_within_0 : decode cX2_within 0 = .ok (.iload_n 0, 1) := by decide +kernel
theorem dX2_within_1 : decode cX2_within 1 = .ok (.iload_n 1, 1) := by decide +kernel
theorem dX2_within_2 : decode cX2_within 2 = .ok (.iload_n 2, 1) := by decide +kernel
theorem dX2_within_3 : decode cX2_within 3 = .ok (.invokestatic 107, 3) := by decide +kernel
theorem dX2_within_6 : decode cX2_within 6 = .ok (.invokestatic 92, 3) := by decide +kernel
theorem dX2_within_9 : decode cX2_within 9 = .ok (.ireturn, 1) := by decide +kernel
end
section
theorem dX5_init_0 : decode cX5_init 0 = .ok (.aload_n 0, 1) := by decide +kernel
theorem dX5_init_1 : decode cX5_init 1 = .ok (.invokespecial 1, 3) := by decide +kernel
theorem dX5_init_4 : decode cX5_init 4 = .ok (.aload_n 0, 1) := by decide +kernel
theorem dX5_init_5 : decode cX5_init 5 = .ok (.new 7, 3) := by decide +kernel
theorem dX5_init_8 : decode cX5_init 8 = .ok (.dup, 1) := by decide +kernel
theorem dX5_init_9 : decode cX5_init 9 = .ok (.invokespecial 9, 3) := by decide +kernel
theorem dX5_init_12 : decode cX5_init 12 = .ok (.putfield 10, 3) := by decide +kernel
theorem dX5_init_15 : decode cX5_init 15 = .ok (.aload_n 0, 1) := by decide +kernel
theorem dX5_init_16 : decode cX5_init 16 = .ok (.new 7, 3) := by decide +kernel
theorem dX5_init_19 : decode cX5_init 19 = .ok (.dup, 1) := by decide +kernel
theorem dX5_init_20 : decode cX5_init 20 = .ok (.invokespecial 9, 3) := by decide +kernel
theorem dX5_init_23 : decode cX5_init 23 = .ok (.putfield 16, 3) := by decide +kernel
theorem dX5_init_26 : decode cX5_init 26 = .ok (.aload_n 0, 1) := by decide +kernel
theorem dX5_init_27 : decode cX5_init 27 = .ok (.new 19, 3) := by decide +kernel
theorem dX5_init_30 : decode cX5_init 30 = .ok (.dup, 1) := by decide +kernel
theorem dX5_init_31 : decode cX5_init 31 = .ok (.invokespecial 21, 3) := by decide +kernel
theorem dX5_init_34 : decode cX5_init 34 = .ok (.putfield 22, 3) := by decide +kernel
theorem dX5_init_37 : decode cX5_init 37 = .ok (.aload_n 0, 1) := by decide +kernel
theorem dX5_init_38 : decode cX5_init 38 = .ok (.new 26, 3) := by decide +kernel
theorem dX5_init_41 : decode cX5_init 41 = .ok (.dup, 1) := by decide +kernel
theorem dX5_init_42 : decode cX5_init 42 = .ok (.invokespecial 28, 3) := by decide +kernel
theorem dX5_init_45 : decode cX5_init 45 = .ok (.putfield 29, 3) := by decide +kernel
theorem dX5_init_48 : decode cX5_init 48 = .ok (.aload_n 0, 1) := by decide +kernel
theorem dX5_init_49 : decode cX5_init 49 = .ok (.new 33, 3) := by decide +kernel
theorem dX5_init_52 : decode cX5_init 52 = .ok (.dup, 1) := by decide +kernel
theorem dX5_init_53 : decode cX5_init 53 = .ok (.invokespecial 35, 3) := by decide +kernel
theorem dX5_init_56 : decode cX5_init 56 = .ok (.putfield 36, 3) := by decide +kernel
theorem dX5_init_59 : decode cX5_init 59 = .ok (.aload_n 0, 1) := by decide +kernel
theorem dX5_init_60 : decode cX5_init 60 = .ok (.new 40, 3) := by decide +kernel
theorem dX5_init_63 : decode cX5_init 63 = .ok (.dup, 1) := by decide +kernel
theorem dX5_init_64 : decode cX5_init 64 = .ok (.aload_n 0, 1) := by decide +kernel
theorem dX5_init_65 : decode cX5_init 65 = .ok (.getfield 10, 3) := by decide +kernel
theorem dX5_init_68 : decode cX5_init 68 = .ok (.aload_n 0, 1) := by decide +kernel
theorem dX5_init_69 : decode cX5_init 69 = .ok (.getfield 29, 3) := by decide +kernel
theorem dX5_init_72 : decode cX5_init 72 = .ok (.invokespecial 42, 3) := by decide +kernel
theorem dX5_init_75 : decode cX5_init 75 = .ok (.putfield 45, 3) := by decide +kernel
theorem dX5_init_78 : decode cX5_init 78 = .ok (.aload_n 0, 1) := by decide +kernel
theorem dX5_init_79 : decode cX5_init 79 = .ok (.getfield 22, 3) := by decide +kernel
theorem dX5_init_82 : decode cX5_init 82 = .ok (.ldc 49, 2) := by decide +kernel
theorem dX5_init_84 : decode cX5_init 84 = .ok (.invokevirtual 51, 3) := by decide +kernel
theorem dX5_init_87 : decode cX5_init 87 = .ok (.aload_n 0, 1) := by decide +kernel
theorem dX5_init_88 : decode cX5_init 88 = .ok (.getfield 22, 3) := by decide +kernel
theorem dX5_init_91 : decode cX5_init 91 = .ok (.invokevirtual 55, 3) := by decide +kernel
theorem dX5_init_94 : decode cX5_init 94 = .ok (.ifCond .eq 15, 3) := by decide +kernel
theorem dX5_init_97 : decode cX5_init 97 = .ok (.aload_n 0, 1) := by decide +kernel
theorem dX5_init_98 : decode cX5_init 98 = .ok (.getfield 29, 3) := by decide +kernel
theorem dX5_init_101 : decode cX5_init 101 = .ok (.aload_n 0, 1) := by decide +kernel
theorem dX5_init_102 : decode cX5_init 102 = .ok (.getfield 22, 3) := by decide +kernel
theorem dX5_init_105 : decode cX5_init 105 = .ok (.invokevirtual 59, 3) := by decide +kernel
theorem dX5_init_108 : decode cX5_init 108 = .ok (.pop, 1) := by decide +kernel
theorem dX5_init_109 : decode cX5_init 109 = .ok (.return_, 1) := by decide +kernel
theorem dX5_set_0 : decode cX5_set 0 = .ok (.iload_n 1, 1) := by decide +kernel
theorem dX5_set_1 : decode cX5_set 1 = .ok (.ifCond .lt 19, 3) := by decide +kernel
theorem dX5_set_4 : decode cX5_set 4 = .ok (.iload_n 1, 1) := by decide +kernel
theorem dX5_set_5 : decode cX5_set 5 = .ok (.getstatic 63, 3) := by decide +kernel
theorem dX5_set_8 : decode cX5_set 8 = .ok (.arraylength, 1) := by decide +kernel
theorem dX5_set_9 : decode cX5_set 9 = .ok (.if_icmp .ge 11, 3) := by decide +kernel
theorem dX5_set_12 : decode cX5_set 12 = .ok (.iload_n 1, 1) := by decide +kernel
theorem dX5_set_13 : decode cX5_set 13 = .ok (.getstatic 67, 3) := by decide +kernel
theorem dX5_set_16 : decode cX5_set 16 = .ok (.arraylength, 1) := by decide +kernel
theorem dX5_set_17 : decode cX5_set 17 = .ok (.if_icmp .lt 6, 3) := by decide +kernel
theorem dX5_set_20 : decode cX5_set 20 = .ok (.bipush (-2), 2) := by decide +kernel
theorem dX5_set_22 : decode cX5_set 22 = .ok (.ireturn, 1) := by decide +kernel
theorem dX5_set_23 : decode cX5_set 23 = .ok (.iload_n 3, 1) := by decide +kernel
theorem dX5_set_24 : decode cX5_set 24 = .ok (.getstatic 63, 3) := by decide +kernel
theorem dX5_set_27 : decode cX5_set 27 = .ok (.iload_n 1, 1) := by decide +kernel
theorem dX5_set_28 : decode cX5_set 28 = .ok (.iaload, 1) := by decide +kernel
theorem dX5_set_29 : decode cX5_set 29 = .ok (.if_icmp .lt 12, 3) := by decide +kernel
theorem dX5_set_32 : decode cX5_set 32 = .ok (.iload_n 3, 1) := by decide +kernel
theorem dX5_set_33 : decode cX5_set 33 = .ok (.getstatic 67, 3) := by decide +kernel
theorem dX5_set_36 : decode cX5_set 36 = .ok (.iload_n 1, 1) := by decide +kernel
theorem dX5_set_37 : decode cX5_set 37 = .ok (.iaload, 1) := by decide +kernel
theorem dX5_set_38 : decode cX5_set 38 = .ok (.if_icmp .le 6, 3) := by decide +kernel
theorem dX5_set_41 : decode cX5_set 41 = .ok (.bipush (-2), 2) := by decide +kernel
theorem dX5_set_43 : decode cX5_set 43 = .ok (.ireturn, 1) := by decide +kernel
theorem dX5_set_44 : decode cX5_set 44 = .ok (.aload_n 0, 1) := by decide +kernel
theorem dX5_set_45 : decode cX5_set 45 = .ok (.getfield 10, 3) := by decide +kernel
theorem dX5_set_48 : decode cX5_set 48 = .ok (.iload_n 1, 1) := by decide +kernel
theorem dX5_set_49 : decode cX5_set 49 = .ok (.iload_n 2, 1) := by decide +kernel
theorem dX5_set_50 : decode cX5_set 50 = .ok (.iload_n 3, 1) := by decide +kernel
theorem dX5_set_51 : decode cX5_set 51 = .ok (.invokevirtual 70, 3) := by decide +kernel
theorem dX5_set_54 : decode cX5_set 54 = .ok (.ireturn, 1) := by decide +kernel
theorem dX5_eater_0 : decode cX5_eater 0 = .ok (.aload_n 0, 1) := by decide +kernel
theorem dX5_eater_1 : decode cX5_eater 1 = .ok (.getfield 10, 3) := by decide +kernel
theorem dX5_eater_4 : decode cX5_eater 4 = .ok (.iload_n 1, 1) := by decide +kernel
theorem dX5_eater_5 : decode cX5_eater 5 = .ok (.iload_n 2, 1) := by decide +kernel
theorem dX5_eater_6 : decode cX5_eater 6 = .ok (.iload_n 3, 1) := by decide +kernel
theorem dX5_eater_7 : decode cX5_eater 7 = .ok (.invokevirtual 74, 3) := by decide +kernel
theorem dX5_eater_10 : decode cX5_eater 10 = .ok (.ireturn, 1) := by decide +kernel
theorem dX5_told_0 : decode cX5_told 0 = .ok (.aload_n 0, 1) := by decide +kernel
theorem dX5_told_1 : decode cX5_told 1 = .ok (.getfield 10, 3) := by decide +kernel
theorem dX5_told_4 : decode cX5_told 4 = .ok (.iload_n 1, 1) := by decide +kernel
theorem dX5_told_5 : decode cX5_told 5 = .ok (.invokevirtual 77, 3) := by decide +kernel
theorem dX5_told_8 : decode cX5_told 8 = .ok (.ifCond .ne 6, 3) := by decide +kernel
theorem dX5_told_11 : decode cX5_told 11 = .ok (.bipush (-2), 2) := by decide +kernel
theorem dX5_told_13 : decode cX5_told 13 = .ok (.ireturn, 1) := by decide +kernel
theorem dX5_told_14 : decode cX5_told 14 = .ok (.iload_n 2, 1) := by decide +kernel
theorem dX5_told_15 : decode cX5_told 15 = .ok (.tableswitch 123 0 5 #[37, 47, 69, 79, 89, 99], 37) := by decide +kernel
theorem dX5_told_52 : decode cX5_told 52 = .ok (.aload_n 0, 1) := by decide +kernel
theorem dX5_told_53 : decode cX5_told 53 = .ok (.getfield 10, 3) := by decide +kernel
theorem dX5_told_56 : decode cX5_told 56 = .ok (.getfield 81, 3) := by decide +kernel
theorem dX5_told_59 : decode cX5_told 59 = .ok (.iload_n 1, 1) := by decide +kernel
theorem dX5_told_60 : decode cX5_told 60 = .ok (.iaload, 1) := by decide +kernel
theorem dX5_told_61 : decode cX5_told 61 = .ok (.ireturn, 1) := by decide +kernel
theorem dX5_told_62 : decode cX5_told 62 = .ok (.aload_n 0, 1) := by decide +kernel
theorem dX5_told_63 : decode cX5_told 63 = .ok (.getfield 10, 3) := by decide +kernel
theorem dX5_told_66 : decode cX5_told 66 = .ok (.getfield 81, 3) := by decide +kernel
theorem dX5_told_69 : decode cX5_told 69 = .ok (.iload_n 1, 1) := by decide +kernel
theorem dX5_told_70 : decode cX5_told 70 = .ok (.iaload, 1) := by decide +kernel
theorem dX5_told_71 : decode cX5_told 71 = .ok (.aload_n 0, 1) := by decide +kernel
theorem dX5_told_72 : decode cX5_told 72 = .ok (.getfield 10, 3) := by decide +kernel
theorem dX5_told_75 : decode cX5_told 75 = .ok (.getfield 84, 3) := by decide +kernel
theorem dX5_told_78 : decode cX5_told 78 = .ok (.iload_n 1, 1) := by decide +kernel
theorem dX5_told_79 : decode cX5_told 79 = .ok (.iaload, 1) := by decide +kernel
theorem dX5_told_80 : decode cX5_told 80 = .ok (.invokestatic 87, 3) := by decide +kernel
theorem dX5_told_83 : decode cX5_told 83 = .ok (.ireturn, 1) := by decide +kernel
theorem dX5_told_84 : decode cX5_told 84 = .ok (.aload_n 0, 1) := by decide +kernel
theorem dX5_told_85 : decode cX5_told 85 = .ok (.getfield 10, 3) := by decide +kernel
theorem dX5_told_88 : decode cX5_told 88 = .ok (.getfield 91, 3) := by decide +kernel
theorem dX5_told_91 : decode cX5_told 91 = .ok (.iload_n 1, 1) := by decide +kernel
theorem dX5_told_92 : decode cX5_told 92 = .ok (.iaload, 1) := by decide +kernel
theorem dX5_told_93 : decode cX5_told 93 = .ok (.ireturn, 1) := by decide +kernel
theorem dX5_told_94 : decode cX5_told 94 = .ok (.aload_n 0, 1) := by decide +kernel
theorem dX5_told_95 : decode cX5_told 95 = .ok (.getfield 10, 3) := by decide +kernel
theorem dX5_told_98 : decode cX5_told 98 = .ok (.getfield 94, 3) := by decide +kernel
theorem dX5_told_101 : decode cX5_told 101 = .ok (.iload_n 1, 1) := by decide +kernel
theorem dX5_told_102 : decode cX5_told 102 = .ok (.iaload, 1) := by decide +kernel
theorem dX5_told_103 : decode cX5_told 103 = .ok (.ireturn, 1) := by decide +kernel
theorem dX5_told_104 : decode cX5_told 104 = .ok (.aload_n 0, 1) := by decide +kernel
theorem dX5_told_105 : decode cX5_told 105 = .ok (.getfield 10, 3) := by decide +kernel
theorem dX5_told_108 : decode cX5_told 108 = .ok (.getfield 84, 3) := by decide +kernel
theorem dX5_told_111 : decode cX5_told 111 = .ok (.iload_n 1, 1) := by decide +kernel
theorem dX5_told_112 : decode cX5_told 112 = .ok (.iaload, 1) := by decide +kernel
theorem dX5_told_113 : decode cX5_told 113 = .ok (.ireturn, 1) := by decide +kernel
theorem dX5_told_114 : decode cX5_told 114 = .ok (.aload_n 0, 1) := by decide +kernel
theorem dX5_told_115 : decode cX5_told 115 = .ok (.getfield 45, 3) := by decide +kernel
theorem dX5_told_118 : decode cX5_told 118 = .ok (.aload_n 0, 1) := by decide +kernel
theorem dX5_told_119 : decode cX5_told 119 = .ok (.getfield 10, 3) := by decide +kernel
theorem dX5_told_122 : decode cX5_told 122 = .ok (.getfield 97, 3) := by decide +kernel
theorem dX5_told_125 : decode cX5_told 125 = .ok (.invokevirtual 101, 3) := by decide +kernel
theorem dX5_told_128 : decode cX5_told 128 = .ok (.aload_n 0, 1) := by decide +kernel
theorem dX5_told_129 : decode cX5_told 129 = .ok (.getfield 45, 3) := by decide +kernel
theorem dX5_told_132 : decode cX5_told 132 = .ok (.iload_n 1, 1) := by decide +kernel
theorem dX5_told_133 : decode cX5_told 133 = .ok (.iconst 0, 1) := by decide +kernel
theorem dX5_told_134 : decode cX5_told 134 = .ok (.invokevirtual 105, 3) := by decide +kernel
theorem dX5_told_137 : decode cX5_told 137 = .ok (.ireturn, 1) := by decide +kernel
theorem dX5_told_138 : decode cX5_told 138 = .ok (.bipush (-2), 2) := by decide +kernel
theorem dX5_told_140 : decode cX5_told 140 = .ok (.ireturn, 1) := by decide +kernel
theorem dX5_ready_0 : decode cX5_ready 0 = .ok (.iload_n 1, 1) := by decide +kernel
theorem dX5_ready_1 : decode cX5_ready 1 = .ok (.ifCond .lt 20, 3) := by decide +kernel
theorem dX5_ready_4 : decode cX5_ready 4 = .ok (.iload_n 1, 1) := by decide +kernel
theorem dX5_ready_5 : decode cX5_ready 5 = .ok (.aload_n 0, 1) := by decide +kernel
theorem dX5_ready_6 : decode cX5_ready 6 = .ok (.getfield 10, 3) := by decide +kernel
theorem dX5_ready_9 : decode cX5_ready 9 = .ok (.getfield 108, 3) := by decide +kernel
theorem dX5_ready_12 : decode cX5_ready 12 = .ok (.if_icmp .ge 9, 3) := by decide +kernel
theorem dX5_ready_15 : decode cX5_ready 15 = .ok (.iload_n 1, 1) := by decide +kernel
theorem dX5_ready_16 : decode cX5_ready 16 = .ok (.bipush 12, 2) := by decide +kernel
theorem dX5_ready_18 : decode cX5_ready 18 = .ok (.if_icmp .lt 6, 3) := by decide +kernel
theorem dX5_ready_21 : decode cX5_ready 21 = .ok (.bipush (-2), 2) := by decide +kernel
theorem dX5_ready_23 : decode cX5_ready 23 = .ok (.ireturn, 1) := by decide +kernel
theorem dX5_ready_24 : decode cX5_ready 24 = .ok (.aload_n 0, 1) := by decide +kernel
theorem dX5_ready_25 : decode cX5_ready 25 = .ok (.getfield 45, 3) := by decide +kernel
theorem dX5_ready_28 : decode cX5_ready 28 = .ok (.aload_n 0, 1) := by decide +kernel
theorem dX5_ready_29 : decode cX5_ready 29 = .ok (.getfield 10, 3) := by decide +kernel
theorem dX5_ready_32 : decode cX5_ready 32 = .ok (.getfield 97, 3) := by decide +kernel
theorem dX5_ready_35 : decode cX5_ready 35 = .ok (.invokevirtual 111, 3) := by decide +kernel
theorem dX5_ready_38 : decode cX5_ready 38 = .ok (.aload_n 0, 1) := by decide +kernel
theorem dX5_ready_39 : decode cX5_ready 39 = .ok (.getfield 45, 3) := by decide +kernel
theorem dX5_ready_42 : decode cX5_ready 42 = .ok (.getfield 114, 3) := by decide +kernel
theorem dX5_ready_45 : decode cX5_ready 45 = .ok (.iload_n 1, 1) := by decide +kernel
theorem dX5_ready_46 : decode cX5_ready 46 = .ok (.iaload, 1) := by decide +kernel
theorem dX5_ready_47 : decode cX5_ready 47 = .ok (.ireturn, 1) := by decide +kernel
theorem dX5_feed_0 : decode cX5_feed 0 = .ok (.iload_n 1, 1) := by decide +kernel
theorem dX5_feed_1 : decode cX5_feed 1 = .ok (.ifCond .lt 10, 3) := by decide +kernel
theorem dX5_feed_4 : decode cX5_feed 4 = .ok (.iload_n 1, 1) := by decide +kernel
theorem dX5_feed_5 : decode cX5_feed 5 = .ok (.sipush 255, 3) := by decide +kernel
theorem dX5_feed_8 : decode cX5_feed 8 = .ok (.if_icmp .le 6, 3) := by decide +kernel
theorem dX5_feed_11 : decode cX5_feed 11 = .ok (.bipush (-2), 2) := by decide +kernel
theorem dX5_feed_13 : decode cX5_feed 13 = .ok (.ireturn, 1) := by decide +kernel
theorem dX5_feed_14 : decode cX5_feed 14 = .ok (.aload_n 0, 1) := by decide +kernel
theorem dX5_feed_15 : decode cX5_feed 15 = .ok (.getfield 22, 3) := by decide +kernel
theorem dX5_feed_18 : decode cX5_feed 18 = .ok (.iload_n 1, 1) := by decide +kernel
theorem dX5_feed_19 : decode cX5_feed 19 = .ok (.invokevirtual 117, 3) := by decide +kernel
theorem dX5_feed_22 : decode cX5_feed 22 = .ok (.ifCond .eq 13, 3) := by decide +kernel
theorem dX5_feed_25 : decode cX5_feed 25 = .ok (.aload_n 0, 1) := by decide +kernel
theorem dX5_feed_26 : decode cX5_feed 26 = .ok (.getfield 22, 3) := by decide +kernel
theorem dX5_feed_29 : decode cX5_feed 29 = .ok (.getfield 120, 3) := by decide +kernel
theorem dX5_feed_32 : decode cX5_feed 32 = .ok (.goto 5, 3) := by decide +kernel
theorem dX5_feed_35 : decode cX5_feed 35 = .ok (.bipush (-4), 2) := by decide +kernel
theorem dX5_feed_37 : decode cX5_feed 37 = .ok (.ireturn, 1) := by decide +kernel
theorem dX5_text_0 : decode cX5_text 0 = .ok (.aload_n 0, 1) := by decide +kernel
theorem dX5_text_1 : decode cX5_text 1 = .ok (.getfield 29, 3) := by decide +kernel
theorem dX5_text_4 : decode cX5_text 4 = .ok (.getfield 123, 3) := by decide +kernel
theorem dX5_text_7 : decode cX5_text 7 = .ok (.bipush 6, 2) := by decide +kernel
theorem dX5_text_9 : decode cX5_text 9 = .ok (.if_icmp .lt 6, 3) := by decide +kernel
theorem dX5_text_12 : decode cX5_text 12 = .ok (.bipush (-4), 2) := by decide +kernel
theorem dX5_text_14 : decode cX5_text 14 = .ok (.ireturn, 1) := by decide +kernel
theorem dX5_text_15 : decode cX5_text 15 = .ok (.aload_n 0, 1) := by decide +kernel
theorem dX5_text_16 : decode cX5_text 16 = .ok (.getfield 22, 3) := by decide +kernel
theorem dX5_text_19 : decode cX5_text 19 = .ok (.invokevirtual 55, 3) := by decide +kernel
theorem dX5_text_22 : decode cX5_text 22 = .ok (.ifCond .ne 14, 3) := by decide +kernel
theorem dX5_text_25 : decode cX5_text 25 = .ok (.bipush (-100), 2) := by decide +kernel
theorem dX5_text_27 : decode cX5_text 27 = .ok (.aload_n 0, 1) := by decide +kernel
theorem dX5_text_28 : decode cX5_text 28 = .ok (.getfield 22, 3) := by decide +kernel
theorem dX5_text_31 : decode cX5_text 31 = .ok (.getfield 126, 3) := by decide +kernel
theorem dX5_text_34 : decode cX5_text 34 = .ok (.isub, 1) := by decide +kernel
theorem dX5_text_35 : decode cX5_text 35 = .ok (.ireturn, 1) := by decide +kernel
theorem dX5_text_36 : decode cX5_text 36 = .ok (.aload_n 0, 1) := by decide +kernel
theorem dX5_text_37 : decode cX5_text 37 = .ok (.getfield 29, 3) := by decide +kernel
theorem dX5_text_40 : decode cX5_text 40 = .ok (.aload_n 0, 1) := by decide +kernel
theorem dX5_text_41 : decode cX5_text 41 = .ok (.getfield 22, 3) := by decide +kernel
theorem dX5_text_44 : decode cX5_text 44 = .ok (.invokevirtual 59, 3) := by decide +kernel
theorem dX5_text_47 : decode cX5_text 47 = .ok (.ireturn, 1) := by decide +kernel
theorem dX5_force_0 : decode cX5_force 0 = .ok (.iload_n 1, 1) := by decide +kernel
theorem dX5_force_1 : decode cX5_force 1 = .ok (.ifCond .lt 14, 3) := by decide +kernel
theorem dX5_force_4 : decode cX5_force 4 = .ok (.iload_n 1, 1) := by decide +kernel
theorem dX5_force_5 : decode cX5_force 5 = .ok (.aload_n 0, 1) := by decide +kernel
theorem dX5_force_6 : decode cX5_force 6 = .ok (.getfield 29, 3) := by decide +kernel
theorem dX5_force_9 : decode cX5_force 9 = .ok (.getfield 123, 3) := by decide +kernel
theorem dX5_force_12 : decode cX5_force 12 = .ok (.if_icmp .lt 6, 3) := by decide +kernel
theorem dX5_force_15 : decode cX5_force 15 = .ok (.bipush (-2), 2) := by decide +kernel
theorem dX5_force_17 : decode cX5_force 17 = .ok (.ireturn, 1) := by decide +kernel
theorem dX5_force_18 : decode cX5_force 18 = .ok (.aload_n 0, 1) := by decide +kernel
theorem dX5_force_19 : decode cX5_force 19 = .ok (.getfield 10, 3) := by decide +kernel
theorem dX5_force_22 : decode cX5_force 22 = .ok (.getfield 129, 3) := by decide +kernel
theorem dX5_force_25 : decode cX5_force 25 = .ok (.istore_n 2, 1) := by decide +kernel
theorem dX5_force_26 : decode cX5_force 26 = .ok (.aload_n 0, 1) := by decide +kernel
theorem dX5_force_27 : decode cX5_force 27 = .ok (.getfield 10, 3) := by decide +kernel
theorem dX5_force_30 : decode cX5_force 30 = .ok (.iload_n 1, 1) := by decide +kernel
theorem dX5_force_31 : decode cX5_force 31 = .ok (.putfield 129, 3) := by decide +kernel
theorem dX5_force_34 : decode cX5_force 34 = .ok (.iload_n 2, 1) := by decide +kernel
theorem dX5_force_35 : decode cX5_force 35 = .ok (.ireturn, 1) := by decide +kernel
theorem dX5_supper_0 : decode cX5_supper 0 = .ok (.iload_n 1, 1) := by decide +kernel
theorem dX5_supper_1 : decode cX5_supper 1 = .ok (.ifCond .lt 19, 3) := by decide +kernel
theorem dX5_supper_4 : decode cX5_supper 4 = .ok (.iload_n 1, 1) := by decide +kernel
theorem dX5_supper_5 : decode cX5_supper 5 = .ok (.iconst 3, 1) := by decide +kernel
theorem dX5_supper_6 : decode cX5_supper 6 = .ok (.if_icmp .gt 14, 3) := by decide +kernel
theorem dX5_supper_9 : decode cX5_supper 9 = .ok (.aload_n 0, 1) := by decide +kernel
theorem dX5_supper_10 : decode cX5_supper 10 = .ok (.getfield 45, 3) := by decide +kernel
theorem dX5_supper_13 : decode cX5_supper 13 = .ok (.iload_n 3, 1) := by decide +kernel
theorem dX5_supper_14 : decode cX5_supper 14 = .ok (.invokevirtual 132, 3) := by decide +kernel
theorem dX5_supper_17 : decode cX5_supper 17 = .ok (.ifCond .ne 6, 3) := by decide +kernel
theorem dX5_supper_20 : decode cX5_supper 20 = .ok (.ldc 135, 2) := by decide +kernel
theorem dX5_supper_22 : decode cX5_supper 22 = .ok (.ireturn, 1) := by decide +kernel
theorem dX5_supper_23 : decode cX5_supper 23 = .ok (.iload_n 1, 1) := by decide +kernel
theorem dX5_supper_24 : decode cX5_supper 24 = .ok (.ifCond .ne 70, 3) := by decide +kernel
theorem dX5_supper_27 : decode cX5_supper 27 = .ok (.aload_n 0, 1) := by decide +kernel
theorem dX5_supper_28 : decode cX5_supper 28 = .ok (.getfield 36, 3) := by decide +kernel
theorem dX5_supper_31 : decode cX5_supper 31 = .ok (.iload_n 2, 1) := by decide +kernel
theorem dX5_supper_32 : decode cX5_supper 32 = .ok (.invokevirtual 136, 3) := by decide +kernel
theorem dX5_supper_35 : decode cX5_supper 35 = .ok (.ifCond .eq 6, 3) := by decide +kernel
theorem dX5_supper_38 : decode cX5_supper 38 = .ok (.ldc 135, 2) := by decide +kernel
theorem dX5_supper_40 : decode cX5_supper 40 = .ok (.ireturn, 1) := by decide +kernel
theorem dX5_supper_41 : decode cX5_supper 41 = .ok (.iconst 0, 1) := by decide +kernel
theorem dX5_supper_42 : decode cX5_supper 42 = .ok (.istore 4, 2) := by decide +kernel
theorem dX5_supper_44 : decode cX5_supper 44 = .ok (.iload 4, 2) := by decide +kernel
theorem dX5_supper_46 : decode cX5_supper 46 = .ok (.bipush 12, 2) := by decide +kernel
theorem dX5_supper_48 : decode cX5_supper 48 = .ok (.if_icmp .ge 46, 3) := by decide +kernel
theorem dX5_supper_51 : decode cX5_supper 51 = .ok (.aload_n 0, 1) := by decide +kernel
theorem dX5_supper_52 : decode cX5_supper 52 = .ok (.getfield 45, 3) := by decide +kernel
theorem dX5_supper_55 : decode cX5_supper 55 = .ok (.getfield 139, 3) := by decide +kernel
theorem dX5_supper_58 : decode cX5_supper 58 = .ok (.iload 4, 2) := by decide +kernel
theorem dX5_supper_60 : decode cX5_supper 60 = .ok (.iload 4, 2) := by decide +kernel
theorem dX5_supper_62 : decode cX5_supper 62 = .ok (.aload_n 0, 1) := by decide +kernel
theorem dX5_supper_63 : decode cX5_supper 63 = .ok (.getfield 36, 3) := by decide +kernel
theorem dX5_supper_66 : decode cX5_supper 66 = .ok (.iload_n 2, 1) := by decide +kernel
theorem dX5_supper_67 : decode cX5_supper 67 = .ok (.invokevirtual 142, 3) := by decide +kernel
theorem dX5_supper_70 : decode cX5_supper 70 = .ok (.if_icmp .ge 16, 3) := by decide +kernel
theorem dX5_supper_73 : decode cX5_supper 73 = .ok (.aload_n 0, 1) := by decide +kernel
theorem dX5_supper_74 : decode cX5_supper 74 = .ok (.getfield 36, 3) := by decide +kernel
theorem dX5_supper_77 : decode cX5_supper 77 = .ok (.iload_n 2, 1) := by decide +kernel
theorem dX5_supper_78 : decode cX5_supper 78 = .ok (.iload 4, 2) := by decide +kernel
theorem dX5_supper_80 : decode cX5_supper 80 = .ok (.invokevirtual 146, 3) := by decide +kernel
theorem dX5_supper_83 : decode cX5_supper 83 = .ok (.goto 4, 3) := by decide +kernel
theorem dX5_supper_86 : decode cX5_supper 86 = .ok (.iconst (-1), 1) := by decide +kernel
theorem dX5_supper_87 : decode cX5_supper 87 = .ok (.iastore, 1) := by decide +kernel
theorem dX5_supper_88 : decode cX5_supper 88 = .ok (.iinc 4 1, 3) := by decide +kernel
theorem dX5_supper_91 : decode cX5_supper 91 = .ok (.goto (-47), 3) := by decide +kernel
theorem dX5_supper_94 : decode cX5_supper 94 = .ok (.aload_n 0, 1) := by decide +kernel
theorem dX5_supper_95 : decode cX5_supper 95 = .ok (.getfield 45, 3) := by decide +kernel
theorem dX5_supper_98 : decode cX5_supper 98 = .ok (.aload_n 0, 1) := by decide +kernel
theorem dX5_supper_99 : decode cX5_supper 99 = .ok (.getfield 10, 3) := by decide +kernel
theorem dX5_supper_102 : decode cX5_supper 102 = .ok (.getfield 97, 3) := by decide +kernel
theorem dX5_supper_105 : decode cX5_supper 105 = .ok (.invokevirtual 101, 3) := by decide +kernel
theorem dX5_supper_108 : decode cX5_supper 108 = .ok (.aload_n 0, 1) := by decide +kernel
theorem dX5_supper_109 : decode cX5_supper 109 = .ok (.getfield 45, 3) := by decide +kernel
theorem dX5_supper_112 : decode cX5_supper 112 = .ok (.iload_n 1, 1) := by decide +kernel
theorem dX5_supper_113 : decode cX5_supper 113 = .ok (.invokevirtual 149, 3) := by decide +kernel
theorem dX5_supper_116 : decode cX5_supper 116 = .ok (.aload_n 0, 1) := by decide +kernel
theorem dX5_supper_117 : decode cX5_supper 117 = .ok (.getfield 45, 3) := by decide +kernel
theorem dX5_supper_120 : decode cX5_supper 120 = .ok (.iload_n 3, 1) := by decide +kernel
theorem dX5_supper_121 : decode cX5_supper 121 = .ok (.invokevirtual 152, 3) := by decide +kernel
theorem dX5_supper_124 : decode cX5_supper 124 = .ok (.ireturn, 1) := by decide +kernel
theorem dX5_heap_0 : decode cX5_heap 0 = .ok (.iload_n 1, 1) := by decide +kernel
theorem dX5_heap_1 : decode cX5_heap 1 = .ok (.iconst 1, 1) := by decide +kernel
theorem dX5_heap_2 : decode cX5_heap 2 = .ok (.if_icmp .lt 20, 3) := by decide +kernel
theorem dX5_heap_5 : decode cX5_heap 5 = .ok (.iload_n 1, 1) := by decide +kernel
theorem dX5_heap_6 : decode cX5_heap 6 = .ok (.bipush 12, 2) := by decide +kernel
theorem dX5_heap_8 : decode cX5_heap 8 = .ok (.if_icmp .gt 14, 3) := by decide +kernel
theorem dX5_heap_11 : decode cX5_heap 11 = .ok (.aload_n 0, 1) := by decide +kernel
theorem dX5_heap_12 : decode cX5_heap 12 = .ok (.getfield 45, 3) := by decide +kernel
theorem dX5_heap_15 : decode cX5_heap 15 = .ok (.iload_n 2, 1) := by decide +kernel
theorem dX5_heap_16 : decode cX5_heap 16 = .ok (.invokevirtual 132, 3) := by decide +kernel
theorem dX5_heap_19 : decode cX5_heap 19 = .ok (.ifCond .ne 6, 3) := by decide +kernel
theorem dX5_heap_22 : decode cX5_heap 22 = .ok (.ldc 135, 2) := by decide +kernel
theorem dX5_heap_24 : decode cX5_heap 24 = .ok (.ireturn, 1) := by decide +kernel
theorem dX5_heap_25 : decode cX5_heap 25 = .ok (.aload_n 0, 1) := by decide +kernel
theorem dX5_heap_26 : decode cX5_heap 26 = .ok (.getfield 45, 3) := by decide +kernel
theorem dX5_heap_29 : decode cX5_heap 29 = .ok (.aload_n 0, 1) := by decide +kernel
theorem dX5_heap_30 : decode cX5_heap 30 = .ok (.getfield 10, 3) := by decide +kernel
theorem dX5_heap_33 : decode cX5_heap 33 = .ok (.getfield 97, 3) := by decide +kernel
theorem dX5_heap_36 : decode cX5_heap 36 = .ok (.invokevirtual 101, 3) := by decide +kernel
theorem dX5_heap_39 : decode cX5_heap 39 = .ok (.aload_n 0, 1) := by decide +kernel
theorem dX5_heap_40 : decode cX5_heap 40 = .ok (.getfield 45, 3) := by decide +kernel
theorem dX5_heap_43 : decode cX5_heap 43 = .ok (.iload_n 1, 1) := by decide +kernel
theorem dX5_heap_44 : decode cX5_heap 44 = .ok (.invokevirtual 155, 3) := by decide +kernel
theorem dX5_heap_47 : decode cX5_heap 47 = .ok (.aload_n 0, 1) := by decide +kernel
theorem dX5_heap_48 : decode cX5_heap 48 = .ok (.getfield 45, 3) := by decide +kernel
theorem dX5_heap_51 : decode cX5_heap 51 = .ok (.iconst 1, 1) := by decide +kernel
theorem dX5_heap_52 : decode cX5_heap 52 = .ok (.invokevirtual 149, 3) := by decide +kernel
theorem dX5_heap_55 : decode cX5_heap 55 = .ok (.aload_n 0, 1) := by decide +kernel
theorem dX5_heap_56 : decode cX5_heap 56 = .ok (.getfield 45, 3) := by decide +kernel
theorem dX5_heap_59 : decode cX5_heap 59 = .ok (.iload_n 2, 1) := by decide +kernel
theorem dX5_heap_60 : decode cX5_heap 60 = .ok (.invokevirtual 152, 3) := by decide +kernel
theorem dX5_heap_63 : decode cX5_heap 63 = .ok (.ireturn, 1) := by decide +kernel
theorem dX5_best_0 : decode cX5_best 0 = .ok (.iload_n 1, 1) := by decide +kernel
theorem dX5_best_1 : decode cX5_best 1 = .ok (.ifCond .lt 30, 3) := by decide +kernel
theorem dX5_best_4 : decode cX5_best 4 = .ok (.iload_n 1, 1) := by decide +kernel
theorem dX5_best_5 : decode cX5_best 5 = .ok (.iconst 4, 1) := by decide +kernel
theorem dX5_best_6 : decode cX5_best 6 = .ok (.if_icmp .gt 25, 3) := by decide +kernel
theorem dX5_best_9 : decode cX5_best 9 = .ok (.iload_n 1, 1) := by decide +kernel
theorem dX5_best_10 : decode cX5_best 10 = .ok (.aload_n 0, 1) := by decide +kernel
theorem dX5_best_11 : decode cX5_best 11 = .ok (.getfield 10, 3) := by decide +kernel
theorem dX5_best_14 : decode cX5_best 14 = .ok (.getfield 108, 3) := by decide +kernel
theorem dX5_best_17 : decode cX5_best 17 = .ok (.if_icmp .gt 14, 3) := by decide +kernel
theorem dX5_best_20 : decode cX5_best 20 = .ok (.aload_n 0, 1) := by decide +kernel
theorem dX5_best_21 : decode cX5_best 21 = .ok (.getfield 10, 3) := by decide +kernel
theorem dX5_best_24 : decode cX5_best 24 = .ok (.getfield 158, 3) := by decide +kernel
theorem dX5_best_27 : decode cX5_best 27 = .ok (.iconst 1, 1) := by decide +kernel
theorem dX5_best_28 : decode cX5_best 28 = .ok (.if_icmp .ge 6, 3) := by decide +kernel
theorem dX5_best_31 : decode cX5_best 31 = .ok (.ldc 135, 2) := by decide +kernel
theorem dX5_best_33 : decode cX5_best 33 = .ok (.ireturn, 1) := by decide +kernel
theorem dX5_best_34 : decode cX5_best 34 = .ok (.iload_n 2, 1) := by decide +kernel
theorem dX5_best_35 : decode cX5_best 35 = .ok (.iconst (-1), 1) := by decide +kernel
theorem dX5_best_36 : decode cX5_best 36 = .ok (.if_icmp .lt 8, 3) := by decide +kernel
theorem dX5_best_39 : decode cX5_best 39 = .ok (.iload_n 2, 1) := by decide +kernel
theorem dX5_best_40 : decode cX5_best 40 = .ok (.iload_n 1, 1) := by decide +kernel
theorem dX5_best_41 : decode cX5_best 41 = .ok (.if_icmp .lt 6, 3) := by decide +kernel
theorem dX5_best_44 : decode cX5_best 44 = .ok (.ldc 135, 2) := by decide +kernel
theorem dX5_best_46 : decode cX5_best 46 = .ok (.ireturn, 1) := by decide +kernel
theorem dX5_best_47 : decode cX5_best 47 = .ok (.aload_n 0, 1) := by decide +kernel
theorem dX5_best_48 : decode cX5_best 48 = .ok (.getfield 45, 3) := by decide +kernel
theorem dX5_best_51 : decode cX5_best 51 = .ok (.aload_n 0, 1) := by decide +kernel
theorem dX5_best_52 : decode cX5_best 52 = .ok (.getfield 10, 3) := by decide +kernel
theorem dX5_best_55 : decode cX5_best 55 = .ok (.getfield 97, 3) := by decide +kernel
theorem dX5_best_58 : decode cX5_best 58 = .ok (.invokevirtual 101, 3) := by decide +kernel
theorem dX5_best_61 : decode cX5_best 61 = .ok (.aload_n 0, 1) := by decide +kernel
theorem dX5_best_62 : decode cX5_best 62 = .ok (.getfield 45, 3) := by decide +kernel
theorem dX5_best_65 : decode cX5_best 65 = .ok (.invokevirtual 161, 3) := by decide +kernel
theorem dX5_best_68 : decode cX5_best 68 = .ok (.iconst 1, 1) := by decide +kernel
theorem dX5_best_69 : decode cX5_best 69 = .ok (.istore_n 3, 1) := by decide +kernel
theorem dX5_best_70 : decode cX5_best 70 = .ok (.iconst 0, 1) := by decide +kernel
theorem dX5_best_71 : decode cX5_best 71 = .ok (.istore 4, 2) := by decide +kernel
theorem dX5_best_73 : decode cX5_best 73 = .ok (.iload 4, 2) := by decide +kernel
theorem dX5_best_75 : decode cX5_best 75 = .ok (.iload_n 1, 1) := by decide +kernel
theorem dX5_best_76 : decode cX5_best 76 = .ok (.if_icmp .ge 19, 3) := by decide +kernel
theorem dX5_best_79 : decode cX5_best 79 = .ok (.iload_n 3, 1) := by decide +kernel
theorem dX5_best_80 : decode cX5_best 80 = .ok (.aload_n 0, 1) := by decide +kernel
theorem dX5_best_81 : decode cX5_best 81 = .ok (.getfield 10, 3) := by decide +kernel
theorem dX5_best_84 : decode cX5_best 84 = .ok (.getfield 158, 3) := by decide +kernel
theorem dX5_best_87 : decode cX5_best 87 = .ok (.imul, 1) := by decide +kernel
theorem dX5_best_88 : decode cX5_best 88 = .ok (.istore_n 3, 1) := by decide +kernel
theorem dX5_best_89 : decode cX5_best 89 = .ok (.iinc 4 1, 3) := by decide +kernel
theorem dX5_best_92 : decode cX5_best 92 = .ok (.goto (-19), 3) := by decide +kernel
theorem dX5_best_95 : decode cX5_best 95 = .ok (.iconst (-1), 1) := by decide +kernel
theorem dX5_best_96 : decode cX5_best 96 = .ok (.istore 4, 2) := by decide +kernel
theorem dX5_best_98 : decode cX5_best 98 = .ok (.iconst 0, 1) := by decide +kernel
theorem dX5_best_99 : decode cX5_best 99 = .ok (.istore 5, 2) := by decide +kernel
theorem dX5_best_101 : decode cX5_best 101 = .ok (.iconst 0, 1) := by decide +kernel
theorem dX5_best_102 : decode cX5_best 102 = .ok (.istore 6, 2) := by decide +kernel
theorem dX5_best_104 : decode cX5_best 104 = .ok (.iload 6, 2) := by decide +kernel
theorem dX5_best_106 : decode cX5_best 106 = .ok (.iload_n 3, 1) := by decide +kernel
theorem dX5_best_107 : decode cX5_best 107 = .ok (.if_icmp .ge 66, 3) := by decide +kernel
theorem dX5_best_110 : decode cX5_best 110 = .ok (.iload 6, 2) := by decide +kernel
theorem dX5_best_112 : decode cX5_best 112 = .ok (.sipush 625, 3) := by decide +kernel
theorem dX5_best_115 : decode cX5_best 115 = .ok (.if_icmp .ge 58, 3) := by decide +kernel
theorem dX5_best_118 : decode cX5_best 118 = .ok (.aload_n 0, 1) := by decide +kernel
theorem dX5_best_119 : decode cX5_best 119 = .ok (.getfield 45, 3) := by decide +kernel
theorem dX5_best_122 : decode cX5_best 122 = .ok (.iload_n 1, 1) := by decide +kernel
theorem dX5_best_123 : decode cX5_best 123 = .ok (.iload 6, 2) := by decide +kernel
theorem dX5_best_125 : decode cX5_best 125 = .ok (.invokevirtual 164, 3) := by decide +kernel
theorem dX5_best_128 : decode cX5_best 128 = .ok (.aload_n 0, 1) := by decide +kernel
theorem dX5_best_129 : decode cX5_best 129 = .ok (.getfield 45, 3) := by decide +kernel
theorem dX5_best_132 : decode cX5_best 132 = .ok (.iconst 0, 1) := by decide +kernel
theorem dX5_best_133 : decode cX5_best 133 = .ok (.invokevirtual 149, 3) := by decide +kernel
theorem dX5_best_136 : decode cX5_best 136 = .ok (.iload 4, 2) := by decide +kernel
theorem dX5_best_138 : decode cX5_best 138 = .ok (.iconst (-1), 1) := by decide +kernel
theorem dX5_best_139 : decode cX5_best 139 = .ok (.if_icmp .eq 15, 3) := by decide +kernel
theorem dX5_best_142 : decode cX5_best 142 = .ok (.aload_n 0, 1) := by decide +kernel
theorem dX5_best_143 : decode cX5_best 143 = .ok (.getfield 45, 3) := by decide +kernel
theorem dX5_best_146 : decode cX5_best 146 = .ok (.getfield 168, 3) := by decide +kernel
theorem dX5_best_149 : decode cX5_best 149 = .ok (.iload 5, 2) := by decide +kernel
theorem dX5_best_151 : decode cX5_best 151 = .ok (.if_icmp .ge 16, 3) := by decide +kernel
theorem dX5_best_154 : decode cX5_best 154 = .ok (.iload 6, 2) := by decide +kernel
theorem dX5_best_156 : decode cX5_best 156 = .ok (.istore 4, 2) := by decide +kernel
theorem dX5_best_158 : decode cX5_best 158 = .ok (.aload_n 0, 1) := by decide +kernel
theorem dX5_best_159 : decode cX5_best 159 = .ok (.getfield 45, 3) := by decide +kernel
theorem dX5_best_162 : decode cX5_best 162 = .ok (.getfield 168, 3) := by decide +kernel
theorem dX5_best_165 : decode cX5_best 165 = .ok (.istore 5, 2) := by decide +kernel
theorem dX5_best_167 : decode cX5_best 167 = .ok (.iinc 6 1, 3) := by decide +kernel
theorem dX5_best_170 : decode cX5_best 170 = .ok (.goto (-66), 3) := by decide +kernel
theorem dX5_best_173 : decode cX5_best 173 = .ok (.iload_n 2, 1) := by decide +kernel
theorem dX5_best_174 : decode cX5_best 174 = .ok (.iconst (-1), 1) := by decide +kernel
theorem dX5_best_175 : decode cX5_best 175 = .ok (.if_icmp .ne 6, 3) := by decide +kernel
theorem dX5_best_178 : decode cX5_best 178 = .ok (.iload 5, 2) := by decide +kernel
theorem dX5_best_180 : decode cX5_best 180 = .ok (.ireturn, 1) := by decide +kernel
theorem dX5_best_181 : decode cX5_best 181 = .ok (.aload_n 0, 1) := by decide +kernel
theorem dX5_best_182 : decode cX5_best 182 = .ok (.getfield 45, 3) := by decide +kernel
theorem dX5_best_185 : decode cX5_best 185 = .ok (.iload_n 1, 1) := by decide +kernel
theorem dX5_best_186 : decode cX5_best 186 = .ok (.iload 4, 2) := by decide +kernel
theorem dX5_best_188 : decode cX5_best 188 = .ok (.invokevirtual 164, 3) := by decide +kernel
theorem dX5_best_191 : decode cX5_best 191 = .ok (.aload_n 0, 1) := by decide +kernel
theorem dX5_best_192 : decode cX5_best 192 = .ok (.getfield 45, 3) := by decide +kernel
theorem dX5_best_195 : decode cX5_best 195 = .ok (.getfield 139, 3) := by decide +kernel
theorem dX5_best_198 : decode cX5_best 198 = .ok (.iload_n 2, 1) := by decide +kernel
theorem dX5_best_199 : decode cX5_best 199 = .ok (.iaload, 1) := by decide +kernel
theorem dX5_best_200 : decode cX5_best 200 = .ok (.ireturn, 1) := by decide +kernel
theorem dX5_keep_0 : decode cX5_keep 0 = .ok (.iload_n 1, 1) := by decide +kernel
theorem dX5_keep_1 : decode cX5_keep 1 = .ok (.ifCond .eq 11, 3) := by decide +kernel
theorem dX5_keep_4 : decode cX5_keep 4 = .ok (.iload_n 1, 1) := by decide +kernel
theorem dX5_keep_5 : decode cX5_keep 5 = .ok (.iconst 1, 1) := by decide +kernel
theorem dX5_keep_6 : decode cX5_keep 6 = .ok (.if_icmp .eq 6, 3) := by decide +kernel
theorem dX5_keep_9 : decode cX5_keep 9 = .ok (.ldc 135, 2) := by decide +kernel
theorem dX5_keep_11 : decode cX5_keep 11 = .ok (.ireturn, 1) := by decide +kernel
theorem dX5_keep_12 : decode cX5_keep 12 = .ok (.aload_n 0, 1) := by decide +kernel
theorem dX5_keep_13 : decode cX5_keep 13 = .ok (.getfield 45, 3) := by decide +kernel
theorem dX5_keep_16 : decode cX5_keep 16 = .ok (.aload_n 0, 1) := by decide +kernel
theorem dX5_keep_17 : decode cX5_keep 17 = .ok (.getfield 10, 3) := by decide +kernel
theorem dX5_keep_20 : decode cX5_keep 20 = .ok (.getfield 97, 3) := by decide +kernel
theorem dX5_keep_23 : decode cX5_keep 23 = .ok (.invokevirtual 101, 3) := by decide +kernel
theorem dX5_keep_26 : decode cX5_keep 26 = .ok (.iconst (-1), 1) := by decide +kernel
theorem dX5_keep_27 : decode cX5_keep 27 = .ok (.istore_n 2, 1) := by decide +kernel
theorem dX5_keep_28 : decode cX5_keep 28 = .ok (.iconst 0, 1) := by decide +kernel
theorem dX5_keep_29 : decode cX5_keep 29 = .ok (.istore_n 3, 1) := by decide +kernel
theorem dX5_keep_30 : decode cX5_keep 30 = .ok (.iconst 1, 1) := by decide +kernel
theorem dX5_keep_31 : decode cX5_keep 31 = .ok (.istore 4, 2) := by decide +kernel
theorem dX5_keep_33 : decode cX5_keep 33 = .ok (.iload 4, 2) := by decide +kernel
theorem dX5_keep_35 : decode cX5_keep 35 = .ok (.bipush 12, 2) := by decide +kernel
theorem dX5_keep_37 : decode cX5_keep 37 = .ok (.if_icmp .gt 53, 3) := by decide +kernel
theorem dX5_keep_40 : decode cX5_keep 40 = .ok (.aload_n 0, 1) := by decide +kernel
theorem dX5_keep_41 : decode cX5_keep 41 = .ok (.getfield 45, 3) := by decide +kernel
theorem dX5_keep_44 : decode cX5_keep 44 = .ok (.iload 4, 2) := by decide +kernel
theorem dX5_keep_46 : decode cX5_keep 46 = .ok (.invokevirtual 155, 3) := by decide +kernel
theorem dX5_keep_49 : decode cX5_keep 49 = .ok (.aload_n 0, 1) := by decide +kernel
theorem dX5_keep_50 : decode cX5_keep 50 = .ok (.getfield 45, 3) := by decide +kernel
theorem dX5_keep_53 : decode cX5_keep 53 = .ok (.iconst 1, 1) := by decide +kernel
theorem dX5_keep_54 : decode cX5_keep 54 = .ok (.invokevirtual 149, 3) := by decide +kernel
theorem dX5_keep_57 : decode cX5_keep 57 = .ok (.iload_n 2, 1) := by decide +kernel
theorem dX5_keep_58 : decode cX5_keep 58 = .ok (.iconst (-1), 1) := by decide +kernel
theorem dX5_keep_59 : decode cX5_keep 59 = .ok (.if_icmp .eq 14, 3) := by decide +kernel
theorem dX5_keep_62 : decode cX5_keep 62 = .ok (.aload_n 0, 1) := by decide +kernel
theorem dX5_keep_63 : decode cX5_keep 63 = .ok (.getfield 45, 3) := by decide +kernel
theorem dX5_keep_66 : decode cX5_keep 66 = .ok (.getfield 168, 3) := by decide +kernel
theorem dX5_keep_69 : decode cX5_keep 69 = .ok (.iload_n 3, 1) := by decide +kernel
theorem dX5_keep_70 : decode cX5_keep 70 = .ok (.if_icmp .ge 14, 3) := by decide +kernel
theorem dX5_keep_73 : decode cX5_keep 73 = .ok (.iload 4, 2) := by decide +kernel
theorem dX5_keep_75 : decode cX5_keep 75 = .ok (.istore_n 2, 1) := by decide +kernel
theorem dX5_keep_76 : decode cX5_keep 76 = .ok (.aload_n 0, 1) := by decide +kernel
theorem dX5_keep_77 : decode cX5_keep 77 = .ok (.getfield 45, 3) := by decide +kernel
theorem dX5_keep_80 : decode cX5_keep 80 = .ok (.getfield 168, 3) := by decide +kernel
theorem dX5_keep_83 : decode cX5_keep 83 = .ok (.istore_n 3, 1) := by decide +kernel
theorem dX5_keep_84 : decode cX5_keep 84 = .ok (.iinc 4 1, 3) := by decide +kernel
theorem dX5_keep_87 : decode cX5_keep 87 = .ok (.goto (-54), 3) := by decide +kernel
theorem dX5_keep_90 : decode cX5_keep 90 = .ok (.iload_n 1, 1) := by decide +kernel
theorem dX5_keep_91 : decode cX5_keep 91 = .ok (.ifCond .ne 7, 3) := by decide +kernel
theorem dX5_keep_94 : decode cX5_keep 94 = .ok (.iload_n 2, 1) := by decide +kernel
theorem dX5_keep_95 : decode cX5_keep 95 = .ok (.goto 4, 3) := by decide +kernel
theorem dX5_keep_98 : decode cX5_keep 98 = .ok (.iload_n 3, 1) := by decide +kernel
theorem dX5_keep_99 : decode cX5_keep 99 = .ok (.ireturn, 1) := by decide +kernel
theorem dX5_second_0 : decode cX5_second 0 = .ok (.aload_n 0, 1) := by decide +kernel
theorem dX5_second_1 : decode cX5_second 1 = .ok (.getfield 45, 3) := by decide +kernel
theorem dX5_second_4 : decode cX5_second 4 = .ok (.iconst 1, 1) := by decide +kernel
theorem dX5_second_5 : decode cX5_second 5 = .ok (.invokevirtual 101, 3) := by decide +kernel
theorem dX5_second_8 : decode cX5_second 8 = .ok (.aload_n 0, 1) := by decide +kernel
theorem dX5_second_9 : decode cX5_second 9 = .ok (.getfield 45, 3) := by decide +kernel
theorem dX5_second_12 : decode cX5_second 12 = .ok (.iconst 2, 1) := by decide +kernel
theorem dX5_second_13 : decode cX5_second 13 = .ok (.invokevirtual 149, 3) := by decide +kernel
theorem dX5_second_16 : decode cX5_second 16 = .ok (.aload_n 0, 1) := by decide +kernel
theorem dX5_second_17 : decode cX5_second 17 = .ok (.getfield 45, 3) := by decide +kernel
theorem dX5_second_20 : decode cX5_second 20 = .ok (.getfield 168, 3) := by decide +kernel
theorem dX5_second_23 : decode cX5_second 23 = .ok (.istore_n 1, 1) := by decide +kernel
theorem dX5_second_24 : decode cX5_second 24 = .ok (.aload_n 0, 1) := by decide +kernel
theorem dX5_second_25 : decode cX5_second 25 = .ok (.getfield 45, 3) := by decide +kernel
theorem dX5_second_28 : decode cX5_second 28 = .ok (.iconst 2, 1) := by decide +kernel
theorem dX5_second_29 : decode cX5_second 29 = .ok (.invokevirtual 101, 3) := by decide +kernel
theorem dX5_second_32 : decode cX5_second 32 = .ok (.aload_n 0, 1) := by decide +kernel
theorem dX5_second_33 : decode cX5_second 33 = .ok (.getfield 45, 3) := by decide +kernel
theorem dX5_second_36 : decode cX5_second 36 = .ok (.iconst 2, 1) := by decide +kernel
theorem dX5_second_37 : decode cX5_second 37 = .ok (.invokevirtual 149, 3) := by decide +kernel
theorem dX5_second_40 : decode cX5_second 40 = .ok (.iload_n 1, 1) := by decide +kernel
theorem dX5_second_41 : decode cX5_second 41 = .ok (.aload_n 0, 1) := by decide +kernel
theorem dX5_second_42 : decode cX5_second 42 = .ok (.getfield 45, 3) := by decide +kernel
theorem dX5_second_45 : decode cX5_second 45 = .ok (.getfield 168, 3) := by decide +kernel
theorem dX5_second_48 : decode cX5_second 48 = .ok (.isub, 1) := by decide +kernel
theorem dX5_second_49 : decode cX5_second 49 = .ok (.ireturn, 1) := by decide +kernel
theorem dX5_leave_0 : decode cX5_leave 0 = .ok (.aload_n 0, 1) := by decide +kernel
theorem dX5_leave_1 : decode cX5_leave 1 = .ok (.getfield 45, 3) := by decide +kernel
theorem dX5_leave_4 : decode cX5_leave 4 = .ok (.aload_n 0, 1) := by decide +kernel
theorem dX5_leave_5 : decode cX5_leave 5 = .ok (.getfield 10, 3) := by decide +kernel
theorem dX5_leave_8 : decode cX5_leave 8 = .ok (.getfield 97, 3) := by decide +kernel
theorem dX5_leave_11 : decode cX5_leave 11 = .ok (.invokevirtual 101, 3) := by decide +kernel
theorem dX5_leave_14 : decode cX5_leave 14 = .ok (.iconst (-1), 1) := by decide +kernel
theorem dX5_leave_15 : decode cX5_leave 15 = .ok (.istore_n 1, 1) := by decide +kernel
theorem dX5_leave_16 : decode cX5_leave 16 = .ok (.iconst 0, 1) := by decide +kernel
theorem dX5_leave_17 : decode cX5_leave 17 = .ok (.istore_n 2, 1) := by decide +kernel
theorem dX5_leave_18 : decode cX5_leave 18 = .ok (.iconst 0, 1) := by decide +kernel
theorem dX5_leave_19 : decode cX5_leave 19 = .ok (.istore_n 3, 1) := by decide +kernel
theorem dX5_leave_20 : decode cX5_leave 20 = .ok (.iload_n 3, 1) := by decide +kernel
theorem dX5_leave_21 : decode cX5_leave 21 = .ok (.iconst 5, 1) := by decide +kernel
theorem dX5_leave_22 : decode cX5_leave 22 = .ok (.if_icmp .ge 62, 3) := by decide +kernel
theorem dX5_leave_25 : decode cX5_leave 25 = .ok (.iload_n 3, 1) := by decide +kernel
theorem dX5_leave_26 : decode cX5_leave 26 = .ok (.aload_n 0, 1) := by decide +kernel
theorem dX5_leave_27 : decode cX5_leave 27 = .ok (.getfield 10, 3) := by decide +kernel
theorem dX5_leave_30 : decode cX5_leave 30 = .ok (.getfield 158, 3) := by decide +kernel
theorem dX5_leave_33 : decode cX5_leave 33 = .ok (.if_icmp .ge 51, 3) := by decide +kernel
theorem dX5_leave_36 : decode cX5_leave 36 = .ok (.aload_n 0, 1) := by decide +kernel
theorem dX5_leave_37 : decode cX5_leave 37 = .ok (.getfield 45, 3) := by decide +kernel
theorem dX5_leave_40 : decode cX5_leave 40 = .ok (.iload_n 3, 1) := by decide +kernel
theorem dX5_leave_41 : decode cX5_leave 41 = .ok (.putfield 171, 3) := by decide +kernel
theorem dX5_leave_44 : decode cX5_leave 44 = .ok (.aload_n 0, 1) := by decide +kernel
theorem dX5_leave_45 : decode cX5_leave 45 = .ok (.getfield 45, 3) := by decide +kernel
theorem dX5_leave_48 : decode cX5_leave 48 = .ok (.iconst 2, 1) := by decide +kernel
theorem dX5_leave_49 : decode cX5_leave 49 = .ok (.invokevirtual 149, 3) := by decide +kernel
theorem dX5_leave_52 : decode cX5_leave 52 = .ok (.iload_n 1, 1) := by decide +kernel
theorem dX5_leave_53 : decode cX5_leave 53 = .ok (.iconst (-1), 1) := by decide +kernel
theorem dX5_leave_54 : decode cX5_leave 54 = .ok (.if_icmp .eq 14, 3) := by decide +kernel
theorem dX5_leave_57 : decode cX5_leave 57 = .ok (.aload_n 0, 1) := by decide +kernel
theorem dX5_leave_58 : decode cX5_leave 58 = .ok (.getfield 45, 3) := by decide +kernel
theorem dX5_leave_61 : decode cX5_leave 61 = .ok (.getfield 168, 3) := by decide +kernel
theorem dX5_leave_64 : decode cX5_leave 64 = .ok (.iload_n 2, 1) := by decide +kernel
theorem dX5_leave_65 : decode cX5_leave 65 = .ok (.if_icmp .ge 13, 3) := by decide +kernel
theorem dX5_leave_68 : decode cX5_leave 68 = .ok (.iload_n 3, 1) := by decide +kernel
theorem dX5_leave_69 : decode cX5_leave 69 = .ok (.istore_n 1, 1) := by decide +kernel
theorem dX5_leave_70 : decode cX5_leave 70 = .ok (.aload_n 0, 1) := by decide +kernel
theorem dX5_leave_71 : decode cX5_leave 71 = .ok (.getfield 45, 3) := by decide +kernel
theorem dX5_leave_74 : decode cX5_leave 74 = .ok (.getfield 168, 3) := by decide +kernel
theorem dX5_leave_77 : decode cX5_leave 77 = .ok (.istore_n 2, 1) := by decide +kernel
theorem dX5_leave_78 : decode cX5_leave 78 = .ok (.iinc 3 1, 3) := by decide +kernel
theorem dX5_leave_81 : decode cX5_leave 81 = .ok (.goto (-61), 3) := by decide +kernel
theorem dX5_leave_84 : decode cX5_leave 84 = .ok (.iload_n 1, 1) := by decide +kernel
theorem dX5_leave_85 : decode cX5_leave 85 = .ok (.ireturn, 1) := by decide +kernel
theorem dX5_plates_0 : decode cX5_plates 0 = .ok (.aload_n 0, 1) := by decide +kernel
theorem dX5_plates_1 : decode cX5_plates 1 = .ok (.getfield 36, 3) := by decide +kernel
theorem dX5_plates_4 : decode cX5_plates 4 = .ok (.iload_n 1, 1) := by decide +kernel
theorem dX5_plates_5 : decode cX5_plates 5 = .ok (.invokevirtual 136, 3) := by decide +kernel
theorem dX5_plates_8 : decode cX5_plates 8 = .ok (.ifCond .ne 21, 3) := by decide +kernel
theorem dX5_plates_11 : decode cX5_plates 11 = .ok (.aload_n 0, 1) := by decide +kernel
theorem dX5_plates_12 : decode cX5_plates 12 = .ok (.getfield 36, 3) := by decide +kernel
theorem dX5_plates_15 : decode cX5_plates 15 = .ok (.iload_n 1, 1) := by decide +kernel
theorem dX5_plates_16 : decode cX5_plates 16 = .ok (.invokevirtual 142, 3) := by decide +kernel
theorem dX5_plates_19 : decode cX5_plates 19 = .ok (.aload_n 0, 1) := by decide +kernel
theorem dX5_plates_20 : decode cX5_plates 20 = .ok (.getfield 10, 3) := by decide +kernel
theorem dX5_plates_23 : decode cX5_plates 23 = .ok (.getfield 158, 3) := by decide +kernel
theorem dX5_plates_26 : decode cX5_plates 26 = .ok (.if_icmp .eq 7, 3) := by decide +kernel
theorem dX5_plates_29 : decode cX5_plates 29 = .ok (.ldc2_w 174, 3) := by decide +kernel
theorem dX5_plates_32 : decode cX5_plates 32 = .ok (.lreturn, 1) := by decide +kernel
theorem dX5_plates_33 : decode cX5_plates 33 = .ok (.iload_n 2, 1) := by decide +kernel
theorem dX5_plates_34 : decode cX5_plates 34 = .ok (.ifCond .eq 12, 3) := by decide +kernel
theorem dX5_plates_37 : decode cX5_plates 37 = .ok (.iload_n 2, 1) := by decide +kernel
theorem dX5_plates_38 : decode cX5_plates 38 = .ok (.iconst 1, 1) := by decide +kernel
theorem dX5_plates_39 : decode cX5_plates 39 = .ok (.if_icmp .eq 7, 3) := by decide +kernel
theorem dX5_plates_42 : decode cX5_plates 42 = .ok (.ldc2_w 174, 3) := by decide +kernel
theorem dX5_plates_45 : decode cX5_plates 45 = .ok (.lreturn, 1) := by decide +kernel
theorem dX5_plates_46 : decode cX5_plates 46 = .ok (.aload_n 0, 1) := by decide +kernel
theorem dX5_plates_47 : decode cX5_plates 47 = .ok (.getfield 45, 3) := by decide +kernel
theorem dX5_plates_50 : decode cX5_plates 50 = .ok (.aload_n 0, 1) := by decide +kernel
theorem dX5_plates_51 : decode cX5_plates 51 = .ok (.getfield 10, 3) := by decide +kernel
theorem dX5_plates_54 : decode cX5_plates 54 = .ok (.getfield 97, 3) := by decide +kernel
theorem dX5_plates_57 : decode cX5_plates 57 = .ok (.invokevirtual 101, 3) := by decide +kernel
theorem dX5_plates_60 : decode cX5_plates 60 = .ok (.iload_n 2, 1) := by decide +kernel
theorem dX5_plates_61 : decode cX5_plates 61 = .ok (.ifCond .ne 12, 3) := by decide +kernel
theorem dX5_plates_64 : decode cX5_plates 64 = .ok (.aload_n 0, 1) := by decide +kernel
theorem dX5_plates_65 : decode cX5_plates 65 = .ok (.iload_n 1, 1) := by decide +kernel
theorem dX5_plates_66 : decode cX5_plates 66 = .ok (.invokevirtual 176, 3) := by decide +kernel
theorem dX5_plates_69 : decode cX5_plates 69 = .ok (.i2l, 1) := by decide +kernel
theorem dX5_plates_70 : decode cX5_plates 70 = .ok (.goto 8, 3) := by decide +kernel
theorem dX5_plates_73 : decode cX5_plates 73 = .ok (.aload_n 0, 1) := by decide +kernel
theorem dX5_plates_74 : decode cX5_plates 74 = .ok (.iload_n 1, 1) := by decide +kernel
theorem dX5_plates_75 : decode cX5_plates 75 = .ok (.invokevirtual 179, 3) := by decide +kernel
theorem dX5_plates_78 : decode cX5_plates 78 = .ok (.lreturn, 1) := by decide +kernel
theorem dX5_eaten_0 : decode cX5_eaten 0 = .ok (.aload_n 0, 1) := by decide +kernel
theorem dX5_eaten_1 : decode cX5_eaten 1 = .ok (.getfield 36, 3) := by decide +kernel
theorem dX5_eaten_4 : decode cX5_eaten 4 = .ok (.iload_n 1, 1) := by decide +kernel
theorem dX5_eaten_5 : decode cX5_eaten 5 = .ok (.invokevirtual 183, 3) := by decide +kernel
theorem dX5_eaten_8 : decode cX5_eaten 8 = .ok (.ifCond .eq 19, 3) := by decide +kernel
theorem dX5_eaten_11 : decode cX5_eaten 11 = .ok (.iload_n 2, 1) := by decide +kernel
theorem dX5_eaten_12 : decode cX5_eaten 12 = .ok (.iconst (-1), 1) := by decide +kernel
theorem dX5_eaten_13 : decode cX5_eaten 13 = .ok (.if_icmp .eq 17, 3) := by decide +kernel
theorem dX5_eaten_16 : decode cX5_eaten 16 = .ok (.aload_n 0, 1) := by decide +kernel
theorem dX5_eaten_17 : decode cX5_eaten 17 = .ok (.getfield 10, 3) := by decide +kernel
theorem dX5_eaten_20 : decode cX5_eaten 20 = .ok (.iload_n 2, 1) := by decide +kernel
theorem dX5_eaten_21 : decode cX5_eaten 21 = .ok (.invokevirtual 77, 3) := by decide +kernel
theorem dX5_eaten_24 : decode cX5_eaten 24 = .ok (.ifCond .ne 6, 3) := by decide +kernel
theorem dX5_eaten_27 : decode cX5_eaten 27 = .ok (.bipush (-2), 2) := by decide +kernel
theorem dX5_eaten_29 : decode cX5_eaten 29 = .ok (.ireturn, 1) := by decide +kernel
theorem dX5_eaten_30 : decode cX5_eaten 30 = .ok (.aload_n 0, 1) := by decide +kernel
theorem dX5_eaten_31 : decode cX5_eaten 31 = .ok (.getfield 36, 3) := by decide +kernel
theorem dX5_eaten_34 : decode cX5_eaten 34 = .ok (.iload_n 1, 1) := by decide +kernel
theorem dX5_eaten_35 : decode cX5_eaten 35 = .ok (.invokevirtual 136, 3) := by decide +kernel
theorem dX5_eaten_38 : decode cX5_eaten 38 = .ok (.ifCond .eq 6, 3) := by decide +kernel
theorem dX5_eaten_41 : decode cX5_eaten 41 = .ok (.bipush (-11), 2) := by decide +kernel
theorem dX5_eaten_43 : decode cX5_eaten 43 = .ok (.ireturn, 1) := by decide +kernel
theorem dX5_eaten_44 : decode cX5_eaten 44 = .ok (.aload_n 0, 1) := by decide +kernel
theorem dX5_eaten_45 : decode cX5_eaten 45 = .ok (.getfield 36, 3) := by decide +kernel
theorem dX5_eaten_48 : decode cX5_eaten 48 = .ok (.iload_n 1, 1) := by decide +kernel
theorem dX5_eaten_49 : decode cX5_eaten 49 = .ok (.invokevirtual 142, 3) := by decide +kernel
theorem dX5_eaten_52 : decode cX5_eaten 52 = .ok (.aload_n 0, 1) := by decide +kernel
theorem dX5_eaten_53 : decode cX5_eaten 53 = .ok (.getfield 10, 3) := by decide +kernel
theorem dX5_eaten_56 : decode cX5_eaten 56 = .ok (.getfield 158, 3) := by decide +kernel
theorem dX5_eaten_59 : decode cX5_eaten 59 = .ok (.if_icmp .eq 6, 3) := by decide +kernel
theorem dX5_eaten_62 : decode cX5_eaten 62 = .ok (.bipush (-2), 2) := by decide +kernel
theorem dX5_eaten_64 : decode cX5_eaten 64 = .ok (.ireturn, 1) := by decide +kernel
theorem dX5_eaten_65 : decode cX5_eaten 65 = .ok (.aload_n 0, 1) := by decide +kernel
theorem dX5_eaten_66 : decode cX5_eaten 66 = .ok (.getfield 45, 3) := by decide +kernel
theorem dX5_eaten_69 : decode cX5_eaten 69 = .ok (.aload_n 0, 1) := by decide +kernel
theorem dX5_eaten_70 : decode cX5_eaten 70 = .ok (.getfield 10, 3) := by decide +kernel
theorem dX5_eaten_73 : decode cX5_eaten 73 = .ok (.getfield 97, 3) := by decide +kernel
theorem dX5_eaten_76 : decode cX5_eaten 76 = .ok (.invokevirtual 101, 3) := by decide +kernel
theorem dX5_eaten_79 : decode cX5_eaten 79 = .ok (.iload_n 2, 1) := by decide +kernel
theorem dX5_eaten_80 : decode cX5_eaten 80 = .ok (.iconst (-1), 1) := by decide +kernel
theorem dX5_eaten_81 : decode cX5_eaten 81 = .ok (.if_icmp .ne 11, 3) := by decide +kernel
theorem dX5_eaten_84 : decode cX5_eaten 84 = .ok (.aload_n 0, 1) := by decide +kernel
theorem dX5_eaten_85 : decode cX5_eaten 85 = .ok (.iload_n 1, 1) := by decide +kernel
theorem dX5_eaten_86 : decode cX5_eaten 86 = .ok (.invokevirtual 184, 3) := by decide +kernel
theorem dX5_eaten_89 : decode cX5_eaten 89 = .ok (.goto 9, 3) := by decide +kernel
theorem dX5_eaten_92 : decode cX5_eaten 92 = .ok (.aload_n 0, 1) := by decide +kernel
theorem dX5_eaten_93 : decode cX5_eaten 93 = .ok (.iload_n 1, 1) := by decide +kernel
theorem dX5_eaten_94 : decode cX5_eaten 94 = .ok (.iload_n 2, 1) := by decide +kernel
theorem dX5_eaten_95 : decode cX5_eaten 95 = .ok (.invokevirtual 187, 3) := by decide +kernel
theorem dX5_eaten_98 : decode cX5_eaten 98 = .ok (.ireturn, 1) := by decide +kernel
theorem dX5_film_0 : decode cX5_film 0 = .ok (.aload_n 0, 1) := by decide +kernel
theorem dX5_film_1 : decode cX5_film 1 = .ok (.getfield 36, 3) := by decide +kernel
theorem dX5_film_4 : decode cX5_film 4 = .ok (.iload_n 1, 1) := by decide +kernel
theorem dX5_film_5 : decode cX5_film 5 = .ok (.invokevirtual 183, 3) := by decide +kernel
theorem dX5_film_8 : decode cX5_film 8 = .ok (.ifCond .eq 13, 3) := by decide +kernel
theorem dX5_film_11 : decode cX5_film 11 = .ok (.iload_n 2, 1) := by decide +kernel
theorem dX5_film_12 : decode cX5_film 12 = .ok (.iconst 1, 1) := by decide +kernel
theorem dX5_film_13 : decode cX5_film 13 = .ok (.if_icmp .lt 8, 3) := by decide +kernel
theorem dX5_film_16 : decode cX5_film 16 = .ok (.iload_n 2, 1) := by decide +kernel
theorem dX5_film_17 : decode cX5_film 17 = .ok (.iconst 3, 1) := by decide +kernel
theorem dX5_film_18 : decode cX5_film 18 = .ok (.if_icmp .le 6, 3) := by decide +kernel
theorem dX5_film_21 : decode cX5_film 21 = .ok (.bipush (-2), 2) := by decide +kernel
theorem dX5_film_23 : decode cX5_film 23 = .ok (.ireturn, 1) := by decide +kernel
theorem dX5_film_24 : decode cX5_film 24 = .ok (.aload_n 0, 1) := by decide +kernel
theorem dX5_film_25 : decode cX5_film 25 = .ok (.getfield 45, 3) := by decide +kernel
theorem dX5_film_28 : decode cX5_film 28 = .ok (.aload_n 0, 1) := by decide +kernel
theorem dX5_film_29 : decode cX5_film 29 = .ok (.getfield 10, 3) := by decide +kernel
theorem dX5_film_32 : decode cX5_film 32 = .ok (.getfield 97, 3) := by decide +kernel
theorem dX5_film_35 : decode cX5_film 35 = .ok (.invokevirtual 101, 3) := by decide +kernel
theorem dX5_film_38 : decode cX5_film 38 = .ok (.aload_n 0, 1) := by decide +kernel
theorem dX5_film_39 : decode cX5_film 39 = .ok (.getfield 45, 3) := by decide +kernel
theorem dX5_film_42 : decode cX5_film 42 = .ok (.iload_n 2, 1) := by decide +kernel
theorem dX5_film_43 : decode cX5_film 43 = .ok (.invokevirtual 149, 3) := by decide +kernel
theorem dX5_film_46 : decode cX5_film 46 = .ok (.aload_n 0, 1) := by decide +kernel
theorem dX5_film_47 : decode cX5_film 47 = .ok (.getfield 36, 3) := by decide +kernel
theorem dX5_film_50 : decode cX5_film 50 = .ok (.iload_n 1, 1) := by decide +kernel
theorem dX5_film_51 : decode cX5_film 51 = .ok (.iconst 0, 1) := by decide +kernel
theorem dX5_film_52 : decode cX5_film 52 = .ok (.aload_n 0, 1) := by decide +kernel
theorem dX5_film_53 : decode cX5_film 53 = .ok (.getfield 10, 3) := by decide +kernel
theorem dX5_film_56 : decode cX5_film 56 = .ok (.getfield 158, 3) := by decide +kernel
theorem dX5_film_59 : decode cX5_film 59 = .ok (.invokevirtual 190, 3) := by decide +kernel
theorem dX5_film_62 : decode cX5_film 62 = .ok (.iconst 0, 1) := by decide +kernel
theorem dX5_film_63 : decode cX5_film 63 = .ok (.istore_n 3, 1) := by decide +kernel
theorem dX5_film_64 : decode cX5_film 64 = .ok (.iload_n 3, 1) := by decide +kernel
theorem dX5_film_65 : decode cX5_film 65 = .ok (.iconst 5, 1) := by decide +kernel
theorem dX5_film_66 : decode cX5_film 66 = .ok (.if_icmp .ge 38, 3) := by decide +kernel
theorem dX5_film_69 : decode cX5_film 69 = .ok (.iload_n 3, 1) := by decide +kernel
theorem dX5_film_70 : decode cX5_film 70 = .ok (.aload_n 0, 1) := by decide +kernel
theorem dX5_film_71 : decode cX5_film 71 = .ok (.getfield 10, 3) := by decide +kernel
theorem dX5_film_74 : decode cX5_film 74 = .ok (.getfield 158, 3) := by decide +kernel
theorem dX5_film_77 : decode cX5_film 77 = .ok (.if_icmp .ge 27, 3) := by decide +kernel
theorem dX5_film_80 : decode cX5_film 80 = .ok (.aload_n 0, 1) := by decide +kernel
theorem dX5_film_81 : decode cX5_film 81 = .ok (.getfield 36, 3) := by decide +kernel
theorem dX5_film_84 : decode cX5_film 84 = .ok (.iload_n 1, 1) := by decide +kernel
theorem dX5_film_85 : decode cX5_film 85 = .ok (.iload_n 3, 1) := by decide +kernel
theorem dX5_film_86 : decode cX5_film 86 = .ok (.aload_n 0, 1) := by decide +kernel
theorem dX5_film_87 : decode cX5_film 87 = .ok (.getfield 45, 3) := by decide +kernel
theorem dX5_film_90 : decode cX5_film 90 = .ok (.getfield 193, 3) := by decide +kernel
theorem dX5_film_93 : decode cX5_film 93 = .ok (.iload_n 3, 1) := by decide +kernel
theorem dX5_film_94 : decode cX5_film 94 = .ok (.iaload, 1) := by decide +kernel
theorem dX5_film_95 : decode cX5_film 95 = .ok (.invokevirtual 196, 3) := by decide +kernel
theorem dX5_film_98 : decode cX5_film 98 = .ok (.iinc 3 1, 3) := by decide +kernel
theorem dX5_film_101 : decode cX5_film 101 = .ok (.goto (-37), 3) := by decide +kernel
theorem dX5_film_104 : decode cX5_film 104 = .ok (.aload_n 0, 1) := by decide +kernel
theorem dX5_film_105 : decode cX5_film 105 = .ok (.getfield 10, 3) := by decide +kernel
theorem dX5_film_108 : decode cX5_film 108 = .ok (.getfield 158, 3) := by decide +kernel
theorem dX5_film_111 : decode cX5_film 111 = .ok (.ireturn, 1) := by decide +kernel
theorem dX5_drawn_0 : decode cX5_drawn 0 = .ok (.aload_n 0, 1) := by decide +kernel
theorem dX5_drawn_1 : decode cX5_drawn 1 = .ok (.getfield 10, 3) := by decide +kernel
theorem dX5_drawn_4 : decode cX5_drawn 4 = .ok (.getfield 158, 3) := by decide +kernel
theorem dX5_drawn_7 : decode cX5_drawn 7 = .ok (.iconst 1, 1) := by decide +kernel
theorem dX5_drawn_8 : decode cX5_drawn 8 = .ok (.if_icmp .ge 7, 3) := by decide +kernel
theorem dX5_drawn_11 : decode cX5_drawn 11 = .ok (.ldc2_w 174, 3) := by decide +kernel
theorem dX5_drawn_14 : decode cX5_drawn 14 = .ok (.lreturn, 1) := by decide +kernel
theorem dX5_drawn_15 : decode cX5_drawn 15 = .ok (.aload_n 0, 1) := by decide +kernel
theorem dX5_drawn_16 : decode cX5_drawn 16 = .ok (.getfield 45, 3) := by decide +kernel
theorem dX5_drawn_19 : decode cX5_drawn 19 = .ok (.aload_n 0, 1) := by decide +kernel
theorem dX5_drawn_20 : decode cX5_drawn 20 = .ok (.getfield 10, 3) := by decide +kernel
theorem dX5_drawn_23 : decode cX5_drawn 23 = .ok (.getfield 97, 3) := by decide +kernel
theorem dX5_drawn_26 : decode cX5_drawn 26 = .ok (.invokevirtual 101, 3) := by decide +kernel
theorem dX5_drawn_29 : decode cX5_drawn 29 = .ok (.aload_n 0, 1) := by decide +kernel
theorem dX5_drawn_30 : decode cX5_drawn 30 = .ok (.getfield 45, 3) := by decide +kernel
theorem dX5_drawn_33 : decode cX5_drawn 33 = .ok (.iload_n 1, 1) := by decide +kernel
theorem dX5_drawn_34 : decode cX5_drawn 34 = .ok (.invokevirtual 199, 3) := by decide +kernel
theorem dX5_drawn_37 : decode cX5_drawn 37 = .ok (.aload_n 0, 1) := by decide +kernel
theorem dX5_drawn_38 : decode cX5_drawn 38 = .ok (.getfield 45, 3) := by decide +kernel
theorem dX5_drawn_41 : decode cX5_drawn 41 = .ok (.iconst 0, 1) := by decide +kernel
theorem dX5_drawn_42 : decode cX5_drawn 42 = .ok (.invokevirtual 149, 3) := by decide +kernel
theorem dX5_drawn_45 : decode cX5_drawn 45 = .ok (.aload_n 0, 1) := by decide +kernel
theorem dX5_drawn_46 : decode cX5_drawn 46 = .ok (.getfield 45, 3) := by decide +kernel
theorem dX5_drawn_49 : decode cX5_drawn 49 = .ok (.getfield 168, 3) := by decide +kernel
theorem dX5_drawn_52 : decode cX5_drawn 52 = .ok (.i2l, 1) := by decide +kernel
theorem dX5_drawn_53 : decode cX5_drawn 53 = .ok (.lreturn, 1) := by decide +kernel
theorem dX5_chance_0 : decode cX5_chance 0 = .ok (.iload_n 2, 1) := by decide +kernel
theorem dX5_chance_1 : decode cX5_chance 1 = .ok (.iconst 1, 1) := by decide +kernel
theorem dX5_chance_2 : decode cX5_chance 2 = .ok (.if_icmp .lt 29, 3) := by decide +kernel
theorem dX5_chance_5 : decode cX5_chance 5 = .ok (.iload_n 2, 1) := by decide +kernel
theorem dX5_chance_6 : decode cX5_chance 6 = .ok (.bipush 20, 2) := by decide +kernel
theorem dX5_chance_8 : decode cX5_chance 8 = .ok (.if_icmp .gt 23, 3) := by decide +kernel
theorem dX5_chance_11 : decode cX5_chance 11 = .ok (.iload_n 3, 1) := by decide +kernel
theorem dX5_chance_12 : decode cX5_chance 12 = .ok (.ifCond .eq 8, 3) := by decide +kernel
theorem dX5_chance_15 : decode cX5_chance 15 = .ok (.iload_n 3, 1) := by decide +kernel
theorem dX5_chance_16 : decode cX5_chance 16 = .ok (.iconst 1, 1) := by decide +kernel
theorem dX5_chance_17 : decode cX5_chance 17 = .ok (.if_icmp .ne 14, 3) := by decide +kernel
theorem dX5_chance_20 : decode cX5_chance 20 = .ok (.aload_n 0, 1) := by decide +kernel
theorem dX5_chance_21 : decode cX5_chance 21 = .ok (.getfield 10, 3) := by decide +kernel
theorem dX5_chance_24 : decode cX5_chance 24 = .ok (.getfield 158, 3) := by decide +kernel
theorem dX5_chance_27 : decode cX5_chance 27 = .ok (.iconst 1, 1) := by decide +kernel
theorem dX5_chance_28 : decode cX5_chance 28 = .ok (.if_icmp .ge 7, 3) := by decide +kernel
theorem dX5_chance_31 : decode cX5_chance 31 = .ok (.ldc2_w 174, 3) := by decide +kernel
theorem dX5_chance_34 : decode cX5_chance 34 = .ok (.lreturn, 1) := by decide +kernel
theorem dX5_chance_35 : decode cX5_chance 35 = .ok (.aload_n 0, 1) := by decide +kernel
theorem dX5_chance_36 : decode cX5_chance 36 = .ok (.getfield 45, 3) := by decide +kernel
theorem dX5_chance_39 : decode cX5_chance 39 = .ok (.aload_n 0, 1) := by decide +kernel
theorem dX5_chance_40 : decode cX5_chance 40 = .ok (.getfield 10, 3) := by decide +kernel
theorem dX5_chance_43 : decode cX5_chance 43 = .ok (.getfield 97, 3) := by decide +kernel
theorem dX5_chance_46 : decode cX5_chance 46 = .ok (.invokevirtual 101, 3) := by decide +kernel
theorem dX5_chance_49 : decode cX5_chance 49 = .ok (.aload_n 0, 1) := by decide +kernel
theorem dX5_chance_50 : decode cX5_chance 50 = .ok (.getfield 45, 3) := by decide +kernel
theorem dX5_chance_53 : decode cX5_chance 53 = .ok (.iconst 1, 1) := by decide +kernel
theorem dX5_chance_54 : decode cX5_chance 54 = .ok (.invokevirtual 149, 3) := by decide +kernel
theorem dX5_chance_57 : decode cX5_chance 57 = .ok (.aload_n 0, 1) := by decide +kernel
theorem dX5_chance_58 : decode cX5_chance 58 = .ok (.getfield 45, 3) := by decide +kernel
theorem dX5_chance_61 : decode cX5_chance 61 = .ok (.getfield 168, 3) := by decide +kernel
theorem dX5_chance_64 : decode cX5_chance 64 = .ok (.istore 4, 2) := by decide +kernel
theorem dX5_chance_66 : decode cX5_chance 66 = .ok (.iconst 0, 1) := by decide +kernel
theorem dX5_chance_67 : decode cX5_chance 67 = .ok (.istore 5, 2) := by decide +kernel
theorem dX5_chance_69 : decode cX5_chance 69 = .ok (.iconst 0, 1) := by decide +kernel
theorem dX5_chance_70 : decode cX5_chance 70 = .ok (.istore 6, 2) := by decide +kernel
theorem dX5_chance_72 : decode cX5_chance 72 = .ok (.iload 6, 2) := by decide +kernel
theorem dX5_chance_74 : decode cX5_chance 74 = .ok (.iload_n 2, 1) := by decide +kernel
theorem dX5_chance_75 : decode cX5_chance 75 = .ok (.if_icmp .ge 43, 3) := by decide +kernel
theorem dX5_chance_78 : decode cX5_chance 78 = .ok (.aload_n 0, 1) := by decide +kernel
theorem dX5_chance_79 : decode cX5_chance 79 = .ok (.getfield 45, 3) := by decide +kernel
theorem dX5_chance_82 : decode cX5_chance 82 = .ok (.iload_n 1, 1) := by decide +kernel
theorem dX5_chance_83 : decode cX5_chance 83 = .ok (.iload 6, 2) := by decide +kernel
theorem dX5_chance_85 : decode cX5_chance 85 = .ok (.iadd, 1) := by decide +kernel
theorem dX5_chance_86 : decode cX5_chance 86 = .ok (.invokevirtual 199, 3) := by decide +kernel
theorem dX5_chance_89 : decode cX5_chance 89 = .ok (.aload_n 0, 1) := by decide +kernel
theorem dX5_chance_90 : decode cX5_chance 90 = .ok (.getfield 45, 3) := by decide +kernel
theorem dX5_chance_93 : decode cX5_chance 93 = .ok (.iconst 0, 1) := by decide +kernel
theorem dX5_chance_94 : decode cX5_chance 94 = .ok (.invokevirtual 149, 3) := by decide +kernel
theorem dX5_chance_97 : decode cX5_chance 97 = .ok (.aload_n 0, 1) := by decide +kernel
theorem dX5_chance_98 : decode cX5_chance 98 = .ok (.getfield 45, 3) := by decide +kernel
theorem dX5_chance_101 : decode cX5_chance 101 = .ok (.getfield 168, 3) := by decide +kernel
theorem dX5_chance_104 : decode cX5_chance 104 = .ok (.iload 4, 2) := by decide +kernel
theorem dX5_chance_106 : decode cX5_chance 106 = .ok (.if_icmp .gt 6, 3) := by decide +kernel
theorem dX5_chance_109 : decode cX5_chance 109 = .ok (.iinc 5 1, 3) := by decide +kernel
theorem dX5_chance_112 : decode cX5_chance 112 = .ok (.iinc 6 1, 3) := by decide +kernel
theorem dX5_chance_115 : decode cX5_chance 115 = .ok (.goto (-43), 3) := by decide +kernel
theorem dX5_chance_118 : decode cX5_chance 118 = .ok (.iconst 1, 1) := by decide +kernel
theorem dX5_chance_119 : decode cX5_chance 119 = .ok (.iload 5, 2) := by decide +kernel
theorem dX5_chance_121 : decode cX5_chance 121 = .ok (.iload_n 2, 1) := by decide +kernel
theorem dX5_chance_122 : decode cX5_chance 122 = .ok (.invokestatic 202, 3) := by decide +kernel
theorem dX5_chance_125 : decode cX5_chance 125 = .ok (.invokestatic 205, 3) := by decide +kernel
theorem dX5_chance_128 : decode cX5_chance 128 = .ok (.istore 6, 2) := by decide +kernel
theorem dX5_chance_130 : decode cX5_chance 130 = .ok (.iload_n 3, 1) := by decide +kernel
theorem dX5_chance_131 : decode cX5_chance 131 = .ok (.ifCond .ne 12, 3) := by decide +kernel
theorem dX5_chance_134 : decode cX5_chance 134 = .ok (.iload 5, 2) := by decide +kernel
theorem dX5_chance_136 : decode cX5_chance 136 = .ok (.iload 6, 2) := by decide +kernel
theorem dX5_chance_138 : decode cX5_chance 138 = .ok (.idiv, 1) := by decide +kernel
theorem dX5_chance_139 : decode cX5_chance 139 = .ok (.i2l, 1) := by decide +kernel
theorem dX5_chance_140 : decode cX5_chance 140 = .ok (.goto 8, 3) := by decide +kernel
theorem dX5_chance_143 : decode cX5_chance 143 = .ok (.iload_n 2, 1) := by decide +kernel
theorem dX5_chance_144 : decode cX5_chance 144 = .ok (.iload 6, 2) := by decide +kernel
theorem dX5_chance_146 : decode cX5_chance 146 = .ok (.idiv, 1) := by decide +kernel
theorem dX5_chance_147 : decode cX5_chance 147 = .ok (.i2l, 1) := by decide +kernel
theorem dX5_chance_148 : decode cX5_chance 148 = .ok (.lreturn, 1) := by decide +kernel
theorem dX5_image_0 : decode cX5_image 0 = .ok (.aload_n 0, 1) := by decide +kernel
theorem dX5_image_1 : decode cX5_image 1 = .ok (.getfield 16, 3) := by decide +kernel
theorem dX5_image_4 : decode cX5_image 4 = .ok (.aload_n 0, 1) := by decide +kernel
theorem dX5_image_5 : decode cX5_image 5 = .ok (.getfield 10, 3) := by decide +kernel
theorem dX5_image_8 : decode cX5_image 8 = .ok (.invokevirtual 210, 3) := by decide +kernel
theorem dX5_image_11 : decode cX5_image 11 = .ok (.aload_n 0, 1) := by decide +kernel
theorem dX5_image_12 : decode cX5_image 12 = .ok (.iconst 1, 1) := by decide +kernel
theorem dX5_image_13 : decode cX5_image 13 = .ok (.putfield 214, 3) := by decide +kernel
theorem dX5_image_16 : decode cX5_image 16 = .ok (.aload_n 0, 1) := by decide +kernel
theorem dX5_image_17 : decode cX5_image 17 = .ok (.getfield 10, 3) := by decide +kernel
theorem dX5_image_20 : decode cX5_image 20 = .ok (.getfield 158, 3) := by decide +kernel
theorem dX5_image_23 : decode cX5_image 23 = .ok (.ireturn, 1) := by decide +kernel
theorem dX5_back_0 : decode cX5_back 0 = .ok (.aload_n 0, 1) := by decide +kernel
theorem dX5_back_1 : decode cX5_back 1 = .ok (.getfield 214, 3) := by decide +kernel
theorem dX5_back_4 : decode cX5_back 4 = .ok (.ifCond .ne 6, 3) := by decide +kernel
theorem dX5_back_7 : decode cX5_back 7 = .ok (.bipush (-3), 2) := by decide +kernel
theorem dX5_back_9 : decode cX5_back 9 = .ok (.ireturn, 1) := by decide +kernel
theorem dX5_back_10 : decode cX5_back 10 = .ok (.aload_n 0, 1) := by decide +kernel
theorem dX5_back_11 : decode cX5_back 11 = .ok (.getfield 10, 3) := by decide +kernel
theorem dX5_back_14 : decode cX5_back 14 = .ok (.aload_n 0, 1) := by decide +kernel
theorem dX5_back_15 : decode cX5_back 15 = .ok (.getfield 16, 3) := by decide +kernel
theorem dX5_back_18 : decode cX5_back 18 = .ok (.invokevirtual 210, 3) := by decide +kernel
theorem dX5_back_21 : decode cX5_back 21 = .ok (.aload_n 0, 1) := by decide +kernel
theorem dX5_back_22 : decode cX5_back 22 = .ok (.getfield 10, 3) := by decide +kernel
theorem dX5_back_25 : decode cX5_back 25 = .ok (.getfield 158, 3) := by decide +kernel
theorem dX5_back_28 : decode cX5_back 28 = .ok (.ireturn, 1) := by decide +kernel
theorem dX5_count_0 : decode cX5_count 0 = .ok (.iload_n 1, 1) := by decide +kernel
theorem dX5_count_1 : decode cX5_count 1 = .ok (.tableswitch 125 0 7 #[47, 55, 63, 71, 79, 87, 95, 117], 47) := by decide +kernel
theorem dX5_count_48 : decode cX5_count 48 = .ok (.aload_n 0, 1) := by decide +kernel
theorem dX5_count_49 : decode cX5_count 49 = .ok (.getfield 10, 3) := by decide +kernel
theorem dX5_count_52 : decode cX5_count 52 = .ok (.getfield 158, 3) := by decide +kernel
theorem dX5_count_55 : decode cX5_count 55 = .ok (.ireturn, 1) := by decide +kernel
theorem dX5_count_56 : decode cX5_count 56 = .ok (.aload_n 0, 1) := by decide +kernel
theorem dX5_count_57 : decode cX5_count 57 = .ok (.getfield 10, 3) := by decide +kernel
theorem dX5_count_60 : decode cX5_count 60 = .ok (.getfield 108, 3) := by decide +kernel
theorem dX5_count_63 : decode cX5_count 63 = .ok (.ireturn, 1) := by decide +kernel
theorem dX5_count_64 : decode cX5_count 64 = .ok (.aload_n 0, 1) := by decide +kernel
theorem dX5_count_65 : decode cX5_count 65 = .ok (.getfield 10, 3) := by decide +kernel
theorem dX5_count_68 : decode cX5_count 68 = .ok (.getfield 97, 3) := by decide +kernel
theorem dX5_count_71 : decode cX5_count 71 = .ok (.ireturn, 1) := by decide +kernel
theorem dX5_count_72 : decode cX5_count 72 = .ok (.aload_n 0, 1) := by decide +kernel
theorem dX5_count_73 : decode cX5_count 73 = .ok (.getfield 29, 3) := by decide +kernel
theorem dX5_count_76 : decode cX5_count 76 = .ok (.getfield 123, 3) := by decide +kernel
theorem dX5_count_79 : decode cX5_count 79 = .ok (.ireturn, 1) := by decide +kernel
theorem dX5_count_80 : decode cX5_count 80 = .ok (.aload_n 0, 1) := by decide +kernel
theorem dX5_count_81 : decode cX5_count 81 = .ok (.getfield 22, 3) := by decide +kernel
theorem dX5_count_84 : decode cX5_count 84 = .ok (.getfield 120, 3) := by decide +kernel
theorem dX5_count_87 : decode cX5_count 87 = .ok (.ireturn, 1) := by decide +kernel
theorem dX5_count_88 : decode cX5_count 88 = .ok (.aload_n 0, 1) := by decide +kernel
theorem dX5_count_89 : decode cX5_count 89 = .ok (.getfield 10, 3) := by decide +kernel
theorem dX5_count_92 : decode cX5_count 92 = .ok (.getfield 129, 3) := by decide +kernel
theorem dX5_count_95 : decode cX5_count 95 = .ok (.ireturn, 1) := by decide +kernel
theorem dX5_count_96 : decode cX5_count 96 = .ok (.aload_n 0, 1) := by decide +kernel
theorem dX5_count_97 : decode cX5_count 97 = .ok (.getfield 45, 3) := by decide +kernel
theorem dX5_count_100 : decode cX5_count 100 = .ok (.aload_n 0, 1) := by decide +kernel
theorem dX5_count_101 : decode cX5_count 101 = .ok (.getfield 10, 3) := by decide +kernel
theorem dX5_count_104 : decode cX5_count 104 = .ok (.getfield 97, 3) := by decide +kernel
theorem dX5_count_107 : decode cX5_count 107 = .ok (.invokevirtual 111, 3) := by decide +kernel
theorem dX5_count_110 : decode cX5_count 110 = .ok (.aload_n 0, 1) := by decide +kernel
theorem dX5_count_111 : decode cX5_count 111 = .ok (.getfield 45, 3) := by decide +kernel
theorem dX5_count_114 : decode cX5_count 114 = .ok (.invokevirtual 218, 3) := by decide +kernel
theorem dX5_count_117 : decode cX5_count 117 = .ok (.ireturn, 1) := by decide +kernel
theorem dX5_count_118 : decode cX5_count 118 = .ok (.aload_n 0, 1) := by decide +kernel
theorem dX5_count_119 : decode cX5_count 119 = .ok (.getfield 10, 3) := by decide +kernel
theorem dX5_count_122 : decode cX5_count 122 = .ok (.invokevirtual 222, 3) := by decide +kernel
theorem dX5_count_125 : decode cX5_count 125 = .ok (.ireturn, 1) := by decide +kernel
theorem dX5_count_126 : decode cX5_count 126 = .ok (.bipush (-2), 2) := by decide +kernel
theorem dX5_count_128 : decode cX5_count 128 = .ok (.ireturn, 1) := by decide +kernel
theorem dX5_sheet_0 : decode cX5_sheet 0 = .ok (.aload_n 0, 1) := by decide +kernel
theorem dX5_sheet_1 : decode cX5_sheet 1 = .ok (.getfield 36, 3) := by decide +kernel
theorem dX5_sheet_4 : decode cX5_sheet 4 = .ok (.iload_n 1, 1) := by decide +kernel
theorem dX5_sheet_5 : decode cX5_sheet 5 = .ok (.invokevirtual 183, 3) := by decide +kernel
theorem dX5_sheet_8 : decode cX5_sheet 8 = .ok (.ifCond .eq 13, 3) := by decide +kernel
theorem dX5_sheet_11 : decode cX5_sheet 11 = .ok (.iload_n 2, 1) := by decide +kernel
theorem dX5_sheet_12 : decode cX5_sheet 12 = .ok (.iconst (-1), 1) := by decide +kernel
theorem dX5_sheet_13 : decode cX5_sheet 13 = .ok (.if_icmp .lt 8, 3) := by decide +kernel
theorem dX5_sheet_16 : decode cX5_sheet 16 = .ok (.iload_n 2, 1) := by decide +kernel
theorem dX5_sheet_17 : decode cX5_sheet 17 = .ok (.iconst 3, 1) := by decide +kernel
theorem dX5_sheet_18 : decode cX5_sheet 18 = .ok (.if_icmp .lt 6, 3) := by decide +kernel
theorem dX5_sheet_21 : decode cX5_sheet 21 = .ok (.bipush (-2), 2) := by decide +kernel
theorem dX5_sheet_23 : decode cX5_sheet 23 = .ok (.ireturn, 1) := by decide +kernel
theorem dX5_sheet_24 : decode cX5_sheet 24 = .ok (.iload_n 2, 1) := by decide +kernel
theorem dX5_sheet_25 : decode cX5_sheet 25 = .ok (.iconst (-1), 1) := by decide +kernel
theorem dX5_sheet_26 : decode cX5_sheet 26 = .ok (.if_icmp .ne 15, 3) := by decide +kernel
theorem dX5_sheet_29 : decode cX5_sheet 29 = .ok (.aload_n 0, 1) := by decide +kernel
theorem dX5_sheet_30 : decode cX5_sheet 30 = .ok (.getfield 36, 3) := by decide +kernel
theorem dX5_sheet_33 : decode cX5_sheet 33 = .ok (.iload_n 1, 1) := by decide +kernel
theorem dX5_sheet_34 : decode cX5_sheet 34 = .ok (.iconst (-1), 1) := by decide +kernel
theorem dX5_sheet_35 : decode cX5_sheet 35 = .ok (.iconst 0, 1) := by decide +kernel
theorem dX5_sheet_36 : decode cX5_sheet 36 = .ok (.invokevirtual 190, 3) := by decide +kernel
theorem dX5_sheet_39 : decode cX5_sheet 39 = .ok (.iconst 1, 1) := by decide +kernel
theorem dX5_sheet_40 : decode cX5_sheet 40 = .ok (.ireturn, 1) := by decide +kernel
theorem dX5_sheet_41 : decode cX5_sheet 41 = .ok (.iload_n 3, 1) := by decide +kernel
theorem dX5_sheet_42 : decode cX5_sheet 42 = .ok (.bipush 40, 2) := by decide +kernel
theorem dX5_sheet_44 : decode cX5_sheet 44 = .ok (.if_icmp .le 6, 3) := by decide +kernel
theorem dX5_sheet_47 : decode cX5_sheet 47 = .ok (.bipush (-2), 2) := by decide +kernel
theorem dX5_sheet_49 : decode cX5_sheet 49 = .ok (.ireturn, 1) := by decide +kernel
theorem dX5_sheet_50 : decode cX5_sheet 50 = .ok (.iload_n 3, 1) := by decide +kernel
theorem dX5_sheet_51 : decode cX5_sheet 51 = .ok (.ifCond .ge 6, 3) := by decide +kernel
theorem dX5_sheet_54 : decode cX5_sheet 54 = .ok (.bipush (-14), 2) := by decide +kernel
theorem dX5_sheet_56 : decode cX5_sheet 56 = .ok (.ireturn, 1) := by decide +kernel
theorem dX5_sheet_57 : decode cX5_sheet 57 = .ok (.aload_n 0, 1) := by decide +kernel
theorem dX5_sheet_58 : decode cX5_sheet 58 = .ok (.getfield 36, 3) := by decide +kernel
theorem dX5_sheet_61 : decode cX5_sheet 61 = .ok (.iload_n 1, 1) := by decide +kernel
theorem dX5_sheet_62 : decode cX5_sheet 62 = .ok (.iload_n 2, 1) := by decide +kernel
theorem dX5_sheet_63 : decode cX5_sheet 63 = .ok (.iload_n 3, 1) := by decide +kernel
theorem dX5_sheet_64 : decode cX5_sheet 64 = .ok (.invokevirtual 190, 3) := by decide +kernel
theorem dX5_sheet_67 : decode cX5_sheet 67 = .ok (.iconst 1, 1) := by decide +kernel
theorem dX5_sheet_68 : decode cX5_sheet 68 = .ok (.ireturn, 1) := by decide +kernel
theorem dX5_cell_0 : decode cX5_cell 0 = .ok (.aload_n 0, 1) := by decide +kernel
theorem dX5_cell_1 : decode cX5_cell 1 = .ok (.getfield 36, 3) := by decide +kernel
theorem dX5_cell_4 : decode cX5_cell 4 = .ok (.iload_n 1, 1) := by decide +kernel
theorem dX5_cell_5 : decode cX5_cell 5 = .ok (.invokevirtual 183, 3) := by decide +kernel
theorem dX5_cell_8 : decode cX5_cell 8 = .ok (.ifCond .ne 6, 3) := by decide +kernel
theorem dX5_cell_11 : decode cX5_cell 11 = .ok (.bipush (-2), 2) := by decide +kernel
theorem dX5_cell_13 : decode cX5_cell 13 = .ok (.ireturn, 1) := by decide +kernel
theorem dX5_cell_14 : decode cX5_cell 14 = .ok (.aload_n 0, 1) := by decide +kernel
theorem dX5_cell_15 : decode cX5_cell 15 = .ok (.getfield 36, 3) := by decide +kernel
theorem dX5_cell_18 : decode cX5_cell 18 = .ok (.iload_n 1, 1) := by decide +kernel
theorem dX5_cell_19 : decode cX5_cell 19 = .ok (.invokevirtual 136, 3) := by decide +kernel
theorem dX5_cell_22 : decode cX5_cell 22 = .ok (.ifCond .eq 6, 3) := by decide +kernel
theorem dX5_cell_25 : decode cX5_cell 25 = .ok (.bipush (-11), 2) := by decide +kernel
theorem dX5_cell_27 : decode cX5_cell 27 = .ok (.ireturn, 1) := by decide +kernel
theorem dX5_cell_28 : decode cX5_cell 28 = .ok (.iload_n 2, 1) := by decide +kernel
theorem dX5_cell_29 : decode cX5_cell 29 = .ok (.ifCond .lt 15, 3) := by decide +kernel
theorem dX5_cell_32 : decode cX5_cell 32 = .ok (.iload_n 2, 1) := by decide +kernel
theorem dX5_cell_33 : decode cX5_cell 33 = .ok (.aload_n 0, 1) := by decide +kernel
theorem dX5_cell_34 : decode cX5_cell 34 = .ok (.getfield 36, 3) := by decide +kernel
theorem dX5_cell_37 : decode cX5_cell 37 = .ok (.iload_n 1, 1) := by decide +kernel
theorem dX5_cell_38 : decode cX5_cell 38 = .ok (.invokevirtual 142, 3) := by decide +kernel
theorem dX5_cell_41 : decode cX5_cell 41 = .ok (.if_icmp .lt 6, 3) := by decide +kernel
theorem dX5_cell_44 : decode cX5_cell 44 = .ok (.bipush (-12), 2) := by decide +kernel
theorem dX5_cell_46 : decode cX5_cell 46 = .ok (.ireturn, 1) := by decide +kernel
theorem dX5_cell_47 : decode cX5_cell 47 = .ok (.aload_n 0, 1) := by decide +kernel
theorem dX5_cell_48 : decode cX5_cell 48 = .ok (.getfield 36, 3) := by decide +kernel
theorem dX5_cell_51 : decode cX5_cell 51 = .ok (.iload_n 1, 1) := by decide +kernel
theorem dX5_cell_52 : decode cX5_cell 52 = .ok (.iload_n 2, 1) := by decide +kernel
theorem dX5_cell_53 : decode cX5_cell 53 = .ok (.iload_n 3, 1) := by decide +kernel
theorem dX5_cell_54 : decode cX5_cell 54 = .ok (.invokevirtual 196, 3) := by decide +kernel
theorem dX5_cell_57 : decode cX5_cell 57 = .ok (.iconst 1, 1) := by decide +kernel
theorem dX5_cell_58 : decode cX5_cell 58 = .ok (.ireturn, 1) := by decide +kernel
theorem dX5_copy_0 : decode cX5_copy 0 = .ok (.aload_n 0, 1) := by decide +kernel
theorem dX5_copy_1 : decode cX5_copy 1 = .ok (.getfield 36, 3) := by decide +kernel
theorem dX5_copy_4 : decode cX5_copy 4 = .ok (.iload_n 1, 1) := by decide +kernel
theorem dX5_copy_5 : decode cX5_copy 5 = .ok (.invokevirtual 183, 3) := by decide +kernel
theorem dX5_copy_8 : decode cX5_copy 8 = .ok (.ifCond .eq 14, 3) := by decide +kernel
theorem dX5_copy_11 : decode cX5_copy 11 = .ok (.aload_n 0, 1) := by decide +kernel
theorem dX5_copy_12 : decode cX5_copy 12 = .ok (.getfield 36, 3) := by decide +kernel
theorem dX5_copy_15 : decode cX5_copy 15 = .ok (.iload_n 3, 1) := by decide +kernel
theorem dX5_copy_16 : decode cX5_copy 16 = .ok (.invokevirtual 183, 3) := by decide +kernel
theorem dX5_copy_19 : decode cX5_copy 19 = .ok (.ifCond .ne 6, 3) := by decide +kernel
theorem dX5_copy_22 : decode cX5_copy 22 = .ok (.bipush (-2), 2) := by decide +kernel
theorem dX5_copy_24 : decode cX5_copy 24 = .ok (.ireturn, 1) := by decide +kernel
theorem dX5_copy_25 : decode cX5_copy 25 = .ok (.aload_n 0, 1) := by decide +kernel
theorem dX5_copy_26 : decode cX5_copy 26 = .ok (.getfield 36, 3) := by decide +kernel
theorem dX5_copy_29 : decode cX5_copy 29 = .ok (.iload_n 1, 1) := by decide +kernel
theorem dX5_copy_30 : decode cX5_copy 30 = .ok (.invokevirtual 136, 3) := by decide +kernel
theorem dX5_copy_33 : decode cX5_copy 33 = .ok (.ifCond .ne 14, 3) := by decide +kernel
theorem dX5_copy_36 : decode cX5_copy 36 = .ok (.aload_n 0, 1) := by decide +kernel
theorem dX5_copy_37 : decode cX5_copy 37 = .ok (.getfield 36, 3) := by decide +kernel
theorem dX5_copy_40 : decode cX5_copy 40 = .ok (.iload_n 3, 1) := by decide +kernel
theorem dX5_copy_41 : decode cX5_copy 41 = .ok (.invokevirtual 136, 3) := by decide +kernel
theorem dX5_copy_44 : decode cX5_copy 44 = .ok (.ifCond .eq 6, 3) := by decide +kernel
theorem dX5_copy_47 : decode cX5_copy 47 = .ok (.bipush (-11), 2) := by decide +kernel
theorem dX5_copy_49 : decode cX5_copy 49 = .ok (.ireturn, 1) := by decide +kernel
theorem dX5_copy_50 : decode cX5_copy 50 = .ok (.aload_n 0, 1) := by decide +kernel
theorem dX5_copy_51 : decode cX5_copy 51 = .ok (.getfield 36, 3) := by decide +kernel
theorem dX5_copy_54 : decode cX5_copy 54 = .ok (.iload_n 1, 1) := by decide +kernel
theorem dX5_copy_55 : decode cX5_copy 55 = .ok (.invokevirtual 225, 3) := by decide +kernel
theorem dX5_copy_58 : decode cX5_copy 58 = .ok (.aload_n 0, 1) := by decide +kernel
theorem dX5_copy_59 : decode cX5_copy 59 = .ok (.getfield 36, 3) := by decide +kernel
theorem dX5_copy_62 : decode cX5_copy 62 = .ok (.iload_n 3, 1) := by decide +kernel
theorem dX5_copy_63 : decode cX5_copy 63 = .ok (.invokevirtual 225, 3) := by decide +kernel
theorem dX5_copy_66 : decode cX5_copy 66 = .ok (.if_icmp .eq 6, 3) := by decide +kernel
theorem dX5_copy_69 : decode cX5_copy 69 = .ok (.bipush (-13), 2) := by decide +kernel
theorem dX5_copy_71 : decode cX5_copy 71 = .ok (.ireturn, 1) := by decide +kernel
theorem dX5_copy_72 : decode cX5_copy 72 = .ok (.iload 5, 2) := by decide +kernel
theorem dX5_copy_74 : decode cX5_copy 74 = .ok (.ifCond .lt 32, 3) := by decide +kernel
theorem dX5_copy_77 : decode cX5_copy 77 = .ok (.aload_n 0, 1) := by decide +kernel
theorem dX5_copy_78 : decode cX5_copy 78 = .ok (.getfield 36, 3) := by decide +kernel
theorem dX5_copy_81 : decode cX5_copy 81 = .ok (.iload_n 1, 1) := by decide +kernel
theorem dX5_copy_82 : decode cX5_copy 82 = .ok (.iload_n 2, 1) := by decide +kernel
theorem dX5_copy_83 : decode cX5_copy 83 = .ok (.iload 5, 2) := by decide +kernel
theorem dX5_copy_85 : decode cX5_copy 85 = .ok (.invokevirtual 228, 3) := by decide +kernel
theorem dX5_copy_88 : decode cX5_copy 88 = .ok (.ifCond .eq 18, 3) := by decide +kernel
theorem dX5_copy_91 : decode cX5_copy 91 = .ok (.aload_n 0, 1) := by decide +kernel
theorem dX5_copy_92 : decode cX5_copy 92 = .ok (.getfield 36, 3) := by decide +kernel
theorem dX5_copy_95 : decode cX5_copy 95 = .ok (.iload_n 3, 1) := by decide +kernel
theorem dX5_copy_96 : decode cX5_copy 96 = .ok (.iload 4, 2) := by decide +kernel
theorem dX5_copy_98 : decode cX5_copy 98 = .ok (.iload 5, 2) := by decide +kernel
theorem dX5_copy_100 : decode cX5_copy 100 = .ok (.invokevirtual 228, 3) := by decide +kernel
theorem dX5_copy_103 : decode cX5_copy 103 = .ok (.ifCond .ne 6, 3) := by decide +kernel
theorem dX5_copy_106 : decode cX5_copy 106 = .ok (.bipush (-12), 2) := by decide +kernel
theorem dX5_copy_108 : decode cX5_copy 108 = .ok (.ireturn, 1) := by decide +kernel
theorem dX5_copy_109 : decode cX5_copy 109 = .ok (.aload_n 0, 1) := by decide +kernel
theorem dX5_copy_110 : decode cX5_copy 110 = .ok (.getfield 36, 3) := by decide +kernel
theorem dX5_copy_113 : decode cX5_copy 113 = .ok (.iload_n 1, 1) := by decide +kernel
theorem dX5_copy_114 : decode cX5_copy 114 = .ok (.iload_n 2, 1) := by decide +kernel
theorem dX5_copy_115 : decode cX5_copy 115 = .ok (.iload_n 3, 1) := by decide +kernel
theorem dX5_copy_116 : decode cX5_copy 116 = .ok (.iload 4, 2) := by decide +kernel
theorem dX5_copy_118 : decode cX5_copy 118 = .ok (.iload 5, 2) := by decide +kernel
theorem dX5_copy_120 : decode cX5_copy 120 = .ok (.invokevirtual 232, 3) := by decide +kernel
theorem dX5_copy_123 : decode cX5_copy 123 = .ok (.iload 5, 2) := by decide +kernel
theorem dX5_copy_125 : decode cX5_copy 125 = .ok (.ireturn, 1) := by decide +kernel
theorem dX5_eaters_0 : decode cX5_eaters 0 = .ok (.aload_n 0, 1) := by decide +kernel
theorem dX5_eaters_1 : decode cX5_eaters 1 = .ok (.getfield 36, 3) := by decide +kernel
theorem dX5_eaters_4 : decode cX5_eaters 4 = .ok (.iload_n 1, 1) := by decide +kernel
theorem dX5_eaters_5 : decode cX5_eaters 5 = .ok (.invokevirtual 183, 3) := by decide +kernel
theorem dX5_eaters_8 : decode cX5_eaters 8 = .ok (.ifCond .eq 23, 3) := by decide +kernel
theorem dX5_eaters_11 : decode cX5_eaters 11 = .ok (.iload_n 2, 1) := by decide +kernel
theorem dX5_eaters_12 : decode cX5_eaters 12 = .ok (.ifCond .lt 19, 3) := by decide +kernel
theorem dX5_eaters_15 : decode cX5_eaters 15 = .ok (.iload_n 2, 1) := by decide +kernel
theorem dX5_eaters_16 : decode cX5_eaters 16 = .ok (.iconst 3, 1) := by decide +kernel
theorem dX5_eaters_17 : decode cX5_eaters 17 = .ok (.if_icmp .ge 14, 3) := by decide +kernel
theorem dX5_eaters_20 : decode cX5_eaters 20 = .ok (.iload 4, 2) := by decide +kernel
theorem dX5_eaters_22 : decode cX5_eaters 22 = .ok (.ifCond .lt 9, 3) := by decide +kernel
theorem dX5_eaters_25 : decode cX5_eaters 25 = .ok (.iload 4, 2) := by decide +kernel
theorem dX5_eaters_27 : decode cX5_eaters 27 = .ok (.iconst 5, 1) := by decide +kernel
theorem dX5_eaters_28 : decode cX5_eaters 28 = .ok (.if_icmp .le 6, 3) := by decide +kernel
theorem dX5_eaters_31 : decode cX5_eaters 31 = .ok (.bipush (-2), 2) := by decide +kernel
theorem dX5_eaters_33 : decode cX5_eaters 33 = .ok (.ireturn, 1) := by decide +kernel
theorem dX5_eaters_34 : decode cX5_eaters 34 = .ok (.aload_n 0, 1) := by decide +kernel
theorem dX5_eaters_35 : decode cX5_eaters 35 = .ok (.getfield 36, 3) := by decide +kernel
theorem dX5_eaters_38 : decode cX5_eaters 38 = .ok (.iload_n 1, 1) := by decide +kernel
theorem dX5_eaters_39 : decode cX5_eaters 39 = .ok (.invokevirtual 136, 3) := by decide +kernel
theorem dX5_eaters_42 : decode cX5_eaters 42 = .ok (.ifCond .eq 6, 3) := by decide +kernel
theorem dX5_eaters_45 : decode cX5_eaters 45 = .ok (.bipush (-11), 2) := by decide +kernel
theorem dX5_eaters_47 : decode cX5_eaters 47 = .ok (.ireturn, 1) := by decide +kernel
theorem dX5_eaters_48 : decode cX5_eaters 48 = .ok (.aload_n 0, 1) := by decide +kernel
theorem dX5_eaters_49 : decode cX5_eaters 49 = .ok (.getfield 36, 3) := by decide +kernel
theorem dX5_eaters_52 : decode cX5_eaters 52 = .ok (.iload_n 1, 1) := by decide +kernel
theorem dX5_eaters_53 : decode cX5_eaters 53 = .ok (.invokevirtual 225, 3) := by decide +kernel
theorem dX5_eaters_56 : decode cX5_eaters 56 = .ok (.iload_n 2, 1) := by decide +kernel
theorem dX5_eaters_57 : decode cX5_eaters 57 = .ok (.if_icmp .eq 6, 3) := by decide +kernel
theorem dX5_eaters_60 : decode cX5_eaters 60 = .ok (.bipush (-13), 2) := by decide +kernel
theorem dX5_eaters_62 : decode cX5_eaters 62 = .ok (.ireturn, 1) := by decide +kernel
theorem dX5_eaters_63 : decode cX5_eaters 63 = .ok (.iconst 0, 1) := by decide +kernel
theorem dX5_eaters_64 : decode cX5_eaters 64 = .ok (.istore 5, 2) := by decide +kernel
theorem dX5_eaters_66 : decode cX5_eaters 66 = .ok (.iconst 0, 1) := by decide +kernel
theorem dX5_eaters_67 : decode cX5_eaters 67 = .ok (.istore 6, 2) := by decide +kernel
theorem dX5_eaters_69 : decode cX5_eaters 69 = .ok (.iload 6, 2) := by decide +kernel
theorem dX5_eaters_71 : decode cX5_eaters 71 = .ok (.iload 4, 2) := by decide +kernel
theorem dX5_eaters_73 : decode cX5_eaters 73 = .ok (.if_icmp .ge 89, 3) := by decide +kernel
theorem dX5_eaters_76 : decode cX5_eaters 76 = .ok (.iload_n 3, 1) := by decide +kernel
theorem dX5_eaters_77 : decode cX5_eaters 77 = .ok (.iconst 3, 1) := by decide +kernel
theorem dX5_eaters_78 : decode cX5_eaters 78 = .ok (.iload 6, 2) := by decide +kernel
theorem dX5_eaters_80 : decode cX5_eaters 80 = .ok (.imul, 1) := by decide +kernel
theorem dX5_eaters_81 : decode cX5_eaters 81 = .ok (.iadd, 1) := by decide +kernel
theorem dX5_eaters_82 : decode cX5_eaters 82 = .ok (.istore 7, 2) := by decide +kernel
theorem dX5_eaters_84 : decode cX5_eaters 84 = .ok (.aload_n 0, 1) := by decide +kernel
theorem dX5_eaters_85 : decode cX5_eaters 85 = .ok (.getfield 36, 3) := by decide +kernel
theorem dX5_eaters_88 : decode cX5_eaters 88 = .ok (.iload_n 1, 1) := by decide +kernel
theorem dX5_eaters_89 : decode cX5_eaters 89 = .ok (.iload 7, 2) := by decide +kernel
theorem dX5_eaters_91 : decode cX5_eaters 91 = .ok (.iconst 3, 1) := by decide +kernel
theorem dX5_eaters_92 : decode cX5_eaters 92 = .ok (.invokevirtual 228, 3) := by decide +kernel
theorem dX5_eaters_95 : decode cX5_eaters 95 = .ok (.ifCond .ne 6, 3) := by decide +kernel
theorem dX5_eaters_98 : decode cX5_eaters 98 = .ok (.bipush (-12), 2) := by decide +kernel
theorem dX5_eaters_100 : decode cX5_eaters 100 = .ok (.ireturn, 1) := by decide +kernel
theorem dX5_eaters_101 : decode cX5_eaters 101 = .ok (.aload_n 0, 1) := by decide +kernel
theorem dX5_eaters_102 : decode cX5_eaters 102 = .ok (.getfield 36, 3) := by decide +kernel
theorem dX5_eaters_105 : decode cX5_eaters 105 = .ok (.iload_n 1, 1) := by decide +kernel
theorem dX5_eaters_106 : decode cX5_eaters 106 = .ok (.iload 7, 2) := by decide +kernel
theorem dX5_eaters_108 : decode cX5_eaters 108 = .ok (.invokevirtual 146, 3) := by decide +kernel
theorem dX5_eaters_111 : decode cX5_eaters 111 = .ok (.istore 8, 2) := by decide +kernel
theorem dX5_eaters_113 : decode cX5_eaters 113 = .ok (.aload_n 0, 1) := by decide +kernel
theorem dX5_eaters_114 : decode cX5_eaters 114 = .ok (.getfield 36, 3) := by decide +kernel
theorem dX5_eaters_117 : decode cX5_eaters 117 = .ok (.iload_n 1, 1) := by decide +kernel
theorem dX5_eaters_118 : decode cX5_eaters 118 = .ok (.iload 7, 2) := by decide +kernel
theorem dX5_eaters_120 : decode cX5_eaters 120 = .ok (.iconst 1, 1) := by decide +kernel
theorem dX5_eaters_121 : decode cX5_eaters 121 = .ok (.iadd, 1) := by decide +kernel
theorem dX5_eaters_122 : decode cX5_eaters 122 = .ok (.invokevirtual 146, 3) := by decide +kernel
theorem dX5_eaters_125 : decode cX5_eaters 125 = .ok (.istore 9, 2) := by decide +kernel
theorem dX5_eaters_127 : decode cX5_eaters 127 = .ok (.aload_n 0, 1) := by decide +kernel
theorem dX5_eaters_128 : decode cX5_eaters 128 = .ok (.getfield 10, 3) := by decide +kernel
theorem dX5_eaters_131 : decode cX5_eaters 131 = .ok (.iload 8, 2) := by decide +kernel
theorem dX5_eaters_133 : decode cX5_eaters 133 = .ok (.iload 9, 2) := by decide +kernel
theorem dX5_eaters_135 : decode cX5_eaters 135 = .ok (.aload_n 0, 1) := by decide +kernel
theorem dX5_eaters_136 : decode cX5_eaters 136 = .ok (.getfield 36, 3) := by decide +kernel
theorem dX5_eaters_139 : decode cX5_eaters 139 = .ok (.iload_n 1, 1) := by decide +kernel
theorem dX5_eaters_140 : decode cX5_eaters 140 = .ok (.iload 7, 2) := by decide +kernel
theorem dX5_eaters_142 : decode cX5_eaters 142 = .ok (.iconst 2, 1) := by decide +kernel
theorem dX5_eaters_143 : decode cX5_eaters 143 = .ok (.iadd, 1) := by decide +kernel
theorem dX5_eaters_144 : decode cX5_eaters 144 = .ok (.invokevirtual 146, 3) := by decide +kernel
theorem dX5_eaters_147 : decode cX5_eaters 147 = .ok (.invokevirtual 74, 3) := by decide +kernel
theorem dX5_eaters_150 : decode cX5_eaters 150 = .ok (.ifCond .lt 6, 3) := by decide +kernel
theorem dX5_eaters_153 : decode cX5_eaters 153 = .ok (.iinc 5 1, 3) := by decide +kernel
theorem dX5_eaters_156 : decode cX5_eaters 156 = .ok (.iinc 6 1, 3) := by decide +kernel
theorem dX5_eaters_159 : decode cX5_eaters 159 = .ok (.goto (-90), 3) := by decide +kernel
theorem dX5_eaters_162 : decode cX5_eaters 162 = .ok (.iload 5, 2) := by decide +kernel
theorem dX5_eaters_164 : decode cX5_eaters 164 = .ok (.ireturn, 1) := by decide +kernel
theorem dX5_taken_0 : decode cX5_taken 0 = .ok (.iload_n 2, 1) := by decide +kernel
theorem dX5_taken_1 : decode cX5_taken 1 = .ok (.ifCond .lt 9, 3) := by decide +kernel
theorem dX5_taken_4 : decode cX5_taken 4 = .ok (.iload_n 2, 1) := by decide +kernel
theorem dX5_taken_5 : decode cX5_taken 5 = .ok (.bipush 6, 2) := by decide +kernel
theorem dX5_taken_7 : decode cX5_taken 7 = .ok (.if_icmp .lt 6, 3) := by decide +kernel
theorem dX5_taken_10 : decode cX5_taken 10 = .ok (.bipush (-2), 2) := by decide +kernel
theorem dX5_taken_12 : decode cX5_taken 12 = .ok (.ireturn, 1) := by decide +kernel
theorem dX5_taken_13 : decode cX5_taken 13 = .ok (.aload_n 0, 1) := by decide +kernel
theorem dX5_taken_14 : decode cX5_taken 14 = .ok (.getfield 10, 3) := by decide +kernel
theorem dX5_taken_17 : decode cX5_taken 17 = .ok (.iload_n 1, 1) := by decide +kernel
theorem dX5_taken_18 : decode cX5_taken 18 = .ok (.invokevirtual 77, 3) := by decide +kernel
theorem dX5_taken_21 : decode cX5_taken 21 = .ok (.ifCond .ne 6, 3) := by decide +kernel
theorem dX5_taken_24 : decode cX5_taken 24 = .ok (.bipush (-11), 2) := by decide +kernel
theorem dX5_taken_26 : decode cX5_taken 26 = .ok (.ireturn, 1) := by decide +kernel
theorem dX5_taken_27 : decode cX5_taken 27 = .ok (.aload_n 0, 1) := by decide +kernel
theorem dX5_taken_28 : decode cX5_taken 28 = .ok (.getfield 10, 3) := by decide +kernel
theorem dX5_taken_31 : decode cX5_taken 31 = .ok (.getfield 81, 3) := by decide +kernel
theorem dX5_taken_34 : decode cX5_taken 34 = .ok (.iload_n 1, 1) := by decide +kernel
theorem dX5_taken_35 : decode cX5_taken 35 = .ok (.iaload, 1) := by decide +kernel
theorem dX5_taken_36 : decode cX5_taken 36 = .ok (.iload_n 2, 1) := by decide +kernel
theorem dX5_taken_37 : decode cX5_taken 37 = .ok (.invokestatic 236, 3) := by decide +kernel
theorem dX5_taken_40 : decode cX5_taken 40 = .ok (.ifCond .eq 15, 3) := by decide +kernel
theorem dX5_taken_43 : decode cX5_taken 43 = .ok (.aload_n 0, 1) := by decide +kernel
theorem dX5_taken_44 : decode cX5_taken 44 = .ok (.getfield 10, 3) := by decide +kernel
theorem dX5_taken_47 : decode cX5_taken 47 = .ok (.getfield 91, 3) := by decide +kernel
theorem dX5_taken_50 : decode cX5_taken 50 = .ok (.iload_n 1, 1) := by decide +kernel
theorem dX5_taken_51 : decode cX5_taken 51 = .ok (.iaload, 1) := by decide +kernel
theorem dX5_taken_52 : decode cX5_taken 52 = .ok (.goto 5, 3) := by decide +kernel
theorem dX5_taken_55 : decode cX5_taken 55 = .ok (.bipush (-13), 2) := by decide +kernel
theorem dX5_taken_57 : decode cX5_taken 57 = .ok (.ireturn, 1) := by decide +kernel
theorem dX5_eatsOf_0 : decode cX5_eatsOf 0 = .ok (.iload_n 1, 1) := by decide +kernel
theorem dX5_eatsOf_1 : decode cX5_eatsOf 1 = .ok (.istore_n 2, 1) := by decide +kernel
theorem dX5_eatsOf_2 : decode cX5_eatsOf 2 = .ok (.iload_n 0, 1) := by decide +kernel
theorem dX5_eatsOf_3 : decode cX5_eatsOf 3 = .ok (.tableswitch 63 1 5 #[33, 63, 40, 49, 56], 33) := by decide +kernel
theorem dX5_eatsOf_36 : decode cX5_eatsOf 36 = .ok (.iload_n 1, 1) := by decide +kernel
theorem dX5_eatsOf_37 : decode cX5_eatsOf 37 = .ok (.iconst 2, 1) := by decide +kernel
theorem dX5_eatsOf_38 : decode cX5_eatsOf 38 = .ok (.idiv, 1) := by decide +kernel
theorem dX5_eatsOf_39 : decode cX5_eatsOf 39 = .ok (.istore_n 2, 1) := by decide +kernel
theorem dX5_eatsOf_40 : decode cX5_eatsOf 40 = .ok (.goto 26, 3) := by decide +kernel
theorem dX5_eatsOf_43 : decode cX5_eatsOf 43 = .ok (.iload_n 1, 1) := by decide +kernel
theorem dX5_eatsOf_44 : decode cX5_eatsOf 44 = .ok (.iconst 2, 1) := by decide +kernel
theorem dX5_eatsOf_45 : decode cX5_eatsOf 45 = .ok (.idiv, 1) := by decide +kernel
theorem dX5_eatsOf_46 : decode cX5_eatsOf 46 = .ok (.iconst 1, 1) := by decide +kernel
theorem dX5_eatsOf_47 : decode cX5_eatsOf 47 = .ok (.isub, 1) := by decide +kernel
theorem dX5_eatsOf_48 : decode cX5_eatsOf 48 = .ok (.istore_n 2, 1) := by decide +kernel
theorem dX5_eatsOf_49 : decode cX5_eatsOf 49 = .ok (.goto 17, 3) := by decide +kernel
theorem dX5_eatsOf_52 : decode cX5_eatsOf 52 = .ok (.iload_n 1, 1) := by decide +kernel
theorem dX5_eatsOf_53 : decode cX5_eatsOf 53 = .ok (.iconst 2, 1) := by decide +kernel
theorem dX5_eatsOf_54 : decode cX5_eatsOf 54 = .ok (.iadd, 1) := by decide +kernel
theorem dX5_eatsOf_55 : decode cX5_eatsOf 55 = .ok (.istore_n 2, 1) := by decide +kernel
theorem dX5_eatsOf_56 : decode cX5_eatsOf 56 = .ok (.goto 10, 3) := by decide +kernel
theorem dX5_eatsOf_59 : decode cX5_eatsOf 59 = .ok (.iload_n 1, 1) := by decide +kernel
theorem dX5_eatsOf_60 : decode cX5_eatsOf 60 = .ok (.iconst 2, 1) := by decide +kernel
theorem dX5_eatsOf_61 : decode cX5_eatsOf 61 = .ok (.imul, 1) := by decide +kernel
theorem dX5_eatsOf_62 : decode cX5_eatsOf 62 = .ok (.istore_n 2, 1) := by decide +kernel
theorem dX5_eatsOf_63 : decode cX5_eatsOf 63 = .ok (.goto 3, 3) := by decide +kernel
theorem dX5_eatsOf_66 : decode cX5_eatsOf 66 = .ok (.iconst 1, 1) := by decide +kernel
theorem dX5_eatsOf_67 : decode cX5_eatsOf 67 = .ok (.iload_n 2, 1) := by decide +kernel
theorem dX5_eatsOf_68 : decode cX5_eatsOf 68 = .ok (.invokestatic 205, 3) := by decide +kernel
theorem dX5_eatsOf_71 : decode cX5_eatsOf 71 = .ok (.ireturn, 1) := by decide +kernel
theorem dX5_hungersOf_0 : decode cX5_hungersOf 0 = .ok (.iload_n 2, 1) := by decide +kernel
theorem dX5_hungersOf_1 : decode cX5_hungersOf 1 = .ok (.istore 5, 2) := by decide +kernel
theorem dX5_hungersOf_3 : decode cX5_hungersOf 3 = .ok (.iload_n 0, 1) := by decide +kernel
theorem dX5_hungersOf_4 : decode cX5_hungersOf 4 = .ok (.tableswitch 108 1 5 #[36, 44, 60, 80, 98], 36) := by decide +kernel
theorem dX5_hungersOf_40 : decode cX5_hungersOf 40 = .ok (.iload_n 1, 1) := by decide +kernel
theorem dX5_hungersOf_41 : decode cX5_hungersOf 41 = .ok (.iload_n 2, 1) := by decide +kernel
theorem dX5_hungersOf_42 : decode cX5_hungersOf 42 = .ok (.iadd, 1) := by decide +kernel
theorem dX5_hungersOf_43 : decode cX5_hungersOf 43 = .ok (.istore 5, 2) := by decide +kernel
theorem dX5_hungersOf_45 : decode cX5_hungersOf 45 = .ok (.goto 67, 3) := by decide +kernel
theorem dX5_hungersOf_48 : decode cX5_hungersOf 48 = .ok (.iload_n 3, 1) := by decide +kernel
theorem dX5_hungersOf_49 : decode cX5_hungersOf 49 = .ok (.iload 4, 2) := by decide +kernel
theorem dX5_hungersOf_51 : decode cX5_hungersOf 51 = .ok (.if_icmp .le 7, 3) := by decide +kernel
theorem dX5_hungersOf_54 : decode cX5_hungersOf 54 = .ok (.iconst 0, 1) := by decide +kernel
theorem dX5_hungersOf_55 : decode cX5_hungersOf 55 = .ok (.goto 4, 3) := by decide +kernel
theorem dX5_hungersOf_58 : decode cX5_hungersOf 58 = .ok (.iload_n 2, 1) := by decide +kernel
theorem dX5_hungersOf_59 : decode cX5_hungersOf 59 = .ok (.istore 5, 2) := by decide +kernel
theorem dX5_hungersOf_61 : decode cX5_hungersOf 61 = .ok (.goto 51, 3) := by decide +kernel
theorem dX5_hungersOf_64 : decode cX5_hungersOf 64 = .ok (.iload_n 3, 1) := by decide +kernel
theorem dX5_hungersOf_65 : decode cX5_hungersOf 65 = .ok (.ifCond .ne 11, 3) := by decide +kernel
theorem dX5_hungersOf_68 : decode cX5_hungersOf 68 = .ok (.iconst 2, 1) := by decide +kernel
theorem dX5_hungersOf_69 : decode cX5_hungersOf 69 = .ok (.iload_n 1, 1) := by decide +kernel
theorem dX5_hungersOf_70 : decode cX5_hungersOf 70 = .ok (.iload_n 2, 1) := by decide +kernel
theorem dX5_hungersOf_71 : decode cX5_hungersOf 71 = .ok (.iadd, 1) := by decide +kernel
theorem dX5_hungersOf_72 : decode cX5_hungersOf 72 = .ok (.imul, 1) := by decide +kernel
theorem dX5_hungersOf_73 : decode cX5_hungersOf 73 = .ok (.goto 6, 3) := by decide +kernel
theorem dX5_hungersOf_76 : decode cX5_hungersOf 76 = .ok (.iload_n 1, 1) := by decide +kernel
theorem dX5_hungersOf_77 : decode cX5_hungersOf 77 = .ok (.iload_n 2, 1) := by decide +kernel
theorem dX5_hungersOf_78 : decode cX5_hungersOf 78 = .ok (.iadd, 1) := by decide +kernel
theorem dX5_hungersOf_79 : decode cX5_hungersOf 79 = .ok (.istore 5, 2) := by decide +kernel
theorem dX5_hungersOf_81 : decode cX5_hungersOf 81 = .ok (.goto 31, 3) := by decide +kernel
theorem dX5_hungersOf_84 : decode cX5_hungersOf 84 = .ok (.iload_n 3, 1) := by decide +kernel
theorem dX5_hungersOf_85 : decode cX5_hungersOf 85 = .ok (.iload 4, 2) := by decide +kernel
theorem dX5_hungersOf_87 : decode cX5_hungersOf 87 = .ok (.if_icmp .le 7, 3) := by decide +kernel
theorem dX5_hungersOf_90 : decode cX5_hungersOf 90 = .ok (.iconst 0, 1) := by decide +kernel
theorem dX5_hungersOf_91 : decode cX5_hungersOf 91 = .ok (.goto 6, 3) := by decide +kernel
theorem dX5_hungersOf_94 : decode cX5_hungersOf 94 = .ok (.iload_n 2, 1) := by decide +kernel
theorem dX5_hungersOf_95 : decode cX5_hungersOf 95 = .ok (.iconst 2, 1) := by decide +kernel
theorem dX5_hungersOf_96 : decode cX5_hungersOf 96 = .ok (.idiv, 1) := by decide +kernel
theorem dX5_hungersOf_97 : decode cX5_hungersOf 97 = .ok (.istore 5, 2) := by decide +kernel
theorem dX5_hungersOf_99 : decode cX5_hungersOf 99 = .ok (.goto 13, 3) := by decide +kernel
theorem dX5_hungersOf_102 : decode cX5_hungersOf 102 = .ok (.iconst 5, 1) := by decide +kernel
theorem dX5_hungersOf_103 : decode cX5_hungersOf 103 = .ok (.iload_n 2, 1) := by decide +kernel
theorem dX5_hungersOf_104 : decode cX5_hungersOf 104 = .ok (.invokestatic 240, 3) := by decide +kernel
theorem dX5_hungersOf_107 : decode cX5_hungersOf 107 = .ok (.istore 5, 2) := by decide +kernel
theorem dX5_hungersOf_109 : decode cX5_hungersOf 109 = .ok (.goto 3, 3) := by decide +kernel
theorem dX5_hungersOf_112 : decode cX5_hungersOf 112 = .ok (.iconst 0, 1) := by decide +kernel
theorem dX5_hungersOf_113 : decode cX5_hungersOf 113 = .ok (.iload 5, 2) := by decide +kernel
theorem dX5_hungersOf_115 : decode cX5_hungersOf 115 = .ok (.invokestatic 205, 3) := by decide +kernel
theorem dX5_hungersOf_118 : decode cX5_hungersOf 118 = .ok (.ireturn, 1) := by decide +kernel
theorem dX5_kindAbove_0 : decode cX5_kindAbove 0 = .ok (.iload_n 0, 1) := by decide +kernel
theorem dX5_kindAbove_1 : decode cX5_kindAbove 1 = .ok (.tableswitch 41 1 5 #[35, 35, 37, 39, 35], 35) := by decide +kernel
theorem dX5_kindAbove_36 : decode cX5_kindAbove 36 = .ok (.iconst 0, 1) := by decide +kernel
theorem dX5_kindAbove_37 : decode cX5_kindAbove 37 = .ok (.ireturn, 1) := by decide +kernel
theorem dX5_kindAbove_38 : decode cX5_kindAbove 38 = .ok (.iconst 1, 1) := by decide +kernel
theorem dX5_kindAbove_39 : decode cX5_kindAbove 39 = .ok (.ireturn, 1) := by decide +kernel
theorem dX5_kindAbove_40 : decode cX5_kindAbove 40 = .ok (.iconst 2, 1) := by decide +kernel
theorem dX5_kindAbove_41 : decode cX5_kindAbove 41 = .ok (.ireturn, 1) := by decide +kernel
theorem dX5_kindAbove_42 : decode cX5_kindAbove 42 = .ok (.iconst (-1), 1) := by decide +kernel
theorem dX5_kindAbove_43 : decode cX5_kindAbove 43 = .ok (.ireturn, 1) := by decide +kernel
theorem dX5_isUnder_0 : decode cX5_isUnder 0 = .ok (.iload_n 0, 1) := by decide +kernel
theorem dX5_isUnder_1 : decode cX5_isUnder 1 = .ok (.istore_n 2, 1) := by decide +kernel
theorem dX5_isUnder_2 : decode cX5_isUnder 2 = .ok (.iconst 0, 1) := by decide +kernel
theorem dX5_isUnder_3 : decode cX5_isUnder 3 = .ok (.istore_n 3, 1) := by decide +kernel
theorem dX5_isUnder_4 : decode cX5_isUnder 4 = .ok (.iload_n 3, 1) := by decide +kernel
theorem dX5_isUnder_5 : decode cX5_isUnder 5 = .ok (.bipush 6, 2) := by decide +kernel
theorem dX5_isUnder_7 : decode cX5_isUnder 7 = .ok (.if_icmp .ge 26, 3) := by decide +kernel
theorem dX5_isUnder_10 : decode cX5_isUnder 10 = .ok (.iload_n 2, 1) := by decide +kernel
theorem dX5_isUnder_11 : decode cX5_isUnder 11 = .ok (.iconst (-1), 1) := by decide +kernel
theorem dX5_isUnder_12 : decode cX5_isUnder 12 = .ok (.if_icmp .eq 21, 3) := by decide +kernel
theorem dX5_isUnder_15 : decode cX5_isUnder 15 = .ok (.iload_n 2, 1) := by decide +kernel
theorem dX5_isUnder_16 : decode cX5_isUnder 16 = .ok (.iload_n 1, 1) := by decide +kernel
theorem dX5_isUnder_17 : decode cX5_isUnder 17 = .ok (.if_icmp .ne 5, 3) := by decide +kernel
theorem dX5_isUnder_20 : decode cX5_isUnder 20 = .ok (.iconst 1, 1) := by decide +kernel
theorem dX5_isUnder_21 : decode cX5_isUnder 21 = .ok (.ireturn, 1) := by decide +kernel
theorem dX5_isUnder_22 : decode cX5_isUnder 22 = .ok (.iload_n 2, 1) := by decide +kernel
theorem dX5_isUnder_23 : decode cX5_isUnder 23 = .ok (.invokestatic 243, 3) := by decide +kernel
theorem dX5_isUnder_26 : decode cX5_isUnder 26 = .ok (.istore_n 2, 1) := by decide +kernel
theorem dX5_isUnder_27 : decode cX5_isUnder 27 = .ok (.iinc 3 1, 3) := by decide +kernel
theorem dX5_isUnder_30 : decode cX5_isUnder 30 = .ok (.goto (-26), 3) := by decide +kernel
theorem dX5_isUnder_33 : decode cX5_isUnder 33 = .ok (.iconst 0, 1) := by decide +kernel
theorem dX5_isUnder_34 : decode cX5_isUnder 34 = .ok (.ireturn, 1) := by decide +kernel
theorem dX5_waysTo_0 : decode cX5_waysTo 0 = .ok (.iconst 0, 1) := by decide +kernel
theorem dX5_waysTo_1 : decode cX5_waysTo 1 = .ok (.istore_n 2, 1) := by decide +kernel
theorem dX5_waysTo_2 : decode cX5_waysTo 2 = .ok (.iconst 1, 1) := by decide +kernel
theorem dX5_waysTo_3 : decode cX5_waysTo 3 = .ok (.istore_n 3, 1) := by decide +kernel
theorem dX5_waysTo_4 : decode cX5_waysTo 4 = .ok (.iload_n 3, 1) := by decide +kernel
theorem dX5_waysTo_5 : decode cX5_waysTo 5 = .ok (.iconst 3, 1) := by decide +kernel
theorem dX5_waysTo_6 : decode cX5_waysTo 6 = .ok (.if_icmp .gt 93, 3) := by decide +kernel
theorem dX5_waysTo_9 : decode cX5_waysTo 9 = .ok (.aload_n 0, 1) := by decide +kernel
theorem dX5_waysTo_10 : decode cX5_waysTo 10 = .ok (.getfield 45, 3) := by decide +kernel
theorem dX5_waysTo_13 : decode cX5_waysTo 13 = .ok (.iload_n 3, 1) := by decide +kernel
theorem dX5_waysTo_14 : decode cX5_waysTo 14 = .ok (.invokevirtual 149, 3) := by decide +kernel
theorem dX5_waysTo_17 : decode cX5_waysTo 17 = .ok (.iconst 1, 1) := by decide +kernel
theorem dX5_waysTo_18 : decode cX5_waysTo 18 = .ok (.istore 4, 2) := by decide +kernel
theorem dX5_waysTo_20 : decode cX5_waysTo 20 = .ok (.iconst 0, 1) := by decide +kernel
theorem dX5_waysTo_21 : decode cX5_waysTo 21 = .ok (.istore 5, 2) := by decide +kernel
theorem dX5_waysTo_23 : decode cX5_waysTo 23 = .ok (.iload 5, 2) := by decide +kernel
theorem dX5_waysTo_25 : decode cX5_waysTo 25 = .ok (.iconst 5, 1) := by decide +kernel
theorem dX5_waysTo_26 : decode cX5_waysTo 26 = .ok (.if_icmp .ge 56, 3) := by decide +kernel
theorem dX5_waysTo_29 : decode cX5_waysTo 29 = .ok (.iload 5, 2) := by decide +kernel
theorem dX5_waysTo_31 : decode cX5_waysTo 31 = .ok (.aload_n 0, 1) := by decide +kernel
theorem dX5_waysTo_32 : decode cX5_waysTo 32 = .ok (.getfield 10, 3) := by decide +kernel
theorem dX5_waysTo_35 : decode cX5_waysTo 35 = .ok (.getfield 158, 3) := by decide +kernel
theorem dX5_waysTo_38 : decode cX5_waysTo 38 = .ok (.if_icmp .ge 44, 3) := by decide +kernel
theorem dX5_waysTo_41 : decode cX5_waysTo 41 = .ok (.iload 4, 2) := by decide +kernel
theorem dX5_waysTo_43 : decode cX5_waysTo 43 = .ok (.ifCond .eq 30, 3) := by decide +kernel
theorem dX5_waysTo_46 : decode cX5_waysTo 46 = .ok (.aload_n 0, 1) := by decide +kernel
theorem dX5_waysTo_47 : decode cX5_waysTo 47 = .ok (.getfield 45, 3) := by decide +kernel
theorem dX5_waysTo_50 : decode cX5_waysTo 50 = .ok (.getfield 193, 3) := by decide +kernel
theorem dX5_waysTo_53 : decode cX5_waysTo 53 = .ok (.iload 5, 2) := by decide +kernel
theorem dX5_waysTo_55 : decode cX5_waysTo 55 = .ok (.iaload, 1) := by decide +kernel
theorem dX5_waysTo_56 : decode cX5_waysTo 56 = .ok (.aload_n 0, 1) := by decide +kernel
theorem dX5_waysTo_57 : decode cX5_waysTo 57 = .ok (.getfield 36, 3) := by decide +kernel
theorem dX5_waysTo_60 : decode cX5_waysTo 60 = .ok (.iload_n 1, 1) := by decide +kernel
theorem dX5_waysTo_61 : decode cX5_waysTo 61 = .ok (.iload 5, 2) := by decide +kernel
theorem dX5_waysTo_63 : decode cX5_waysTo 63 = .ok (.invokevirtual 146, 3) := by decide +kernel
theorem dX5_waysTo_66 : decode cX5_waysTo 66 = .ok (.if_icmp .ne 7, 3) := by decide +kernel
theorem dX5_waysTo_69 : decode cX5_waysTo 69 = .ok (.iconst 1, 1) := by decide +kernel
theorem dX5_waysTo_70 : decode cX5_waysTo 70 = .ok (.goto 4, 3) := by decide +kernel
theorem dX5_waysTo_73 : decode cX5_waysTo 73 = .ok (.iconst 0, 1) := by decide +kernel
theorem dX5_waysTo_74 : decode cX5_waysTo 74 = .ok (.istore 4, 2) := by decide +kernel
theorem dX5_waysTo_76 : decode cX5_waysTo 76 = .ok (.iinc 5 1, 3) := by decide +kernel
theorem dX5_waysTo_79 : decode cX5_waysTo 79 = .ok (.goto (-56), 3) := by decide +kernel
theorem dX5_waysTo_82 : decode cX5_waysTo 82 = .ok (.iload 4, 2) := by decide +kernel
theorem dX5_waysTo_84 : decode cX5_waysTo 84 = .ok (.ifCond .eq 9, 3) := by decide +kernel
theorem dX5_waysTo_87 : decode cX5_waysTo 87 = .ok (.iload_n 2, 1) := by decide +kernel
theorem dX5_waysTo_88 : decode cX5_waysTo 88 = .ok (.iconst 1, 1) := by decide +kernel
theorem dX5_waysTo_89 : decode cX5_waysTo 89 = .ok (.iload_n 3, 1) := by decide +kernel
theorem dX5_waysTo_90 : decode cX5_waysTo 90 = .ok (.ishl, 1) := by decide +kernel
theorem dX5_waysTo_91 : decode cX5_waysTo 91 = .ok (.ior, 1) := by decide +kernel
theorem dX5_waysTo_92 : decode cX5_waysTo 92 = .ok (.istore_n 2, 1) := by decide +kernel
theorem dX5_waysTo_93 : decode cX5_waysTo 93 = .ok (.iinc 3 1, 3) := by decide +kernel
theorem dX5_waysTo_96 : decode cX5_waysTo 96 = .ok (.goto (-92), 3) := by decide +kernel
theorem dX5_waysTo_99 : decode cX5_waysTo 99 = .ok (.iload_n 2, 1) := by decide +kernel
theorem dX5_waysTo_100 : decode cX5_waysTo 100 = .ok (.ireturn, 1) := by decide +kernel
theorem dX5_ordersTo_0 : decode cX5_ordersTo 0 = .ok (.aload_n 0, 1) := by decide +kernel
theorem dX5_ordersTo_1 : decode cX5_ordersTo 1 = .ok (.getfield 45, 3) := by decide +kernel
theorem dX5_ordersTo_4 : decode cX5_ordersTo 4 = .ok (.invokevirtual 218, 3) := by decide +kernel
theorem dX5_ordersTo_7 : decode cX5_ordersTo 7 = .ok (.istore_n 2, 1) := by decide +kernel
theorem dX5_ordersTo_8 : decode cX5_ordersTo 8 = .ok (.lconst 1, 1) := by decide +kernel
theorem dX5_ordersTo_9 : decode cX5_ordersTo 9 = .ok (.lstore_n 3, 1) := by decide +kernel
theorem dX5_ordersTo_10 : decode cX5_ordersTo 10 = .ok (.iconst 0, 1) := by decide +kernel
theorem dX5_ordersTo_11 : decode cX5_ordersTo 11 = .ok (.istore 5, 2) := by decide +kernel
theorem dX5_ordersTo_13 : decode cX5_ordersTo 13 = .ok (.iload 5, 2) := by decide +kernel
theorem dX5_ordersTo_15 : decode cX5_ordersTo 15 = .ok (.iconst 5, 1) := by decide +kernel
theorem dX5_ordersTo_16 : decode cX5_ordersTo 16 = .ok (.if_icmp .ge 60, 3) := by decide +kernel
theorem dX5_ordersTo_19 : decode cX5_ordersTo 19 = .ok (.iload 5, 2) := by decide +kernel
theorem dX5_ordersTo_21 : decode cX5_ordersTo 21 = .ok (.aload_n 0, 1) := by decide +kernel
theorem dX5_ordersTo_22 : decode cX5_ordersTo 22 = .ok (.getfield 10, 3) := by decide +kernel
theorem dX5_ordersTo_25 : decode cX5_ordersTo 25 = .ok (.getfield 158, 3) := by decide +kernel
theorem dX5_ordersTo_28 : decode cX5_ordersTo 28 = .ok (.if_icmp .ge 48, 3) := by decide +kernel
theorem dX5_ordersTo_31 : decode cX5_ordersTo 31 = .ok (.aload_n 0, 1) := by decide +kernel
theorem dX5_ordersTo_32 : decode cX5_ordersTo 32 = .ok (.getfield 36, 3) := by decide +kernel
theorem dX5_ordersTo_35 : decode cX5_ordersTo 35 = .ok (.iload_n 1, 1) := by decide +kernel
theorem dX5_ordersTo_36 : decode cX5_ordersTo 36 = .ok (.iload 5, 2) := by decide +kernel
theorem dX5_ordersTo_38 : decode cX5_ordersTo 38 = .ok (.invokevirtual 146, 3) := by decide +kernel
theorem dX5_ordersTo_41 : decode cX5_ordersTo 41 = .ok (.istore 6, 2) := by decide +kernel
theorem dX5_ordersTo_43 : decode cX5_ordersTo 43 = .ok (.iload 6, 2) := by decide +kernel
theorem dX5_ordersTo_45 : decode cX5_ordersTo 45 = .ok (.ifCond .lt 9, 3) := by decide +kernel
theorem dX5_ordersTo_48 : decode cX5_ordersTo 48 = .ok (.iload 6, 2) := by decide +kernel
theorem dX5_ordersTo_50 : decode cX5_ordersTo 50 = .ok (.iload_n 2, 1) := by decide +kernel
theorem dX5_ordersTo_51 : decode cX5_ordersTo 51 = .ok (.if_icmp .le 5, 3) := by decide +kernel
theorem dX5_ordersTo_54 : decode cX5_ordersTo 54 = .ok (.lconst 0, 1) := by decide +kernel
theorem dX5_ordersTo_55 : decode cX5_ordersTo 55 = .ok (.lreturn, 1) := by decide +kernel
theorem dX5_ordersTo_56 : decode cX5_ordersTo 56 = .ok (.lload_n 3, 1) := by decide +kernel
theorem dX5_ordersTo_57 : decode cX5_ordersTo 57 = .ok (.iload_n 2, 1) := by decide +kernel
theorem dX5_ordersTo_58 : decode cX5_ordersTo 58 = .ok (.iload 6, 2) := by decide +kernel
theorem dX5_ordersTo_60 : decode cX5_ordersTo 60 = .ok (.invokestatic 246, 3) := by decide +kernel
theorem dX5_ordersTo_63 : decode cX5_ordersTo 63 = .ok (.lmul, 1) := by decide +kernel
theorem dX5_ordersTo_64 : decode cX5_ordersTo 64 = .ok (.lstore_n 3, 1) := by decide +kernel
theorem dX5_ordersTo_65 : decode cX5_ordersTo 65 = .ok (.iload_n 2, 1) := by decide +kernel
theorem dX5_ordersTo_66 : decode cX5_ordersTo 66 = .ok (.iload 6, 2) := by decide +kernel
theorem dX5_ordersTo_68 : decode cX5_ordersTo 68 = .ok (.isub, 1) := by decide +kernel
theorem dX5_ordersTo_69 : decode cX5_ordersTo 69 = .ok (.istore_n 2, 1) := by decide +kernel
theorem dX5_ordersTo_70 : decode cX5_ordersTo 70 = .ok (.iinc 5 1, 3) := by decide +kernel
theorem dX5_ordersTo_73 : decode cX5_ordersTo 73 = .ok (.goto (-60), 3) := by decide +kernel
theorem dX5_ordersTo_76 : decode cX5_ordersTo 76 = .ok (.iload_n 2, 1) := by decide +kernel
theorem dX5_ordersTo_77 : decode cX5_ordersTo 77 = .ok (.ifCond .ne 7, 3) := by decide +kernel
theorem dX5_ordersTo_80 : decode cX5_ordersTo 80 = .ok (.lload_n 3, 1) := by decide +kernel
theorem dX5_ordersTo_81 : decode cX5_ordersTo 81 = .ok (.goto 4, 3) := by decide +kernel
theorem dX5_ordersTo_84 : decode cX5_ordersTo 84 = .ok (.lconst 0, 1) := by decide +kernel
theorem dX5_ordersTo_85 : decode cX5_ordersTo 85 = .ok (.lreturn, 1) := by decide +kernel
theorem dX5_choices_0 : decode cX5_choices 0 = .ok (.lconst 1, 1) := by decide +kernel
theorem dX5_choices_1 : decode cX5_choices 1 = .ok (.lstore_n 2, 1) := by decide +kernel
theorem dX5_choices_2 : decode cX5_choices 2 = .ok (.iconst 0, 1) := by decide +kernel
theorem dX5_choices_3 : decode cX5_choices 3 = .ok (.istore 4, 2) := by decide +kernel
theorem dX5_choices_5 : decode cX5_choices 5 = .ok (.iload 4, 2) := by decide +kernel
theorem dX5_choices_7 : decode cX5_choices 7 = .ok (.iload_n 1, 1) := by decide +kernel
theorem dX5_choices_8 : decode cX5_choices 8 = .ok (.if_icmp .ge 30, 3) := by decide +kernel
theorem dX5_choices_11 : decode cX5_choices 11 = .ok (.iload 4, 2) := by decide +kernel
theorem dX5_choices_13 : decode cX5_choices 13 = .ok (.bipush 12, 2) := by decide +kernel
theorem dX5_choices_15 : decode cX5_choices 15 = .ok (.if_icmp .ge 23, 3) := by decide +kernel
theorem dX5_choices_18 : decode cX5_choices 18 = .ok (.lload_n 2, 1) := by decide +kernel
theorem dX5_choices_19 : decode cX5_choices 19 = .ok (.iload_n 0, 1) := by decide +kernel
theorem dX5_choices_20 : decode cX5_choices 20 = .ok (.iload 4, 2) := by decide +kernel
theorem dX5_choices_22 : decode cX5_choices 22 = .ok (.isub, 1) := by decide +kernel
theorem dX5_choices_23 : decode cX5_choices 23 = .ok (.i2l, 1) := by decide +kernel
theorem dX5_choices_24 : decode cX5_choices 24 = .ok (.lmul, 1) := by decide +kernel
theorem dX5_choices_25 : decode cX5_choices 25 = .ok (.iload 4, 2) := by decide +kernel
theorem dX5_choices_27 : decode cX5_choices 27 = .ok (.iconst 1, 1) := by decide +kernel
theorem dX5_choices_28 : decode cX5_choices 28 = .ok (.iadd, 1) := by decide +kernel
theorem dX5_choices_29 : decode cX5_choices 29 = .ok (.i2l, 1) := by decide +kernel
theorem dX5_choices_30 : decode cX5_choices 30 = .ok (.ldiv, 1) := by decide +kernel
theorem dX5_choices_31 : decode cX5_choices 31 = .ok (.lstore_n 2, 1) := by decide +kernel
theorem dX5_choices_32 : decode cX5_choices 32 = .ok (.iinc 4 1, 3) := by decide +kernel
theorem dX5_choices_35 : decode cX5_choices 35 = .ok (.goto (-30), 3) := by decide +kernel
theorem dX5_choices_38 : decode cX5_choices 38 = .ok (.lload_n 2, 1) := by decide +kernel
theorem dX5_choices_39 : decode cX5_choices 39 = .ok (.lreturn, 1) := by decide +kernel
theorem dX5_notSo_0 : decode cX5_notSo 0 = .ok (.aload_n 0, 1) := by decide +kernel
theorem dX5_notSo_1 : decode cX5_notSo 1 = .ok (.getfield 45, 3) := by decide +kernel
theorem dX5_notSo_4 : decode cX5_notSo 4 = .ok (.iconst 1, 1) := by decide +kernel
theorem dX5_notSo_5 : decode cX5_notSo 5 = .ok (.invokevirtual 149, 3) := by decide +kernel
theorem dX5_notSo_8 : decode cX5_notSo 8 = .ok (.iconst 0, 1) := by decide +kernel
theorem dX5_notSo_9 : decode cX5_notSo 9 = .ok (.istore_n 2, 1) := by decide +kernel
theorem dX5_notSo_10 : decode cX5_notSo 10 = .ok (.iconst 0, 1) := by decide +kernel
theorem dX5_notSo_11 : decode cX5_notSo 11 = .ok (.istore_n 3, 1) := by decide +kernel
theorem dX5_notSo_12 : decode cX5_notSo 12 = .ok (.iload_n 3, 1) := by decide +kernel
theorem dX5_notSo_13 : decode cX5_notSo 13 = .ok (.iconst 5, 1) := by decide +kernel
theorem dX5_notSo_14 : decode cX5_notSo 14 = .ok (.if_icmp .ge 46, 3) := by decide +kernel
theorem dX5_notSo_17 : decode cX5_notSo 17 = .ok (.iload_n 3, 1) := by decide +kernel
theorem dX5_notSo_18 : decode cX5_notSo 18 = .ok (.aload_n 0, 1) := by decide +kernel
theorem dX5_notSo_19 : decode cX5_notSo 19 = .ok (.getfield 10, 3) := by decide +kernel
theorem dX5_notSo_22 : decode cX5_notSo 22 = .ok (.getfield 158, 3) := by decide +kernel
theorem dX5_notSo_25 : decode cX5_notSo 25 = .ok (.if_icmp .ge 35, 3) := by decide +kernel
theorem dX5_notSo_28 : decode cX5_notSo 28 = .ok (.aload_n 0, 1) := by decide +kernel
theorem dX5_notSo_29 : decode cX5_notSo 29 = .ok (.getfield 45, 3) := by decide +kernel
theorem dX5_notSo_32 : decode cX5_notSo 32 = .ok (.iload_n 3, 1) := by decide +kernel
theorem dX5_notSo_33 : decode cX5_notSo 33 = .ok (.invokevirtual 250, 3) := by decide +kernel
theorem dX5_notSo_36 : decode cX5_notSo 36 = .ok (.aload_n 0, 1) := by decide +kernel
theorem dX5_notSo_37 : decode cX5_notSo 37 = .ok (.getfield 36, 3) := by decide +kernel
theorem dX5_notSo_40 : decode cX5_notSo 40 = .ok (.iload_n 1, 1) := by decide +kernel
theorem dX5_notSo_41 : decode cX5_notSo 41 = .ok (.iload_n 3, 1) := by decide +kernel
theorem dX5_notSo_42 : decode cX5_notSo 42 = .ok (.invokevirtual 146, 3) := by decide +kernel
theorem dX5_notSo_45 : decode cX5_notSo 45 = .ok (.if_icmp .eq 9, 3) := by decide +kernel
theorem dX5_notSo_48 : decode cX5_notSo 48 = .ok (.iload_n 2, 1) := by decide +kernel
theorem dX5_notSo_49 : decode cX5_notSo 49 = .ok (.iconst 1, 1) := by decide +kernel
theorem dX5_notSo_50 : decode cX5_notSo 50 = .ok (.iload_n 3, 1) := by decide +kernel
theorem dX5_notSo_51 : decode cX5_notSo 51 = .ok (.ishl, 1) := by decide +kernel
theorem dX5_notSo_52 : decode cX5_notSo 52 = .ok (.ior, 1) := by decide +kernel
theorem dX5_notSo_53 : decode cX5_notSo 53 = .ok (.istore_n 2, 1) := by decide +kernel
theorem dX5_notSo_54 : decode cX5_notSo 54 = .ok (.iinc 3 1, 3) := by decide +kernel
theorem dX5_notSo_57 : decode cX5_notSo 57 = .ok (.goto (-45), 3) := by decide +kernel
theorem dX5_notSo_60 : decode cX5_notSo 60 = .ok (.iload_n 2, 1) := by decide +kernel
theorem dX5_notSo_61 : decode cX5_notSo 61 = .ok (.ireturn, 1) := by decide +kernel
theorem dX5_pacesOf_0 : decode cX5_pacesOf 0 = .ok (.iconst 0, 1) := by decide +kernel
theorem dX5_pacesOf_1 : decode cX5_pacesOf 1 = .ok (.istore_n 3, 1) := by decide +kernel
theorem dX5_pacesOf_2 : decode cX5_pacesOf 2 = .ok (.iconst 1, 1) := by decide +kernel
theorem dX5_pacesOf_3 : decode cX5_pacesOf 3 = .ok (.istore 4, 2) := by decide +kernel
theorem dX5_pacesOf_5 : decode cX5_pacesOf 5 = .ok (.iload 4, 2) := by decide +kernel
theorem dX5_pacesOf_7 : decode cX5_pacesOf 7 = .ok (.bipush 20, 2) := by decide +kernel
theorem dX5_pacesOf_9 : decode cX5_pacesOf 9 = .ok (.if_icmp .gt 67, 3) := by decide +kernel
theorem dX5_pacesOf_12 : decode cX5_pacesOf 12 = .ok (.aload_n 0, 1) := by decide +kernel
theorem dX5_pacesOf_13 : decode cX5_pacesOf 13 = .ok (.getfield 45, 3) := by decide +kernel
theorem dX5_pacesOf_16 : decode cX5_pacesOf 16 = .ok (.getfield 253, 3) := by decide +kernel
theorem dX5_pacesOf_19 : decode cX5_pacesOf 19 = .ok (.iload_n 2, 1) := by decide +kernel
theorem dX5_pacesOf_20 : decode cX5_pacesOf 20 = .ok (.aload_n 0, 1) := by decide +kernel
theorem dX5_pacesOf_21 : decode cX5_pacesOf 21 = .ok (.getfield 10, 3) := by decide +kernel
theorem dX5_pacesOf_24 : decode cX5_pacesOf 24 = .ok (.getfield 81, 3) := by decide +kernel
theorem dX5_pacesOf_27 : decode cX5_pacesOf 27 = .ok (.iload_n 2, 1) := by decide +kernel
theorem dX5_pacesOf_28 : decode cX5_pacesOf 28 = .ok (.iaload, 1) := by decide +kernel
theorem dX5_pacesOf_29 : decode cX5_pacesOf 29 = .ok (.iload 4, 2) := by decide +kernel
theorem dX5_pacesOf_31 : decode cX5_pacesOf 31 = .ok (.invokestatic 87, 3) := by decide +kernel
theorem dX5_pacesOf_34 : decode cX5_pacesOf 34 = .ok (.iastore, 1) := by decide +kernel
theorem dX5_pacesOf_35 : decode cX5_pacesOf 35 = .ok (.aload_n 0, 1) := by decide +kernel
theorem dX5_pacesOf_36 : decode cX5_pacesOf 36 = .ok (.getfield 45, 3) := by decide +kernel
theorem dX5_pacesOf_39 : decode cX5_pacesOf 39 = .ok (.iconst 1, 1) := by decide +kernel
theorem dX5_pacesOf_40 : decode cX5_pacesOf 40 = .ok (.invokevirtual 149, 3) := by decide +kernel
theorem dX5_pacesOf_43 : decode cX5_pacesOf 43 = .ok (.aload_n 0, 1) := by decide +kernel
theorem dX5_pacesOf_44 : decode cX5_pacesOf 44 = .ok (.getfield 45, 3) := by decide +kernel
theorem dX5_pacesOf_47 : decode cX5_pacesOf 47 = .ok (.iload_n 2, 1) := by decide +kernel
theorem dX5_pacesOf_48 : decode cX5_pacesOf 48 = .ok (.invokevirtual 250, 3) := by decide +kernel
theorem dX5_pacesOf_51 : decode cX5_pacesOf 51 = .ok (.aload_n 0, 1) := by decide +kernel
theorem dX5_pacesOf_52 : decode cX5_pacesOf 52 = .ok (.getfield 36, 3) := by decide +kernel
theorem dX5_pacesOf_55 : decode cX5_pacesOf 55 = .ok (.iload_n 1, 1) := by decide +kernel
theorem dX5_pacesOf_56 : decode cX5_pacesOf 56 = .ok (.iload_n 2, 1) := by decide +kernel
theorem dX5_pacesOf_57 : decode cX5_pacesOf 57 = .ok (.invokevirtual 146, 3) := by decide +kernel
theorem dX5_pacesOf_60 : decode cX5_pacesOf 60 = .ok (.if_icmp .ne 10, 3) := by decide +kernel
theorem dX5_pacesOf_63 : decode cX5_pacesOf 63 = .ok (.iload_n 3, 1) := by decide +kernel
theorem dX5_pacesOf_64 : decode cX5_pacesOf 64 = .ok (.iconst 1, 1) := by decide +kernel
theorem dX5_pacesOf_65 : decode cX5_pacesOf 65 = .ok (.iload 4, 2) := by decide +kernel
theorem dX5_pacesOf_67 : decode cX5_pacesOf 67 = .ok (.ishl, 1) := by decide +kernel
theorem dX5_pacesOf_68 : decode cX5_pacesOf 68 = .ok (.ior, 1) := by decide +kernel
theorem dX5_pacesOf_69 : decode cX5_pacesOf 69 = .ok (.istore_n 3, 1) := by decide +kernel
theorem dX5_pacesOf_70 : decode cX5_pacesOf 70 = .ok (.iinc 4 1, 3) := by decide +kernel
theorem dX5_pacesOf_73 : decode cX5_pacesOf 73 = .ok (.goto (-68), 3) := by decide +kernel
theorem dX5_pacesOf_76 : decode cX5_pacesOf 76 = .ok (.iload_n 3, 1) := by decide +kernel
theorem dX5_pacesOf_77 : decode cX5_pacesOf 77 = .ok (.ireturn, 1) := by decide +kernel
theorem dX5_commonDivisor_0 : decode cX5_commonDivisor 0 = .ok (.iload_n 0, 1) := by decide +kernel
theorem dX5_commonDivisor_1 : decode cX5_commonDivisor 1 = .ok (.istore_n 2, 1) := by decide +kernel
theorem dX5_commonDivisor_2 : decode cX5_commonDivisor 2 = .ok (.iload_n 1, 1) := by decide +kernel
theorem dX5_commonDivisor_3 : decode cX5_commonDivisor 3 = .ok (.istore_n 3, 1) := by decide +kernel
theorem dX5_commonDivisor_4 : decode cX5_commonDivisor 4 = .ok (.iconst 0, 1) := by decide +kernel
theorem dX5_commonDivisor_5 : decode cX5_commonDivisor 5 = .ok (.istore 4, 2) := by decide +kernel
theorem dX5_commonDivisor_7 : decode cX5_commonDivisor 7 = .ok (.iload 4, 2) := by decide +kernel
theorem dX5_commonDivisor_9 : decode cX5_commonDivisor 9 = .ok (.bipush 64, 2) := by decide +kernel
theorem dX5_commonDivisor_11 : decode cX5_commonDivisor 11 = .ok (.if_icmp .ge 23, 3) := by decide +kernel
theorem dX5_commonDivisor_14 : decode cX5_commonDivisor 14 = .ok (.iload_n 3, 1) := by decide +kernel
theorem dX5_commonDivisor_15 : decode cX5_commonDivisor 15 = .ok (.ifCond .eq 19, 3) := by decide +kernel
theorem dX5_commonDivisor_18 : decode cX5_commonDivisor 18 = .ok (.iload_n 2, 1) := by decide +kernel
theorem dX5_commonDivisor_19 : decode cX5_commonDivisor 19 = .ok (.iload_n 3, 1) := by decide +kernel
theorem dX5_commonDivisor_20 : decode cX5_commonDivisor 20 = .ok (.irem, 1) := by decide +kernel
theorem dX5_commonDivisor_21 : decode cX5_commonDivisor 21 = .ok (.istore 5, 2) := by decide +kernel
theorem dX5_commonDivisor_23 : decode cX5_commonDivisor 23 = .ok (.iload_n 3, 1) := by decide +kernel
theorem dX5_commonDivisor_24 : decode cX5_commonDivisor 24 = .ok (.istore_n 2, 1) := by decide +kernel
theorem dX5_commonDivisor_25 : decode cX5_commonDivisor 25 = .ok (.iload 5, 2) := by decide +kernel
theorem dX5_commonDivisor_27 : decode cX5_commonDivisor 27 = .ok (.istore_n 3, 1) := by decide +kernel
theorem dX5_commonDivisor_28 : decode cX5_commonDivisor 28 = .ok (.iinc 4 1, 3) := by decide +kernel
theorem dX5_commonDivisor_31 : decode cX5_commonDivisor 31 = .ok (.goto (-24), 3) := by decide +kernel
theorem dX5_commonDivisor_34 : decode cX5_commonDivisor 34 = .ok (.iload_n 2, 1) := by decide +kernel
theorem dX5_commonDivisor_35 : decode cX5_commonDivisor 35 = .ok (.ireturn, 1) := by decide +kernel
end
section
theorem dX6_in_0 : decode cX6_in 0 = .ok (.lload_n 0, 1) := by decide +kernel
theorem dX6_in_1 : decode cX6_in 1 = .ok (.lload_n 2, 1) := by decide +kernel
theorem dX6_in_2 : decode cX6_in 2 = .ok (.lcmp, 1) := by decide +kernel
theorem dX6_in_3 : decode cX6_in 3 = .ok (.ifCond .lt 14, 3) := by decide +kernel
theorem dX6_in_6 : decode cX6_in 6 = .ok (.lload_n 0, 1) := by decide +kernel
theorem dX6_in_7 : decode cX6_in 7 = .ok (.lload 4, 2) := by decide +kernel
theorem dX6_in_9 : decode cX6_in 9 = .ok (.lcmp, 1) := by decide +kernel
theorem dX6_in_10 : decode cX6_in 10 = .ok (.ifCond .gt 7, 3) := by decide +kernel
theorem dX6_in_13 : decode cX6_in 13 = .ok (.iconst 1, 1) := by decide +kernel
theorem dX6_in_14 : decode cX6_in 14 = .ok (.goto 4, 3) := by decide +kernel
theorem dX6_in_17 : decode cX6_in 17 = .ok (.iconst 0, 1) := by decide +kernel
theorem dX6_in_18 : decode cX6_in 18 = .ok (.ireturn, 1) := by decide +kernel
theorem dX6_within_0 : decode cX6_within 0 = .ok (.iload_n 0, 1) := by decide +kernel
theorem dX6_within_1 : decode cX6_within 1 = .ok (.iload_n 1, 1) := by decide +kernel
theorem dX6_within_2 : decode cX6_within 2 = .ok (.if_icmp .ge 7, 3) := by decide +kernel
theorem dX6_within_5 : decode cX6_within 5 = .ok (.iload_n 1, 1) := by decide +kernel
theorem dX6_within_6 : decode cX6_within 6 = .ok (.goto 13, 3) := by decide +kernel
theorem dX6_within_9 : decode cX6_within 9 = .ok (.iload_n 0, 1) := by decide +kernel
theorem dX6_within_10 : decode cX6_within 10 = .ok (.iload_n 2, 1) := by decide +kernel
theorem dX6_within_11 : decode cX6_within 11 = .ok (.if_icmp .le 7, 3) := by decide +kernel
theorem dX6_within_14 : decode cX6_within 14 = .ok (.iload_n 2, 1) := by decide +kernel
theorem dX6_within_15 : decode cX6_within 15 = .ok (.goto 4, 3) := by decide +kernel
theorem dX6_within_18 : decode cX6_within 18 = .ok (.iload_n 0, 1) := by decide +kernel
theorem dX6_within_19 : decode cX6_within 19 = .ok (.ireturn, 1) := by decide +kernel
theorem dX6_init_0 : decode cX6_init 0 = .ok (.aload_n 0, 1) := by decide +kernel
theorem dX6_init_1 : decode cX6_init 1 = .ok (.invokespecial 7, 3) := by decide +kernel
theorem dX6_init_4 : decode cX6_init 4 = .ok (.aload_n 0, 1) := by decide +kernel
theorem dX6_init_5 : decode cX6_init 5 = .ok (.sipush 960, 3) := by decide +kernel
theorem dX6_init_8 : decode cX6_init 8 = .ok (.newarray .int, 2) := by decide +kernel
theorem dX6_init_10 : decode cX6_init 10 = .ok (.putfield 13, 3) := by decide +kernel
theorem dX6_init_13 : decode cX6_init 13 = .ok (.aload_n 0, 1) := by decide +kernel
theorem dX6_init_14 : decode cX6_init 14 = .ok (.bipush 6, 2) := by decide +kernel
theorem dX6_init_16 : decode cX6_init 16 = .ok (.newarray .int, 2) := by decide +kernel
theorem dX6_init_18 : decode cX6_init 18 = .ok (.putfield 17, 3) := by decide +kernel
theorem dX6_init_21 : decode cX6_init 21 = .ok (.aload_n 0, 1) := by decide +kernel
theorem dX6_init_22 : decode cX6_init 22 = .ok (.sipush 160, 3) := by decide +kernel
theorem dX6_init_25 : decode cX6_init 25 = .ok (.newarray .int, 2) := by decide +kernel
theorem dX6_init_27 : decode cX6_init 27 = .ok (.putfield 20, 3) := by decide +kernel
theorem dX6_init_30 : decode cX6_init 30 = .ok (.aload_n 0, 1) := by decide +kernel
theorem dX6_init_31 : decode cX6_init 31 = .ok (.bipush 8, 2) := by decide +kernel
theorem dX6_init_33 : decode cX6_init 33 = .ok (.putfield 23, 3) := by decide +kernel
theorem dX6_init_36 : decode cX6_init 36 = .ok (.aload_n 0, 1) := by decide +kernel
theorem dX6_init_37 : decode cX6_init 37 = .ok (.iconst 1, 1) := by decide +kernel
theorem dX6_init_38 : decode cX6_init 38 = .ok (.putfield 26, 3) := by decide +kernel
theorem dX6_init_41 : decode cX6_init 41 = .ok (.aload_n 0, 1) := by decide +kernel
theorem dX6_init_42 : decode cX6_init 42 = .ok (.iconst 5, 1) := by decide +kernel
theorem dX6_init_43 : decode cX6_init 43 = .ok (.newarray .int, 2) := by decide +kernel
theorem dX6_init_45 : decode cX6_init 45 = .ok (.putfield 29, 3) := by decide +kernel
theorem dX6_init_48 : decode cX6_init 48 = .ok (.aload_n 0, 1) := by decide +kernel
theorem dX6_init_49 : decode cX6_init 49 = .ok (.iconst 5, 1) := by decide +kernel
theorem dX6_init_50 : decode cX6_init 50 = .ok (.newarray .int, 2) := by decide +kernel
theorem dX6_init_52 : decode cX6_init 52 = .ok (.putfield 32, 3) := by decide +kernel
theorem dX6_init_55 : decode cX6_init 55 = .ok (.aload_n 0, 1) := by decide +kernel
theorem dX6_init_56 : decode cX6_init 56 = .ok (.iconst 5, 1) := by decide +kernel
theorem dX6_init_57 : decode cX6_init 57 = .ok (.newarray .int, 2) := by decide +kernel
theorem dX6_init_59 : decode cX6_init 59 = .ok (.putfield 35, 3) := by decide +kernel
theorem dX6_init_62 : decode cX6_init 62 = .ok (.aload_n 0, 1) := by decide +kernel
theorem dX6_init_63 : decode cX6_init 63 = .ok (.iconst 5, 1) := by decide +kernel
theorem dX6_init_64 : decode cX6_init 64 = .ok (.newarray .int, 2) := by decide +kernel
theorem dX6_init_66 : decode cX6_init 66 = .ok (.putfield 38, 3) := by decide +kernel
theorem dX6_init_69 : decode cX6_init 69 = .ok (.aload_n 0, 1) := by decide +kernel
theorem dX6_init_70 : decode cX6_init 70 = .ok (.iconst (-1), 1) := by decide +kernel
theorem dX6_init_71 : decode cX6_init 71 = .ok (.putfield 41, 3) := by decide +kernel
theorem dX6_init_74 : decode cX6_init 74 = .ok (.aload_n 0, 1) := by decide +kernel
theorem dX6_init_75 : decode cX6_init 75 = .ok (.iconst 5, 1) := by decide +kernel
theorem dX6_init_76 : decode cX6_init 76 = .ok (.newarray .int, 2) := by decide +kernel
theorem dX6_init_78 : decode cX6_init 78 = .ok (.putfield 44, 3) := by decide +kernel
theorem dX6_init_81 : decode cX6_init 81 = .ok (.aload_n 0, 1) := by decide +kernel
theorem dX6_init_82 : decode cX6_init 82 = .ok (.iconst 5, 1) := by decide +kernel
theorem dX6_init_83 : decode cX6_init 83 = .ok (.newarray .int, 2) := by decide +kernel
theorem dX6_init_85 : decode cX6_init 85 = .ok (.putfield 47, 3) := by decide +kernel
theorem dX6_init_88 : decode cX6_init 88 = .ok (.aload_n 0, 1) := by decide +kernel
theorem dX6_init_89 : decode cX6_init 89 = .ok (.iconst 5, 1) := by decide +kernel
theorem dX6_init_90 : decode cX6_init 90 = .ok (.newarray .int, 2) := by decide +kernel
theorem dX6_init_92 : decode cX6_init 92 = .ok (.putfield 50, 3) := by decide +kernel
theorem dX6_init_95 : decode cX6_init 95 = .ok (.aload_n 0, 1) := by decide +kernel
theorem dX6_init_96 : decode cX6_init 96 = .ok (.bipush 12, 2) := by decide +kernel
theorem dX6_init_98 : decode cX6_init 98 = .ok (.newarray .int, 2) := by decide +kernel
theorem dX6_init_100 : decode cX6_init 100 = .ok (.putfield 53, 3) := by decide +kernel
theorem dX6_init_103 : decode cX6_init 103 = .ok (.aload_n 0, 1) := by decide +kernel
theorem dX6_init_104 : decode cX6_init 104 = .ok (.bipush 12, 2) := by decide +kernel
theorem dX6_init_106 : decode cX6_init 106 = .ok (.newarray .int, 2) := by decide +kernel
theorem dX6_init_108 : decode cX6_init 108 = .ok (.putfield 56, 3) := by decide +kernel
theorem dX6_init_111 : decode cX6_init 111 = .ok (.aload_n 0, 1) := by decide +kernel
theorem dX6_init_112 : decode cX6_init 112 = .ok (.bipush 12, 2) := by decide +kernel
theorem dX6_init_114 : decode cX6_init 114 = .ok (.newarray .int, 2) := by decide +kernel
theorem dX6_init_116 : decode cX6_init 116 = .ok (.putfield 59, 3) := by decide +kernel
theorem dX6_init_119 : decode cX6_init 119 = .ok (.aload_n 0, 1) := by decide +kernel
theorem dX6_init_120 : decode cX6_init 120 = .ok (.bipush 12, 2) := by decide +kernel
theorem dX6_init_122 : decode cX6_init 122 = .ok (.newarray .int, 2) := by decide +kernel
theorem dX6_init_124 : decode cX6_init 124 = .ok (.putfield 62, 3) := by decide +kernel
theorem dX6_init_127 : decode cX6_init 127 = .ok (.aload_n 0, 1) := by decide +kernel
theorem dX6_init_128 : decode cX6_init 128 = .ok (.bipush 15, 2) := by decide +kernel
theorem dX6_init_130 : decode cX6_init 130 = .ok (.newarray .int, 2) := by decide +kernel
theorem dX6_init_132 : decode cX6_init 132 = .ok (.putfield 65, 3) := by decide +kernel
theorem dX6_init_135 : decode cX6_init 135 = .ok (.aload_n 0, 1) := by decide +kernel
theorem dX6_init_136 : decode cX6_init 136 = .ok (.iconst (-1), 1) := by decide +kernel
theorem dX6_init_137 : decode cX6_init 137 = .ok (.putfield 68, 3) := by decide +kernel
theorem dX6_init_140 : decode cX6_init 140 = .ok (.aload_n 0, 1) := by decide +kernel
theorem dX6_init_141 : decode cX6_init 141 = .ok (.iconst 4, 1) := by decide +kernel
theorem dX6_init_142 : decode cX6_init 142 = .ok (.newarray .boolean, 2) := by decide +kernel
theorem dX6_init_144 : decode cX6_init 144 = .ok (.putfield 71, 3) := by decide +kernel
theorem dX6_init_147 : decode cX6_init 147 = .ok (.aload_n 0, 1) := by decide +kernel
theorem dX6_init_148 : decode cX6_init 148 = .ok (.iconst 4, 1) := by decide +kernel
theorem dX6_init_149 : decode cX6_init 149 = .ok (.newarray .int, 2) := by decide +kernel
theorem dX6_init_151 : decode cX6_init 151 = .ok (.putfield 75, 3) := by decide +kernel
theorem dX6_init_154 : decode cX6_init 154 = .ok (.aload_n 0, 1) := by decide +kernel
theorem dX6_init_155 : decode cX6_init 155 = .ok (.iconst 4, 1) := by decide +kernel
theorem dX6_init_156 : decode cX6_init 156 = .ok (.newarray .int, 2) := by decide +kernel
theorem dX6_init_158 : decode cX6_init 158 = .ok (.putfield 78, 3) := by decide +kernel
theorem dX6_init_161 : decode cX6_init 161 = .ok (.aload_n 0, 1) := by decide +kernel
theorem dX6_init_162 : decode cX6_init 162 = .ok (.sipush 160, 3) := by decide +kernel
theorem dX6_init_165 : decode cX6_init 165 = .ok (.newarray .int, 2) := by decide +kernel
theorem dX6_init_167 : decode cX6_init 167 = .ok (.putfield 81, 3) := by decide +kernel
theorem dX6_init_170 : decode cX6_init 170 = .ok (.aload_n 0, 1) := by decide +kernel
theorem dX6_init_171 : decode cX6_init 171 = .ok (.iconst 0, 1) := by decide +kernel
theorem dX6_init_172 : decode cX6_init 172 = .ok (.bipush 116, 2) := by decide +kernel
theorem dX6_init_174 : decode cX6_init 174 = .ok (.bipush 97, 2) := by decide +kernel
theorem dX6_init_176 : decode cX6_init 176 = .ok (.bipush 107, 2) := by decide +kernel
theorem dX6_init_178 : decode cX6_init 178 = .ok (.bipush 101, 2) := by decide +kernel
theorem dX6_init_180 : decode cX6_init 180 = .ok (.bipush 115, 2) := by decide +kernel
theorem dX6_init_182 : decode cX6_init 182 = .ok (.bipush 32, 2) := by decide +kernel
theorem dX6_init_184 : decode cX6_init 184 = .ok (.bipush 52, 2) := by decide +kernel
theorem dX6_init_186 : decode cX6_init 186 = .ok (.bipush 32, 2) := by decide +kernel
theorem dX6_init_188 : decode cX6_init 188 = .ok (.invokevirtual 84, 3) := by decide +kernel
theorem dX6_init_191 : decode cX6_init 191 = .ok (.aload_n 0, 1) := by decide +kernel
theorem dX6_init_192 : decode cX6_init 192 = .ok (.bipush 8, 2) := by decide +kernel
theorem dX6_init_194 : decode cX6_init 194 = .ok (.bipush 59, 2) := by decide +kernel
theorem dX6_init_196 : decode cX6_init 196 = .ok (.bipush 32, 2) := by decide +kernel
theorem dX6_init_198 : decode cX6_init 198 = .ok (.bipush 104, 2) := by decide +kernel
theorem dX6_init_200 : decode cX6_init 200 = .ok (.bipush 117, 2) := by decide +kernel
theorem dX6_init_202 : decode cX6_init 202 = .ok (.bipush 110, 2) := by decide +kernel
theorem dX6_init_204 : decode cX6_init 204 = .ok (.bipush 103, 2) := by decide +kernel
theorem dX6_init_206 : decode cX6_init 206 = .ok (.bipush 101, 2) := by decide +kernel
theorem dX6_init_208 : decode cX6_init 208 = .ok (.bipush 114, 2) := by decide +kernel
theorem dX6_init_210 : decode cX6_init 210 = .ok (.invokevirtual 84, 3) := by decide +kernel
theorem dX6_init_213 : decode cX6_init 213 = .ok (.aload_n 0, 1) := by decide +kernel
theorem dX6_init_214 : decode cX6_init 214 = .ok (.bipush 16, 2) := by decide +kernel
theorem dX6_init_216 : decode cX6_init 216 = .ok (.bipush 32, 2) := by decide +kernel
theorem dX6_init_218 : decode cX6_init 218 = .ok (.bipush 49, 2) := by decide +kernel
theorem dX6_init_220 : decode cX6_init 220 = .ok (.bipush 32, 2) := by decide +kernel
theorem dX6_init_222 : decode cX6_init 222 = .ok (.bipush 59, 2) := by decide +kernel
theorem dX6_init_224 : decode cX6_init 224 = .ok (.bipush 32, 2) := by decide +kernel
theorem dX6_init_226 : decode cX6_init 226 = .ok (.bipush 119, 2) := by decide +kernel
theorem dX6_init_228 : decode cX6_init 228 = .ok (.bipush 111, 2) := by decide +kernel
theorem dX6_init_230 : decode cX6_init 230 = .ok (.bipush 114, 2) := by decide +kernel
theorem dX6_init_232 : decode cX6_init 232 = .ok (.invokevirtual 84, 3) := by decide +kernel
theorem dX6_init_235 : decode cX6_init 235 = .ok (.aload_n 0, 1) := by decide +kernel
theorem dX6_init_236 : decode cX6_init 236 = .ok (.bipush 24, 2) := by decide +kernel
theorem dX6_init_238 : decode cX6_init 238 = .ok (.bipush 116, 2) := by decide +kernel
theorem dX6_init_240 : decode cX6_init 240 = .ok (.bipush 104, 2) := by decide +kernel
theorem dX6_init_242 : decode cX6_init 242 = .ok (.bipush 32, 2) := by decide +kernel
theorem dX6_init_244 : decode cX6_init 244 = .ok (.bipush 49, 2) := by decide +kernel
theorem dX6_init_246 : decode cX6_init 246 = .ok (.bipush 48, 2) := by decide +kernel
theorem dX6_init_248 : decode cX6_init 248 = .ok (.bipush 32, 2) := by decide +kernel
theorem dX6_init_250 : decode cX6_init 250 = .ok (.bipush 45, 2) := by decide +kernel
theorem dX6_init_252 : decode cX6_init 252 = .ok (.bipush 32, 2) := by decide +kernel
theorem dX6_init_254 : decode cX6_init 254 = .ok (.invokevirtual 84, 3) := by decide +kernel
theorem dX6_init_257 : decode cX6_init 257 = .ok (.aload_n 0, 1) := by decide +kernel
theorem dX6_init_258 : decode cX6_init 258 = .ok (.bipush 32, 2) := by decide +kernel
theorem dX6_init_260 : decode cX6_init 260 = .ok (.bipush 108, 2) := by decide +kernel
theorem dX6_init_262 : decode cX6_init 262 = .ok (.bipush 97, 2) := by decide +kernel
theorem dX6_init_264 : decode cX6_init 264 = .ok (.bipush 116, 2) := by decide +kernel
theorem dX6_init_266 : decode cX6_init 266 = .ok (.bipush 101, 2) := by decide +kernel
theorem dX6_init_268 : decode cX6_init 268 = .ok (.bipush 32, 2) := by decide +kernel
theorem dX6_init_270 : decode cX6_init 270 = .ok (.bipush 59, 2) := by decide +kernel
theorem dX6_init_272 : decode cX6_init 272 = .ok (.bipush 32, 2) := by decide +kernel
theorem dX6_init_274 : decode cX6_init 274 = .ok (.bipush 32, 2) := by decide +kernel
theorem dX6_init_276 : decode cX6_init 276 = .ok (.invokevirtual 84, 3) := by decide +kernel
theorem dX6_init_279 : decode cX6_init 279 = .ok (.aload_n 0, 1) := by decide +kernel
theorem dX6_init_280 : decode cX6_init 280 = .ok (.getfield 17, 3) := by decide +kernel
theorem dX6_init_283 : decode cX6_init 283 = .ok (.iconst 0, 1) := by decide +kernel
theorem dX6_init_284 : decode cX6_init 284 = .ok (.bipush 40, 2) := by decide +kernel
theorem dX6_init_286 : decode cX6_init 286 = .ok (.iastore, 1) := by decide +kernel
theorem dX6_init_287 : decode cX6_init 287 = .ok (.aload_n 0, 1) := by decide +kernel
theorem dX6_init_288 : decode cX6_init 288 = .ok (.iconst 1, 1) := by decide +kernel
theorem dX6_init_289 : decode cX6_init 289 = .ok (.putfield 88, 3) := by decide +kernel
theorem dX6_init_292 : decode cX6_init 292 = .ok (.return_, 1) := by decide +kernel
theorem dX6_spell_0 : decode cX6_spell 0 = .ok (.aload_n 0, 1) := by decide +kernel
theorem dX6_spell_1 : decode cX6_spell 1 = .ok (.getfield 13, 3) := by decide +kernel
theorem dX6_spell_4 : decode cX6_spell 4 = .ok (.iload_n 1, 1) := by decide +kernel
theorem dX6_spell_5 : decode cX6_spell 5 = .ok (.iload_n 2, 1) := by decide +kernel
theorem dX6_spell_6 : decode cX6_spell 6 = .ok (.iastore, 1) := by decide +kernel
theorem dX6_spell_7 : decode cX6_spell 7 = .ok (.aload_n 0, 1) := by decide +kernel
theorem dX6_spell_8 : decode cX6_spell 8 = .ok (.getfield 13, 3) := by decide +kernel
theorem dX6_spell_11 : decode cX6_spell 11 = .ok (.iload_n 1, 1) := by decide +kernel
theorem dX6_spell_12 : decode cX6_spell 12 = .ok (.iconst 1, 1) := by decide +kernel
theorem dX6_spell_13 : decode cX6_spell 13 = .ok (.iadd, 1) := by decide +kernel
theorem dX6_spell_14 : decode cX6_spell 14 = .ok (.iload_n 3, 1) := by decide +kernel
theorem dX6_spell_15 : decode cX6_spell 15 = .ok (.iastore, 1) := by decide +kernel
theorem dX6_spell_16 : decode cX6_spell 16 = .ok (.aload_n 0, 1) := by decide +kernel
theorem dX6_spell_17 : decode cX6_spell 17 = .ok (.getfield 13, 3) := by decide +kernel
theorem dX6_spell_20 : decode cX6_spell 20 = .ok (.iload_n 1, 1) := by decide +kernel
theorem dX6_spell_21 : decode cX6_spell 21 = .ok (.iconst 2, 1) := by decide +kernel
theorem dX6_spell_22 : decode cX6_spell 22 = .ok (.iadd, 1) := by decide +kernel
theorem dX6_spell_23 : decode cX6_spell 23 = .ok (.iload 4, 2) := by decide +kernel
theorem dX6_spell_25 : decode cX6_spell 25 = .ok (.iastore, 1) := by decide +kernel
theorem dX6_spell_26 : decode cX6_spell 26 = .ok (.aload_n 0, 1) := by decide +kernel
theorem dX6_spell_27 : decode cX6_spell 27 = .ok (.getfield 13, 3) := by decide +kernel
theorem dX6_spell_30 : decode cX6_spell 30 = .ok (.iload_n 1, 1) := by decide +kernel
theorem dX6_spell_31 : decode cX6_spell 31 = .ok (.iconst 3, 1) := by decide +kernel
theorem dX6_spell_32 : decode cX6_spell 32 = .ok (.iadd, 1) := by decide +kernel
theorem dX6_spell_33 : decode cX6_spell 33 = .ok (.iload 5, 2) := by decide +kernel
theorem dX6_spell_35 : decode cX6_spell 35 = .ok (.iastore, 1) := by decide +kernel
theorem dX6_spell_36 : decode cX6_spell 36 = .ok (.aload_n 0, 1) := by decide +kernel
theorem dX6_spell_37 : decode cX6_spell 37 = .ok (.getfield 13, 3) := by decide +kernel
theorem dX6_spell_40 : decode cX6_spell 40 = .ok (.iload_n 1, 1) := by decide +kernel
theorem dX6_spell_41 : decode cX6_spell 41 = .ok (.iconst 4, 1) := by decide +kernel
theorem dX6_spell_42 : decode cX6_spell 42 = .ok (.iadd, 1) := by decide +kernel
theorem dX6_spell_43 : decode cX6_spell 43 = .ok (.iload 6, 2) := by decide +kernel
theorem dX6_spell_45 : decode cX6_spell 45 = .ok (.iastore, 1) := by decide +kernel
theorem dX6_spell_46 : decode cX6_spell 46 = .ok (.aload_n 0, 1) := by decide +kernel
theorem dX6_spell_47 : decode cX6_spell 47 = .ok (.getfield 13, 3) := by decide +kernel
theorem dX6_spell_50 : decode cX6_spell 50 = .ok (.iload_n 1, 1) := by decide +kernel
theorem dX6_spell_51 : decode cX6_spell 51 = .ok (.iconst 5, 1) := by decide +kernel
theorem dX6_spell_52 : decode cX6_spell 52 = .ok (.iadd, 1) := by decide +kernel
theorem dX6_spell_53 : decode cX6_spell 53 = .ok (.iload 7, 2) := by decide +kernel
theorem dX6_spell_55 : decode cX6_spell 55 = .ok (.iastore, 1) := by decide +kernel
theorem dX6_spell_56 : decode cX6_spell 56 = .ok (.aload_n 0, 1) := by decide +kernel
theorem dX6_spell_57 : decode cX6_spell 57 = .ok (.getfield 13, 3) := by decide +kernel
theorem dX6_spell_60 : decode cX6_spell 60 = .ok (.iload_n 1, 1) := by decide +kernel
theorem dX6_spell_61 : decode cX6_spell 61 = .ok (.bipush 6, 2) := by decide +kernel
theorem dX6_spell_63 : decode cX6_spell 63 = .ok (.iadd, 1) := by decide +kernel
theorem dX6_spell_64 : decode cX6_spell 64 = .ok (.iload 8, 2) := by decide +kernel
theorem dX6_spell_66 : decode cX6_spell 66 = .ok (.iastore, 1) := by decide +kernel
theorem dX6_spell_67 : decode cX6_spell 67 = .ok (.aload_n 0, 1) := by decide +kernel
theorem dX6_spell_68 : decode cX6_spell 68 = .ok (.getfield 13, 3) := by decide +kernel
theorem dX6_spell_71 : decode cX6_spell 71 = .ok (.iload_n 1, 1) := by decide +kernel
theorem dX6_spell_72 : decode cX6_spell 72 = .ok (.bipush 7, 2) := by decide +kernel
theorem dX6_spell_74 : decode cX6_spell 74 = .ok (.iadd, 1) := by decide +kernel
theorem dX6_spell_75 : decode cX6_spell 75 = .ok (.iload 9, 2) := by decide +kernel
theorem dX6_spell_77 : decode cX6_spell 77 = .ok (.iastore, 1) := by decide +kernel
theorem dX6_spell_78 : decode cX6_spell 78 = .ok (.return_, 1) := by decide +kernel
theorem dX6_isEater_0 : decode cX6_isEater 0 = .ok (.iload_n 1, 1) := by decide +kernel
theorem dX6_isEater_1 : decode cX6_isEater 1 = .ok (.i2l, 1) := by decide +kernel
theorem dX6_isEater_2 : decode cX6_isEater 2 = .ok (.lconst 0, 1) := by decide +kernel
theorem dX6_isEater_3 : decode cX6_isEater 3 = .ok (.aload_n 0, 1) := by decide +kernel
theorem dX6_isEater_4 : decode cX6_isEater 4 = .ok (.getfield 91, 3) := by decide +kernel
theorem dX6_isEater_7 : decode cX6_isEater 7 = .ok (.iconst 1, 1) := by decide +kernel
theorem dX6_isEater_8 : decode cX6_isEater 8 = .ok (.isub, 1) := by decide +kernel
theorem dX6_isEater_9 : decode cX6_isEater 9 = .ok (.i2l, 1) := by decide +kernel
theorem dX6_isEater_10 : decode cX6_isEater 10 = .ok (.invokestatic 94, 3) := by decide +kernel
theorem dX6_isEater_13 : decode cX6_isEater 13 = .ok (.ireturn, 1) := by decide +kernel
theorem dX6_isCake_0 : decode cX6_isCake 0 = .ok (.iload_n 1, 1) := by decide +kernel
theorem dX6_isCake_1 : decode cX6_isCake 1 = .ok (.i2l, 1) := by decide +kernel
theorem dX6_isCake_2 : decode cX6_isCake 2 = .ok (.lconst 0, 1) := by decide +kernel
theorem dX6_isCake_3 : decode cX6_isCake 3 = .ok (.aload_n 0, 1) := by decide +kernel
theorem dX6_isCake_4 : decode cX6_isCake 4 = .ok (.getfield 23, 3) := by decide +kernel
theorem dX6_isCake_7 : decode cX6_isCake 7 = .ok (.iconst 1, 1) := by decide +kernel
theorem dX6_isCake_8 : decode cX6_isCake 8 = .ok (.isub, 1) := by decide +kernel
theorem dX6_isCake_9 : decode cX6_isCake 9 = .ok (.i2l, 1) := by decide +kernel
theorem dX6_isCake_10 : decode cX6_isCake 10 = .ok (.invokestatic 94, 3) := by decide +kernel
theorem dX6_isCake_13 : decode cX6_isCake 13 = .ok (.ireturn, 1) := by decide +kernel
theorem dX6_set_0 : decode cX6_set 0 = .ok (.iload_n 1, 1) := by decide +kernel
theorem dX6_set_1 : decode cX6_set 1 = .ok (.i2l, 1) := by decide +kernel
theorem dX6_set_2 : decode cX6_set 2 = .ok (.lconst 0, 1) := by decide +kernel
theorem dX6_set_3 : decode cX6_set 3 = .ok (.ldc2_w 98, 3) := by decide +kernel
theorem dX6_set_6 : decode cX6_set 6 = .ok (.invokestatic 94, 3) := by decide +kernel
theorem dX6_set_9 : decode cX6_set 9 = .ok (.ifCond .eq 16, 3) := by decide +kernel
theorem dX6_set_12 : decode cX6_set 12 = .ok (.iload_n 1, 1) := by decide +kernel
theorem dX6_set_13 : decode cX6_set 13 = .ok (.iconst 1, 1) := by decide +kernel
theorem dX6_set_14 : decode cX6_set 14 = .ok (.if_icmp .le 14, 3) := by decide +kernel
theorem dX6_set_17 : decode cX6_set 17 = .ok (.aload_n 0, 1) := by decide +kernel
theorem dX6_set_18 : decode cX6_set 18 = .ok (.iload_n 2, 1) := by decide +kernel
theorem dX6_set_19 : decode cX6_set 19 = .ok (.invokevirtual 100, 3) := by decide +kernel
theorem dX6_set_22 : decode cX6_set 22 = .ok (.ifCond .ne 6, 3) := by decide +kernel
theorem dX6_set_25 : decode cX6_set 25 = .ok (.bipush (-2), 2) := by decide +kernel
theorem dX6_set_27 : decode cX6_set 27 = .ok (.ireturn, 1) := by decide +kernel
theorem dX6_set_28 : decode cX6_set 28 = .ok (.iload_n 3, 1) := by decide +kernel
theorem dX6_set_29 : decode cX6_set 29 = .ok (.i2l, 1) := by decide +kernel
theorem dX6_set_30 : decode cX6_set 30 = .ok (.iload_n 1, 1) := by decide +kernel
theorem dX6_set_31 : decode cX6_set 31 = .ok (.iconst 1, 1) := by decide +kernel
theorem dX6_set_32 : decode cX6_set 32 = .ok (.if_icmp .eq 8, 3) := by decide +kernel
theorem dX6_set_35 : decode cX6_set 35 = .ok (.iload_n 1, 1) := by decide +kernel
theorem dX6_set_36 : decode cX6_set 36 = .ok (.iconst 4, 1) := by decide +kernel
theorem dX6_set_37 : decode cX6_set 37 = .ok (.if_icmp .ne 7, 3) := by decide +kernel
theorem dX6_set_40 : decode cX6_set 40 = .ok (.lconst 1, 1) := by decide +kernel
theorem dX6_set_41 : decode cX6_set 41 = .ok (.goto 4, 3) := by decide +kernel
theorem dX6_set_44 : decode cX6_set 44 = .ok (.lconst 0, 1) := by decide +kernel
theorem dX6_set_45 : decode cX6_set 45 = .ok (.iload_n 1, 1) := by decide +kernel
theorem dX6_set_46 : decode cX6_set 46 = .ok (.ifCond .eq 8, 3) := by decide +kernel
theorem dX6_set_49 : decode cX6_set 49 = .ok (.iload_n 1, 1) := by decide +kernel
theorem dX6_set_50 : decode cX6_set 50 = .ok (.iconst 3, 1) := by decide +kernel
theorem dX6_set_51 : decode cX6_set 51 = .ok (.if_icmp .ne 9, 3) := by decide +kernel
theorem dX6_set_54 : decode cX6_set 54 = .ok (.ldc2_w 104, 3) := by decide +kernel
theorem dX6_set_57 : decode cX6_set 57 = .ok (.goto 28, 3) := by decide +kernel
theorem dX6_set_60 : decode cX6_set 60 = .ok (.iload_n 1, 1) := by decide +kernel
theorem dX6_set_61 : decode cX6_set 61 = .ok (.iconst 1, 1) := by decide +kernel
theorem dX6_set_62 : decode cX6_set 62 = .ok (.if_icmp .ne 9, 3) := by decide +kernel
theorem dX6_set_65 : decode cX6_set 65 = .ok (.ldc2_w 106, 3) := by decide +kernel
theorem dX6_set_68 : decode cX6_set 68 = .ok (.goto 17, 3) := by decide +kernel
theorem dX6_set_71 : decode cX6_set 71 = .ok (.iload_n 1, 1) := by decide +kernel
theorem dX6_set_72 : decode cX6_set 72 = .ok (.iconst 2, 1) := by decide +kernel
theorem dX6_set_73 : decode cX6_set 73 = .ok (.if_icmp .ne 9, 3) := by decide +kernel
theorem dX6_set_76 : decode cX6_set 76 = .ok (.ldc2_w 108, 3) := by decide +kernel
theorem dX6_set_79 : decode cX6_set 79 = .ok (.goto 6, 3) := by decide +kernel
theorem dX6_set_82 : decode cX6_set 82 = .ok (.ldc2_w 110, 3) := by decide +kernel
theorem dX6_set_85 : decode cX6_set 85 = .ok (.invokestatic 94, 3) := by decide +kernel
theorem dX6_set_88 : decode cX6_set 88 = .ok (.ifCond .ne 6, 3) := by decide +kernel
theorem dX6_set_91 : decode cX6_set 91 = .ok (.bipush (-2), 2) := by decide +kernel
theorem dX6_set_93 : decode cX6_set 93 = .ok (.ireturn, 1) := by decide +kernel
theorem dX6_set_94 : decode cX6_set 94 = .ok (.iload_n 1, 1) := by decide +kernel
theorem dX6_set_95 : decode cX6_set 95 = .ok (.ifCond .ne 10, 3) := by decide +kernel
theorem dX6_set_98 : decode cX6_set 98 = .ok (.aload_n 0, 1) := by decide +kernel
theorem dX6_set_99 : decode cX6_set 99 = .ok (.getfield 23, 3) := by decide +kernel
theorem dX6_set_102 : decode cX6_set 102 = .ok (.goto 49, 3) := by decide +kernel
theorem dX6_set_105 : decode cX6_set 105 = .ok (.iload_n 1, 1) := by decide +kernel
theorem dX6_set_106 : decode cX6_set 106 = .ok (.iconst 1, 1) := by decide +kernel
theorem dX6_set_107 : decode cX6_set 107 = .ok (.if_icmp .ne 10, 3) := by decide +kernel
theorem dX6_set_110 : decode cX6_set 110 = .ok (.aload_n 0, 1) := by decide +kernel
theorem dX6_set_111 : decode cX6_set 111 = .ok (.getfield 26, 3) := by decide +kernel
theorem dX6_set_114 : decode cX6_set 114 = .ok (.goto 37, 3) := by decide +kernel
theorem dX6_set_117 : decode cX6_set 117 = .ok (.iload_n 1, 1) := by decide +kernel
theorem dX6_set_118 : decode cX6_set 118 = .ok (.iconst 2, 1) := by decide +kernel
theorem dX6_set_119 : decode cX6_set 119 = .ok (.if_icmp .ne 12, 3) := by decide +kernel
theorem dX6_set_122 : decode cX6_set 122 = .ok (.aload_n 0, 1) := by decide +kernel
theorem dX6_set_123 : decode cX6_set 123 = .ok (.getfield 32, 3) := by decide +kernel
theorem dX6_set_126 : decode cX6_set 126 = .ok (.iload_n 2, 1) := by decide +kernel
theorem dX6_set_127 : decode cX6_set 127 = .ok (.iaload, 1) := by decide +kernel
theorem dX6_set_128 : decode cX6_set 128 = .ok (.goto 23, 3) := by decide +kernel
theorem dX6_set_131 : decode cX6_set 131 = .ok (.iload_n 1, 1) := by decide +kernel
theorem dX6_set_132 : decode cX6_set 132 = .ok (.iconst 3, 1) := by decide +kernel
theorem dX6_set_133 : decode cX6_set 133 = .ok (.if_icmp .ne 12, 3) := by decide +kernel
theorem dX6_set_136 : decode cX6_set 136 = .ok (.aload_n 0, 1) := by decide +kernel
theorem dX6_set_137 : decode cX6_set 137 = .ok (.getfield 35, 3) := by decide +kernel
theorem dX6_set_140 : decode cX6_set 140 = .ok (.iload_n 2, 1) := by decide +kernel
theorem dX6_set_141 : decode cX6_set 141 = .ok (.iaload, 1) := by decide +kernel
theorem dX6_set_142 : decode cX6_set 142 = .ok (.goto 9, 3) := by decide +kernel
theorem dX6_set_145 : decode cX6_set 145 = .ok (.aload_n 0, 1) := by decide +kernel
theorem dX6_set_146 : decode cX6_set 146 = .ok (.getfield 38, 3) := by decide +kernel
theorem dX6_set_149 : decode cX6_set 149 = .ok (.iload_n 2, 1) := by decide +kernel
theorem dX6_set_150 : decode cX6_set 150 = .ok (.iaload, 1) := by decide +kernel
theorem dX6_set_151 : decode cX6_set 151 = .ok (.istore 4, 2) := by decide +kernel
theorem dX6_set_153 : decode cX6_set 153 = .ok (.iload_n 1, 1) := by decide +kernel
theorem dX6_set_154 : decode cX6_set 154 = .ok (.ifCond .ne 11, 3) := by decide +kernel
theorem dX6_set_157 : decode cX6_set 157 = .ok (.aload_n 0, 1) := by decide +kernel
theorem dX6_set_158 : decode cX6_set 158 = .ok (.iload_n 3, 1) := by decide +kernel
theorem dX6_set_159 : decode cX6_set 159 = .ok (.putfield 23, 3) := by decide +kernel
theorem dX6_set_162 : decode cX6_set 162 = .ok (.goto 53, 3) := by decide +kernel
theorem dX6_set_165 : decode cX6_set 165 = .ok (.iload_n 1, 1) := by decide +kernel
theorem dX6_set_166 : decode cX6_set 166 = .ok (.iconst 1, 1) := by decide +kernel
theorem dX6_set_167 : decode cX6_set 167 = .ok (.if_icmp .ne 11, 3) := by decide +kernel
theorem dX6_set_170 : decode cX6_set 170 = .ok (.aload_n 0, 1) := by decide +kernel
theorem dX6_set_171 : decode cX6_set 171 = .ok (.iload_n 3, 1) := by decide +kernel
theorem dX6_set_172 : decode cX6_set 172 = .ok (.putfield 26, 3) := by decide +kernel
theorem dX6_set_175 : decode cX6_set 175 = .ok (.goto 40, 3) := by decide +kernel
theorem dX6_set_178 : decode cX6_set 178 = .ok (.iload_n 1, 1) := by decide +kernel
theorem dX6_set_179 : decode cX6_set 179 = .ok (.iconst 2, 1) := by decide +kernel
theorem dX6_set_180 : decode cX6_set 180 = .ok (.if_icmp .ne 13, 3) := by decide +kernel
theorem dX6_set_183 : decode cX6_set 183 = .ok (.aload_n 0, 1) := by decide +kernel
theorem dX6_set_184 : decode cX6_set 184 = .ok (.getfield 32, 3) := by decide +kernel
theorem dX6_set_187 : decode cX6_set 187 = .ok (.iload_n 2, 1) := by decide +kernel
theorem dX6_set_188 : decode cX6_set 188 = .ok (.iload_n 3, 1) := by decide +kernel
theorem dX6_set_189 : decode cX6_set 189 = .ok (.iastore, 1) := by decide +kernel
theorem dX6_set_190 : decode cX6_set 190 = .ok (.goto 25, 3) := by decide +kernel
theorem dX6_set_193 : decode cX6_set 193 = .ok (.iload_n 1, 1) := by decide +kernel
theorem dX6_set_194 : decode cX6_set 194 = .ok (.iconst 3, 1) := by decide +kernel
theorem dX6_set_195 : decode cX6_set 195 = .ok (.if_icmp .ne 13, 3) := by decide +kernel
theorem dX6_set_198 : decode cX6_set 198 = .ok (.aload_n 0, 1) := by decide +kernel
theorem dX6_set_199 : decode cX6_set 199 = .ok (.getfield 35, 3) := by decide +kernel
theorem dX6_set_202 : decode cX6_set 202 = .ok (.iload_n 2, 1) := by decide +kernel
theorem dX6_set_203 : decode cX6_set 203 = .ok (.iload_n 3, 1) := by decide +kernel
theorem dX6_set_204 : decode cX6_set 204 = .ok (.iastore, 1) := by decide +kernel
theorem dX6_set_205 : decode cX6_set 205 = .ok (.goto 10, 3) := by decide +kernel
theorem dX6_set_208 : decode cX6_set 208 = .ok (.aload_n 0, 1) := by decide +kernel
theorem dX6_set_209 : decode cX6_set 209 = .ok (.getfield 38, 3) := by decide +kernel
theorem dX6_set_212 : decode cX6_set 212 = .ok (.iload_n 2, 1) := by decide +kernel
theorem dX6_set_213 : decode cX6_set 213 = .ok (.iload_n 3, 1) := by decide +kernel
theorem dX6_set_214 : decode cX6_set 214 = .ok (.iastore, 1) := by decide +kernel
theorem dX6_set_215 : decode cX6_set 215 = .ok (.iload 4, 2) := by decide +kernel
theorem dX6_set_217 : decode cX6_set 217 = .ok (.ireturn, 1) := by decide +kernel
theorem dX6_eater_0 : decode cX6_eater 0 = .ok (.iload_n 1, 1) := by decide +kernel
theorem dX6_eater_1 : decode cX6_eater 1 = .ok (.i2l, 1) := by decide +kernel
theorem dX6_eater_2 : decode cX6_eater 2 = .ok (.lconst 0, 1) := by decide +kernel
theorem dX6_eater_3 : decode cX6_eater 3 = .ok (.ldc2_w 112, 3) := by decide +kernel
theorem dX6_eater_6 : decode cX6_eater 6 = .ok (.invokestatic 94, 3) := by decide +kernel
theorem dX6_eater_9 : decode cX6_eater 9 = .ok (.ifCond .eq 36, 3) := by decide +kernel
theorem dX6_eater_12 : decode cX6_eater 12 = .ok (.iload_n 2, 1) := by decide +kernel
theorem dX6_eater_13 : decode cX6_eater 13 = .ok (.i2l, 1) := by decide +kernel
theorem dX6_eater_14 : decode cX6_eater 14 = .ok (.lconst 0, 1) := by decide +kernel
theorem dX6_eater_15 : decode cX6_eater 15 = .ok (.ldc2_w 114, 3) := by decide +kernel
theorem dX6_eater_18 : decode cX6_eater 18 = .ok (.invokestatic 94, 3) := by decide +kernel
theorem dX6_eater_21 : decode cX6_eater 21 = .ok (.ifCond .eq 24, 3) := by decide +kernel
theorem dX6_eater_24 : decode cX6_eater 24 = .ok (.iload_n 2, 1) := by decide +kernel
theorem dX6_eater_25 : decode cX6_eater 25 = .ok (.bipush 100, 2) := by decide +kernel
theorem dX6_eater_27 : decode cX6_eater 27 = .ok (.irem, 1) := by decide +kernel
theorem dX6_eater_28 : decode cX6_eater 28 = .ok (.bipush 12, 2) := by decide +kernel
theorem dX6_eater_30 : decode cX6_eater 30 = .ok (.if_icmp .gt 15, 3) := by decide +kernel
theorem dX6_eater_33 : decode cX6_eater 33 = .ok (.iload_n 3, 1) := by decide +kernel
theorem dX6_eater_34 : decode cX6_eater 34 = .ok (.i2l, 1) := by decide +kernel
theorem dX6_eater_35 : decode cX6_eater 35 = .ok (.lconst 1, 1) := by decide +kernel
theorem dX6_eater_36 : decode cX6_eater 36 = .ok (.ldc2_w 110, 3) := by decide +kernel
theorem dX6_eater_39 : decode cX6_eater 39 = .ok (.invokestatic 94, 3) := by decide +kernel
theorem dX6_eater_42 : decode cX6_eater 42 = .ok (.ifCond .ne 6, 3) := by decide +kernel
theorem dX6_eater_45 : decode cX6_eater 45 = .ok (.bipush (-2), 2) := by decide +kernel
theorem dX6_eater_47 : decode cX6_eater 47 = .ok (.ireturn, 1) := by decide +kernel
theorem dX6_eater_48 : decode cX6_eater 48 = .ok (.aload_n 0, 1) := by decide +kernel
theorem dX6_eater_49 : decode cX6_eater 49 = .ok (.getfield 91, 3) := by decide +kernel
theorem dX6_eater_52 : decode cX6_eater 52 = .ok (.iconst 5, 1) := by decide +kernel
theorem dX6_eater_53 : decode cX6_eater 53 = .ok (.if_icmp .ne 6, 3) := by decide +kernel
theorem dX6_eater_56 : decode cX6_eater 56 = .ok (.bipush (-4), 2) := by decide +kernel
theorem dX6_eater_58 : decode cX6_eater 58 = .ok (.ireturn, 1) := by decide +kernel
theorem dX6_eater_59 : decode cX6_eater 59 = .ok (.aload_n 0, 1) := by decide +kernel
theorem dX6_eater_60 : decode cX6_eater 60 = .ok (.getfield 29, 3) := by decide +kernel
theorem dX6_eater_63 : decode cX6_eater 63 = .ok (.aload_n 0, 1) := by decide +kernel
theorem dX6_eater_64 : decode cX6_eater 64 = .ok (.getfield 91, 3) := by decide +kernel
theorem dX6_eater_67 : decode cX6_eater 67 = .ok (.iload_n 1, 1) := by decide +kernel
theorem dX6_eater_68 : decode cX6_eater 68 = .ok (.iastore, 1) := by decide +kernel
theorem dX6_eater_69 : decode cX6_eater 69 = .ok (.aload_n 0, 1) := by decide +kernel
theorem dX6_eater_70 : decode cX6_eater 70 = .ok (.getfield 32, 3) := by decide +kernel
theorem dX6_eater_73 : decode cX6_eater 73 = .ok (.aload_n 0, 1) := by decide +kernel
theorem dX6_eater_74 : decode cX6_eater 74 = .ok (.getfield 91, 3) := by decide +kernel
theorem dX6_eater_77 : decode cX6_eater 77 = .ok (.iload_n 2, 1) := by decide +kernel
theorem dX6_eater_78 : decode cX6_eater 78 = .ok (.bipush 100, 2) := by decide +kernel
theorem dX6_eater_80 : decode cX6_eater 80 = .ok (.idiv, 1) := by decide +kernel
theorem dX6_eater_81 : decode cX6_eater 81 = .ok (.iastore, 1) := by decide +kernel
theorem dX6_eater_82 : decode cX6_eater 82 = .ok (.aload_n 0, 1) := by decide +kernel
theorem dX6_eater_83 : decode cX6_eater 83 = .ok (.getfield 35, 3) := by decide +kernel
theorem dX6_eater_86 : decode cX6_eater 86 = .ok (.aload_n 0, 1) := by decide +kernel
theorem dX6_eater_87 : decode cX6_eater 87 = .ok (.getfield 91, 3) := by decide +kernel
theorem dX6_eater_90 : decode cX6_eater 90 = .ok (.iload_n 2, 1) := by decide +kernel
theorem dX6_eater_91 : decode cX6_eater 91 = .ok (.bipush 100, 2) := by decide +kernel
theorem dX6_eater_93 : decode cX6_eater 93 = .ok (.irem, 1) := by decide +kernel
theorem dX6_eater_94 : decode cX6_eater 94 = .ok (.iastore, 1) := by decide +kernel
theorem dX6_eater_95 : decode cX6_eater 95 = .ok (.aload_n 0, 1) := by decide +kernel
theorem dX6_eater_96 : decode cX6_eater 96 = .ok (.getfield 38, 3) := by decide +kernel
theorem dX6_eater_99 : decode cX6_eater 99 = .ok (.aload_n 0, 1) := by decide +kernel
theorem dX6_eater_100 : decode cX6_eater 100 = .ok (.getfield 91, 3) := by decide +kernel
theorem dX6_eater_103 : decode cX6_eater 103 = .ok (.iload_n 3, 1) := by decide +kernel
theorem dX6_eater_104 : decode cX6_eater 104 = .ok (.iastore, 1) := by decide +kernel
theorem dX6_eater_105 : decode cX6_eater 105 = .ok (.aload_n 0, 1) := by decide +kernel
theorem dX6_eater_106 : decode cX6_eater 106 = .ok (.dup, 1) := by decide +kernel
theorem dX6_eater_107 : decode cX6_eater 107 = .ok (.getfield 91, 3) := by decide +kernel
theorem dX6_eater_110 : decode cX6_eater 110 = .ok (.iconst 1, 1) := by decide +kernel
theorem dX6_eater_111 : decode cX6_eater 111 = .ok (.iadd, 1) := by decide +kernel
theorem dX6_eater_112 : decode cX6_eater 112 = .ok (.putfield 91, 3) := by decide +kernel
theorem dX6_eater_115 : decode cX6_eater 115 = .ok (.aload_n 0, 1) := by decide +kernel
theorem dX6_eater_116 : decode cX6_eater 116 = .ok (.getfield 91, 3) := by decide +kernel
theorem dX6_eater_119 : decode cX6_eater 119 = .ok (.iconst 1, 1) := by decide +kernel
theorem dX6_eater_120 : decode cX6_eater 120 = .ok (.isub, 1) := by decide +kernel
theorem dX6_eater_121 : decode cX6_eater 121 = .ok (.ireturn, 1) := by decide +kernel
theorem dX6_eatsOf_0 : decode cX6_eatsOf 0 = .ok (.aload_n 0, 1) := by decide +kernel
theorem dX6_eatsOf_1 : decode cX6_eatsOf 1 = .ok (.getfield 29, 3) := by decide +kernel
theorem dX6_eatsOf_4 : decode cX6_eatsOf 4 = .ok (.iload_n 1, 1) := by decide +kernel
theorem dX6_eatsOf_5 : decode cX6_eatsOf 5 = .ok (.iaload, 1) := by decide +kernel
theorem dX6_eatsOf_6 : decode cX6_eatsOf 6 = .ok (.istore_n 2, 1) := by decide +kernel
theorem dX6_eatsOf_7 : decode cX6_eatsOf 7 = .ok (.aload_n 0, 1) := by decide +kernel
theorem dX6_eatsOf_8 : decode cX6_eatsOf 8 = .ok (.getfield 38, 3) := by decide +kernel
theorem dX6_eatsOf_11 : decode cX6_eatsOf 11 = .ok (.iload_n 1, 1) := by decide +kernel
theorem dX6_eatsOf_12 : decode cX6_eatsOf 12 = .ok (.iaload, 1) := by decide +kernel
theorem dX6_eatsOf_13 : decode cX6_eatsOf 13 = .ok (.istore_n 3, 1) := by decide +kernel
theorem dX6_eatsOf_14 : decode cX6_eatsOf 14 = .ok (.iload_n 2, 1) := by decide +kernel
theorem dX6_eatsOf_15 : decode cX6_eatsOf 15 = .ok (.iconst 1, 1) := by decide +kernel
theorem dX6_eatsOf_16 : decode cX6_eatsOf 16 = .ok (.if_icmp .ne 9, 3) := by decide +kernel
theorem dX6_eatsOf_19 : decode cX6_eatsOf 19 = .ok (.iload_n 3, 1) := by decide +kernel
theorem dX6_eatsOf_20 : decode cX6_eatsOf 20 = .ok (.iconst 2, 1) := by decide +kernel
theorem dX6_eatsOf_21 : decode cX6_eatsOf 21 = .ok (.idiv, 1) := by decide +kernel
theorem dX6_eatsOf_22 : decode cX6_eatsOf 22 = .ok (.goto 39, 3) := by decide +kernel
theorem dX6_eatsOf_25 : decode cX6_eatsOf 25 = .ok (.iload_n 2, 1) := by decide +kernel
theorem dX6_eatsOf_26 : decode cX6_eatsOf 26 = .ok (.iconst 3, 1) := by decide +kernel
theorem dX6_eatsOf_27 : decode cX6_eatsOf 27 = .ok (.if_icmp .ne 11, 3) := by decide +kernel
theorem dX6_eatsOf_30 : decode cX6_eatsOf 30 = .ok (.iload_n 3, 1) := by decide +kernel
theorem dX6_eatsOf_31 : decode cX6_eatsOf 31 = .ok (.iconst 2, 1) := by decide +kernel
theorem dX6_eatsOf_32 : decode cX6_eatsOf 32 = .ok (.idiv, 1) := by decide +kernel
theorem dX6_eatsOf_33 : decode cX6_eatsOf 33 = .ok (.iconst 1, 1) := by decide +kernel
theorem dX6_eatsOf_34 : decode cX6_eatsOf 34 = .ok (.isub, 1) := by decide +kernel
theorem dX6_eatsOf_35 : decode cX6_eatsOf 35 = .ok (.goto 26, 3) := by decide +kernel
theorem dX6_eatsOf_38 : decode cX6_eatsOf 38 = .ok (.iload_n 2, 1) := by decide +kernel
theorem dX6_eatsOf_39 : decode cX6_eatsOf 39 = .ok (.iconst 4, 1) := by decide +kernel
theorem dX6_eatsOf_40 : decode cX6_eatsOf 40 = .ok (.if_icmp .ne 9, 3) := by decide +kernel
theorem dX6_eatsOf_43 : decode cX6_eatsOf 43 = .ok (.iload_n 3, 1) := by decide +kernel
theorem dX6_eatsOf_44 : decode cX6_eatsOf 44 = .ok (.iconst 2, 1) := by decide +kernel
theorem dX6_eatsOf_45 : decode cX6_eatsOf 45 = .ok (.iadd, 1) := by decide +kernel
theorem dX6_eatsOf_46 : decode cX6_eatsOf 46 = .ok (.goto 15, 3) := by decide +kernel
theorem dX6_eatsOf_49 : decode cX6_eatsOf 49 = .ok (.iload_n 2, 1) := by decide +kernel
theorem dX6_eatsOf_50 : decode cX6_eatsOf 50 = .ok (.iconst 5, 1) := by decide +kernel
theorem dX6_eatsOf_51 : decode cX6_eatsOf 51 = .ok (.if_icmp .ne 9, 3) := by decide +kernel
theorem dX6_eatsOf_54 : decode cX6_eatsOf 54 = .ok (.iconst 2, 1) := by decide +kernel
theorem dX6_eatsOf_55 : decode cX6_eatsOf 55 = .ok (.iload_n 3, 1) := by decide +kernel
theorem dX6_eatsOf_56 : decode cX6_eatsOf 56 = .ok (.imul, 1) := by decide +kernel
theorem dX6_eatsOf_57 : decode cX6_eatsOf 57 = .ok (.goto 4, 3) := by decide +kernel
theorem dX6_eatsOf_60 : decode cX6_eatsOf 60 = .ok (.iload_n 3, 1) := by decide +kernel
theorem dX6_eatsOf_61 : decode cX6_eatsOf 61 = .ok (.istore 4, 2) := by decide +kernel
theorem dX6_eatsOf_63 : decode cX6_eatsOf 63 = .ok (.iload 4, 2) := by decide +kernel
theorem dX6_eatsOf_65 : decode cX6_eatsOf 65 = .ok (.iconst 1, 1) := by decide +kernel
theorem dX6_eatsOf_66 : decode cX6_eatsOf 66 = .ok (.if_icmp .ge 7, 3) := by decide +kernel
theorem dX6_eatsOf_69 : decode cX6_eatsOf 69 = .ok (.iconst 1, 1) := by decide +kernel
theorem dX6_eatsOf_70 : decode cX6_eatsOf 70 = .ok (.goto 5, 3) := by decide +kernel
theorem dX6_eatsOf_73 : decode cX6_eatsOf 73 = .ok (.iload 4, 2) := by decide +kernel
theorem dX6_eatsOf_75 : decode cX6_eatsOf 75 = .ok (.ireturn, 1) := by decide +kernel
theorem dX6_told_0 : decode cX6_told 0 = .ok (.aload_n 0, 1) := by decide +kernel
theorem dX6_told_1 : decode cX6_told 1 = .ok (.iload_n 1, 1) := by decide +kernel
theorem dX6_told_2 : decode cX6_told 2 = .ok (.invokevirtual 100, 3) := by decide +kernel
theorem dX6_told_5 : decode cX6_told 5 = .ok (.ifCond .eq 15, 3) := by decide +kernel
theorem dX6_told_8 : decode cX6_told 8 = .ok (.iload_n 2, 1) := by decide +kernel
theorem dX6_told_9 : decode cX6_told 9 = .ok (.i2l, 1) := by decide +kernel
theorem dX6_told_10 : decode cX6_told 10 = .ok (.lconst 0, 1) := by decide +kernel
theorem dX6_told_11 : decode cX6_told 11 = .ok (.ldc2_w 112, 3) := by decide +kernel
theorem dX6_told_14 : decode cX6_told 14 = .ok (.invokestatic 94, 3) := by decide +kernel
theorem dX6_told_17 : decode cX6_told 17 = .ok (.ifCond .ne 6, 3) := by decide +kernel
theorem dX6_told_20 : decode cX6_told 20 = .ok (.bipush (-2), 2) := by decide +kernel
theorem dX6_told_22 : decode cX6_told 22 = .ok (.ireturn, 1) := by decide +kernel
theorem dX6_told_23 : decode cX6_told 23 = .ok (.iload_n 2, 1) := by decide +kernel
theorem dX6_told_24 : decode cX6_told 24 = .ok (.iconst 5, 1) := by decide +kernel
theorem dX6_told_25 : decode cX6_told 25 = .ok (.if_icmp .ne 12, 3) := by decide +kernel
theorem dX6_told_28 : decode cX6_told 28 = .ok (.aload_n 0, 1) := by decide +kernel
theorem dX6_told_29 : decode cX6_told 29 = .ok (.iload_n 1, 1) := by decide +kernel
theorem dX6_told_30 : decode cX6_told 30 = .ok (.iconst 0, 1) := by decide +kernel
theorem dX6_told_31 : decode cX6_told 31 = .ok (.iconst 0, 1) := by decide +kernel
theorem dX6_told_32 : decode cX6_told 32 = .ok (.iconst 0, 1) := by decide +kernel
theorem dX6_told_33 : decode cX6_told 33 = .ok (.invokevirtual 116, 3) := by decide +kernel
theorem dX6_told_36 : decode cX6_told 36 = .ok (.ireturn, 1) := by decide +kernel
theorem dX6_told_37 : decode cX6_told 37 = .ok (.iload_n 2, 1) := by decide +kernel
theorem dX6_told_38 : decode cX6_told 38 = .ok (.ifCond .ne 12, 3) := by decide +kernel
theorem dX6_told_41 : decode cX6_told 41 = .ok (.aload_n 0, 1) := by decide +kernel
theorem dX6_told_42 : decode cX6_told 42 = .ok (.getfield 29, 3) := by decide +kernel
theorem dX6_told_45 : decode cX6_told 45 = .ok (.iload_n 1, 1) := by decide +kernel
theorem dX6_told_46 : decode cX6_told 46 = .ok (.iaload, 1) := by decide +kernel
theorem dX6_told_47 : decode cX6_told 47 = .ok (.goto 50, 3) := by decide +kernel
theorem dX6_told_50 : decode cX6_told 50 = .ok (.iload_n 2, 1) := by decide +kernel
theorem dX6_told_51 : decode cX6_told 51 = .ok (.iconst 1, 1) := by decide +kernel
theorem dX6_told_52 : decode cX6_told 52 = .ok (.if_icmp .ne 11, 3) := by decide +kernel
theorem dX6_told_55 : decode cX6_told 55 = .ok (.aload_n 0, 1) := by decide +kernel
theorem dX6_told_56 : decode cX6_told 56 = .ok (.iload_n 1, 1) := by decide +kernel
theorem dX6_told_57 : decode cX6_told 57 = .ok (.invokevirtual 120, 3) := by decide +kernel
theorem dX6_told_60 : decode cX6_told 60 = .ok (.goto 37, 3) := by decide +kernel
theorem dX6_told_63 : decode cX6_told 63 = .ok (.iload_n 2, 1) := by decide +kernel
theorem dX6_told_64 : decode cX6_told 64 = .ok (.iconst 2, 1) := by decide +kernel
theorem dX6_told_65 : decode cX6_told 65 = .ok (.if_icmp .ne 12, 3) := by decide +kernel
theorem dX6_told_68 : decode cX6_told 68 = .ok (.aload_n 0, 1) := by decide +kernel
theorem dX6_told_69 : decode cX6_told 69 = .ok (.getfield 32, 3) := by decide +kernel
theorem dX6_told_72 : decode cX6_told 72 = .ok (.iload_n 1, 1) := by decide +kernel
theorem dX6_told_73 : decode cX6_told 73 = .ok (.iaload, 1) := by decide +kernel
theorem dX6_told_74 : decode cX6_told 74 = .ok (.goto 23, 3) := by decide +kernel
theorem dX6_told_77 : decode cX6_told 77 = .ok (.iload_n 2, 1) := by decide +kernel
theorem dX6_told_78 : decode cX6_told 78 = .ok (.iconst 3, 1) := by decide +kernel
theorem dX6_told_79 : decode cX6_told 79 = .ok (.if_icmp .ne 12, 3) := by decide +kernel
theorem dX6_told_82 : decode cX6_told 82 = .ok (.aload_n 0, 1) := by decide +kernel
theorem dX6_told_83 : decode cX6_told 83 = .ok (.getfield 35, 3) := by decide +kernel
theorem dX6_told_86 : decode cX6_told 86 = .ok (.iload_n 1, 1) := by decide +kernel
theorem dX6_told_87 : decode cX6_told 87 = .ok (.iaload, 1) := by decide +kernel
theorem dX6_told_88 : decode cX6_told 88 = .ok (.goto 9, 3) := by decide +kernel
theorem dX6_told_91 : decode cX6_told 91 = .ok (.aload_n 0, 1) := by decide +kernel
theorem dX6_told_92 : decode cX6_told 92 = .ok (.getfield 38, 3) := by decide +kernel
theorem dX6_told_95 : decode cX6_told 95 = .ok (.iload_n 1, 1) := by decide +kernel
theorem dX6_told_96 : decode cX6_told 96 = .ok (.iaload, 1) := by decide +kernel
theorem dX6_told_97 : decode cX6_told 97 = .ok (.ireturn, 1) := by decide +kernel
theorem dX6_feed_0 : decode cX6_feed 0 = .ok (.iload_n 1, 1) := by decide +kernel
theorem dX6_feed_1 : decode cX6_feed 1 = .ok (.i2l, 1) := by decide +kernel
theorem dX6_feed_2 : decode cX6_feed 2 = .ok (.lconst 0, 1) := by decide +kernel
theorem dX6_feed_3 : decode cX6_feed 3 = .ok (.ldc2_w 124, 3) := by decide +kernel
theorem dX6_feed_6 : decode cX6_feed 6 = .ok (.invokestatic 94, 3) := by decide +kernel
theorem dX6_feed_9 : decode cX6_feed 9 = .ok (.ifCond .ne 6, 3) := by decide +kernel
theorem dX6_feed_12 : decode cX6_feed 12 = .ok (.bipush (-2), 2) := by decide +kernel
theorem dX6_feed_14 : decode cX6_feed 14 = .ok (.ireturn, 1) := by decide +kernel
theorem dX6_feed_15 : decode cX6_feed 15 = .ok (.aload_n 0, 1) := by decide +kernel
theorem dX6_feed_16 : decode cX6_feed 16 = .ok (.getfield 126, 3) := by decide +kernel
theorem dX6_feed_19 : decode cX6_feed 19 = .ok (.sipush 160, 3) := by decide +kernel
theorem dX6_feed_22 : decode cX6_feed 22 = .ok (.if_icmp .ne 6, 3) := by decide +kernel
theorem dX6_feed_25 : decode cX6_feed 25 = .ok (.bipush (-4), 2) := by decide +kernel
theorem dX6_feed_27 : decode cX6_feed 27 = .ok (.ireturn, 1) := by decide +kernel
theorem dX6_feed_28 : decode cX6_feed 28 = .ok (.aload_n 0, 1) := by decide +kernel
theorem dX6_feed_29 : decode cX6_feed 29 = .ok (.getfield 20, 3) := by decide +kernel
theorem dX6_feed_32 : decode cX6_feed 32 = .ok (.aload_n 0, 1) := by decide +kernel
theorem dX6_feed_33 : decode cX6_feed 33 = .ok (.getfield 126, 3) := by decide +kernel
theorem dX6_feed_36 : decode cX6_feed 36 = .ok (.iload_n 1, 1) := by decide +kernel
theorem dX6_feed_37 : decode cX6_feed 37 = .ok (.iastore, 1) := by decide +kernel
theorem dX6_feed_38 : decode cX6_feed 38 = .ok (.aload_n 0, 1) := by decide +kernel
theorem dX6_feed_39 : decode cX6_feed 39 = .ok (.dup, 1) := by decide +kernel
theorem dX6_feed_40 : decode cX6_feed 40 = .ok (.getfield 126, 3) := by decide +kernel
theorem dX6_feed_43 : decode cX6_feed 43 = .ok (.iconst 1, 1) := by decide +kernel
theorem dX6_feed_44 : decode cX6_feed 44 = .ok (.iadd, 1) := by decide +kernel
theorem dX6_feed_45 : decode cX6_feed 45 = .ok (.putfield 126, 3) := by decide +kernel
theorem dX6_feed_48 : decode cX6_feed 48 = .ok (.aload_n 0, 1) := by decide +kernel
theorem dX6_feed_49 : decode cX6_feed 49 = .ok (.getfield 126, 3) := by decide +kernel
theorem dX6_feed_52 : decode cX6_feed 52 = .ok (.ireturn, 1) := by decide +kernel
theorem dX6_byteAt_0 : decode cX6_byteAt 0 = .ok (.iload_n 1, 1) := by decide +kernel
theorem dX6_byteAt_1 : decode cX6_byteAt 1 = .ok (.aload_n 0, 1) := by decide +kernel
theorem dX6_byteAt_2 : decode cX6_byteAt 2 = .ok (.getfield 129, 3) := by decide +kernel
theorem dX6_byteAt_5 : decode cX6_byteAt 5 = .ok (.if_icmp .ge 17, 3) := by decide +kernel
theorem dX6_byteAt_8 : decode cX6_byteAt 8 = .ok (.aload_n 0, 1) := by decide +kernel
theorem dX6_byteAt_9 : decode cX6_byteAt 9 = .ok (.getfield 13, 3) := by decide +kernel
theorem dX6_byteAt_12 : decode cX6_byteAt 12 = .ok (.aload_n 0, 1) := by decide +kernel
theorem dX6_byteAt_13 : decode cX6_byteAt 13 = .ok (.getfield 132, 3) := by decide +kernel
theorem dX6_byteAt_16 : decode cX6_byteAt 16 = .ok (.iload_n 1, 1) := by decide +kernel
theorem dX6_byteAt_17 : decode cX6_byteAt 17 = .ok (.iadd, 1) := by decide +kernel
theorem dX6_byteAt_18 : decode cX6_byteAt 18 = .ok (.iaload, 1) := by decide +kernel
theorem dX6_byteAt_19 : decode cX6_byteAt 19 = .ok (.goto 4, 3) := by decide +kernel
theorem dX6_byteAt_22 : decode cX6_byteAt 22 = .ok (.iconst (-1), 1) := by decide +kernel
theorem dX6_byteAt_23 : decode cX6_byteAt 23 = .ok (.ireturn, 1) := by decide +kernel
theorem dX6_next_0 : decode cX6_next 0 = .ok (.aload_n 0, 1) := by decide +kernel
theorem dX6_next_1 : decode cX6_next 1 = .ok (.aload_n 0, 1) := by decide +kernel
theorem dX6_next_2 : decode cX6_next 2 = .ok (.getfield 135, 3) := by decide +kernel
theorem dX6_next_5 : decode cX6_next 5 = .ok (.invokevirtual 138, 3) := by decide +kernel
theorem dX6_next_8 : decode cX6_next 8 = .ok (.bipush 32, 2) := by decide +kernel
theorem dX6_next_10 : decode cX6_next 10 = .ok (.if_icmp .eq 16, 3) := by decide +kernel
theorem dX6_next_13 : decode cX6_next 13 = .ok (.aload_n 0, 1) := by decide +kernel
theorem dX6_next_14 : decode cX6_next 14 = .ok (.aload_n 0, 1) := by decide +kernel
theorem dX6_next_15 : decode cX6_next 15 = .ok (.getfield 135, 3) := by decide +kernel
theorem dX6_next_18 : decode cX6_next 18 = .ok (.invokevirtual 138, 3) := by decide +kernel
theorem dX6_next_21 : decode cX6_next 21 = .ok (.bipush 10, 2) := by decide +kernel
theorem dX6_next_23 : decode cX6_next 23 = .ok (.if_icmp .ne 16, 3) := by decide +kernel
theorem dX6_next_26 : decode cX6_next 26 = .ok (.aload_n 0, 1) := by decide +kernel
theorem dX6_next_27 : decode cX6_next 27 = .ok (.dup, 1) := by decide +kernel
theorem dX6_next_28 : decode cX6_next 28 = .ok (.getfield 135, 3) := by decide +kernel
theorem dX6_next_31 : decode cX6_next 31 = .ok (.iconst 1, 1) := by decide +kernel
theorem dX6_next_32 : decode cX6_next 32 = .ok (.iadd, 1) := by decide +kernel
theorem dX6_next_33 : decode cX6_next 33 = .ok (.putfield 135, 3) := by decide +kernel
theorem dX6_next_36 : decode cX6_next 36 = .ok (.goto (-36), 3) := by decide +kernel
theorem dX6_next_39 : decode cX6_next 39 = .ok (.aload_n 0, 1) := by decide +kernel
theorem dX6_next_40 : decode cX6_next 40 = .ok (.aload_n 0, 1) := by decide +kernel
theorem dX6_next_41 : decode cX6_next 41 = .ok (.getfield 135, 3) := by decide +kernel
theorem dX6_next_44 : decode cX6_next 44 = .ok (.putfield 141, 3) := by decide +kernel
theorem dX6_next_47 : decode cX6_next 47 = .ok (.aload_n 0, 1) := by decide +kernel
theorem dX6_next_48 : decode cX6_next 48 = .ok (.aload_n 0, 1) := by decide +kernel
theorem dX6_next_49 : decode cX6_next 49 = .ok (.getfield 135, 3) := by decide +kernel
theorem dX6_next_52 : decode cX6_next 52 = .ok (.invokevirtual 138, 3) := by decide +kernel
theorem dX6_next_55 : decode cX6_next 55 = .ok (.istore_n 1, 1) := by decide +kernel
theorem dX6_next_56 : decode cX6_next 56 = .ok (.aload_n 0, 1) := by decide +kernel
theorem dX6_next_57 : decode cX6_next 57 = .ok (.iconst 4, 1) := by decide +kernel
theorem dX6_next_58 : decode cX6_next 58 = .ok (.putfield 144, 3) := by decide +kernel
theorem dX6_next_61 : decode cX6_next 61 = .ok (.iload_n 1, 1) := by decide +kernel
theorem dX6_next_62 : decode cX6_next 62 = .ok (.ifCond .ge 19, 3) := by decide +kernel
theorem dX6_next_65 : decode cX6_next 65 = .ok (.aload_n 0, 1) := by decide +kernel
theorem dX6_next_66 : decode cX6_next 66 = .ok (.iconst 0, 1) := by decide +kernel
theorem dX6_next_67 : decode cX6_next 67 = .ok (.putfield 144, 3) := by decide +kernel
theorem dX6_next_70 : decode cX6_next 70 = .ok (.aload_n 0, 1) := by decide +kernel
theorem dX6_next_71 : decode cX6_next 71 = .ok (.aload_n 0, 1) := by decide +kernel
theorem dX6_next_72 : decode cX6_next 72 = .ok (.getfield 129, 3) := by decide +kernel
theorem dX6_next_75 : decode cX6_next 75 = .ok (.putfield 141, 3) := by decide +kernel
theorem dX6_next_78 : decode cX6_next 78 = .ok (.goto 243, 3) := by decide +kernel
theorem dX6_next_81 : decode cX6_next 81 = .ok (.iload_n 1, 1) := by decide +kernel
theorem dX6_next_82 : decode cX6_next 82 = .ok (.i2l, 1) := by decide +kernel
theorem dX6_next_83 : decode cX6_next 83 = .ok (.ldc2_w 147, 3) := by decide +kernel
theorem dX6_next_86 : decode cX6_next 86 = .ok (.ldc2_w 149, 3) := by decide +kernel
theorem dX6_next_89 : decode cX6_next 89 = .ok (.invokestatic 94, 3) := by decide +kernel
theorem dX6_next_92 : decode cX6_next 92 = .ok (.ifCond .eq 42, 3) := by decide +kernel
theorem dX6_next_95 : decode cX6_next 95 = .ok (.aload_n 0, 1) := by decide +kernel
theorem dX6_next_96 : decode cX6_next 96 = .ok (.iconst 1, 1) := by decide +kernel
theorem dX6_next_97 : decode cX6_next 97 = .ok (.putfield 144, 3) := by decide +kernel
theorem dX6_next_100 : decode cX6_next 100 = .ok (.aload_n 0, 1) := by decide +kernel
theorem dX6_next_101 : decode cX6_next 101 = .ok (.aload_n 0, 1) := by decide +kernel
theorem dX6_next_102 : decode cX6_next 102 = .ok (.getfield 135, 3) := by decide +kernel
theorem dX6_next_105 : decode cX6_next 105 = .ok (.invokevirtual 138, 3) := by decide +kernel
theorem dX6_next_108 : decode cX6_next 108 = .ok (.i2l, 1) := by decide +kernel
theorem dX6_next_109 : decode cX6_next 109 = .ok (.ldc2_w 147, 3) := by decide +kernel
theorem dX6_next_112 : decode cX6_next 112 = .ok (.ldc2_w 149, 3) := by decide +kernel
theorem dX6_next_115 : decode cX6_next 115 = .ok (.invokestatic 94, 3) := by decide +kernel
theorem dX6_next_118 : decode cX6_next 118 = .ok (.ifCond .eq 203, 3) := by decide +kernel
theorem dX6_next_121 : decode cX6_next 121 = .ok (.aload_n 0, 1) := by decide +kernel
theorem dX6_next_122 : decode cX6_next 122 = .ok (.dup, 1) := by decide +kernel
theorem dX6_next_123 : decode cX6_next 123 = .ok (.getfield 135, 3) := by decide +kernel
theorem dX6_next_126 : decode cX6_next 126 = .ok (.iconst 1, 1) := by decide +kernel
theorem dX6_next_127 : decode cX6_next 127 = .ok (.iadd, 1) := by decide +kernel
theorem dX6_next_128 : decode cX6_next 128 = .ok (.putfield 135, 3) := by decide +kernel
theorem dX6_next_131 : decode cX6_next 131 = .ok (.goto (-31), 3) := by decide +kernel
theorem dX6_next_134 : decode cX6_next 134 = .ok (.iload_n 1, 1) := by decide +kernel
theorem dX6_next_135 : decode cX6_next 135 = .ok (.i2l, 1) := by decide +kernel
theorem dX6_next_136 : decode cX6_next 136 = .ok (.ldc2_w 151, 3) := by decide +kernel
theorem dX6_next_139 : decode cX6_next 139 = .ok (.ldc2_w 153, 3) := by decide +kernel
theorem dX6_next_142 : decode cX6_next 142 = .ok (.invokestatic 94, 3) := by decide +kernel
theorem dX6_next_145 : decode cX6_next 145 = .ok (.ifCond .eq 107, 3) := by decide +kernel
theorem dX6_next_148 : decode cX6_next 148 = .ok (.aload_n 0, 1) := by decide +kernel
theorem dX6_next_149 : decode cX6_next 149 = .ok (.iconst 2, 1) := by decide +kernel
theorem dX6_next_150 : decode cX6_next 150 = .ok (.putfield 144, 3) := by decide +kernel
theorem dX6_next_153 : decode cX6_next 153 = .ok (.aload_n 0, 1) := by decide +kernel
theorem dX6_next_154 : decode cX6_next 154 = .ok (.lconst 0, 1) := by decide +kernel
theorem dX6_next_155 : decode cX6_next 155 = .ok (.putfield 155, 3) := by decide +kernel
theorem dX6_next_158 : decode cX6_next 158 = .ok (.iconst 0, 1) := by decide +kernel
theorem dX6_next_159 : decode cX6_next 159 = .ok (.istore_n 2, 1) := by decide +kernel
theorem dX6_next_160 : decode cX6_next 160 = .ok (.aload_n 0, 1) := by decide +kernel
theorem dX6_next_161 : decode cX6_next 161 = .ok (.aload_n 0, 1) := by decide +kernel
theorem dX6_next_162 : decode cX6_next 162 = .ok (.getfield 135, 3) := by decide +kernel
theorem dX6_next_165 : decode cX6_next 165 = .ok (.invokevirtual 138, 3) := by decide +kernel
theorem dX6_next_168 : decode cX6_next 168 = .ok (.i2l, 1) := by decide +kernel
theorem dX6_next_169 : decode cX6_next 169 = .ok (.ldc2_w 151, 3) := by decide +kernel
theorem dX6_next_172 : decode cX6_next 172 = .ok (.ldc2_w 153, 3) := by decide +kernel
theorem dX6_next_175 : decode cX6_next 175 = .ok (.invokestatic 94, 3) := by decide +kernel
theorem dX6_next_178 : decode cX6_next 178 = .ok (.ifCond .eq 57, 3) := by decide +kernel
theorem dX6_next_181 : decode cX6_next 181 = .ok (.aload_n 0, 1) := by decide +kernel
theorem dX6_next_182 : decode cX6_next 182 = .ok (.iload_n 2, 1) := by decide +kernel
theorem dX6_next_183 : decode cX6_next 183 = .ok (.iconst 4, 1) := by decide +kernel
theorem dX6_next_184 : decode cX6_next 184 = .ok (.if_icmp .ge 28, 3) := by decide +kernel
theorem dX6_next_187 : decode cX6_next 187 = .ok (.ldc2_w 159, 3) := by decide +kernel
theorem dX6_next_190 : decode cX6_next 190 = .ok (.aload_n 0, 1) := by decide +kernel
theorem dX6_next_191 : decode cX6_next 191 = .ok (.getfield 155, 3) := by decide +kernel
theorem dX6_next_194 : decode cX6_next 194 = .ok (.lmul, 1) := by decide +kernel
theorem dX6_next_195 : decode cX6_next 195 = .ok (.aload_n 0, 1) := by decide +kernel
theorem dX6_next_196 : decode cX6_next 196 = .ok (.aload_n 0, 1) := by decide +kernel
theorem dX6_next_197 : decode cX6_next 197 = .ok (.getfield 135, 3) := by decide +kernel
theorem dX6_next_200 : decode cX6_next 200 = .ok (.invokevirtual 138, 3) := by decide +kernel
theorem dX6_next_203 : decode cX6_next 203 = .ok (.i2l, 1) := by decide +kernel
theorem dX6_next_204 : decode cX6_next 204 = .ok (.ladd, 1) := by decide +kernel
theorem dX6_next_205 : decode cX6_next 205 = .ok (.ldc2_w 151, 3) := by decide +kernel
theorem dX6_next_208 : decode cX6_next 208 = .ok (.lsub, 1) := by decide +kernel
theorem dX6_next_209 : decode cX6_next 209 = .ok (.goto 7, 3) := by decide +kernel
theorem dX6_next_212 : decode cX6_next 212 = .ok (.aload_n 0, 1) := by decide +kernel
theorem dX6_next_213 : decode cX6_next 213 = .ok (.getfield 155, 3) := by decide +kernel
theorem dX6_next_216 : decode cX6_next 216 = .ok (.putfield 155, 3) := by decide +kernel
theorem dX6_next_219 : decode cX6_next 219 = .ok (.iinc 2 1, 3) := by decide +kernel
theorem dX6_next_222 : decode cX6_next 222 = .ok (.aload_n 0, 1) := by decide +kernel
theorem dX6_next_223 : decode cX6_next 223 = .ok (.dup, 1) := by decide +kernel
theorem dX6_next_224 : decode cX6_next 224 = .ok (.getfield 135, 3) := by decide +kernel
theorem dX6_next_227 : decode cX6_next 227 = .ok (.iconst 1, 1) := by decide +kernel
theorem dX6_next_228 : decode cX6_next 228 = .ok (.iadd, 1) := by decide +kernel
theorem dX6_next_229 : decode cX6_next 229 = .ok (.putfield 135, 3) := by decide +kernel
theorem dX6_next_232 : decode cX6_next 232 = .ok (.goto (-72), 3) := by decide +kernel
theorem dX6_next_235 : decode cX6_next 235 = .ok (.aload_n 0, 1) := by decide +kernel
theorem dX6_next_236 : decode cX6_next 236 = .ok (.iload_n 2, 1) := by decide +kernel
theorem dX6_next_237 : decode cX6_next 237 = .ok (.iconst 4, 1) := by decide +kernel
theorem dX6_next_238 : decode cX6_next 238 = .ok (.if_icmp .le 7, 3) := by decide +kernel
theorem dX6_next_241 : decode cX6_next 241 = .ok (.iconst 4, 1) := by decide +kernel
theorem dX6_next_242 : decode cX6_next 242 = .ok (.goto 4, 3) := by decide +kernel
theorem dX6_next_245 : decode cX6_next 245 = .ok (.iconst 2, 1) := by decide +kernel
theorem dX6_next_246 : decode cX6_next 246 = .ok (.putfield 144, 3) := by decide +kernel
theorem dX6_next_249 : decode cX6_next 249 = .ok (.goto 72, 3) := by decide +kernel
theorem dX6_next_252 : decode cX6_next 252 = .ok (.iload_n 1, 1) := by decide +kernel
theorem dX6_next_253 : decode cX6_next 253 = .ok (.bipush 40, 2) := by decide +kernel
theorem dX6_next_255 : decode cX6_next 255 = .ok (.if_icmp .eq 45, 3) := by decide +kernel
theorem dX6_next_258 : decode cX6_next 258 = .ok (.iload_n 1, 1) := by decide +kernel
theorem dX6_next_259 : decode cX6_next 259 = .ok (.bipush 41, 2) := by decide +kernel
theorem dX6_next_261 : decode cX6_next 261 = .ok (.if_icmp .eq 39, 3) := by decide +kernel
theorem dX6_next_264 : decode cX6_next 264 = .ok (.iload_n 1, 1) := by decide +kernel
theorem dX6_next_265 : decode cX6_next 265 = .ok (.bipush 59, 2) := by decide +kernel
theorem dX6_next_267 : decode cX6_next 267 = .ok (.if_icmp .eq 33, 3) := by decide +kernel
theorem dX6_next_270 : decode cX6_next 270 = .ok (.iload_n 1, 1) := by decide +kernel
theorem dX6_next_271 : decode cX6_next 271 = .ok (.bipush 43, 2) := by decide +kernel
theorem dX6_next_273 : decode cX6_next 273 = .ok (.if_icmp .eq 27, 3) := by decide +kernel
theorem dX6_next_276 : decode cX6_next 276 = .ok (.iload_n 1, 1) := by decide +kernel
theorem dX6_next_277 : decode cX6_next 277 = .ok (.bipush 45, 2) := by decide +kernel
theorem dX6_next_279 : decode cX6_next 279 = .ok (.if_icmp .eq 21, 3) := by decide +kernel
theorem dX6_next_282 : decode cX6_next 282 = .ok (.iload_n 1, 1) := by decide +kernel
theorem dX6_next_283 : decode cX6_next 283 = .ok (.bipush 42, 2) := by decide +kernel
theorem dX6_next_285 : decode cX6_next 285 = .ok (.if_icmp .eq 15, 3) := by decide +kernel
theorem dX6_next_288 : decode cX6_next 288 = .ok (.iload_n 1, 1) := by decide +kernel
theorem dX6_next_289 : decode cX6_next 289 = .ok (.bipush 60, 2) := by decide +kernel
theorem dX6_next_291 : decode cX6_next 291 = .ok (.if_icmp .eq 9, 3) := by decide +kernel
theorem dX6_next_294 : decode cX6_next 294 = .ok (.iload_n 1, 1) := by decide +kernel
theorem dX6_next_295 : decode cX6_next 295 = .ok (.bipush 61, 2) := by decide +kernel
theorem dX6_next_297 : decode cX6_next 297 = .ok (.if_icmp .ne 24, 3) := by decide +kernel
theorem dX6_next_300 : decode cX6_next 300 = .ok (.aload_n 0, 1) := by decide +kernel
theorem dX6_next_301 : decode cX6_next 301 = .ok (.iconst 3, 1) := by decide +kernel
theorem dX6_next_302 : decode cX6_next 302 = .ok (.putfield 144, 3) := by decide +kernel
theorem dX6_next_305 : decode cX6_next 305 = .ok (.aload_n 0, 1) := by decide +kernel
theorem dX6_next_306 : decode cX6_next 306 = .ok (.iload_n 1, 1) := by decide +kernel
theorem dX6_next_307 : decode cX6_next 307 = .ok (.i2l, 1) := by decide +kernel
theorem dX6_next_308 : decode cX6_next 308 = .ok (.putfield 155, 3) := by decide +kernel
theorem dX6_next_311 : decode cX6_next 311 = .ok (.aload_n 0, 1) := by decide +kernel
theorem dX6_next_312 : decode cX6_next 312 = .ok (.dup, 1) := by decide +kernel
theorem dX6_next_313 : decode cX6_next 313 = .ok (.getfield 135, 3) := by decide +kernel
theorem dX6_next_316 : decode cX6_next 316 = .ok (.iconst 1, 1) := by decide +kernel
theorem dX6_next_317 : decode cX6_next 317 = .ok (.iadd, 1) := by decide +kernel
theorem dX6_next_318 : decode cX6_next 318 = .ok (.putfield 135, 3) := by decide +kernel
theorem dX6_next_321 : decode cX6_next 321 = .ok (.return_, 1) := by decide +kernel
theorem dX6_fail_0 : decode cX6_fail 0 = .ok (.aload_n 0, 1) := by decide +kernel
theorem dX6_fail_1 : decode cX6_fail 1 = .ok (.getfield 161, 3) := by decide +kernel
theorem dX6_fail_4 : decode cX6_fail 4 = .ok (.ifCond .ne 16, 3) := by decide +kernel
theorem dX6_fail_7 : decode cX6_fail 7 = .ok (.aload_n 0, 1) := by decide +kernel
theorem dX6_fail_8 : decode cX6_fail 8 = .ok (.iconst 1, 1) := by decide +kernel
theorem dX6_fail_9 : decode cX6_fail 9 = .ok (.putfield 161, 3) := by decide +kernel
theorem dX6_fail_12 : decode cX6_fail 12 = .ok (.aload_n 0, 1) := by decide +kernel
theorem dX6_fail_13 : decode cX6_fail 13 = .ok (.aload_n 0, 1) := by decide +kernel
theorem dX6_fail_14 : decode cX6_fail 14 = .ok (.getfield 141, 3) := by decide +kernel
theorem dX6_fail_17 : decode cX6_fail 17 = .ok (.putfield 165, 3) := by decide +kernel
theorem dX6_fail_20 : decode cX6_fail 20 = .ok (.return_, 1) := by decide +kernel
theorem dX6_isLetter_0 : decode cX6_isLetter 0 = .ok (.aload_n 0, 1) := by decide +kernel
theorem dX6_isLetter_1 : decode cX6_isLetter 1 = .ok (.getfield 141, 3) := by decide +kernel
theorem dX6_isLetter_4 : decode cX6_isLetter 4 = .ok (.iload_n 1, 1) := by decide +kernel
theorem dX6_isLetter_5 : decode cX6_isLetter 5 = .ok (.iadd, 1) := by decide +kernel
theorem dX6_isLetter_6 : decode cX6_isLetter 6 = .ok (.aload_n 0, 1) := by decide +kernel
theorem dX6_isLetter_7 : decode cX6_isLetter 7 = .ok (.getfield 135, 3) := by decide +kernel
theorem dX6_isLetter_10 : decode cX6_isLetter 10 = .ok (.if_icmp .ge 25, 3) := by decide +kernel
theorem dX6_isLetter_13 : decode cX6_isLetter 13 = .ok (.aload_n 0, 1) := by decide +kernel
theorem dX6_isLetter_14 : decode cX6_isLetter 14 = .ok (.aload_n 0, 1) := by decide +kernel
theorem dX6_isLetter_15 : decode cX6_isLetter 15 = .ok (.getfield 141, 3) := by decide +kernel
theorem dX6_isLetter_18 : decode cX6_isLetter 18 = .ok (.iload_n 1, 1) := by decide +kernel
theorem dX6_isLetter_19 : decode cX6_isLetter 19 = .ok (.iadd, 1) := by decide +kernel
theorem dX6_isLetter_20 : decode cX6_isLetter 20 = .ok (.invokevirtual 138, 3) := by decide +kernel
theorem dX6_isLetter_23 : decode cX6_isLetter 23 = .ok (.iload_n 2, 1) := by decide +kernel
theorem dX6_isLetter_24 : decode cX6_isLetter 24 = .ok (.if_icmp .ne 7, 3) := by decide +kernel
theorem dX6_isLetter_27 : decode cX6_isLetter 27 = .ok (.iconst 1, 1) := by decide +kernel
theorem dX6_isLetter_28 : decode cX6_isLetter 28 = .ok (.goto 16, 3) := by decide +kernel
theorem dX6_isLetter_31 : decode cX6_isLetter 31 = .ok (.iconst 0, 1) := by decide +kernel
theorem dX6_isLetter_32 : decode cX6_isLetter 32 = .ok (.goto 12, 3) := by decide +kernel
theorem dX6_isLetter_35 : decode cX6_isLetter 35 = .ok (.iload_n 2, 1) := by decide +kernel
theorem dX6_isLetter_36 : decode cX6_isLetter 36 = .ok (.ifCond .ne 7, 3) := by decide +kernel
theorem dX6_isLetter_39 : decode cX6_isLetter 39 = .ok (.iconst 1, 1) := by decide +kernel
theorem dX6_isLetter_40 : decode cX6_isLetter 40 = .ok (.goto 4, 3) := by decide +kernel
theorem dX6_isLetter_43 : decode cX6_isLetter 43 = .ok (.iconst 0, 1) := by decide +kernel
theorem dX6_isLetter_44 : decode cX6_isLetter 44 = .ok (.ireturn, 1) := by decide +kernel
theorem dX6_isWord_0 : decode cX6_isWord 0 = .ok (.aload_n 0, 1) := by decide +kernel
theorem dX6_isWord_1 : decode cX6_isWord 1 = .ok (.getfield 161, 3) := by decide +kernel
theorem dX6_isWord_4 : decode cX6_isWord 4 = .ok (.ifCond .ne 108, 3) := by decide +kernel
theorem dX6_isWord_7 : decode cX6_isWord 7 = .ok (.aload_n 0, 1) := by decide +kernel
theorem dX6_isWord_8 : decode cX6_isWord 8 = .ok (.getfield 144, 3) := by decide +kernel
theorem dX6_isWord_11 : decode cX6_isWord 11 = .ok (.iconst 1, 1) := by decide +kernel
theorem dX6_isWord_12 : decode cX6_isWord 12 = .ok (.if_icmp .ne 100, 3) := by decide +kernel
theorem dX6_isWord_15 : decode cX6_isWord 15 = .ok (.aload_n 0, 1) := by decide +kernel
theorem dX6_isWord_16 : decode cX6_isWord 16 = .ok (.getfield 135, 3) := by decide +kernel
theorem dX6_isWord_19 : decode cX6_isWord 19 = .ok (.aload_n 0, 1) := by decide +kernel
theorem dX6_isWord_20 : decode cX6_isWord 20 = .ok (.getfield 141, 3) := by decide +kernel
theorem dX6_isWord_23 : decode cX6_isWord 23 = .ok (.bipush 8, 2) := by decide +kernel
theorem dX6_isWord_25 : decode cX6_isWord 25 = .ok (.iadd, 1) := by decide +kernel
theorem dX6_isWord_26 : decode cX6_isWord 26 = .ok (.if_icmp .gt 86, 3) := by decide +kernel
theorem dX6_isWord_29 : decode cX6_isWord 29 = .ok (.aload_n 0, 1) := by decide +kernel
theorem dX6_isWord_30 : decode cX6_isWord 30 = .ok (.iconst 0, 1) := by decide +kernel
theorem dX6_isWord_31 : decode cX6_isWord 31 = .ok (.iload_n 1, 1) := by decide +kernel
theorem dX6_isWord_32 : decode cX6_isWord 32 = .ok (.invokevirtual 168, 3) := by decide +kernel
theorem dX6_isWord_35 : decode cX6_isWord 35 = .ok (.ifCond .eq 77, 3) := by decide +kernel
theorem dX6_isWord_38 : decode cX6_isWord 38 = .ok (.aload_n 0, 1) := by decide +kernel
theorem dX6_isWord_39 : decode cX6_isWord 39 = .ok (.iconst 1, 1) := by decide +kernel
theorem dX6_isWord_40 : decode cX6_isWord 40 = .ok (.iload_n 2, 1) := by decide +kernel
theorem dX6_isWord_41 : decode cX6_isWord 41 = .ok (.invokevirtual 168, 3) := by decide +kernel
theorem dX6_isWord_44 : decode cX6_isWord 44 = .ok (.ifCond .eq 68, 3) := by decide +kernel
theorem dX6_isWord_47 : decode cX6_isWord 47 = .ok (.aload_n 0, 1) := by decide +kernel
theorem dX6_isWord_48 : decode cX6_isWord 48 = .ok (.iconst 2, 1) := by decide +kernel
theorem dX6_isWord_49 : decode cX6_isWord 49 = .ok (.iload_n 3, 1) := by decide +kernel
theorem dX6_isWord_50 : decode cX6_isWord 50 = .ok (.invokevirtual 168, 3) := by decide +kernel
theorem dX6_isWord_53 : decode cX6_isWord 53 = .ok (.ifCond .eq 59, 3) := by decide +kernel
theorem dX6_isWord_56 : decode cX6_isWord 56 = .ok (.aload_n 0, 1) := by decide +kernel
theorem dX6_isWord_57 : decode cX6_isWord 57 = .ok (.iconst 3, 1) := by decide +kernel
theorem dX6_isWord_58 : decode cX6_isWord 58 = .ok (.iload 4, 2) := by decide +kernel
theorem dX6_isWord_60 : decode cX6_isWord 60 = .ok (.invokevirtual 168, 3) := by decide +kernel
theorem dX6_isWord_63 : decode cX6_isWord 63 = .ok (.ifCond .eq 49, 3) := by decide +kernel
theorem dX6_isWord_66 : decode cX6_isWord 66 = .ok (.aload_n 0, 1) := by decide +kernel
theorem dX6_isWord_67 : decode cX6_isWord 67 = .ok (.iconst 4, 1) := by decide +kernel
theorem dX6_isWord_68 : decode cX6_isWord 68 = .ok (.iload 5, 2) := by decide +kernel
theorem dX6_isWord_70 : decode cX6_isWord 70 = .ok (.invokevirtual 168, 3) := by decide +kernel
theorem dX6_isWord_73 : decode cX6_isWord 73 = .ok (.ifCond .eq 39, 3) := by decide +kernel
theorem dX6_isWord_76 : decode cX6_isWord 76 = .ok (.aload_n 0, 1) := by decide +kernel
theorem dX6_isWord_77 : decode cX6_isWord 77 = .ok (.iconst 5, 1) := by decide +kernel
theorem dX6_isWord_78 : decode cX6_isWord 78 = .ok (.iload 6, 2) := by decide +kernel
theorem dX6_isWord_80 : decode cX6_isWord 80 = .ok (.invokevirtual 168, 3) := by decide +kernel
theorem dX6_isWord_83 : decode cX6_isWord 83 = .ok (.ifCond .eq 29, 3) := by decide +kernel
theorem dX6_isWord_86 : decode cX6_isWord 86 = .ok (.aload_n 0, 1) := by decide +kernel
theorem dX6_isWord_87 : decode cX6_isWord 87 = .ok (.bipush 6, 2) := by decide +kernel
theorem dX6_isWord_89 : decode cX6_isWord 89 = .ok (.iload 7, 2) := by decide +kernel
theorem dX6_isWord_91 : decode cX6_isWord 91 = .ok (.invokevirtual 168, 3) := by decide +kernel
theorem dX6_isWord_94 : decode cX6_isWord 94 = .ok (.ifCond .eq 18, 3) := by decide +kernel
theorem dX6_isWord_97 : decode cX6_isWord 97 = .ok (.aload_n 0, 1) := by decide +kernel
theorem dX6_isWord_98 : decode cX6_isWord 98 = .ok (.bipush 7, 2) := by decide +kernel
theorem dX6_isWord_100 : decode cX6_isWord 100 = .ok (.iload 8, 2) := by decide +kernel
theorem dX6_isWord_102 : decode cX6_isWord 102 = .ok (.invokevirtual 168, 3) := by decide +kernel
theorem dX6_isWord_105 : decode cX6_isWord 105 = .ok (.ifCond .eq 7, 3) := by decide +kernel
theorem dX6_isWord_108 : decode cX6_isWord 108 = .ok (.iconst 1, 1) := by decide +kernel
theorem dX6_isWord_109 : decode cX6_isWord 109 = .ok (.goto 4, 3) := by decide +kernel
theorem dX6_isWord_112 : decode cX6_isWord 112 = .ok (.iconst 0, 1) := by decide +kernel
theorem dX6_isWord_113 : decode cX6_isWord 113 = .ok (.ireturn, 1) := by decide +kernel
theorem dX6_isSign_0 : decode cX6_isSign 0 = .ok (.aload_n 0, 1) := by decide +kernel
theorem dX6_isSign_1 : decode cX6_isSign 1 = .ok (.getfield 161, 3) := by decide +kernel
theorem dX6_isSign_4 : decode cX6_isSign 4 = .ok (.ifCond .ne 25, 3) := by decide +kernel
theorem dX6_isSign_7 : decode cX6_isSign 7 = .ok (.aload_n 0, 1) := by decide +kernel
theorem dX6_isSign_8 : decode cX6_isSign 8 = .ok (.getfield 144, 3) := by decide +kernel
theorem dX6_isSign_11 : decode cX6_isSign 11 = .ok (.iconst 3, 1) := by decide +kernel
theorem dX6_isSign_12 : decode cX6_isSign 12 = .ok (.if_icmp .ne 17, 3) := by decide +kernel
theorem dX6_isSign_15 : decode cX6_isSign 15 = .ok (.aload_n 0, 1) := by decide +kernel
theorem dX6_isSign_16 : decode cX6_isSign 16 = .ok (.getfield 155, 3) := by decide +kernel
theorem dX6_isSign_19 : decode cX6_isSign 19 = .ok (.iload_n 1, 1) := by decide +kernel
theorem dX6_isSign_20 : decode cX6_isSign 20 = .ok (.i2l, 1) := by decide +kernel
theorem dX6_isSign_21 : decode cX6_isSign 21 = .ok (.lcmp, 1) := by decide +kernel
theorem dX6_isSign_22 : decode cX6_isSign 22 = .ok (.ifCond .ne 7, 3) := by decide +kernel
theorem dX6_isSign_25 : decode cX6_isSign 25 = .ok (.iconst 1, 1) := by decide +kernel
theorem dX6_isSign_26 : decode cX6_isSign 26 = .ok (.goto 4, 3) := by decide +kernel
theorem dX6_isSign_29 : decode cX6_isSign 29 = .ok (.iconst 0, 1) := by decide +kernel
theorem dX6_isSign_30 : decode cX6_isSign 30 = .ok (.ireturn, 1) := by decide +kernel
theorem dX6_opens_0 : decode cX6_opens 0 = .ok (.aload_n 0, 1) := by decide +kernel
theorem dX6_opens_1 : decode cX6_opens 1 = .ok (.getfield 172, 3) := by decide +kernel
theorem dX6_opens_4 : decode cX6_opens 4 = .ok (.iconst 5, 1) := by decide +kernel
theorem dX6_opens_5 : decode cX6_opens 5 = .ok (.if_icmp .ne 9, 3) := by decide +kernel
theorem dX6_opens_8 : decode cX6_opens 8 = .ok (.aload_n 0, 1) := by decide +kernel
theorem dX6_opens_9 : decode cX6_opens 9 = .ok (.invokevirtual 175, 3) := by decide +kernel
theorem dX6_opens_12 : decode cX6_opens 12 = .ok (.iconst 0, 1) := by decide +kernel
theorem dX6_opens_13 : decode cX6_opens 13 = .ok (.ireturn, 1) := by decide +kernel
theorem dX6_opens_14 : decode cX6_opens 14 = .ok (.aload_n 0, 1) := by decide +kernel
theorem dX6_opens_15 : decode cX6_opens 15 = .ok (.dup, 1) := by decide +kernel
theorem dX6_opens_16 : decode cX6_opens 16 = .ok (.getfield 172, 3) := by decide +kernel
theorem dX6_opens_19 : decode cX6_opens 19 = .ok (.iconst 1, 1) := by decide +kernel
theorem dX6_opens_20 : decode cX6_opens 20 = .ok (.iadd, 1) := by decide +kernel
theorem dX6_opens_21 : decode cX6_opens 21 = .ok (.putfield 172, 3) := by decide +kernel
theorem dX6_opens_24 : decode cX6_opens 24 = .ok (.aload_n 0, 1) := by decide +kernel
theorem dX6_opens_25 : decode cX6_opens 25 = .ok (.invokevirtual 178, 3) := by decide +kernel
theorem dX6_opens_28 : decode cX6_opens 28 = .ok (.iconst 1, 1) := by decide +kernel
theorem dX6_opens_29 : decode cX6_opens 29 = .ok (.ireturn, 1) := by decide +kernel
theorem dX6_name_0 : decode cX6_name 0 = .ok (.aload_n 0, 1) := by decide +kernel
theorem dX6_name_1 : decode cX6_name 1 = .ok (.bipush 99, 2) := by decide +kernel
theorem dX6_name_3 : decode cX6_name 3 = .ok (.bipush 97, 2) := by decide +kernel
theorem dX6_name_5 : decode cX6_name 5 = .ok (.bipush 107, 2) := by decide +kernel
theorem dX6_name_7 : decode cX6_name 7 = .ok (.bipush 101, 2) := by decide +kernel
theorem dX6_name_9 : decode cX6_name 9 = .ok (.iconst 0, 1) := by decide +kernel
theorem dX6_name_10 : decode cX6_name 10 = .ok (.iconst 0, 1) := by decide +kernel
theorem dX6_name_11 : decode cX6_name 11 = .ok (.iconst 0, 1) := by decide +kernel
theorem dX6_name_12 : decode cX6_name 12 = .ok (.iconst 0, 1) := by decide +kernel
theorem dX6_name_13 : decode cX6_name 13 = .ok (.invokevirtual 181, 3) := by decide +kernel
theorem dX6_name_16 : decode cX6_name 16 = .ok (.ifCond .eq 8, 3) := by decide +kernel
theorem dX6_name_19 : decode cX6_name 19 = .ok (.aload_n 0, 1) := by decide +kernel
theorem dX6_name_20 : decode cX6_name 20 = .ok (.getfield 185, 3) := by decide +kernel
theorem dX6_name_23 : decode cX6_name 23 = .ok (.ireturn, 1) := by decide +kernel
theorem dX6_name_24 : decode cX6_name 24 = .ok (.aload_n 0, 1) := by decide +kernel
theorem dX6_name_25 : decode cX6_name 25 = .ok (.bipush 109, 2) := by decide +kernel
theorem dX6_name_27 : decode cX6_name 27 = .ok (.bipush 105, 2) := by decide +kernel
theorem dX6_name_29 : decode cX6_name 29 = .ok (.bipush 110, 2) := by decide +kernel
theorem dX6_name_31 : decode cX6_name 31 = .ok (.bipush 117, 2) := by decide +kernel
theorem dX6_name_33 : decode cX6_name 33 = .ok (.bipush 116, 2) := by decide +kernel
theorem dX6_name_35 : decode cX6_name 35 = .ok (.bipush 101, 2) := by decide +kernel
theorem dX6_name_37 : decode cX6_name 37 = .ok (.iconst 0, 1) := by decide +kernel
theorem dX6_name_38 : decode cX6_name 38 = .ok (.iconst 0, 1) := by decide +kernel
theorem dX6_name_39 : decode cX6_name 39 = .ok (.invokevirtual 181, 3) := by decide +kernel
theorem dX6_name_42 : decode cX6_name 42 = .ok (.ifCond .eq 8, 3) := by decide +kernel
theorem dX6_name_45 : decode cX6_name 45 = .ok (.aload_n 0, 1) := by decide +kernel
theorem dX6_name_46 : decode cX6_name 46 = .ok (.getfield 188, 3) := by decide +kernel
theorem dX6_name_49 : decode cX6_name 49 = .ok (.ireturn, 1) := by decide +kernel
theorem dX6_name_50 : decode cX6_name 50 = .ok (.aload_n 0, 1) := by decide +kernel
theorem dX6_name_51 : decode cX6_name 51 = .ok (.bipush 104, 2) := by decide +kernel
theorem dX6_name_53 : decode cX6_name 53 = .ok (.bipush 97, 2) := by decide +kernel
theorem dX6_name_55 : decode cX6_name 55 = .ok (.bipush 100, 2) := by decide +kernel
theorem dX6_name_57 : decode cX6_name 57 = .ok (.iconst 0, 1) := by decide +kernel
theorem dX6_name_58 : decode cX6_name 58 = .ok (.iconst 0, 1) := by decide +kernel
theorem dX6_name_59 : decode cX6_name 59 = .ok (.iconst 0, 1) := by decide +kernel
theorem dX6_name_60 : decode cX6_name 60 = .ok (.iconst 0, 1) := by decide +kernel
theorem dX6_name_61 : decode cX6_name 61 = .ok (.iconst 0, 1) := by decide +kernel
theorem dX6_name_62 : decode cX6_name 62 = .ok (.invokevirtual 181, 3) := by decide +kernel
theorem dX6_name_65 : decode cX6_name 65 = .ok (.ifCond .eq 8, 3) := by decide +kernel
theorem dX6_name_68 : decode cX6_name 68 = .ok (.aload_n 0, 1) := by decide +kernel
theorem dX6_name_69 : decode cX6_name 69 = .ok (.getfield 191, 3) := by decide +kernel
theorem dX6_name_72 : decode cX6_name 72 = .ok (.ireturn, 1) := by decide +kernel
theorem dX6_name_73 : decode cX6_name 73 = .ok (.aload_n 0, 1) := by decide +kernel
theorem dX6_name_74 : decode cX6_name 74 = .ok (.bipush 119, 2) := by decide +kernel
theorem dX6_name_76 : decode cX6_name 76 = .ok (.bipush 97, 2) := by decide +kernel
theorem dX6_name_78 : decode cX6_name 78 = .ok (.bipush 110, 2) := by decide +kernel
theorem dX6_name_80 : decode cX6_name 80 = .ok (.bipush 116, 2) := by decide +kernel
theorem dX6_name_82 : decode cX6_name 82 = .ok (.iconst 0, 1) := by decide +kernel
theorem dX6_name_83 : decode cX6_name 83 = .ok (.iconst 0, 1) := by decide +kernel
theorem dX6_name_84 : decode cX6_name 84 = .ok (.iconst 0, 1) := by decide +kernel
theorem dX6_name_85 : decode cX6_name 85 = .ok (.iconst 0, 1) := by decide +kernel
theorem dX6_name_86 : decode cX6_name 86 = .ok (.invokevirtual 181, 3) := by decide +kernel
theorem dX6_name_89 : decode cX6_name 89 = .ok (.ifCond .eq 8, 3) := by decide +kernel
theorem dX6_name_92 : decode cX6_name 92 = .ok (.aload_n 0, 1) := by decide +kernel
theorem dX6_name_93 : decode cX6_name 93 = .ok (.getfield 194, 3) := by decide +kernel
theorem dX6_name_96 : decode cX6_name 96 = .ok (.ireturn, 1) := by decide +kernel
theorem dX6_name_97 : decode cX6_name 97 = .ok (.aload_n 0, 1) := by decide +kernel
theorem dX6_name_98 : decode cX6_name 98 = .ok (.bipush 101, 2) := by decide +kernel
theorem dX6_name_100 : decode cX6_name 100 = .ok (.bipush 97, 2) := by decide +kernel
theorem dX6_name_102 : decode cX6_name 102 = .ok (.bipush 116, 2) := by decide +kernel
theorem dX6_name_104 : decode cX6_name 104 = .ok (.bipush 101, 2) := by decide +kernel
theorem dX6_name_106 : decode cX6_name 106 = .ok (.bipush 114, 2) := by decide +kernel
theorem dX6_name_108 : decode cX6_name 108 = .ok (.iconst 0, 1) := by decide +kernel
theorem dX6_name_109 : decode cX6_name 109 = .ok (.iconst 0, 1) := by decide +kernel
theorem dX6_name_110 : decode cX6_name 110 = .ok (.iconst 0, 1) := by decide +kernel
theorem dX6_name_111 : decode cX6_name 111 = .ok (.invokevirtual 181, 3) := by decide +kernel
theorem dX6_name_114 : decode cX6_name 114 = .ok (.ifCond .eq 8, 3) := by decide +kernel
theorem dX6_name_117 : decode cX6_name 117 = .ok (.aload_n 0, 1) := by decide +kernel
theorem dX6_name_118 : decode cX6_name 118 = .ok (.getfield 197, 3) := by decide +kernel
theorem dX6_name_121 : decode cX6_name 121 = .ok (.ireturn, 1) := by decide +kernel
theorem dX6_name_122 : decode cX6_name 122 = .ok (.aload_n 0, 1) := by decide +kernel
theorem dX6_name_123 : decode cX6_name 123 = .ok (.bipush 108, 2) := by decide +kernel
theorem dX6_name_125 : decode cX6_name 125 = .ok (.bipush 97, 2) := by decide +kernel
theorem dX6_name_127 : decode cX6_name 127 = .ok (.bipush 116, 2) := by decide +kernel
theorem dX6_name_129 : decode cX6_name 129 = .ok (.bipush 101, 2) := by decide +kernel
theorem dX6_name_131 : decode cX6_name 131 = .ok (.iconst 0, 1) := by decide +kernel
theorem dX6_name_132 : decode cX6_name 132 = .ok (.iconst 0, 1) := by decide +kernel
theorem dX6_name_133 : decode cX6_name 133 = .ok (.iconst 0, 1) := by decide +kernel
theorem dX6_name_134 : decode cX6_name 134 = .ok (.iconst 0, 1) := by decide +kernel
theorem dX6_name_135 : decode cX6_name 135 = .ok (.invokevirtual 181, 3) := by decide +kernel
theorem dX6_name_138 : decode cX6_name 138 = .ok (.ifCond .eq 8, 3) := by decide +kernel
theorem dX6_name_141 : decode cX6_name 141 = .ok (.aload_n 0, 1) := by decide +kernel
theorem dX6_name_142 : decode cX6_name 142 = .ok (.getfield 200, 3) := by decide +kernel
theorem dX6_name_145 : decode cX6_name 145 = .ok (.ireturn, 1) := by decide +kernel
theorem dX6_name_146 : decode cX6_name 146 = .ok (.aload_n 0, 1) := by decide +kernel
theorem dX6_name_147 : decode cX6_name 147 = .ok (.invokevirtual 175, 3) := by decide +kernel
theorem dX6_name_150 : decode cX6_name 150 = .ok (.iconst 0, 1) := by decide +kernel
theorem dX6_name_151 : decode cX6_name 151 = .ok (.ireturn, 1) := by decide +kernel
theorem dX6_atom_0 : decode cX6_atom 0 = .ok (.iconst 0, 1) := by decide +kernel
theorem dX6_atom_1 : decode cX6_atom 1 = .ok (.istore_n 1, 1) := by decide +kernel
theorem dX6_atom_2 : decode cX6_atom 2 = .ok (.aload_n 0, 1) := by decide +kernel
theorem dX6_atom_3 : decode cX6_atom 3 = .ok (.bipush 45, 2) := by decide +kernel
theorem dX6_atom_5 : decode cX6_atom 5 = .ok (.invokevirtual 203, 3) := by decide +kernel
theorem dX6_atom_8 : decode cX6_atom 8 = .ok (.ifCond .eq 29, 3) := by decide +kernel
theorem dX6_atom_11 : decode cX6_atom 11 = .ok (.aload_n 0, 1) := by decide +kernel
theorem dX6_atom_12 : decode cX6_atom 12 = .ok (.invokevirtual 206, 3) := by decide +kernel
theorem dX6_atom_15 : decode cX6_atom 15 = .ok (.ifCond .eq 146, 3) := by decide +kernel
theorem dX6_atom_18 : decode cX6_atom 18 = .ok (.aload_n 0, 1) := by decide +kernel
theorem dX6_atom_19 : decode cX6_atom 19 = .ok (.invokevirtual 210, 3) := by decide +kernel
theorem dX6_atom_22 : decode cX6_atom 22 = .ok (.ineg, 1) := by decide +kernel
theorem dX6_atom_23 : decode cX6_atom 23 = .ok (.istore_n 1, 1) := by decide +kernel
theorem dX6_atom_24 : decode cX6_atom 24 = .ok (.aload_n 0, 1) := by decide +kernel
theorem dX6_atom_25 : decode cX6_atom 25 = .ok (.dup, 1) := by decide +kernel
theorem dX6_atom_26 : decode cX6_atom 26 = .ok (.getfield 172, 3) := by decide +kernel
theorem dX6_atom_29 : decode cX6_atom 29 = .ok (.iconst 1, 1) := by decide +kernel
theorem dX6_atom_30 : decode cX6_atom 30 = .ok (.isub, 1) := by decide +kernel
theorem dX6_atom_31 : decode cX6_atom 31 = .ok (.putfield 172, 3) := by decide +kernel
theorem dX6_atom_34 : decode cX6_atom 34 = .ok (.goto 127, 3) := by decide +kernel
theorem dX6_atom_37 : decode cX6_atom 37 = .ok (.aload_n 0, 1) := by decide +kernel
theorem dX6_atom_38 : decode cX6_atom 38 = .ok (.bipush 40, 2) := by decide +kernel
theorem dX6_atom_40 : decode cX6_atom 40 = .ok (.invokevirtual 203, 3) := by decide +kernel
theorem dX6_atom_43 : decode cX6_atom 43 = .ok (.ifCond .eq 52, 3) := by decide +kernel
theorem dX6_atom_46 : decode cX6_atom 46 = .ok (.aload_n 0, 1) := by decide +kernel
theorem dX6_atom_47 : decode cX6_atom 47 = .ok (.invokevirtual 206, 3) := by decide +kernel
theorem dX6_atom_50 : decode cX6_atom 50 = .ok (.ifCond .eq 111, 3) := by decide +kernel
theorem dX6_atom_53 : decode cX6_atom 53 = .ok (.aload_n 0, 1) := by decide +kernel
theorem dX6_atom_54 : decode cX6_atom 54 = .ok (.invokevirtual 214, 3) := by decide +kernel
theorem dX6_atom_57 : decode cX6_atom 57 = .ok (.istore_n 1, 1) := by decide +kernel
theorem dX6_atom_58 : decode cX6_atom 58 = .ok (.aload_n 0, 1) := by decide +kernel
theorem dX6_atom_59 : decode cX6_atom 59 = .ok (.bipush 41, 2) := by decide +kernel
theorem dX6_atom_61 : decode cX6_atom 61 = .ok (.invokevirtual 203, 3) := by decide +kernel
theorem dX6_atom_64 : decode cX6_atom 64 = .ok (.ifCond .ne 7, 3) := by decide +kernel
theorem dX6_atom_67 : decode cX6_atom 67 = .ok (.aload_n 0, 1) := by decide +kernel
theorem dX6_atom_68 : decode cX6_atom 68 = .ok (.invokevirtual 175, 3) := by decide +kernel
theorem dX6_atom_71 : decode cX6_atom 71 = .ok (.aload_n 0, 1) := by decide +kernel
theorem dX6_atom_72 : decode cX6_atom 72 = .ok (.dup, 1) := by decide +kernel
theorem dX6_atom_73 : decode cX6_atom 73 = .ok (.getfield 172, 3) := by decide +kernel
theorem dX6_atom_76 : decode cX6_atom 76 = .ok (.iconst 1, 1) := by decide +kernel
theorem dX6_atom_77 : decode cX6_atom 77 = .ok (.isub, 1) := by decide +kernel
theorem dX6_atom_78 : decode cX6_atom 78 = .ok (.putfield 172, 3) := by decide +kernel
theorem dX6_atom_81 : decode cX6_atom 81 = .ok (.aload_n 0, 1) := by decide +kernel
theorem dX6_atom_82 : decode cX6_atom 82 = .ok (.getfield 161, 3) := by decide +kernel
theorem dX6_atom_85 : decode cX6_atom 85 = .ok (.ifCond .ne 76, 3) := by decide +kernel
theorem dX6_atom_88 : decode cX6_atom 88 = .ok (.aload_n 0, 1) := by decide +kernel
theorem dX6_atom_89 : decode cX6_atom 89 = .ok (.invokevirtual 178, 3) := by decide +kernel
theorem dX6_atom_92 : decode cX6_atom 92 = .ok (.goto 69, 3) := by decide +kernel
theorem dX6_atom_95 : decode cX6_atom 95 = .ok (.aload_n 0, 1) := by decide +kernel
theorem dX6_atom_96 : decode cX6_atom 96 = .ok (.getfield 161, 3) := by decide +kernel
theorem dX6_atom_99 : decode cX6_atom 99 = .ok (.ifCond .ne 24, 3) := by decide +kernel
theorem dX6_atom_102 : decode cX6_atom 102 = .ok (.aload_n 0, 1) := by decide +kernel
theorem dX6_atom_103 : decode cX6_atom 103 = .ok (.getfield 144, 3) := by decide +kernel
theorem dX6_atom_106 : decode cX6_atom 106 = .ok (.iconst 2, 1) := by decide +kernel
theorem dX6_atom_107 : decode cX6_atom 107 = .ok (.if_icmp .ne 16, 3) := by decide +kernel
theorem dX6_atom_110 : decode cX6_atom 110 = .ok (.aload_n 0, 1) := by decide +kernel
theorem dX6_atom_111 : decode cX6_atom 111 = .ok (.getfield 155, 3) := by decide +kernel
theorem dX6_atom_114 : decode cX6_atom 114 = .ok (.l2i, 1) := by decide +kernel
theorem dX6_atom_115 : decode cX6_atom 115 = .ok (.istore_n 1, 1) := by decide +kernel
theorem dX6_atom_116 : decode cX6_atom 116 = .ok (.aload_n 0, 1) := by decide +kernel
theorem dX6_atom_117 : decode cX6_atom 117 = .ok (.invokevirtual 178, 3) := by decide +kernel
theorem dX6_atom_120 : decode cX6_atom 120 = .ok (.goto 41, 3) := by decide +kernel
theorem dX6_atom_123 : decode cX6_atom 123 = .ok (.aload_n 0, 1) := by decide +kernel
theorem dX6_atom_124 : decode cX6_atom 124 = .ok (.getfield 161, 3) := by decide +kernel
theorem dX6_atom_127 : decode cX6_atom 127 = .ok (.ifCond .ne 30, 3) := by decide +kernel
theorem dX6_atom_130 : decode cX6_atom 130 = .ok (.aload_n 0, 1) := by decide +kernel
theorem dX6_atom_131 : decode cX6_atom 131 = .ok (.getfield 144, 3) := by decide +kernel
theorem dX6_atom_134 : decode cX6_atom 134 = .ok (.iconst 1, 1) := by decide +kernel
theorem dX6_atom_135 : decode cX6_atom 135 = .ok (.if_icmp .ne 22, 3) := by decide +kernel
theorem dX6_atom_138 : decode cX6_atom 138 = .ok (.aload_n 0, 1) := by decide +kernel
theorem dX6_atom_139 : decode cX6_atom 139 = .ok (.invokevirtual 217, 3) := by decide +kernel
theorem dX6_atom_142 : decode cX6_atom 142 = .ok (.istore_n 1, 1) := by decide +kernel
theorem dX6_atom_143 : decode cX6_atom 143 = .ok (.aload_n 0, 1) := by decide +kernel
theorem dX6_atom_144 : decode cX6_atom 144 = .ok (.getfield 161, 3) := by decide +kernel
theorem dX6_atom_147 : decode cX6_atom 147 = .ok (.ifCond .ne 14, 3) := by decide +kernel
theorem dX6_atom_150 : decode cX6_atom 150 = .ok (.aload_n 0, 1) := by decide +kernel
theorem dX6_atom_151 : decode cX6_atom 151 = .ok (.invokevirtual 178, 3) := by decide +kernel
theorem dX6_atom_154 : decode cX6_atom 154 = .ok (.goto 7, 3) := by decide +kernel
theorem dX6_atom_157 : decode cX6_atom 157 = .ok (.aload_n 0, 1) := by decide +kernel
theorem dX6_atom_158 : decode cX6_atom 158 = .ok (.invokevirtual 175, 3) := by decide +kernel
theorem dX6_atom_161 : decode cX6_atom 161 = .ok (.iload_n 1, 1) := by decide +kernel
theorem dX6_atom_162 : decode cX6_atom 162 = .ok (.ireturn, 1) := by decide +kernel
theorem dX6_term_0 : decode cX6_term 0 = .ok (.aload_n 0, 1) := by decide +kernel
theorem dX6_term_1 : decode cX6_term 1 = .ok (.invokevirtual 210, 3) := by decide +kernel
theorem dX6_term_4 : decode cX6_term 4 = .ok (.istore_n 1, 1) := by decide +kernel
theorem dX6_term_5 : decode cX6_term 5 = .ok (.aload_n 0, 1) := by decide +kernel
theorem dX6_term_6 : decode cX6_term 6 = .ok (.bipush 42, 2) := by decide +kernel
theorem dX6_term_8 : decode cX6_term 8 = .ok (.invokevirtual 203, 3) := by decide +kernel
theorem dX6_term_11 : decode cX6_term 11 = .ok (.ifCond .eq 17, 3) := by decide +kernel
theorem dX6_term_14 : decode cX6_term 14 = .ok (.aload_n 0, 1) := by decide +kernel
theorem dX6_term_15 : decode cX6_term 15 = .ok (.invokevirtual 178, 3) := by decide +kernel
theorem dX6_term_18 : decode cX6_term 18 = .ok (.iload_n 1, 1) := by decide +kernel
theorem dX6_term_19 : decode cX6_term 19 = .ok (.aload_n 0, 1) := by decide +kernel
theorem dX6_term_20 : decode cX6_term 20 = .ok (.invokevirtual 210, 3) := by decide +kernel
theorem dX6_term_23 : decode cX6_term 23 = .ok (.imul, 1) := by decide +kernel
theorem dX6_term_24 : decode cX6_term 24 = .ok (.istore_n 1, 1) := by decide +kernel
theorem dX6_term_25 : decode cX6_term 25 = .ok (.goto (-20), 3) := by decide +kernel
theorem dX6_term_28 : decode cX6_term 28 = .ok (.iload_n 1, 1) := by decide +kernel
theorem dX6_term_29 : decode cX6_term 29 = .ok (.ireturn, 1) := by decide +kernel
theorem dX6_added_0 : decode cX6_added 0 = .ok (.aload_n 0, 1) := by decide +kernel
theorem dX6_added_1 : decode cX6_added 1 = .ok (.invokevirtual 220, 3) := by decide +kernel
theorem dX6_added_4 : decode cX6_added 4 = .ok (.istore_n 1, 1) := by decide +kernel
theorem dX6_added_5 : decode cX6_added 5 = .ok (.aload_n 0, 1) := by decide +kernel
theorem dX6_added_6 : decode cX6_added 6 = .ok (.bipush 43, 2) := by decide +kernel
theorem dX6_added_8 : decode cX6_added 8 = .ok (.invokevirtual 203, 3) := by decide +kernel
theorem dX6_added_11 : decode cX6_added 11 = .ok (.ifCond .ne 12, 3) := by decide +kernel
theorem dX6_added_14 : decode cX6_added 14 = .ok (.aload_n 0, 1) := by decide +kernel
theorem dX6_added_15 : decode cX6_added 15 = .ok (.bipush 45, 2) := by decide +kernel
theorem dX6_added_17 : decode cX6_added 17 = .ok (.invokevirtual 203, 3) := by decide +kernel
theorem dX6_added_20 : decode cX6_added 20 = .ok (.ifCond .eq 46, 3) := by decide +kernel
theorem dX6_added_23 : decode cX6_added 23 = .ok (.aload_n 0, 1) := by decide +kernel
theorem dX6_added_24 : decode cX6_added 24 = .ok (.getfield 155, 3) := by decide +kernel
theorem dX6_added_27 : decode cX6_added 27 = .ok (.ldc2_w 223, 3) := by decide +kernel
theorem dX6_added_30 : decode cX6_added 30 = .ok (.lcmp, 1) := by decide +kernel
theorem dX6_added_31 : decode cX6_added 31 = .ok (.ifCond .ne 7, 3) := by decide +kernel
theorem dX6_added_34 : decode cX6_added 34 = .ok (.iconst 1, 1) := by decide +kernel
theorem dX6_added_35 : decode cX6_added 35 = .ok (.goto 4, 3) := by decide +kernel
theorem dX6_added_38 : decode cX6_added 38 = .ok (.iconst 0, 1) := by decide +kernel
theorem dX6_added_39 : decode cX6_added 39 = .ok (.istore_n 2, 1) := by decide +kernel
theorem dX6_added_40 : decode cX6_added 40 = .ok (.aload_n 0, 1) := by decide +kernel
theorem dX6_added_41 : decode cX6_added 41 = .ok (.invokevirtual 178, 3) := by decide +kernel
theorem dX6_added_44 : decode cX6_added 44 = .ok (.aload_n 0, 1) := by decide +kernel
theorem dX6_added_45 : decode cX6_added 45 = .ok (.invokevirtual 220, 3) := by decide +kernel
theorem dX6_added_48 : decode cX6_added 48 = .ok (.istore_n 3, 1) := by decide +kernel
theorem dX6_added_49 : decode cX6_added 49 = .ok (.iload_n 2, 1) := by decide +kernel
theorem dX6_added_50 : decode cX6_added 50 = .ok (.ifCond .eq 9, 3) := by decide +kernel
theorem dX6_added_53 : decode cX6_added 53 = .ok (.iload_n 1, 1) := by decide +kernel
theorem dX6_added_54 : decode cX6_added 54 = .ok (.iload_n 3, 1) := by decide +kernel
theorem dX6_added_55 : decode cX6_added 55 = .ok (.iadd, 1) := by decide +kernel
theorem dX6_added_56 : decode cX6_added 56 = .ok (.goto 6, 3) := by decide +kernel
theorem dX6_added_59 : decode cX6_added 59 = .ok (.iload_n 1, 1) := by decide +kernel
theorem dX6_added_60 : decode cX6_added 60 = .ok (.iload_n 3, 1) := by decide +kernel
theorem dX6_added_61 : decode cX6_added 61 = .ok (.isub, 1) := by decide +kernel
theorem dX6_added_62 : decode cX6_added 62 = .ok (.istore_n 1, 1) := by decide +kernel
theorem dX6_added_63 : decode cX6_added 63 = .ok (.goto (-58), 3) := by decide +kernel
theorem dX6_added_66 : decode cX6_added 66 = .ok (.iload_n 1, 1) := by decide +kernel
theorem dX6_added_67 : decode cX6_added 67 = .ok (.ireturn, 1) := by decide +kernel
theorem dX6_not_0 : decode cX6_not 0 = .ok (.aload_n 0, 1) := by decide +kernel
theorem dX6_not_1 : decode cX6_not 1 = .ok (.bipush 110, 2) := by decide +kernel
theorem dX6_not_3 : decode cX6_not 3 = .ok (.bipush 111, 2) := by decide +kernel
theorem dX6_not_5 : decode cX6_not 5 = .ok (.bipush 116, 2) := by decide +kernel
theorem dX6_not_7 : decode cX6_not 7 = .ok (.iconst 0, 1) := by decide +kernel
theorem dX6_not_8 : decode cX6_not 8 = .ok (.iconst 0, 1) := by decide +kernel
theorem dX6_not_9 : decode cX6_not 9 = .ok (.iconst 0, 1) := by decide +kernel
theorem dX6_not_10 : decode cX6_not 10 = .ok (.iconst 0, 1) := by decide +kernel
theorem dX6_not_11 : decode cX6_not 11 = .ok (.iconst 0, 1) := by decide +kernel
theorem dX6_not_12 : decode cX6_not 12 = .ok (.invokevirtual 181, 3) := by decide +kernel
theorem dX6_not_15 : decode cX6_not 15 = .ok (.ifCond .eq 37, 3) := by decide +kernel
theorem dX6_not_18 : decode cX6_not 18 = .ok (.aload_n 0, 1) := by decide +kernel
theorem dX6_not_19 : decode cX6_not 19 = .ok (.invokevirtual 206, 3) := by decide +kernel
theorem dX6_not_22 : decode cX6_not 22 = .ok (.ifCond .ne 5, 3) := by decide +kernel
theorem dX6_not_25 : decode cX6_not 25 = .ok (.iconst 0, 1) := by decide +kernel
theorem dX6_not_26 : decode cX6_not 26 = .ok (.ireturn, 1) := by decide +kernel
theorem dX6_not_27 : decode cX6_not 27 = .ok (.aload_n 0, 1) := by decide +kernel
theorem dX6_not_28 : decode cX6_not 28 = .ok (.invokevirtual 225, 3) := by decide +kernel
theorem dX6_not_31 : decode cX6_not 31 = .ok (.istore_n 1, 1) := by decide +kernel
theorem dX6_not_32 : decode cX6_not 32 = .ok (.aload_n 0, 1) := by decide +kernel
theorem dX6_not_33 : decode cX6_not 33 = .ok (.dup, 1) := by decide +kernel
theorem dX6_not_34 : decode cX6_not 34 = .ok (.getfield 172, 3) := by decide +kernel
theorem dX6_not_37 : decode cX6_not 37 = .ok (.iconst 1, 1) := by decide +kernel
theorem dX6_not_38 : decode cX6_not 38 = .ok (.isub, 1) := by decide +kernel
theorem dX6_not_39 : decode cX6_not 39 = .ok (.putfield 172, 3) := by decide +kernel
theorem dX6_not_42 : decode cX6_not 42 = .ok (.iload_n 1, 1) := by decide +kernel
theorem dX6_not_43 : decode cX6_not 43 = .ok (.ifCond .ne 7, 3) := by decide +kernel
theorem dX6_not_46 : decode cX6_not 46 = .ok (.iconst 1, 1) := by decide +kernel
theorem dX6_not_47 : decode cX6_not 47 = .ok (.goto 4, 3) := by decide +kernel
theorem dX6_not_50 : decode cX6_not 50 = .ok (.iconst 0, 1) := by decide +kernel
theorem dX6_not_51 : decode cX6_not 51 = .ok (.ireturn, 1) := by decide +kernel
theorem dX6_not_52 : decode cX6_not 52 = .ok (.aload_n 0, 1) := by decide +kernel
theorem dX6_not_53 : decode cX6_not 53 = .ok (.invokevirtual 228, 3) := by decide +kernel
theorem dX6_not_56 : decode cX6_not 56 = .ok (.istore_n 1, 1) := by decide +kernel
theorem dX6_not_57 : decode cX6_not 57 = .ok (.aload_n 0, 1) := by decide +kernel
theorem dX6_not_58 : decode cX6_not 58 = .ok (.bipush 60, 2) := by decide +kernel
theorem dX6_not_60 : decode cX6_not 60 = .ok (.invokevirtual 203, 3) := by decide +kernel
theorem dX6_not_63 : decode cX6_not 63 = .ok (.ifCond .ne 14, 3) := by decide +kernel
theorem dX6_not_66 : decode cX6_not 66 = .ok (.aload_n 0, 1) := by decide +kernel
theorem dX6_not_67 : decode cX6_not 67 = .ok (.bipush 61, 2) := by decide +kernel
theorem dX6_not_69 : decode cX6_not 69 = .ok (.invokevirtual 203, 3) := by decide +kernel
theorem dX6_not_72 : decode cX6_not 72 = .ok (.ifCond .ne 5, 3) := by decide +kernel
theorem dX6_not_75 : decode cX6_not 75 = .ok (.iload_n 1, 1) := by decide +kernel
theorem dX6_not_76 : decode cX6_not 76 = .ok (.ireturn, 1) := by decide +kernel
theorem dX6_not_77 : decode cX6_not 77 = .ok (.aload_n 0, 1) := by decide +kernel
theorem dX6_not_78 : decode cX6_not 78 = .ok (.getfield 155, 3) := by decide +kernel
theorem dX6_not_81 : decode cX6_not 81 = .ok (.ldc2_w 231, 3) := by decide +kernel
theorem dX6_not_84 : decode cX6_not 84 = .ok (.lcmp, 1) := by decide +kernel
theorem dX6_not_85 : decode cX6_not 85 = .ok (.ifCond .ne 7, 3) := by decide +kernel
theorem dX6_not_88 : decode cX6_not 88 = .ok (.iconst 1, 1) := by decide +kernel
theorem dX6_not_89 : decode cX6_not 89 = .ok (.goto 4, 3) := by decide +kernel
theorem dX6_not_92 : decode cX6_not 92 = .ok (.iconst 0, 1) := by decide +kernel
theorem dX6_not_93 : decode cX6_not 93 = .ok (.istore_n 2, 1) := by decide +kernel
theorem dX6_not_94 : decode cX6_not 94 = .ok (.aload_n 0, 1) := by decide +kernel
theorem dX6_not_95 : decode cX6_not 95 = .ok (.invokevirtual 178, 3) := by decide +kernel
theorem dX6_not_98 : decode cX6_not 98 = .ok (.aload_n 0, 1) := by decide +kernel
theorem dX6_not_99 : decode cX6_not 99 = .ok (.invokevirtual 228, 3) := by decide +kernel
theorem dX6_not_102 : decode cX6_not 102 = .ok (.istore_n 3, 1) := by decide +kernel
theorem dX6_not_103 : decode cX6_not 103 = .ok (.iload_n 2, 1) := by decide +kernel
theorem dX6_not_104 : decode cX6_not 104 = .ok (.ifCond .eq 11, 3) := by decide +kernel
theorem dX6_not_107 : decode cX6_not 107 = .ok (.iload_n 1, 1) := by decide +kernel
theorem dX6_not_108 : decode cX6_not 108 = .ok (.iload_n 3, 1) := by decide +kernel
theorem dX6_not_109 : decode cX6_not 109 = .ok (.if_icmp .ge 15, 3) := by decide +kernel
theorem dX6_not_112 : decode cX6_not 112 = .ok (.goto 8, 3) := by decide +kernel
theorem dX6_not_115 : decode cX6_not 115 = .ok (.iload_n 1, 1) := by decide +kernel
theorem dX6_not_116 : decode cX6_not 116 = .ok (.iload_n 3, 1) := by decide +kernel
theorem dX6_not_117 : decode cX6_not 117 = .ok (.if_icmp .ne 7, 3) := by decide +kernel
theorem dX6_not_120 : decode cX6_not 120 = .ok (.iconst 1, 1) := by decide +kernel
theorem dX6_not_121 : decode cX6_not 121 = .ok (.goto 4, 3) := by decide +kernel
theorem dX6_not_124 : decode cX6_not 124 = .ok (.iconst 0, 1) := by decide +kernel
theorem dX6_not_125 : decode cX6_not 125 = .ok (.ireturn, 1) := by decide +kernel
theorem dX6_both_0 : decode cX6_both 0 = .ok (.aload_n 0, 1) := by decide +kernel
theorem dX6_both_1 : decode cX6_both 1 = .ok (.invokevirtual 225, 3) := by decide +kernel
theorem dX6_both_4 : decode cX6_both 4 = .ok (.istore_n 1, 1) := by decide +kernel
theorem dX6_both_5 : decode cX6_both 5 = .ok (.aload_n 0, 1) := by decide +kernel
theorem dX6_both_6 : decode cX6_both 6 = .ok (.bipush 97, 2) := by decide +kernel
theorem dX6_both_8 : decode cX6_both 8 = .ok (.bipush 110, 2) := by decide +kernel
theorem dX6_both_10 : decode cX6_both 10 = .ok (.bipush 100, 2) := by decide +kernel
theorem dX6_both_12 : decode cX6_both 12 = .ok (.iconst 0, 1) := by decide +kernel
theorem dX6_both_13 : decode cX6_both 13 = .ok (.iconst 0, 1) := by decide +kernel
theorem dX6_both_14 : decode cX6_both 14 = .ok (.iconst 0, 1) := by decide +kernel
theorem dX6_both_15 : decode cX6_both 15 = .ok (.iconst 0, 1) := by decide +kernel
theorem dX6_both_16 : decode cX6_both 16 = .ok (.iconst 0, 1) := by decide +kernel
theorem dX6_both_17 : decode cX6_both 17 = .ok (.invokevirtual 181, 3) := by decide +kernel
theorem dX6_both_20 : decode cX6_both 20 = .ok (.ifCond .eq 29, 3) := by decide +kernel
theorem dX6_both_23 : decode cX6_both 23 = .ok (.aload_n 0, 1) := by decide +kernel
theorem dX6_both_24 : decode cX6_both 24 = .ok (.invokevirtual 178, 3) := by decide +kernel
theorem dX6_both_27 : decode cX6_both 27 = .ok (.aload_n 0, 1) := by decide +kernel
theorem dX6_both_28 : decode cX6_both 28 = .ok (.invokevirtual 225, 3) := by decide +kernel
theorem dX6_both_31 : decode cX6_both 31 = .ok (.istore_n 2, 1) := by decide +kernel
theorem dX6_both_32 : decode cX6_both 32 = .ok (.iload_n 1, 1) := by decide +kernel
theorem dX6_both_33 : decode cX6_both 33 = .ok (.ifCond .eq 11, 3) := by decide +kernel
theorem dX6_both_36 : decode cX6_both 36 = .ok (.iload_n 2, 1) := by decide +kernel
theorem dX6_both_37 : decode cX6_both 37 = .ok (.ifCond .eq 7, 3) := by decide +kernel
theorem dX6_both_40 : decode cX6_both 40 = .ok (.iconst 1, 1) := by decide +kernel
theorem dX6_both_41 : decode cX6_both 41 = .ok (.goto 4, 3) := by decide +kernel
theorem dX6_both_44 : decode cX6_both 44 = .ok (.iconst 0, 1) := by decide +kernel
theorem dX6_both_45 : decode cX6_both 45 = .ok (.istore_n 1, 1) := by decide +kernel
theorem dX6_both_46 : decode cX6_both 46 = .ok (.goto (-41), 3) := by decide +kernel
theorem dX6_both_49 : decode cX6_both 49 = .ok (.iload_n 1, 1) := by decide +kernel
theorem dX6_both_50 : decode cX6_both 50 = .ok (.ireturn, 1) := by decide +kernel
theorem dX6_either_0 : decode cX6_either 0 = .ok (.aload_n 0, 1) := by decide +kernel
theorem dX6_either_1 : decode cX6_either 1 = .ok (.invokevirtual 233, 3) := by decide +kernel
theorem dX6_either_4 : decode cX6_either 4 = .ok (.istore_n 1, 1) := by decide +kernel
theorem dX6_either_5 : decode cX6_either 5 = .ok (.aload_n 0, 1) := by decide +kernel
theorem dX6_either_6 : decode cX6_either 6 = .ok (.bipush 111, 2) := by decide +kernel
theorem dX6_either_8 : decode cX6_either 8 = .ok (.bipush 114, 2) := by decide +kernel
theorem dX6_either_10 : decode cX6_either 10 = .ok (.iconst 0, 1) := by decide +kernel
theorem dX6_either_11 : decode cX6_either 11 = .ok (.iconst 0, 1) := by decide +kernel
theorem dX6_either_12 : decode cX6_either 12 = .ok (.iconst 0, 1) := by decide +kernel
theorem dX6_either_13 : decode cX6_either 13 = .ok (.iconst 0, 1) := by decide +kernel
theorem dX6_either_14 : decode cX6_either 14 = .ok (.iconst 0, 1) := by decide +kernel
theorem dX6_either_15 : decode cX6_either 15 = .ok (.iconst 0, 1) := by decide +kernel
theorem dX6_either_16 : decode cX6_either 16 = .ok (.invokevirtual 181, 3) := by decide +kernel
theorem dX6_either_19 : decode cX6_either 19 = .ok (.ifCond .eq 29, 3) := by decide +kernel
theorem dX6_either_22 : decode cX6_either 22 = .ok (.aload_n 0, 1) := by decide +kernel
theorem dX6_either_23 : decode cX6_either 23 = .ok (.invokevirtual 178, 3) := by decide +kernel
theorem dX6_either_26 : decode cX6_either 26 = .ok (.aload_n 0, 1) := by decide +kernel
theorem dX6_either_27 : decode cX6_either 27 = .ok (.invokevirtual 233, 3) := by decide +kernel
theorem dX6_either_30 : decode cX6_either 30 = .ok (.istore_n 2, 1) := by decide +kernel
theorem dX6_either_31 : decode cX6_either 31 = .ok (.iload_n 1, 1) := by decide +kernel
theorem dX6_either_32 : decode cX6_either 32 = .ok (.ifCond .ne 7, 3) := by decide +kernel
theorem dX6_either_35 : decode cX6_either 35 = .ok (.iload_n 2, 1) := by decide +kernel
theorem dX6_either_36 : decode cX6_either 36 = .ok (.ifCond .eq 7, 3) := by decide +kernel
theorem dX6_either_39 : decode cX6_either 39 = .ok (.iconst 1, 1) := by decide +kernel
theorem dX6_either_40 : decode cX6_either 40 = .ok (.goto 4, 3) := by decide +kernel
theorem dX6_either_43 : decode cX6_either 43 = .ok (.iconst 0, 1) := by decide +kernel
theorem dX6_either_44 : decode cX6_either 44 = .ok (.istore_n 1, 1) := by decide +kernel
theorem dX6_either_45 : decode cX6_either 45 = .ok (.goto (-40), 3) := by decide +kernel
theorem dX6_either_48 : decode cX6_either 48 = .ok (.iload_n 1, 1) := by decide +kernel
theorem dX6_either_49 : decode cX6_either 49 = .ok (.ireturn, 1) := by decide +kernel
theorem dX6_part_0 : decode cX6_part 0 = .ok (.iload_n 1, 1) := by decide +kernel
theorem dX6_part_1 : decode cX6_part 1 = .ok (.ifCond .ne 7, 3) := by decide +kernel
theorem dX6_part_4 : decode cX6_part 4 = .ok (.aload_n 0, 1) := by decide +kernel
theorem dX6_part_5 : decode cX6_part 5 = .ok (.invokevirtual 175, 3) := by decide +kernel
theorem dX6_part_8 : decode cX6_part 8 = .ok (.aload_n 0, 1) := by decide +kernel
theorem dX6_part_9 : decode cX6_part 9 = .ok (.getfield 161, 3) := by decide +kernel
theorem dX6_part_12 : decode cX6_part 12 = .ok (.ifCond .ne 7, 3) := by decide +kernel
theorem dX6_part_15 : decode cX6_part 15 = .ok (.aload_n 0, 1) := by decide +kernel
theorem dX6_part_16 : decode cX6_part 16 = .ok (.invokevirtual 178, 3) := by decide +kernel
theorem dX6_part_19 : decode cX6_part 19 = .ok (.aload_n 0, 1) := by decide +kernel
theorem dX6_part_20 : decode cX6_part 20 = .ok (.getfield 161, 3) := by decide +kernel
theorem dX6_part_23 : decode cX6_part 23 = .ok (.ifCond .eq 7, 3) := by decide +kernel
theorem dX6_part_26 : decode cX6_part 26 = .ok (.iconst 0, 1) := by decide +kernel
theorem dX6_part_27 : decode cX6_part 27 = .ok (.goto 7, 3) := by decide +kernel
theorem dX6_part_30 : decode cX6_part 30 = .ok (.aload_n 0, 1) := by decide +kernel
theorem dX6_part_31 : decode cX6_part 31 = .ok (.invokevirtual 214, 3) := by decide +kernel
theorem dX6_part_34 : decode cX6_part 34 = .ok (.istore_n 2, 1) := by decide +kernel
theorem dX6_part_35 : decode cX6_part 35 = .ok (.aload_n 0, 1) := by decide +kernel
theorem dX6_part_36 : decode cX6_part 36 = .ok (.bipush 59, 2) := by decide +kernel
theorem dX6_part_38 : decode cX6_part 38 = .ok (.invokevirtual 203, 3) := by decide +kernel
theorem dX6_part_41 : decode cX6_part 41 = .ok (.ifCond .ne 7, 3) := by decide +kernel
theorem dX6_part_44 : decode cX6_part 44 = .ok (.aload_n 0, 1) := by decide +kernel
theorem dX6_part_45 : decode cX6_part 45 = .ok (.invokevirtual 175, 3) := by decide +kernel
theorem dX6_part_48 : decode cX6_part 48 = .ok (.aload_n 0, 1) := by decide +kernel
theorem dX6_part_49 : decode cX6_part 49 = .ok (.getfield 161, 3) := by decide +kernel
theorem dX6_part_52 : decode cX6_part 52 = .ok (.ifCond .ne 7, 3) := by decide +kernel
theorem dX6_part_55 : decode cX6_part 55 = .ok (.aload_n 0, 1) := by decide +kernel
theorem dX6_part_56 : decode cX6_part 56 = .ok (.invokevirtual 178, 3) := by decide +kernel
theorem dX6_part_59 : decode cX6_part 59 = .ok (.iload_n 2, 1) := by decide +kernel
theorem dX6_part_60 : decode cX6_part 60 = .ok (.ireturn, 1) := by decide +kernel
theorem dX6_read_0 : decode cX6_read 0 = .ok (.aload_n 0, 1) := by decide +kernel
theorem dX6_read_1 : decode cX6_read 1 = .ok (.sipush 160, 3) := by decide +kernel
theorem dX6_read_4 : decode cX6_read 4 = .ok (.iload_n 1, 1) := by decide +kernel
theorem dX6_read_5 : decode cX6_read 5 = .ok (.imul, 1) := by decide +kernel
theorem dX6_read_6 : decode cX6_read 6 = .ok (.putfield 132, 3) := by decide +kernel
theorem dX6_read_9 : decode cX6_read 9 = .ok (.aload_n 0, 1) := by decide +kernel
theorem dX6_read_10 : decode cX6_read 10 = .ok (.aload_n 0, 1) := by decide +kernel
theorem dX6_read_11 : decode cX6_read 11 = .ok (.getfield 17, 3) := by decide +kernel
theorem dX6_read_14 : decode cX6_read 14 = .ok (.iload_n 1, 1) := by decide +kernel
theorem dX6_read_15 : decode cX6_read 15 = .ok (.iaload, 1) := by decide +kernel
theorem dX6_read_16 : decode cX6_read 16 = .ok (.putfield 129, 3) := by decide +kernel
theorem dX6_read_19 : decode cX6_read 19 = .ok (.aload_n 0, 1) := by decide +kernel
theorem dX6_read_20 : decode cX6_read 20 = .ok (.iconst 0, 1) := by decide +kernel
theorem dX6_read_21 : decode cX6_read 21 = .ok (.putfield 135, 3) := by decide +kernel
theorem dX6_read_24 : decode cX6_read 24 = .ok (.aload_n 0, 1) := by decide +kernel
theorem dX6_read_25 : decode cX6_read 25 = .ok (.iconst 0, 1) := by decide +kernel
theorem dX6_read_26 : decode cX6_read 26 = .ok (.putfield 172, 3) := by decide +kernel
theorem dX6_read_29 : decode cX6_read 29 = .ok (.aload_n 0, 1) := by decide +kernel
theorem dX6_read_30 : decode cX6_read 30 = .ok (.iconst 0, 1) := by decide +kernel
theorem dX6_read_31 : decode cX6_read 31 = .ok (.putfield 161, 3) := by decide +kernel
theorem dX6_read_34 : decode cX6_read 34 = .ok (.aload_n 0, 1) := by decide +kernel
theorem dX6_read_35 : decode cX6_read 35 = .ok (.invokevirtual 178, 3) := by decide +kernel
theorem dX6_read_38 : decode cX6_read 38 = .ok (.aload_n 0, 1) := by decide +kernel
theorem dX6_read_39 : decode cX6_read 39 = .ok (.aload_n 0, 1) := by decide +kernel
theorem dX6_read_40 : decode cX6_read 40 = .ok (.bipush 116, 2) := by decide +kernel
theorem dX6_read_42 : decode cX6_read 42 = .ok (.bipush 97, 2) := by decide +kernel
theorem dX6_read_44 : decode cX6_read 44 = .ok (.bipush 107, 2) := by decide +kernel
theorem dX6_read_46 : decode cX6_read 46 = .ok (.bipush 101, 2) := by decide +kernel
theorem dX6_read_48 : decode cX6_read 48 = .ok (.bipush 115, 2) := by decide +kernel
theorem dX6_read_50 : decode cX6_read 50 = .ok (.iconst 0, 1) := by decide +kernel
theorem dX6_read_51 : decode cX6_read 51 = .ok (.iconst 0, 1) := by decide +kernel
theorem dX6_read_52 : decode cX6_read 52 = .ok (.iconst 0, 1) := by decide +kernel
theorem dX6_read_53 : decode cX6_read 53 = .ok (.invokevirtual 181, 3) := by decide +kernel
theorem dX6_read_56 : decode cX6_read 56 = .ok (.invokevirtual 236, 3) := by decide +kernel
theorem dX6_read_59 : decode cX6_read 59 = .ok (.istore_n 3, 1) := by decide +kernel
theorem dX6_read_60 : decode cX6_read 60 = .ok (.aload_n 0, 1) := by decide +kernel
theorem dX6_read_61 : decode cX6_read 61 = .ok (.getfield 161, 3) := by decide +kernel
theorem dX6_read_64 : decode cX6_read 64 = .ok (.ifCond .eq 7, 3) := by decide +kernel
theorem dX6_read_67 : decode cX6_read 67 = .ok (.iconst 0, 1) := by decide +kernel
theorem dX6_read_68 : decode cX6_read 68 = .ok (.goto 25, 3) := by decide +kernel
theorem dX6_read_71 : decode cX6_read 71 = .ok (.aload_n 0, 1) := by decide +kernel
theorem dX6_read_72 : decode cX6_read 72 = .ok (.aload_n 0, 1) := by decide +kernel
theorem dX6_read_73 : decode cX6_read 73 = .ok (.bipush 104, 2) := by decide +kernel
theorem dX6_read_75 : decode cX6_read 75 = .ok (.bipush 117, 2) := by decide +kernel
theorem dX6_read_77 : decode cX6_read 77 = .ok (.bipush 110, 2) := by decide +kernel
theorem dX6_read_79 : decode cX6_read 79 = .ok (.bipush 103, 2) := by decide +kernel
theorem dX6_read_81 : decode cX6_read 81 = .ok (.bipush 101, 2) := by decide +kernel
theorem dX6_read_83 : decode cX6_read 83 = .ok (.bipush 114, 2) := by decide +kernel
theorem dX6_read_85 : decode cX6_read 85 = .ok (.iconst 0, 1) := by decide +kernel
theorem dX6_read_86 : decode cX6_read 86 = .ok (.iconst 0, 1) := by decide +kernel
theorem dX6_read_87 : decode cX6_read 87 = .ok (.invokevirtual 181, 3) := by decide +kernel
theorem dX6_read_90 : decode cX6_read 90 = .ok (.invokevirtual 236, 3) := by decide +kernel
theorem dX6_read_93 : decode cX6_read 93 = .ok (.istore 4, 2) := by decide +kernel
theorem dX6_read_95 : decode cX6_read 95 = .ok (.aload_n 0, 1) := by decide +kernel
theorem dX6_read_96 : decode cX6_read 96 = .ok (.getfield 161, 3) := by decide +kernel
theorem dX6_read_99 : decode cX6_read 99 = .ok (.ifCond .eq 7, 3) := by decide +kernel
theorem dX6_read_102 : decode cX6_read 102 = .ok (.iconst 0, 1) := by decide +kernel
theorem dX6_read_103 : decode cX6_read 103 = .ok (.goto 24, 3) := by decide +kernel
theorem dX6_read_106 : decode cX6_read 106 = .ok (.aload_n 0, 1) := by decide +kernel
theorem dX6_read_107 : decode cX6_read 107 = .ok (.aload_n 0, 1) := by decide +kernel
theorem dX6_read_108 : decode cX6_read 108 = .ok (.bipush 119, 2) := by decide +kernel
theorem dX6_read_110 : decode cX6_read 110 = .ok (.bipush 111, 2) := by decide +kernel
theorem dX6_read_112 : decode cX6_read 112 = .ok (.bipush 114, 2) := by decide +kernel
theorem dX6_read_114 : decode cX6_read 114 = .ok (.bipush 116, 2) := by decide +kernel
theorem dX6_read_116 : decode cX6_read 116 = .ok (.bipush 104, 2) := by decide +kernel
theorem dX6_read_118 : decode cX6_read 118 = .ok (.iconst 0, 1) := by decide +kernel
theorem dX6_read_119 : decode cX6_read 119 = .ok (.iconst 0, 1) := by decide +kernel
theorem dX6_read_120 : decode cX6_read 120 = .ok (.iconst 0, 1) := by decide +kernel
theorem dX6_read_121 : decode cX6_read 121 = .ok (.invokevirtual 181, 3) := by decide +kernel
theorem dX6_read_124 : decode cX6_read 124 = .ok (.invokevirtual 236, 3) := by decide +kernel
theorem dX6_read_127 : decode cX6_read 127 = .ok (.istore 5, 2) := by decide +kernel
theorem dX6_read_129 : decode cX6_read 129 = .ok (.aload_n 0, 1) := by decide +kernel
theorem dX6_read_130 : decode cX6_read 130 = .ok (.getfield 161, 3) := by decide +kernel
theorem dX6_read_133 : decode cX6_read 133 = .ok (.ifCond .ne 14, 3) := by decide +kernel
theorem dX6_read_136 : decode cX6_read 136 = .ok (.aload_n 0, 1) := by decide +kernel
theorem dX6_read_137 : decode cX6_read 137 = .ok (.getfield 144, 3) := by decide +kernel
theorem dX6_read_140 : decode cX6_read 140 = .ok (.ifCond .eq 7, 3) := by decide +kernel
theorem dX6_read_143 : decode cX6_read 143 = .ok (.aload_n 0, 1) := by decide +kernel
theorem dX6_read_144 : decode cX6_read 144 = .ok (.invokevirtual 175, 3) := by decide +kernel
theorem dX6_read_147 : decode cX6_read 147 = .ok (.iload_n 2, 1) := by decide +kernel
theorem dX6_read_148 : decode cX6_read 148 = .ok (.ifCond .ne 7, 3) := by decide +kernel
theorem dX6_read_151 : decode cX6_read 151 = .ok (.iload_n 3, 1) := by decide +kernel
theorem dX6_read_152 : decode cX6_read 152 = .ok (.goto 15, 3) := by decide +kernel
theorem dX6_read_155 : decode cX6_read 155 = .ok (.iload_n 2, 1) := by decide +kernel
theorem dX6_read_156 : decode cX6_read 156 = .ok (.iconst 1, 1) := by decide +kernel
theorem dX6_read_157 : decode cX6_read 157 = .ok (.if_icmp .ne 8, 3) := by decide +kernel
theorem dX6_read_160 : decode cX6_read 160 = .ok (.iload 4, 2) := by decide +kernel
theorem dX6_read_162 : decode cX6_read 162 = .ok (.goto 5, 3) := by decide +kernel
theorem dX6_read_165 : decode cX6_read 165 = .ok (.iload 5, 2) := by decide +kernel
theorem dX6_read_167 : decode cX6_read 167 = .ok (.ireturn, 1) := by decide +kernel
theorem dX6_text_0 : decode cX6_text 0 = .ok (.aload_n 0, 1) := by decide +kernel
theorem dX6_text_1 : decode cX6_text 1 = .ok (.getfield 88, 3) := by decide +kernel
theorem dX6_text_4 : decode cX6_text 4 = .ok (.bipush 6, 2) := by decide +kernel
theorem dX6_text_6 : decode cX6_text 6 = .ok (.if_icmp .ne 6, 3) := by decide +kernel
theorem dX6_text_9 : decode cX6_text 9 = .ok (.bipush (-4), 2) := by decide +kernel
theorem dX6_text_11 : decode cX6_text 11 = .ok (.ireturn, 1) := by decide +kernel
theorem dX6_text_12 : decode cX6_text 12 = .ok (.iconst 0, 1) := by decide +kernel
theorem dX6_text_13 : decode cX6_text 13 = .ok (.istore_n 1, 1) := by decide +kernel
theorem dX6_text_14 : decode cX6_text 14 = .ok (.iload_n 1, 1) := by decide +kernel
theorem dX6_text_15 : decode cX6_text 15 = .ok (.aload_n 0, 1) := by decide +kernel
theorem dX6_text_16 : decode cX6_text 16 = .ok (.getfield 126, 3) := by decide +kernel
theorem dX6_text_19 : decode cX6_text 19 = .ok (.if_icmp .ge 30, 3) := by decide +kernel
theorem dX6_text_22 : decode cX6_text 22 = .ok (.aload_n 0, 1) := by decide +kernel
theorem dX6_text_23 : decode cX6_text 23 = .ok (.getfield 13, 3) := by decide +kernel
theorem dX6_text_26 : decode cX6_text 26 = .ok (.sipush 160, 3) := by decide +kernel
theorem dX6_text_29 : decode cX6_text 29 = .ok (.aload_n 0, 1) := by decide +kernel
theorem dX6_text_30 : decode cX6_text 30 = .ok (.getfield 88, 3) := by decide +kernel
theorem dX6_text_33 : decode cX6_text 33 = .ok (.imul, 1) := by decide +kernel
theorem dX6_text_34 : decode cX6_text 34 = .ok (.iload_n 1, 1) := by decide +kernel
theorem dX6_text_35 : decode cX6_text 35 = .ok (.iadd, 1) := by decide +kernel
theorem dX6_text_36 : decode cX6_text 36 = .ok (.aload_n 0, 1) := by decide +kernel
theorem dX6_text_37 : decode cX6_text 37 = .ok (.getfield 20, 3) := by decide +kernel
theorem dX6_text_40 : decode cX6_text 40 = .ok (.iload_n 1, 1) := by decide +kernel
theorem dX6_text_41 : decode cX6_text 41 = .ok (.iaload, 1) := by decide +kernel
theorem dX6_text_42 : decode cX6_text 42 = .ok (.iastore, 1) := by decide +kernel
theorem dX6_text_43 : decode cX6_text 43 = .ok (.iinc 1 1, 3) := by decide +kernel
theorem dX6_text_46 : decode cX6_text 46 = .ok (.goto (-32), 3) := by decide +kernel
theorem dX6_text_49 : decode cX6_text 49 = .ok (.aload_n 0, 1) := by decide +kernel
theorem dX6_text_50 : decode cX6_text 50 = .ok (.getfield 17, 3) := by decide +kernel
theorem dX6_text_53 : decode cX6_text 53 = .ok (.aload_n 0, 1) := by decide +kernel
theorem dX6_text_54 : decode cX6_text 54 = .ok (.getfield 88, 3) := by decide +kernel
theorem dX6_text_57 : decode cX6_text 57 = .ok (.aload_n 0, 1) := by decide +kernel
theorem dX6_text_58 : decode cX6_text 58 = .ok (.getfield 126, 3) := by decide +kernel
theorem dX6_text_61 : decode cX6_text 61 = .ok (.iastore, 1) := by decide +kernel
theorem dX6_text_62 : decode cX6_text 62 = .ok (.aload_n 0, 1) := by decide +kernel
theorem dX6_text_63 : decode cX6_text 63 = .ok (.iconst 0, 1) := by decide +kernel
theorem dX6_text_64 : decode cX6_text 64 = .ok (.putfield 126, 3) := by decide +kernel
theorem dX6_text_67 : decode cX6_text 67 = .ok (.aload_n 0, 1) := by decide +kernel
theorem dX6_text_68 : decode cX6_text 68 = .ok (.aload_n 0, 1) := by decide +kernel
theorem dX6_text_69 : decode cX6_text 69 = .ok (.getfield 88, 3) := by decide +kernel
theorem dX6_text_72 : decode cX6_text 72 = .ok (.iconst 0, 1) := by decide +kernel
theorem dX6_text_73 : decode cX6_text 73 = .ok (.invokevirtual 240, 3) := by decide +kernel
theorem dX6_text_76 : decode cX6_text 76 = .ok (.istore_n 1, 1) := by decide +kernel
theorem dX6_text_77 : decode cX6_text 77 = .ok (.aload_n 0, 1) := by decide +kernel
theorem dX6_text_78 : decode cX6_text 78 = .ok (.getfield 161, 3) := by decide +kernel
theorem dX6_text_81 : decode cX6_text 81 = .ok (.ifCond .eq 11, 3) := by decide +kernel
theorem dX6_text_84 : decode cX6_text 84 = .ok (.bipush (-100), 2) := by decide +kernel
theorem dX6_text_86 : decode cX6_text 86 = .ok (.aload_n 0, 1) := by decide +kernel
theorem dX6_text_87 : decode cX6_text 87 = .ok (.getfield 165, 3) := by decide +kernel
theorem dX6_text_90 : decode cX6_text 90 = .ok (.isub, 1) := by decide +kernel
theorem dX6_text_91 : decode cX6_text 91 = .ok (.ireturn, 1) := by decide +kernel
theorem dX6_text_92 : decode cX6_text 92 = .ok (.aload_n 0, 1) := by decide +kernel
theorem dX6_text_93 : decode cX6_text 93 = .ok (.dup, 1) := by decide +kernel
theorem dX6_text_94 : decode cX6_text 94 = .ok (.getfield 88, 3) := by decide +kernel
theorem dX6_text_97 : decode cX6_text 97 = .ok (.iconst 1, 1) := by decide +kernel
theorem dX6_text_98 : decode cX6_text 98 = .ok (.iadd, 1) := by decide +kernel
theorem dX6_text_99 : decode cX6_text 99 = .ok (.putfield 88, 3) := by decide +kernel
theorem dX6_text_102 : decode cX6_text 102 = .ok (.aload_n 0, 1) := by decide +kernel
theorem dX6_text_103 : decode cX6_text 103 = .ok (.getfield 88, 3) := by decide +kernel
theorem dX6_text_106 : decode cX6_text 106 = .ok (.iconst 1, 1) := by decide +kernel
theorem dX6_text_107 : decode cX6_text 107 = .ok (.isub, 1) := by decide +kernel
theorem dX6_text_108 : decode cX6_text 108 = .ok (.ireturn, 1) := by decide +kernel
theorem dX6_force_0 : decode cX6_force 0 = .ok (.iload_n 1, 1) := by decide +kernel
theorem dX6_force_1 : decode cX6_force 1 = .ok (.i2l, 1) := by decide +kernel
theorem dX6_force_2 : decode cX6_force 2 = .ok (.lconst 0, 1) := by decide +kernel
theorem dX6_force_3 : decode cX6_force 3 = .ok (.aload_n 0, 1) := by decide +kernel
theorem dX6_force_4 : decode cX6_force 4 = .ok (.getfield 88, 3) := by decide +kernel
theorem dX6_force_7 : decode cX6_force 7 = .ok (.iconst 1, 1) := by decide +kernel
theorem dX6_force_8 : decode cX6_force 8 = .ok (.isub, 1) := by decide +kernel
theorem dX6_force_9 : decode cX6_force 9 = .ok (.i2l, 1) := by decide +kernel
theorem dX6_force_10 : decode cX6_force 10 = .ok (.invokestatic 94, 3) := by decide +kernel
theorem dX6_force_13 : decode cX6_force 13 = .ok (.ifCond .ne 6, 3) := by decide +kernel
theorem dX6_force_16 : decode cX6_force 16 = .ok (.bipush (-2), 2) := by decide +kernel
theorem dX6_force_18 : decode cX6_force 18 = .ok (.ireturn, 1) := by decide +kernel
theorem dX6_force_19 : decode cX6_force 19 = .ok (.aload_n 0, 1) := by decide +kernel
theorem dX6_force_20 : decode cX6_force 20 = .ok (.getfield 244, 3) := by decide +kernel
theorem dX6_force_23 : decode cX6_force 23 = .ok (.istore_n 2, 1) := by decide +kernel
theorem dX6_force_24 : decode cX6_force 24 = .ok (.aload_n 0, 1) := by decide +kernel
theorem dX6_force_25 : decode cX6_force 25 = .ok (.iload_n 1, 1) := by decide +kernel
theorem dX6_force_26 : decode cX6_force 26 = .ok (.putfield 244, 3) := by decide +kernel
theorem dX6_force_29 : decode cX6_force 29 = .ok (.iload_n 2, 1) := by decide +kernel
theorem dX6_force_30 : decode cX6_force 30 = .ok (.ireturn, 1) := by decide +kernel
theorem dX6_takesOf_0 : decode cX6_takesOf 0 = .ok (.aload_n 0, 1) := by decide +kernel
theorem dX6_takesOf_1 : decode cX6_takesOf 1 = .ok (.iload_n 1, 1) := by decide +kernel
theorem dX6_takesOf_2 : decode cX6_takesOf 2 = .ok (.putfield 185, 3) := by decide +kernel
theorem dX6_takesOf_5 : decode cX6_takesOf 5 = .ok (.aload_n 0, 1) := by decide +kernel
theorem dX6_takesOf_6 : decode cX6_takesOf 6 = .ok (.iconst 0, 1) := by decide +kernel
theorem dX6_takesOf_7 : decode cX6_takesOf 7 = .ok (.putfield 188, 3) := by decide +kernel
theorem dX6_takesOf_10 : decode cX6_takesOf 10 = .ok (.aload_n 0, 1) := by decide +kernel
theorem dX6_takesOf_11 : decode cX6_takesOf 11 = .ok (.iconst 0, 1) := by decide +kernel
theorem dX6_takesOf_12 : decode cX6_takesOf 12 = .ok (.putfield 191, 3) := by decide +kernel
theorem dX6_takesOf_15 : decode cX6_takesOf 15 = .ok (.aload_n 0, 1) := by decide +kernel
theorem dX6_takesOf_16 : decode cX6_takesOf 16 = .ok (.iconst 0, 1) := by decide +kernel
theorem dX6_takesOf_17 : decode cX6_takesOf 17 = .ok (.putfield 194, 3) := by decide +kernel
theorem dX6_takesOf_20 : decode cX6_takesOf 20 = .ok (.aload_n 0, 1) := by decide +kernel
theorem dX6_takesOf_21 : decode cX6_takesOf 21 = .ok (.iconst 0, 1) := by decide +kernel
theorem dX6_takesOf_22 : decode cX6_takesOf 22 = .ok (.putfield 197, 3) := by decide +kernel
theorem dX6_takesOf_25 : decode cX6_takesOf 25 = .ok (.aload_n 0, 1) := by decide +kernel
theorem dX6_takesOf_26 : decode cX6_takesOf 26 = .ok (.iconst 0, 1) := by decide +kernel
theorem dX6_takesOf_27 : decode cX6_takesOf 27 = .ok (.putfield 200, 3) := by decide +kernel
theorem dX6_takesOf_30 : decode cX6_takesOf 30 = .ok (.aload_n 0, 1) := by decide +kernel
theorem dX6_takesOf_31 : decode cX6_takesOf 31 = .ok (.aload_n 0, 1) := by decide +kernel
theorem dX6_takesOf_32 : decode cX6_takesOf 32 = .ok (.getfield 244, 3) := by decide +kernel
theorem dX6_takesOf_35 : decode cX6_takesOf 35 = .ok (.iconst 0, 1) := by decide +kernel
theorem dX6_takesOf_36 : decode cX6_takesOf 36 = .ok (.invokevirtual 240, 3) := by decide +kernel
theorem dX6_takesOf_39 : decode cX6_takesOf 39 = .ok (.iconst 1, 1) := by decide +kernel
theorem dX6_takesOf_40 : decode cX6_takesOf 40 = .ok (.bipush 20, 2) := by decide +kernel
theorem dX6_takesOf_42 : decode cX6_takesOf 42 = .ok (.invokestatic 247, 3) := by decide +kernel
theorem dX6_takesOf_45 : decode cX6_takesOf 45 = .ok (.ireturn, 1) := by decide +kernel
theorem dX6_hungersOf_0 : decode cX6_hungersOf 0 = .ok (.aload_n 0, 1) := by decide +kernel
theorem dX6_hungersOf_1 : decode cX6_hungersOf 1 = .ok (.iconst 0, 1) := by decide +kernel
theorem dX6_hungersOf_2 : decode cX6_hungersOf 2 = .ok (.putfield 185, 3) := by decide +kernel
theorem dX6_hungersOf_5 : decode cX6_hungersOf 5 = .ok (.aload_n 0, 1) := by decide +kernel
theorem dX6_hungersOf_6 : decode cX6_hungersOf 6 = .ok (.iload_n 2, 1) := by decide +kernel
theorem dX6_hungersOf_7 : decode cX6_hungersOf 7 = .ok (.putfield 188, 3) := by decide +kernel
theorem dX6_hungersOf_10 : decode cX6_hungersOf 10 = .ok (.aload_n 0, 1) := by decide +kernel
theorem dX6_hungersOf_11 : decode cX6_hungersOf 11 = .ok (.iload_n 3, 1) := by decide +kernel
theorem dX6_hungersOf_12 : decode cX6_hungersOf 12 = .ok (.putfield 191, 3) := by decide +kernel
theorem dX6_hungersOf_15 : decode cX6_hungersOf 15 = .ok (.aload_n 0, 1) := by decide +kernel
theorem dX6_hungersOf_16 : decode cX6_hungersOf 16 = .ok (.aload_n 0, 1) := by decide +kernel
theorem dX6_hungersOf_17 : decode cX6_hungersOf 17 = .ok (.getfield 35, 3) := by decide +kernel
theorem dX6_hungersOf_20 : decode cX6_hungersOf 20 = .ok (.iload_n 1, 1) := by decide +kernel
theorem dX6_hungersOf_21 : decode cX6_hungersOf 21 = .ok (.iaload, 1) := by decide +kernel
theorem dX6_hungersOf_22 : decode cX6_hungersOf 22 = .ok (.putfield 194, 3) := by decide +kernel
theorem dX6_hungersOf_25 : decode cX6_hungersOf 25 = .ok (.aload_n 0, 1) := by decide +kernel
theorem dX6_hungersOf_26 : decode cX6_hungersOf 26 = .ok (.iload_n 1, 1) := by decide +kernel
theorem dX6_hungersOf_27 : decode cX6_hungersOf 27 = .ok (.putfield 197, 3) := by decide +kernel
theorem dX6_hungersOf_30 : decode cX6_hungersOf 30 = .ok (.aload_n 0, 1) := by decide +kernel
theorem dX6_hungersOf_31 : decode cX6_hungersOf 31 = .ok (.iconst 0, 1) := by decide +kernel
theorem dX6_hungersOf_32 : decode cX6_hungersOf 32 = .ok (.putfield 200, 3) := by decide +kernel
theorem dX6_hungersOf_35 : decode cX6_hungersOf 35 = .ok (.aload_n 0, 1) := by decide +kernel
theorem dX6_hungersOf_36 : decode cX6_hungersOf 36 = .ok (.aload_n 0, 1) := by decide +kernel
theorem dX6_hungersOf_37 : decode cX6_hungersOf 37 = .ok (.getfield 244, 3) := by decide +kernel
theorem dX6_hungersOf_40 : decode cX6_hungersOf 40 = .ok (.iconst 1, 1) := by decide +kernel
theorem dX6_hungersOf_41 : decode cX6_hungersOf 41 = .ok (.invokevirtual 240, 3) := by decide +kernel
theorem dX6_hungersOf_44 : decode cX6_hungersOf 44 = .ok (.iconst 0, 1) := by decide +kernel
theorem dX6_hungersOf_45 : decode cX6_hungersOf 45 = .ok (.bipush 99, 2) := by decide +kernel
theorem dX6_hungersOf_47 : decode cX6_hungersOf 47 = .ok (.invokestatic 247, 3) := by decide +kernel
theorem dX6_hungersOf_50 : decode cX6_hungersOf 50 = .ok (.istore 5, 2) := by decide +kernel
theorem dX6_hungersOf_52 : decode cX6_hungersOf 52 = .ok (.aload_n 0, 1) := by decide +kernel
theorem dX6_hungersOf_53 : decode cX6_hungersOf 53 = .ok (.getfield 29, 3) := by decide +kernel
theorem dX6_hungersOf_56 : decode cX6_hungersOf 56 = .ok (.iload_n 1, 1) := by decide +kernel
theorem dX6_hungersOf_57 : decode cX6_hungersOf 57 = .ok (.iaload, 1) := by decide +kernel
theorem dX6_hungersOf_58 : decode cX6_hungersOf 58 = .ok (.istore 6, 2) := by decide +kernel
theorem dX6_hungersOf_60 : decode cX6_hungersOf 60 = .ok (.iload 6, 2) := by decide +kernel
theorem dX6_hungersOf_62 : decode cX6_hungersOf 62 = .ok (.iconst 1, 1) := by decide +kernel
theorem dX6_hungersOf_63 : decode cX6_hungersOf 63 = .ok (.if_icmp .eq 9, 3) := by decide +kernel
theorem dX6_hungersOf_66 : decode cX6_hungersOf 66 = .ok (.iload 6, 2) := by decide +kernel
theorem dX6_hungersOf_68 : decode cX6_hungersOf 68 = .ok (.iconst 3, 1) := by decide +kernel
theorem dX6_hungersOf_69 : decode cX6_hungersOf 69 = .ok (.if_icmp .ne 34, 3) := by decide +kernel
theorem dX6_hungersOf_72 : decode cX6_hungersOf 72 = .ok (.iload 5, 2) := by decide +kernel
theorem dX6_hungersOf_74 : decode cX6_hungersOf 74 = .ok (.aload_n 0, 1) := by decide +kernel
theorem dX6_hungersOf_75 : decode cX6_hungersOf 75 = .ok (.getfield 32, 3) := by decide +kernel
theorem dX6_hungersOf_78 : decode cX6_hungersOf 78 = .ok (.iload_n 1, 1) := by decide +kernel
theorem dX6_hungersOf_79 : decode cX6_hungersOf 79 = .ok (.iaload, 1) := by decide +kernel
theorem dX6_hungersOf_80 : decode cX6_hungersOf 80 = .ok (.iadd, 1) := by decide +kernel
theorem dX6_hungersOf_81 : decode cX6_hungersOf 81 = .ok (.istore 7, 2) := by decide +kernel
theorem dX6_hungersOf_83 : decode cX6_hungersOf 83 = .ok (.iload 6, 2) := by decide +kernel
theorem dX6_hungersOf_85 : decode cX6_hungersOf 85 = .ok (.iconst 3, 1) := by decide +kernel
theorem dX6_hungersOf_86 : decode cX6_hungersOf 86 = .ok (.if_icmp .ne 14, 3) := by decide +kernel
theorem dX6_hungersOf_89 : decode cX6_hungersOf 89 = .ok (.iload_n 3, 1) := by decide +kernel
theorem dX6_hungersOf_90 : decode cX6_hungersOf 90 = .ok (.ifCond .ne 10, 3) := by decide +kernel
theorem dX6_hungersOf_93 : decode cX6_hungersOf 93 = .ok (.iconst 2, 1) := by decide +kernel
theorem dX6_hungersOf_94 : decode cX6_hungersOf 94 = .ok (.iload 7, 2) := by decide +kernel
theorem dX6_hungersOf_96 : decode cX6_hungersOf 96 = .ok (.imul, 1) := by decide +kernel
theorem dX6_hungersOf_97 : decode cX6_hungersOf 97 = .ok (.goto 5, 3) := by decide +kernel
theorem dX6_hungersOf_100 : decode cX6_hungersOf 100 = .ok (.iload 7, 2) := by decide +kernel
theorem dX6_hungersOf_102 : decode cX6_hungersOf 102 = .ok (.ireturn, 1) := by decide +kernel
theorem dX6_hungersOf_103 : decode cX6_hungersOf 103 = .ok (.iload 6, 2) := by decide +kernel
theorem dX6_hungersOf_105 : decode cX6_hungersOf 105 = .ok (.iconst 2, 1) := by decide +kernel
theorem dX6_hungersOf_106 : decode cX6_hungersOf 106 = .ok (.if_icmp .eq 9, 3) := by decide +kernel
theorem dX6_hungersOf_109 : decode cX6_hungersOf 109 = .ok (.iload 6, 2) := by decide +kernel
theorem dX6_hungersOf_111 : decode cX6_hungersOf 111 = .ok (.iconst 4, 1) := by decide +kernel
theorem dX6_hungersOf_112 : decode cX6_hungersOf 112 = .ok (.if_icmp .ne 33, 3) := by decide +kernel
theorem dX6_hungersOf_115 : decode cX6_hungersOf 115 = .ok (.iload_n 3, 1) := by decide +kernel
theorem dX6_hungersOf_116 : decode cX6_hungersOf 116 = .ok (.iload 4, 2) := by decide +kernel
theorem dX6_hungersOf_118 : decode cX6_hungersOf 118 = .ok (.if_icmp .le 7, 3) := by decide +kernel
theorem dX6_hungersOf_121 : decode cX6_hungersOf 121 = .ok (.iconst 0, 1) := by decide +kernel
theorem dX6_hungersOf_122 : decode cX6_hungersOf 122 = .ok (.goto 5, 3) := by decide +kernel
theorem dX6_hungersOf_125 : decode cX6_hungersOf 125 = .ok (.iload 5, 2) := by decide +kernel
theorem dX6_hungersOf_127 : decode cX6_hungersOf 127 = .ok (.istore 7, 2) := by decide +kernel
theorem dX6_hungersOf_129 : decode cX6_hungersOf 129 = .ok (.iload 6, 2) := by decide +kernel
theorem dX6_hungersOf_131 : decode cX6_hungersOf 131 = .ok (.iconst 4, 1) := by decide +kernel
theorem dX6_hungersOf_132 : decode cX6_hungersOf 132 = .ok (.if_icmp .ne 10, 3) := by decide +kernel
theorem dX6_hungersOf_135 : decode cX6_hungersOf 135 = .ok (.iload 7, 2) := by decide +kernel
theorem dX6_hungersOf_137 : decode cX6_hungersOf 137 = .ok (.iconst 2, 1) := by decide +kernel
theorem dX6_hungersOf_138 : decode cX6_hungersOf 138 = .ok (.idiv, 1) := by decide +kernel
theorem dX6_hungersOf_139 : decode cX6_hungersOf 139 = .ok (.goto 5, 3) := by decide +kernel
theorem dX6_hungersOf_142 : decode cX6_hungersOf 142 = .ok (.iload 7, 2) := by decide +kernel
theorem dX6_hungersOf_144 : decode cX6_hungersOf 144 = .ok (.ireturn, 1) := by decide +kernel
theorem dX6_hungersOf_145 : decode cX6_hungersOf 145 = .ok (.iload 6, 2) := by decide +kernel
theorem dX6_hungersOf_147 : decode cX6_hungersOf 147 = .ok (.iconst 5, 1) := by decide +kernel
theorem dX6_hungersOf_148 : decode cX6_hungersOf 148 = .ok (.if_icmp .ne 13, 3) := by decide +kernel
theorem dX6_hungersOf_151 : decode cX6_hungersOf 151 = .ok (.iload 5, 2) := by decide +kernel
theorem dX6_hungersOf_153 : decode cX6_hungersOf 153 = .ok (.iconst 5, 1) := by decide +kernel
theorem dX6_hungersOf_154 : decode cX6_hungersOf 154 = .ok (.if_icmp .le 7, 3) := by decide +kernel
theorem dX6_hungersOf_157 : decode cX6_hungersOf 157 = .ok (.iconst 5, 1) := by decide +kernel
theorem dX6_hungersOf_158 : decode cX6_hungersOf 158 = .ok (.goto 5, 3) := by decide +kernel
theorem dX6_hungersOf_161 : decode cX6_hungersOf 161 = .ok (.iload 5, 2) := by decide +kernel
theorem dX6_hungersOf_163 : decode cX6_hungersOf 163 = .ok (.ireturn, 1) := by decide +kernel
theorem dX6_worthOf_0 : decode cX6_worthOf 0 = .ok (.aload_n 0, 1) := by decide +kernel
theorem dX6_worthOf_1 : decode cX6_worthOf 1 = .ok (.iload_n 1, 1) := by decide +kernel
theorem dX6_worthOf_2 : decode cX6_worthOf 2 = .ok (.putfield 185, 3) := by decide +kernel
theorem dX6_worthOf_5 : decode cX6_worthOf 5 = .ok (.aload_n 0, 1) := by decide +kernel
theorem dX6_worthOf_6 : decode cX6_worthOf 6 = .ok (.iload_n 3, 1) := by decide +kernel
theorem dX6_worthOf_7 : decode cX6_worthOf 7 = .ok (.putfield 188, 3) := by decide +kernel
theorem dX6_worthOf_10 : decode cX6_worthOf 10 = .ok (.aload_n 0, 1) := by decide +kernel
theorem dX6_worthOf_11 : decode cX6_worthOf 11 = .ok (.iload 4, 2) := by decide +kernel
theorem dX6_worthOf_13 : decode cX6_worthOf 13 = .ok (.putfield 191, 3) := by decide +kernel
theorem dX6_worthOf_16 : decode cX6_worthOf 16 = .ok (.aload_n 0, 1) := by decide +kernel
theorem dX6_worthOf_17 : decode cX6_worthOf 17 = .ok (.aload_n 0, 1) := by decide +kernel
theorem dX6_worthOf_18 : decode cX6_worthOf 18 = .ok (.getfield 35, 3) := by decide +kernel
theorem dX6_worthOf_21 : decode cX6_worthOf 21 = .ok (.iload_n 2, 1) := by decide +kernel
theorem dX6_worthOf_22 : decode cX6_worthOf 22 = .ok (.iaload, 1) := by decide +kernel
theorem dX6_worthOf_23 : decode cX6_worthOf 23 = .ok (.putfield 194, 3) := by decide +kernel
theorem dX6_worthOf_26 : decode cX6_worthOf 26 = .ok (.aload_n 0, 1) := by decide +kernel
theorem dX6_worthOf_27 : decode cX6_worthOf 27 = .ok (.iload_n 2, 1) := by decide +kernel
theorem dX6_worthOf_28 : decode cX6_worthOf 28 = .ok (.putfield 197, 3) := by decide +kernel
theorem dX6_worthOf_31 : decode cX6_worthOf 31 = .ok (.aload_n 0, 1) := by decide +kernel
theorem dX6_worthOf_32 : decode cX6_worthOf 32 = .ok (.iload 5, 2) := by decide +kernel
theorem dX6_worthOf_34 : decode cX6_worthOf 34 = .ok (.putfield 200, 3) := by decide +kernel
theorem dX6_worthOf_37 : decode cX6_worthOf 37 = .ok (.aload_n 0, 1) := by decide +kernel
theorem dX6_worthOf_38 : decode cX6_worthOf 38 = .ok (.aload_n 0, 1) := by decide +kernel
theorem dX6_worthOf_39 : decode cX6_worthOf 39 = .ok (.getfield 244, 3) := by decide +kernel
theorem dX6_worthOf_42 : decode cX6_worthOf 42 = .ok (.iconst 2, 1) := by decide +kernel
theorem dX6_worthOf_43 : decode cX6_worthOf 43 = .ok (.invokevirtual 240, 3) := by decide +kernel
theorem dX6_worthOf_46 : decode cX6_worthOf 46 = .ok (.iconst 0, 1) := by decide +kernel
theorem dX6_worthOf_47 : decode cX6_worthOf 47 = .ok (.bipush 99, 2) := by decide +kernel
theorem dX6_worthOf_49 : decode cX6_worthOf 49 = .ok (.invokestatic 247, 3) := by decide +kernel
theorem dX6_worthOf_52 : decode cX6_worthOf 52 = .ok (.ireturn, 1) := by decide +kernel
theorem dX6_readyOf_0 : decode cX6_readyOf 0 = .ok (.iconst 0, 1) := by decide +kernel
theorem dX6_readyOf_1 : decode cX6_readyOf 1 = .ok (.istore_n 2, 1) := by decide +kernel
theorem dX6_readyOf_2 : decode cX6_readyOf 2 = .ok (.aload_n 0, 1) := by decide +kernel
theorem dX6_readyOf_3 : decode cX6_readyOf 3 = .ok (.getfield 26, 3) := by decide +kernel
theorem dX6_readyOf_6 : decode cX6_readyOf 6 = .ok (.iconst 2, 1) := by decide +kernel
theorem dX6_readyOf_7 : decode cX6_readyOf 7 = .ok (.if_icmp .ne 9, 3) := by decide +kernel
theorem dX6_readyOf_10 : decode cX6_readyOf 10 = .ok (.iload_n 1, 1) := by decide +kernel
theorem dX6_readyOf_11 : decode cX6_readyOf 11 = .ok (.iconst 2, 1) := by decide +kernel
theorem dX6_readyOf_12 : decode cX6_readyOf 12 = .ok (.irem, 1) := by decide +kernel
theorem dX6_readyOf_13 : decode cX6_readyOf 13 = .ok (.goto 4, 3) := by decide +kernel
theorem dX6_readyOf_16 : decode cX6_readyOf 16 = .ok (.iconst 0, 1) := by decide +kernel
theorem dX6_readyOf_17 : decode cX6_readyOf 17 = .ok (.istore_n 3, 1) := by decide +kernel
theorem dX6_readyOf_18 : decode cX6_readyOf 18 = .ok (.iload_n 3, 1) := by decide +kernel
theorem dX6_readyOf_19 : decode cX6_readyOf 19 = .ok (.iload_n 1, 1) := by decide +kernel
theorem dX6_readyOf_20 : decode cX6_readyOf 20 = .ok (.if_icmp .gt 21, 3) := by decide +kernel
theorem dX6_readyOf_23 : decode cX6_readyOf 23 = .ok (.iload_n 2, 1) := by decide +kernel
theorem dX6_readyOf_24 : decode cX6_readyOf 24 = .ok (.aload_n 0, 1) := by decide +kernel
theorem dX6_readyOf_25 : decode cX6_readyOf 25 = .ok (.iload_n 3, 1) := by decide +kernel
theorem dX6_readyOf_26 : decode cX6_readyOf 26 = .ok (.invokevirtual 251, 3) := by decide +kernel
theorem dX6_readyOf_29 : decode cX6_readyOf 29 = .ok (.iadd, 1) := by decide +kernel
theorem dX6_readyOf_30 : decode cX6_readyOf 30 = .ok (.istore_n 2, 1) := by decide +kernel
theorem dX6_readyOf_31 : decode cX6_readyOf 31 = .ok (.iload_n 3, 1) := by decide +kernel
theorem dX6_readyOf_32 : decode cX6_readyOf 32 = .ok (.aload_n 0, 1) := by decide +kernel
theorem dX6_readyOf_33 : decode cX6_readyOf 33 = .ok (.getfield 26, 3) := by decide +kernel
theorem dX6_readyOf_36 : decode cX6_readyOf 36 = .ok (.iadd, 1) := by decide +kernel
theorem dX6_readyOf_37 : decode cX6_readyOf 37 = .ok (.istore_n 3, 1) := by decide +kernel
theorem dX6_readyOf_38 : decode cX6_readyOf 38 = .ok (.goto (-20), 3) := by decide +kernel
theorem dX6_readyOf_41 : decode cX6_readyOf 41 = .ok (.iload_n 2, 1) := by decide +kernel
theorem dX6_readyOf_42 : decode cX6_readyOf 42 = .ok (.ireturn, 1) := by decide +kernel
theorem dX6_ready_0 : decode cX6_ready 0 = .ok (.aload_n 0, 1) := by decide +kernel
theorem dX6_ready_1 : decode cX6_ready 1 = .ok (.iload_n 1, 1) := by decide +kernel
theorem dX6_ready_2 : decode cX6_ready 2 = .ok (.invokevirtual 254, 3) := by decide +kernel
theorem dX6_ready_5 : decode cX6_ready 5 = .ok (.ifCond .eq 11, 3) := by decide +kernel
theorem dX6_ready_8 : decode cX6_ready 8 = .ok (.aload_n 0, 1) := by decide +kernel
theorem dX6_ready_9 : decode cX6_ready 9 = .ok (.iload_n 1, 1) := by decide +kernel
theorem dX6_ready_10 : decode cX6_ready 10 = .ok (.invokevirtual 257, 3) := by decide +kernel
theorem dX6_ready_13 : decode cX6_ready 13 = .ok (.goto 5, 3) := by decide +kernel
theorem dX6_ready_16 : decode cX6_ready 16 = .ok (.bipush (-2), 2) := by decide +kernel
theorem dX6_ready_18 : decode cX6_ready 18 = .ok (.ireturn, 1) := by decide +kernel
theorem dX6_leastHad_0 : decode cX6_leastHad 0 = .ok (.iconst (-1), 1) := by decide +kernel
theorem dX6_leastHad_1 : decode cX6_leastHad 1 = .ok (.istore_n 1, 1) := by decide +kernel
theorem dX6_leastHad_2 : decode cX6_leastHad 2 = .ok (.iconst 0, 1) := by decide +kernel
theorem dX6_leastHad_3 : decode cX6_leastHad 3 = .ok (.istore_n 2, 1) := by decide +kernel
theorem dX6_leastHad_4 : decode cX6_leastHad 4 = .ok (.iload_n 2, 1) := by decide +kernel
theorem dX6_leastHad_5 : decode cX6_leastHad 5 = .ok (.aload_n 0, 1) := by decide +kernel
theorem dX6_leastHad_6 : decode cX6_leastHad 6 = .ok (.getfield 91, 3) := by decide +kernel
theorem dX6_leastHad_9 : decode cX6_leastHad 9 = .ok (.if_icmp .ge 43, 3) := by decide +kernel
theorem dX6_leastHad_12 : decode cX6_leastHad 12 = .ok (.iload_n 2, 1) := by decide +kernel
theorem dX6_leastHad_13 : decode cX6_leastHad 13 = .ok (.aload_n 0, 1) := by decide +kernel
theorem dX6_leastHad_14 : decode cX6_leastHad 14 = .ok (.getfield 41, 3) := by decide +kernel
theorem dX6_leastHad_17 : decode cX6_leastHad 17 = .ok (.if_icmp .eq 27, 3) := by decide +kernel
theorem dX6_leastHad_20 : decode cX6_leastHad 20 = .ok (.iload_n 1, 1) := by decide +kernel
theorem dX6_leastHad_21 : decode cX6_leastHad 21 = .ok (.iconst (-1), 1) := by decide +kernel
theorem dX6_leastHad_22 : decode cX6_leastHad 22 = .ok (.if_icmp .eq 13, 3) := by decide +kernel
theorem dX6_leastHad_25 : decode cX6_leastHad 25 = .ok (.aload_n 0, 1) := by decide +kernel
theorem dX6_leastHad_26 : decode cX6_leastHad 26 = .ok (.getfield 44, 3) := by decide +kernel
theorem dX6_leastHad_29 : decode cX6_leastHad 29 = .ok (.iload_n 2, 1) := by decide +kernel
theorem dX6_leastHad_30 : decode cX6_leastHad 30 = .ok (.iaload, 1) := by decide +kernel
theorem dX6_leastHad_31 : decode cX6_leastHad 31 = .ok (.iload_n 1, 1) := by decide +kernel
theorem dX6_leastHad_32 : decode cX6_leastHad 32 = .ok (.if_icmp .ge 12, 3) := by decide +kernel
theorem dX6_leastHad_35 : decode cX6_leastHad 35 = .ok (.aload_n 0, 1) := by decide +kernel
theorem dX6_leastHad_36 : decode cX6_leastHad 36 = .ok (.getfield 44, 3) := by decide +kernel
theorem dX6_leastHad_39 : decode cX6_leastHad 39 = .ok (.iload_n 2, 1) := by decide +kernel
theorem dX6_leastHad_40 : decode cX6_leastHad 40 = .ok (.iaload, 1) := by decide +kernel
theorem dX6_leastHad_41 : decode cX6_leastHad 41 = .ok (.goto 4, 3) := by decide +kernel
theorem dX6_leastHad_44 : decode cX6_leastHad 44 = .ok (.iload_n 1, 1) := by decide +kernel
theorem dX6_leastHad_45 : decode cX6_leastHad 45 = .ok (.istore_n 1, 1) := by decide +kernel
theorem dX6_leastHad_46 : decode cX6_leastHad 46 = .ok (.iinc 2 1, 3) := by decide +kernel
theorem dX6_leastHad_49 : decode cX6_leastHad 49 = .ok (.goto (-45), 3) := by decide +kernel
theorem dX6_leastHad_52 : decode cX6_leastHad 52 = .ok (.iload_n 1, 1) := by decide +kernel
theorem dX6_leastHad_53 : decode cX6_leastHad 53 = .ok (.ireturn, 1) := by decide +kernel
theorem dX6_mostHad_0 : decode cX6_mostHad 0 = .ok (.iconst 0, 1) := by decide +kernel
theorem dX6_mostHad_1 : decode cX6_mostHad 1 = .ok (.istore_n 1, 1) := by decide +kernel
theorem dX6_mostHad_2 : decode cX6_mostHad 2 = .ok (.iconst 0, 1) := by decide +kernel
theorem dX6_mostHad_3 : decode cX6_mostHad 3 = .ok (.istore_n 2, 1) := by decide +kernel
theorem dX6_mostHad_4 : decode cX6_mostHad 4 = .ok (.iload_n 2, 1) := by decide +kernel
theorem dX6_mostHad_5 : decode cX6_mostHad 5 = .ok (.aload_n 0, 1) := by decide +kernel
theorem dX6_mostHad_6 : decode cX6_mostHad 6 = .ok (.getfield 91, 3) := by decide +kernel
theorem dX6_mostHad_9 : decode cX6_mostHad 9 = .ok (.if_icmp .ge 38, 3) := by decide +kernel
theorem dX6_mostHad_12 : decode cX6_mostHad 12 = .ok (.iload_n 2, 1) := by decide +kernel
theorem dX6_mostHad_13 : decode cX6_mostHad 13 = .ok (.aload_n 0, 1) := by decide +kernel
theorem dX6_mostHad_14 : decode cX6_mostHad 14 = .ok (.getfield 41, 3) := by decide +kernel
theorem dX6_mostHad_17 : decode cX6_mostHad 17 = .ok (.if_icmp .eq 22, 3) := by decide +kernel
theorem dX6_mostHad_20 : decode cX6_mostHad 20 = .ok (.aload_n 0, 1) := by decide +kernel
theorem dX6_mostHad_21 : decode cX6_mostHad 21 = .ok (.getfield 44, 3) := by decide +kernel
theorem dX6_mostHad_24 : decode cX6_mostHad 24 = .ok (.iload_n 2, 1) := by decide +kernel
theorem dX6_mostHad_25 : decode cX6_mostHad 25 = .ok (.iaload, 1) := by decide +kernel
theorem dX6_mostHad_26 : decode cX6_mostHad 26 = .ok (.iload_n 1, 1) := by decide +kernel
theorem dX6_mostHad_27 : decode cX6_mostHad 27 = .ok (.if_icmp .le 12, 3) := by decide +kernel
theorem dX6_mostHad_30 : decode cX6_mostHad 30 = .ok (.aload_n 0, 1) := by decide +kernel
theorem dX6_mostHad_31 : decode cX6_mostHad 31 = .ok (.getfield 44, 3) := by decide +kernel
theorem dX6_mostHad_34 : decode cX6_mostHad 34 = .ok (.iload_n 2, 1) := by decide +kernel
theorem dX6_mostHad_35 : decode cX6_mostHad 35 = .ok (.iaload, 1) := by decide +kernel
theorem dX6_mostHad_36 : decode cX6_mostHad 36 = .ok (.goto 4, 3) := by decide +kernel
theorem dX6_mostHad_39 : decode cX6_mostHad 39 = .ok (.iload_n 1, 1) := by decide +kernel
theorem dX6_mostHad_40 : decode cX6_mostHad 40 = .ok (.istore_n 1, 1) := by decide +kernel
theorem dX6_mostHad_41 : decode cX6_mostHad 41 = .ok (.iinc 2 1, 3) := by decide +kernel
theorem dX6_mostHad_44 : decode cX6_mostHad 44 = .ok (.goto (-40), 3) := by decide +kernel
theorem dX6_mostHad_47 : decode cX6_mostHad 47 = .ok (.iload_n 1, 1) := by decide +kernel
theorem dX6_mostHad_48 : decode cX6_mostHad 48 = .ok (.ireturn, 1) := by decide +kernel
theorem dX6_hungriest_0 : decode cX6_hungriest 0 = .ok (.aload_n 0, 1) := by decide +kernel
theorem dX6_hungriest_1 : decode cX6_hungriest 1 = .ok (.invokevirtual 260, 3) := by decide +kernel
theorem dX6_hungriest_4 : decode cX6_hungriest 4 = .ok (.istore_n 2, 1) := by decide +kernel
theorem dX6_hungriest_5 : decode cX6_hungriest 5 = .ok (.iconst (-1), 1) := by decide +kernel
theorem dX6_hungriest_6 : decode cX6_hungriest 6 = .ok (.istore_n 3, 1) := by decide +kernel
theorem dX6_hungriest_7 : decode cX6_hungriest 7 = .ok (.iconst 0, 1) := by decide +kernel
theorem dX6_hungriest_8 : decode cX6_hungriest 8 = .ok (.istore 4, 2) := by decide +kernel
theorem dX6_hungriest_10 : decode cX6_hungriest 10 = .ok (.iconst 0, 1) := by decide +kernel
theorem dX6_hungriest_11 : decode cX6_hungriest 11 = .ok (.istore 5, 2) := by decide +kernel
theorem dX6_hungriest_13 : decode cX6_hungriest 13 = .ok (.iload 5, 2) := by decide +kernel
theorem dX6_hungriest_15 : decode cX6_hungriest 15 = .ok (.aload_n 0, 1) := by decide +kernel
theorem dX6_hungriest_16 : decode cX6_hungriest 16 = .ok (.getfield 91, 3) := by decide +kernel
theorem dX6_hungriest_19 : decode cX6_hungriest 19 = .ok (.if_icmp .ge 71, 3) := by decide +kernel
theorem dX6_hungriest_22 : decode cX6_hungriest 22 = .ok (.iload 5, 2) := by decide +kernel
theorem dX6_hungriest_24 : decode cX6_hungriest 24 = .ok (.aload_n 0, 1) := by decide +kernel
theorem dX6_hungriest_25 : decode cX6_hungriest 25 = .ok (.getfield 41, 3) := by decide +kernel
theorem dX6_hungriest_28 : decode cX6_hungriest 28 = .ok (.if_icmp .eq 56, 3) := by decide +kernel
theorem dX6_hungriest_31 : decode cX6_hungriest 31 = .ok (.aload_n 0, 1) := by decide +kernel
theorem dX6_hungriest_32 : decode cX6_hungriest 32 = .ok (.getfield 44, 3) := by decide +kernel
theorem dX6_hungriest_35 : decode cX6_hungriest 35 = .ok (.iload 5, 2) := by decide +kernel
theorem dX6_hungriest_37 : decode cX6_hungriest 37 = .ok (.iaload, 1) := by decide +kernel
theorem dX6_hungriest_38 : decode cX6_hungriest 38 = .ok (.aload_n 0, 1) := by decide +kernel
theorem dX6_hungriest_39 : decode cX6_hungriest 39 = .ok (.getfield 35, 3) := by decide +kernel
theorem dX6_hungriest_42 : decode cX6_hungriest 42 = .ok (.iload 5, 2) := by decide +kernel
theorem dX6_hungriest_44 : decode cX6_hungriest 44 = .ok (.iaload, 1) := by decide +kernel
theorem dX6_hungriest_45 : decode cX6_hungriest 45 = .ok (.if_icmp .ge 39, 3) := by decide +kernel
theorem dX6_hungriest_48 : decode cX6_hungriest 48 = .ok (.aload_n 0, 1) := by decide +kernel
theorem dX6_hungriest_49 : decode cX6_hungriest 49 = .ok (.iload 5, 2) := by decide +kernel
theorem dX6_hungriest_51 : decode cX6_hungriest 51 = .ok (.iload_n 1, 1) := by decide +kernel
theorem dX6_hungriest_52 : decode cX6_hungriest 52 = .ok (.aload_n 0, 1) := by decide +kernel
theorem dX6_hungriest_53 : decode cX6_hungriest 53 = .ok (.getfield 44, 3) := by decide +kernel
theorem dX6_hungriest_56 : decode cX6_hungriest 56 = .ok (.iload 5, 2) := by decide +kernel
theorem dX6_hungriest_58 : decode cX6_hungriest 58 = .ok (.iaload, 1) := by decide +kernel
theorem dX6_hungriest_59 : decode cX6_hungriest 59 = .ok (.iload_n 2, 1) := by decide +kernel
theorem dX6_hungriest_60 : decode cX6_hungriest 60 = .ok (.invokevirtual 116, 3) := by decide +kernel
theorem dX6_hungriest_63 : decode cX6_hungriest 63 = .ok (.istore 6, 2) := by decide +kernel
theorem dX6_hungriest_65 : decode cX6_hungriest 65 = .ok (.iload_n 3, 1) := by decide +kernel
theorem dX6_hungriest_66 : decode cX6_hungriest 66 = .ok (.iconst (-1), 1) := by decide +kernel
theorem dX6_hungriest_67 : decode cX6_hungriest 67 = .ok (.if_icmp .eq 10, 3) := by decide +kernel
theorem dX6_hungriest_70 : decode cX6_hungriest 70 = .ok (.iload 6, 2) := by decide +kernel
theorem dX6_hungriest_72 : decode cX6_hungriest 72 = .ok (.iload 4, 2) := by decide +kernel
theorem dX6_hungriest_74 : decode cX6_hungriest 74 = .ok (.if_icmp .le 10, 3) := by decide +kernel
theorem dX6_hungriest_77 : decode cX6_hungriest 77 = .ok (.iload 5, 2) := by decide +kernel
theorem dX6_hungriest_79 : decode cX6_hungriest 79 = .ok (.istore_n 3, 1) := by decide +kernel
theorem dX6_hungriest_80 : decode cX6_hungriest 80 = .ok (.iload 6, 2) := by decide +kernel
theorem dX6_hungriest_82 : decode cX6_hungriest 82 = .ok (.istore 4, 2) := by decide +kernel
theorem dX6_hungriest_84 : decode cX6_hungriest 84 = .ok (.iinc 5 1, 3) := by decide +kernel
theorem dX6_hungriest_87 : decode cX6_hungriest 87 = .ok (.goto (-74), 3) := by decide +kernel
theorem dX6_hungriest_90 : decode cX6_hungriest 90 = .ok (.iload_n 3, 1) := by decide +kernel
theorem dX6_hungriest_91 : decode cX6_hungriest 91 = .ok (.ireturn, 1) := by decide +kernel
theorem dX6_whoHas_0 : decode cX6_whoHas 0 = .ok (.iconst 0, 1) := by decide +kernel
theorem dX6_whoHas_1 : decode cX6_whoHas 1 = .ok (.istore_n 1, 1) := by decide +kernel
theorem dX6_whoHas_2 : decode cX6_whoHas 2 = .ok (.iload_n 1, 1) := by decide +kernel
theorem dX6_whoHas_3 : decode cX6_whoHas 3 = .ok (.aload_n 0, 1) := by decide +kernel
theorem dX6_whoHas_4 : decode cX6_whoHas 4 = .ok (.getfield 91, 3) := by decide +kernel
theorem dX6_whoHas_7 : decode cX6_whoHas 7 = .ok (.if_icmp .ge 32, 3) := by decide +kernel
theorem dX6_whoHas_10 : decode cX6_whoHas 10 = .ok (.iload_n 1, 1) := by decide +kernel
theorem dX6_whoHas_11 : decode cX6_whoHas 11 = .ok (.aload_n 0, 1) := by decide +kernel
theorem dX6_whoHas_12 : decode cX6_whoHas 12 = .ok (.getfield 41, 3) := by decide +kernel
theorem dX6_whoHas_15 : decode cX6_whoHas 15 = .ok (.if_icmp .eq 18, 3) := by decide +kernel
theorem dX6_whoHas_18 : decode cX6_whoHas 18 = .ok (.aload_n 0, 1) := by decide +kernel
theorem dX6_whoHas_19 : decode cX6_whoHas 19 = .ok (.getfield 44, 3) := by decide +kernel
theorem dX6_whoHas_22 : decode cX6_whoHas 22 = .ok (.iload_n 1, 1) := by decide +kernel
theorem dX6_whoHas_23 : decode cX6_whoHas 23 = .ok (.iaload, 1) := by decide +kernel
theorem dX6_whoHas_24 : decode cX6_whoHas 24 = .ok (.aload_n 0, 1) := by decide +kernel
theorem dX6_whoHas_25 : decode cX6_whoHas 25 = .ok (.invokevirtual 260, 3) := by decide +kernel
theorem dX6_whoHas_28 : decode cX6_whoHas 28 = .ok (.if_icmp .ne 5, 3) := by decide +kernel
theorem dX6_whoHas_31 : decode cX6_whoHas 31 = .ok (.iload_n 1, 1) := by decide +kernel
theorem dX6_whoHas_32 : decode cX6_whoHas 32 = .ok (.ireturn, 1) := by decide +kernel
theorem dX6_whoHas_33 : decode cX6_whoHas 33 = .ok (.iinc 1 1, 3) := by decide +kernel
theorem dX6_whoHas_36 : decode cX6_whoHas 36 = .ok (.goto (-34), 3) := by decide +kernel
theorem dX6_whoHas_39 : decode cX6_whoHas 39 = .ok (.iconst (-1), 1) := by decide +kernel
theorem dX6_whoHas_40 : decode cX6_whoHas 40 = .ok (.ireturn, 1) := by decide +kernel
theorem dX6_towards_0 : decode cX6_towards 0 = .ok (.aload_n 0, 1) := by decide +kernel
theorem dX6_towards_1 : decode cX6_towards 1 = .ok (.getfield 91, 3) := by decide +kernel
theorem dX6_towards_4 : decode cX6_towards 4 = .ok (.ifCond .ne 5, 3) := by decide +kernel
theorem dX6_towards_7 : decode cX6_towards 7 = .ok (.iconst (-1), 1) := by decide +kernel
theorem dX6_towards_8 : decode cX6_towards 8 = .ok (.ireturn, 1) := by decide +kernel
theorem dX6_towards_9 : decode cX6_towards 9 = .ok (.iload_n 2, 1) := by decide +kernel
theorem dX6_towards_10 : decode cX6_towards 10 = .ok (.ifCond .ne 46, 3) := by decide +kernel
theorem dX6_towards_13 : decode cX6_towards 13 = .ok (.iload_n 1, 1) := by decide +kernel
theorem dX6_towards_14 : decode cX6_towards 14 = .ok (.aload_n 0, 1) := by decide +kernel
theorem dX6_towards_15 : decode cX6_towards 15 = .ok (.getfield 78, 3) := by decide +kernel
theorem dX6_towards_18 : decode cX6_towards 18 = .ok (.iload_n 3, 1) := by decide +kernel
theorem dX6_towards_19 : decode cX6_towards 19 = .ok (.iaload, 1) := by decide +kernel
theorem dX6_towards_20 : decode cX6_towards 20 = .ok (.if_icmp .ge 17, 3) := by decide +kernel
theorem dX6_towards_23 : decode cX6_towards 23 = .ok (.aload_n 0, 1) := by decide +kernel
theorem dX6_towards_24 : decode cX6_towards 24 = .ok (.getfield 81, 3) := by decide +kernel
theorem dX6_towards_27 : decode cX6_towards 27 = .ok (.bipush 40, 2) := by decide +kernel
theorem dX6_towards_29 : decode cX6_towards 29 = .ok (.iload_n 3, 1) := by decide +kernel
theorem dX6_towards_30 : decode cX6_towards 30 = .ok (.imul, 1) := by decide +kernel
theorem dX6_towards_31 : decode cX6_towards 31 = .ok (.iload_n 1, 1) := by decide +kernel
theorem dX6_towards_32 : decode cX6_towards 32 = .ok (.iadd, 1) := by decide +kernel
theorem dX6_towards_33 : decode cX6_towards 33 = .ok (.iaload, 1) := by decide +kernel
theorem dX6_towards_34 : decode cX6_towards 34 = .ok (.goto 4, 3) := by decide +kernel
theorem dX6_towards_37 : decode cX6_towards 37 = .ok (.iconst (-1), 1) := by decide +kernel
theorem dX6_towards_38 : decode cX6_towards 38 = .ok (.istore 5, 2) := by decide +kernel
theorem dX6_towards_40 : decode cX6_towards 40 = .ok (.aload_n 0, 1) := by decide +kernel
theorem dX6_towards_41 : decode cX6_towards 41 = .ok (.iload 5, 2) := by decide +kernel
theorem dX6_towards_43 : decode cX6_towards 43 = .ok (.invokevirtual 100, 3) := by decide +kernel
theorem dX6_towards_46 : decode cX6_towards 46 = .ok (.ifCond .eq 8, 3) := by decide +kernel
theorem dX6_towards_49 : decode cX6_towards 49 = .ok (.iload 5, 2) := by decide +kernel
theorem dX6_towards_51 : decode cX6_towards 51 = .ok (.goto 4, 3) := by decide +kernel
theorem dX6_towards_54 : decode cX6_towards 54 = .ok (.iconst (-1), 1) := by decide +kernel
theorem dX6_towards_55 : decode cX6_towards 55 = .ok (.ireturn, 1) := by decide +kernel
theorem dX6_towards_56 : decode cX6_towards 56 = .ok (.iload_n 2, 1) := by decide +kernel
theorem dX6_towards_57 : decode cX6_towards 57 = .ok (.iconst 4, 1) := by decide +kernel
theorem dX6_towards_58 : decode cX6_towards 58 = .ok (.if_icmp .ne 15, 3) := by decide +kernel
theorem dX6_towards_61 : decode cX6_towards 61 = .ok (.iload_n 1, 1) := by decide +kernel
theorem dX6_towards_62 : decode cX6_towards 62 = .ok (.iload_n 3, 1) := by decide +kernel
theorem dX6_towards_63 : decode cX6_towards 63 = .ok (.if_icmp .ge 10, 3) := by decide +kernel
theorem dX6_towards_66 : decode cX6_towards 66 = .ok (.aload_n 0, 1) := by decide +kernel
theorem dX6_towards_67 : decode cX6_towards 67 = .ok (.getfield 59, 3) := by decide +kernel
theorem dX6_towards_70 : decode cX6_towards 70 = .ok (.iload_n 1, 1) := by decide +kernel
theorem dX6_towards_71 : decode cX6_towards 71 = .ok (.iaload, 1) := by decide +kernel
theorem dX6_towards_72 : decode cX6_towards 72 = .ok (.ireturn, 1) := by decide +kernel
theorem dX6_towards_73 : decode cX6_towards 73 = .ok (.iload_n 2, 1) := by decide +kernel
theorem dX6_towards_74 : decode cX6_towards 74 = .ok (.iconst 2, 1) := by decide +kernel
theorem dX6_towards_75 : decode cX6_towards 75 = .ok (.if_icmp .ne 10, 3) := by decide +kernel
theorem dX6_towards_78 : decode cX6_towards 78 = .ok (.aload_n 0, 1) := by decide +kernel
theorem dX6_towards_79 : decode cX6_towards 79 = .ok (.iload 4, 2) := by decide +kernel
theorem dX6_towards_81 : decode cX6_towards 81 = .ok (.invokevirtual 263, 3) := by decide +kernel
theorem dX6_towards_84 : decode cX6_towards 84 = .ok (.ireturn, 1) := by decide +kernel
theorem dX6_towards_85 : decode cX6_towards 85 = .ok (.iload_n 2, 1) := by decide +kernel
theorem dX6_towards_86 : decode cX6_towards 86 = .ok (.iconst 3, 1) := by decide +kernel
theorem dX6_towards_87 : decode cX6_towards 87 = .ok (.if_icmp .ne 10, 3) := by decide +kernel
theorem dX6_towards_90 : decode cX6_towards 90 = .ok (.aload_n 0, 1) := by decide +kernel
theorem dX6_towards_91 : decode cX6_towards 91 = .ok (.invokevirtual 266, 3) := by decide +kernel
theorem dX6_towards_94 : decode cX6_towards 94 = .ok (.goto 9, 3) := by decide +kernel
theorem dX6_towards_97 : decode cX6_towards 97 = .ok (.iload_n 1, 1) := by decide +kernel
theorem dX6_towards_98 : decode cX6_towards 98 = .ok (.aload_n 0, 1) := by decide +kernel
theorem dX6_towards_99 : decode cX6_towards 99 = .ok (.getfield 91, 3) := by decide +kernel
theorem dX6_towards_102 : decode cX6_towards 102 = .ok (.irem, 1) := by decide +kernel
theorem dX6_towards_103 : decode cX6_towards 103 = .ok (.ireturn, 1) := by decide +kernel
theorem dX6_gives_0 : decode cX6_gives 0 = .ok (.iload_n 2, 1) := by decide +kernel
theorem dX6_gives_1 : decode cX6_gives 1 = .ok (.iconst (-1), 1) := by decide +kernel
theorem dX6_gives_2 : decode cX6_gives 2 = .ok (.if_icmp .ne 14, 3) := by decide +kernel
theorem dX6_gives_5 : decode cX6_gives 5 = .ok (.aload_n 0, 1) := by decide +kernel
theorem dX6_gives_6 : decode cX6_gives 6 = .ok (.dup, 1) := by decide +kernel
theorem dX6_gives_7 : decode cX6_gives 7 = .ok (.getfield 269, 3) := by decide +kernel
theorem dX6_gives_10 : decode cX6_gives 10 = .ok (.iconst 1, 1) := by decide +kernel
theorem dX6_gives_11 : decode cX6_gives 11 = .ok (.iadd, 1) := by decide +kernel
theorem dX6_gives_12 : decode cX6_gives 12 = .ok (.putfield 269, 3) := by decide +kernel
theorem dX6_gives_15 : decode cX6_gives 15 = .ok (.return_, 1) := by decide +kernel
theorem dX6_gives_16 : decode cX6_gives 16 = .ok (.aload_n 0, 1) := by decide +kernel
theorem dX6_gives_17 : decode cX6_gives 17 = .ok (.getfield 44, 3) := by decide +kernel
theorem dX6_gives_20 : decode cX6_gives 20 = .ok (.iload_n 2, 1) := by decide +kernel
theorem dX6_gives_21 : decode cX6_gives 21 = .ok (.iaload, 1) := by decide +kernel
theorem dX6_gives_22 : decode cX6_gives 22 = .ok (.ifCond .le 22, 3) := by decide +kernel
theorem dX6_gives_25 : decode cX6_gives 25 = .ok (.aload_n 0, 1) := by decide +kernel
theorem dX6_gives_26 : decode cX6_gives 26 = .ok (.getfield 47, 3) := by decide +kernel
theorem dX6_gives_29 : decode cX6_gives 29 = .ok (.iload_n 2, 1) := by decide +kernel
theorem dX6_gives_30 : decode cX6_gives 30 = .ok (.iaload, 1) := by decide +kernel
theorem dX6_gives_31 : decode cX6_gives 31 = .ok (.iload_n 3, 1) := by decide +kernel
theorem dX6_gives_32 : decode cX6_gives 32 = .ok (.if_icmp .le 12, 3) := by decide +kernel
theorem dX6_gives_35 : decode cX6_gives 35 = .ok (.aload_n 0, 1) := by decide +kernel
theorem dX6_gives_36 : decode cX6_gives 36 = .ok (.getfield 47, 3) := by decide +kernel
theorem dX6_gives_39 : decode cX6_gives 39 = .ok (.iload_n 2, 1) := by decide +kernel
theorem dX6_gives_40 : decode cX6_gives 40 = .ok (.iaload, 1) := by decide +kernel
theorem dX6_gives_41 : decode cX6_gives 41 = .ok (.goto 4, 3) := by decide +kernel
theorem dX6_gives_44 : decode cX6_gives 44 = .ok (.iload_n 3, 1) := by decide +kernel
theorem dX6_gives_45 : decode cX6_gives 45 = .ok (.istore 4, 2) := by decide +kernel
theorem dX6_gives_47 : decode cX6_gives 47 = .ok (.aload_n 0, 1) := by decide +kernel
theorem dX6_gives_48 : decode cX6_gives 48 = .ok (.dup, 1) := by decide +kernel
theorem dX6_gives_49 : decode cX6_gives 49 = .ok (.getfield 272, 3) := by decide +kernel
theorem dX6_gives_52 : decode cX6_gives 52 = .ok (.aload_n 0, 1) := by decide +kernel
theorem dX6_gives_53 : decode cX6_gives 53 = .ok (.iload_n 1, 1) := by decide +kernel
theorem dX6_gives_54 : decode cX6_gives 54 = .ok (.iload_n 2, 1) := by decide +kernel
theorem dX6_gives_55 : decode cX6_gives 55 = .ok (.iload 4, 2) := by decide +kernel
theorem dX6_gives_57 : decode cX6_gives 57 = .ok (.aload_n 0, 1) := by decide +kernel
theorem dX6_gives_58 : decode cX6_gives 58 = .ok (.getfield 44, 3) := by decide +kernel
theorem dX6_gives_61 : decode cX6_gives 61 = .ok (.iload_n 2, 1) := by decide +kernel
theorem dX6_gives_62 : decode cX6_gives 62 = .ok (.iaload, 1) := by decide +kernel
theorem dX6_gives_63 : decode cX6_gives 63 = .ok (.iload 4, 2) := by decide +kernel
theorem dX6_gives_65 : decode cX6_gives 65 = .ok (.aload_n 0, 1) := by decide +kernel
theorem dX6_gives_66 : decode cX6_gives 66 = .ok (.getfield 53, 3) := by decide +kernel
theorem dX6_gives_69 : decode cX6_gives 69 = .ok (.iload_n 1, 1) := by decide +kernel
theorem dX6_gives_70 : decode cX6_gives 70 = .ok (.iaload, 1) := by decide +kernel
theorem dX6_gives_71 : decode cX6_gives 71 = .ok (.isub, 1) := by decide +kernel
theorem dX6_gives_72 : decode cX6_gives 72 = .ok (.invokevirtual 275, 3) := by decide +kernel
theorem dX6_gives_75 : decode cX6_gives 75 = .ok (.isub, 1) := by decide +kernel
theorem dX6_gives_76 : decode cX6_gives 76 = .ok (.putfield 272, 3) := by decide +kernel
theorem dX6_gives_79 : decode cX6_gives 79 = .ok (.aload_n 0, 1) := by decide +kernel
theorem dX6_gives_80 : decode cX6_gives 80 = .ok (.getfield 44, 3) := by decide +kernel
theorem dX6_gives_83 : decode cX6_gives 83 = .ok (.iload_n 2, 1) := by decide +kernel
theorem dX6_gives_84 : decode cX6_gives 84 = .ok (.dup2, 1) := by decide +kernel
theorem dX6_gives_85 : decode cX6_gives 85 = .ok (.iaload, 1) := by decide +kernel
theorem dX6_gives_86 : decode cX6_gives 86 = .ok (.iconst 1, 1) := by decide +kernel
theorem dX6_gives_87 : decode cX6_gives 87 = .ok (.iadd, 1) := by decide +kernel
theorem dX6_gives_88 : decode cX6_gives 88 = .ok (.iastore, 1) := by decide +kernel
theorem dX6_gives_89 : decode cX6_gives 89 = .ok (.aload_n 0, 1) := by decide +kernel
theorem dX6_gives_90 : decode cX6_gives 90 = .ok (.getfield 47, 3) := by decide +kernel
theorem dX6_gives_93 : decode cX6_gives 93 = .ok (.iload_n 2, 1) := by decide +kernel
theorem dX6_gives_94 : decode cX6_gives 94 = .ok (.iload 4, 2) := by decide +kernel
theorem dX6_gives_96 : decode cX6_gives 96 = .ok (.aload_n 0, 1) := by decide +kernel
theorem dX6_gives_97 : decode cX6_gives 97 = .ok (.iload_n 2, 1) := by decide +kernel
theorem dX6_gives_98 : decode cX6_gives 98 = .ok (.invokevirtual 120, 3) := by decide +kernel
theorem dX6_gives_101 : decode cX6_gives 101 = .ok (.iadd, 1) := by decide +kernel
theorem dX6_gives_102 : decode cX6_gives 102 = .ok (.iastore, 1) := by decide +kernel
theorem dX6_gives_103 : decode cX6_gives 103 = .ok (.aload_n 0, 1) := by decide +kernel
theorem dX6_gives_104 : decode cX6_gives 104 = .ok (.dup, 1) := by decide +kernel
theorem dX6_gives_105 : decode cX6_gives 105 = .ok (.getfield 279, 3) := by decide +kernel
theorem dX6_gives_108 : decode cX6_gives 108 = .ok (.iconst 1, 1) := by decide +kernel
theorem dX6_gives_109 : decode cX6_gives 109 = .ok (.iadd, 1) := by decide +kernel
theorem dX6_gives_110 : decode cX6_gives 110 = .ok (.putfield 279, 3) := by decide +kernel
theorem dX6_gives_113 : decode cX6_gives 113 = .ok (.return_, 1) := by decide +kernel
theorem dX6_bakes_0 : decode cX6_bakes 0 = .ok (.iconst 0, 1) := by decide +kernel
theorem dX6_bakes_1 : decode cX6_bakes 1 = .ok (.istore_n 3, 1) := by decide +kernel
theorem dX6_bakes_2 : decode cX6_bakes 2 = .ok (.iload_n 3, 1) := by decide +kernel
theorem dX6_bakes_3 : decode cX6_bakes 3 = .ok (.aload_n 0, 1) := by decide +kernel
theorem dX6_bakes_4 : decode cX6_bakes 4 = .ok (.getfield 23, 3) := by decide +kernel
theorem dX6_bakes_7 : decode cX6_bakes 7 = .ok (.if_icmp .ge 20, 3) := by decide +kernel
theorem dX6_bakes_10 : decode cX6_bakes 10 = .ok (.aload_n 0, 1) := by decide +kernel
theorem dX6_bakes_11 : decode cX6_bakes 11 = .ok (.getfield 53, 3) := by decide +kernel
theorem dX6_bakes_14 : decode cX6_bakes 14 = .ok (.iload_n 3, 1) := by decide +kernel
theorem dX6_bakes_15 : decode cX6_bakes 15 = .ok (.aload_n 0, 1) := by decide +kernel
theorem dX6_bakes_16 : decode cX6_bakes 16 = .ok (.iload_n 3, 1) := by decide +kernel
theorem dX6_bakes_17 : decode cX6_bakes 17 = .ok (.invokevirtual 257, 3) := by decide +kernel
theorem dX6_bakes_20 : decode cX6_bakes 20 = .ok (.iastore, 1) := by decide +kernel
theorem dX6_bakes_21 : decode cX6_bakes 21 = .ok (.iinc 3 1, 3) := by decide +kernel
theorem dX6_bakes_24 : decode cX6_bakes 24 = .ok (.goto (-22), 3) := by decide +kernel
theorem dX6_bakes_27 : decode cX6_bakes 27 = .ok (.iconst 0, 1) := by decide +kernel
theorem dX6_bakes_28 : decode cX6_bakes 28 = .ok (.istore_n 3, 1) := by decide +kernel
theorem dX6_bakes_29 : decode cX6_bakes 29 = .ok (.iload_n 3, 1) := by decide +kernel
theorem dX6_bakes_30 : decode cX6_bakes 30 = .ok (.aload_n 0, 1) := by decide +kernel
theorem dX6_bakes_31 : decode cX6_bakes 31 = .ok (.getfield 23, 3) := by decide +kernel
theorem dX6_bakes_34 : decode cX6_bakes 34 = .ok (.if_icmp .ge 106, 3) := by decide +kernel
theorem dX6_bakes_37 : decode cX6_bakes 37 = .ok (.aload_n 0, 1) := by decide +kernel
theorem dX6_bakes_38 : decode cX6_bakes 38 = .ok (.getfield 56, 3) := by decide +kernel
theorem dX6_bakes_41 : decode cX6_bakes 41 = .ok (.iload_n 3, 1) := by decide +kernel
theorem dX6_bakes_42 : decode cX6_bakes 42 = .ok (.aload_n 0, 1) := by decide +kernel
theorem dX6_bakes_43 : decode cX6_bakes 43 = .ok (.getfield 53, 3) := by decide +kernel
theorem dX6_bakes_46 : decode cX6_bakes 46 = .ok (.iload_n 3, 1) := by decide +kernel
theorem dX6_bakes_47 : decode cX6_bakes 47 = .ok (.iaload, 1) := by decide +kernel
theorem dX6_bakes_48 : decode cX6_bakes 48 = .ok (.iastore, 1) := by decide +kernel
theorem dX6_bakes_49 : decode cX6_bakes 49 = .ok (.iload_n 1, 1) := by decide +kernel
theorem dX6_bakes_50 : decode cX6_bakes 50 = .ok (.iconst 5, 1) := by decide +kernel
theorem dX6_bakes_51 : decode cX6_bakes 51 = .ok (.if_icmp .ne 11, 3) := by decide +kernel
theorem dX6_bakes_54 : decode cX6_bakes 54 = .ok (.iload_n 3, 1) := by decide +kernel
theorem dX6_bakes_55 : decode cX6_bakes 55 = .ok (.iload_n 2, 1) := by decide +kernel
theorem dX6_bakes_56 : decode cX6_bakes 56 = .ok (.idiv, 1) := by decide +kernel
theorem dX6_bakes_57 : decode cX6_bakes 57 = .ok (.iload_n 2, 1) := by decide +kernel
theorem dX6_bakes_58 : decode cX6_bakes 58 = .ok (.imul, 1) := by decide +kernel
theorem dX6_bakes_59 : decode cX6_bakes 59 = .ok (.goto 7, 3) := by decide +kernel
theorem dX6_bakes_62 : decode cX6_bakes 62 = .ok (.aload_n 0, 1) := by decide +kernel
theorem dX6_bakes_63 : decode cX6_bakes 63 = .ok (.getfield 23, 3) := by decide +kernel
theorem dX6_bakes_66 : decode cX6_bakes 66 = .ok (.istore 4, 2) := by decide +kernel
theorem dX6_bakes_68 : decode cX6_bakes 68 = .ok (.iload 4, 2) := by decide +kernel
theorem dX6_bakes_70 : decode cX6_bakes 70 = .ok (.istore 5, 2) := by decide +kernel
theorem dX6_bakes_72 : decode cX6_bakes 72 = .ok (.iload 5, 2) := by decide +kernel
theorem dX6_bakes_74 : decode cX6_bakes 74 = .ok (.aload_n 0, 1) := by decide +kernel
theorem dX6_bakes_75 : decode cX6_bakes 75 = .ok (.getfield 23, 3) := by decide +kernel
theorem dX6_bakes_78 : decode cX6_bakes 78 = .ok (.if_icmp .ge 56, 3) := by decide +kernel
theorem dX6_bakes_81 : decode cX6_bakes 81 = .ok (.iload 5, 2) := by decide +kernel
theorem dX6_bakes_83 : decode cX6_bakes 83 = .ok (.iload 4, 2) := by decide +kernel
theorem dX6_bakes_85 : decode cX6_bakes 85 = .ok (.iload_n 2, 1) := by decide +kernel
theorem dX6_bakes_86 : decode cX6_bakes 86 = .ok (.iadd, 1) := by decide +kernel
theorem dX6_bakes_87 : decode cX6_bakes 87 = .ok (.if_icmp .ge 47, 3) := by decide +kernel
theorem dX6_bakes_90 : decode cX6_bakes 90 = .ok (.aload_n 0, 1) := by decide +kernel
theorem dX6_bakes_91 : decode cX6_bakes 91 = .ok (.getfield 56, 3) := by decide +kernel
theorem dX6_bakes_94 : decode cX6_bakes 94 = .ok (.iload_n 3, 1) := by decide +kernel
theorem dX6_bakes_95 : decode cX6_bakes 95 = .ok (.aload_n 0, 1) := by decide +kernel
theorem dX6_bakes_96 : decode cX6_bakes 96 = .ok (.getfield 53, 3) := by decide +kernel
theorem dX6_bakes_99 : decode cX6_bakes 99 = .ok (.iload 5, 2) := by decide +kernel
theorem dX6_bakes_101 : decode cX6_bakes 101 = .ok (.iaload, 1) := by decide +kernel
theorem dX6_bakes_102 : decode cX6_bakes 102 = .ok (.aload_n 0, 1) := by decide +kernel
theorem dX6_bakes_103 : decode cX6_bakes 103 = .ok (.getfield 56, 3) := by decide +kernel
theorem dX6_bakes_106 : decode cX6_bakes 106 = .ok (.iload_n 3, 1) := by decide +kernel
theorem dX6_bakes_107 : decode cX6_bakes 107 = .ok (.iaload, 1) := by decide +kernel
theorem dX6_bakes_108 : decode cX6_bakes 108 = .ok (.if_icmp .le 13, 3) := by decide +kernel
theorem dX6_bakes_111 : decode cX6_bakes 111 = .ok (.aload_n 0, 1) := by decide +kernel
theorem dX6_bakes_112 : decode cX6_bakes 112 = .ok (.getfield 53, 3) := by decide +kernel
theorem dX6_bakes_115 : decode cX6_bakes 115 = .ok (.iload 5, 2) := by decide +kernel
theorem dX6_bakes_117 : decode cX6_bakes 117 = .ok (.iaload, 1) := by decide +kernel
theorem dX6_bakes_118 : decode cX6_bakes 118 = .ok (.goto 9, 3) := by decide +kernel
theorem dX6_bakes_121 : decode cX6_bakes 121 = .ok (.aload_n 0, 1) := by decide +kernel
theorem dX6_bakes_122 : decode cX6_bakes 122 = .ok (.getfield 56, 3) := by decide +kernel
theorem dX6_bakes_125 : decode cX6_bakes 125 = .ok (.iload_n 3, 1) := by decide +kernel
theorem dX6_bakes_126 : decode cX6_bakes 126 = .ok (.iaload, 1) := by decide +kernel
theorem dX6_bakes_127 : decode cX6_bakes 127 = .ok (.iastore, 1) := by decide +kernel
theorem dX6_bakes_128 : decode cX6_bakes 128 = .ok (.iinc 5 1, 3) := by decide +kernel
theorem dX6_bakes_131 : decode cX6_bakes 131 = .ok (.goto (-59), 3) := by decide +kernel
theorem dX6_bakes_134 : decode cX6_bakes 134 = .ok (.iinc 3 1, 3) := by decide +kernel
theorem dX6_bakes_137 : decode cX6_bakes 137 = .ok (.goto (-108), 3) := by decide +kernel
theorem dX6_bakes_140 : decode cX6_bakes 140 = .ok (.return_, 1) := by decide +kernel
theorem dX6_sups_0 : decode cX6_sups 0 = .ok (.iconst 0, 1) := by decide +kernel
theorem dX6_sups_1 : decode cX6_sups 1 = .ok (.istore_n 3, 1) := by decide +kernel
theorem dX6_sups_2 : decode cX6_sups 2 = .ok (.iload_n 3, 1) := by decide +kernel
theorem dX6_sups_3 : decode cX6_sups 3 = .ok (.iconst 5, 1) := by decide +kernel
theorem dX6_sups_4 : decode cX6_sups 4 = .ok (.if_icmp .ge 30, 3) := by decide +kernel
theorem dX6_sups_7 : decode cX6_sups 7 = .ok (.aload_n 0, 1) := by decide +kernel
theorem dX6_sups_8 : decode cX6_sups 8 = .ok (.getfield 44, 3) := by decide +kernel
theorem dX6_sups_11 : decode cX6_sups 11 = .ok (.iload_n 3, 1) := by decide +kernel
theorem dX6_sups_12 : decode cX6_sups 12 = .ok (.iconst 0, 1) := by decide +kernel
theorem dX6_sups_13 : decode cX6_sups 13 = .ok (.iastore, 1) := by decide +kernel
theorem dX6_sups_14 : decode cX6_sups 14 = .ok (.aload_n 0, 1) := by decide +kernel
theorem dX6_sups_15 : decode cX6_sups 15 = .ok (.getfield 47, 3) := by decide +kernel
theorem dX6_sups_18 : decode cX6_sups 18 = .ok (.iload_n 3, 1) := by decide +kernel
theorem dX6_sups_19 : decode cX6_sups 19 = .ok (.iconst (-1), 1) := by decide +kernel
theorem dX6_sups_20 : decode cX6_sups 20 = .ok (.iastore, 1) := by decide +kernel
theorem dX6_sups_21 : decode cX6_sups 21 = .ok (.aload_n 0, 1) := by decide +kernel
theorem dX6_sups_22 : decode cX6_sups 22 = .ok (.getfield 50, 3) := by decide +kernel
theorem dX6_sups_25 : decode cX6_sups 25 = .ok (.iload_n 3, 1) := by decide +kernel
theorem dX6_sups_26 : decode cX6_sups 26 = .ok (.iconst 0, 1) := by decide +kernel
theorem dX6_sups_27 : decode cX6_sups 27 = .ok (.iastore, 1) := by decide +kernel
theorem dX6_sups_28 : decode cX6_sups 28 = .ok (.iinc 3 1, 3) := by decide +kernel
theorem dX6_sups_31 : decode cX6_sups 31 = .ok (.goto (-29), 3) := by decide +kernel
theorem dX6_sups_34 : decode cX6_sups 34 = .ok (.aload_n 0, 1) := by decide +kernel
theorem dX6_sups_35 : decode cX6_sups 35 = .ok (.iconst 0, 1) := by decide +kernel
theorem dX6_sups_36 : decode cX6_sups 36 = .ok (.putfield 272, 3) := by decide +kernel
theorem dX6_sups_39 : decode cX6_sups 39 = .ok (.aload_n 0, 1) := by decide +kernel
theorem dX6_sups_40 : decode cX6_sups 40 = .ok (.iconst 0, 1) := by decide +kernel
theorem dX6_sups_41 : decode cX6_sups 41 = .ok (.putfield 282, 3) := by decide +kernel
theorem dX6_sups_44 : decode cX6_sups 44 = .ok (.aload_n 0, 1) := by decide +kernel
theorem dX6_sups_45 : decode cX6_sups 45 = .ok (.iconst 0, 1) := by decide +kernel
theorem dX6_sups_46 : decode cX6_sups 46 = .ok (.putfield 279, 3) := by decide +kernel
theorem dX6_sups_49 : decode cX6_sups 49 = .ok (.aload_n 0, 1) := by decide +kernel
theorem dX6_sups_50 : decode cX6_sups 50 = .ok (.iconst 0, 1) := by decide +kernel
theorem dX6_sups_51 : decode cX6_sups 51 = .ok (.putfield 269, 3) := by decide +kernel
theorem dX6_sups_54 : decode cX6_sups 54 = .ok (.aload_n 0, 1) := by decide +kernel
theorem dX6_sups_55 : decode cX6_sups 55 = .ok (.iload_n 1, 1) := by decide +kernel
theorem dX6_sups_56 : decode cX6_sups 56 = .ok (.iload_n 2, 1) := by decide +kernel
theorem dX6_sups_57 : decode cX6_sups 57 = .ok (.invokevirtual 285, 3) := by decide +kernel
theorem dX6_sups_60 : decode cX6_sups 60 = .ok (.iconst 0, 1) := by decide +kernel
theorem dX6_sups_61 : decode cX6_sups 61 = .ok (.istore_n 3, 1) := by decide +kernel
theorem dX6_sups_62 : decode cX6_sups 62 = .ok (.iload_n 3, 1) := by decide +kernel
theorem dX6_sups_63 : decode cX6_sups 63 = .ok (.bipush 60, 2) := by decide +kernel
theorem dX6_sups_65 : decode cX6_sups 65 = .ok (.if_icmp .ge 193, 3) := by decide +kernel
theorem dX6_sups_68 : decode cX6_sups 68 = .ok (.iconst 0, 1) := by decide +kernel
theorem dX6_sups_69 : decode cX6_sups 69 = .ok (.istore 4, 2) := by decide +kernel
theorem dX6_sups_71 : decode cX6_sups 71 = .ok (.iload 4, 2) := by decide +kernel
theorem dX6_sups_73 : decode cX6_sups 73 = .ok (.aload_n 0, 1) := by decide +kernel
theorem dX6_sups_74 : decode cX6_sups 74 = .ok (.getfield 23, 3) := by decide +kernel
theorem dX6_sups_77 : decode cX6_sups 77 = .ok (.if_icmp .ge 36, 3) := by decide +kernel
theorem dX6_sups_80 : decode cX6_sups 80 = .ok (.aload_n 0, 1) := by decide +kernel
theorem dX6_sups_81 : decode cX6_sups 81 = .ok (.getfield 56, 3) := by decide +kernel
theorem dX6_sups_84 : decode cX6_sups 84 = .ok (.iload 4, 2) := by decide +kernel
theorem dX6_sups_86 : decode cX6_sups 86 = .ok (.iaload, 1) := by decide +kernel
theorem dX6_sups_87 : decode cX6_sups 87 = .ok (.iload_n 3, 1) := by decide +kernel
theorem dX6_sups_88 : decode cX6_sups 88 = .ok (.if_icmp .ne 19, 3) := by decide +kernel
theorem dX6_sups_91 : decode cX6_sups 91 = .ok (.aload_n 0, 1) := by decide +kernel
theorem dX6_sups_92 : decode cX6_sups 92 = .ok (.iload 4, 2) := by decide +kernel
theorem dX6_sups_94 : decode cX6_sups 94 = .ok (.aload_n 0, 1) := by decide +kernel
theorem dX6_sups_95 : decode cX6_sups 95 = .ok (.iload 4, 2) := by decide +kernel
theorem dX6_sups_97 : decode cX6_sups 97 = .ok (.iload_n 1, 1) := by decide +kernel
theorem dX6_sups_98 : decode cX6_sups 98 = .ok (.iload_n 2, 1) := by decide +kernel
theorem dX6_sups_99 : decode cX6_sups 99 = .ok (.iload_n 3, 1) := by decide +kernel
theorem dX6_sups_100 : decode cX6_sups 100 = .ok (.invokevirtual 289, 3) := by decide +kernel
theorem dX6_sups_103 : decode cX6_sups 103 = .ok (.iload_n 3, 1) := by decide +kernel
theorem dX6_sups_104 : decode cX6_sups 104 = .ok (.invokevirtual 292, 3) := by decide +kernel
theorem dX6_sups_107 : decode cX6_sups 107 = .ok (.iinc 4 1, 3) := by decide +kernel
theorem dX6_sups_110 : decode cX6_sups 110 = .ok (.goto (-39), 3) := by decide +kernel
theorem dX6_sups_113 : decode cX6_sups 113 = .ok (.aload_n 0, 1) := by decide +kernel
theorem dX6_sups_114 : decode cX6_sups 114 = .ok (.invokevirtual 260, 3) := by decide +kernel
theorem dX6_sups_117 : decode cX6_sups 117 = .ok (.istore 4, 2) := by decide +kernel
theorem dX6_sups_119 : decode cX6_sups 119 = .ok (.iconst 0, 1) := by decide +kernel
theorem dX6_sups_120 : decode cX6_sups 120 = .ok (.istore 5, 2) := by decide +kernel
theorem dX6_sups_122 : decode cX6_sups 122 = .ok (.iload 5, 2) := by decide +kernel
theorem dX6_sups_124 : decode cX6_sups 124 = .ok (.aload_n 0, 1) := by decide +kernel
theorem dX6_sups_125 : decode cX6_sups 125 = .ok (.getfield 91, 3) := by decide +kernel
theorem dX6_sups_128 : decode cX6_sups 128 = .ok (.if_icmp .ge 82, 3) := by decide +kernel
theorem dX6_sups_131 : decode cX6_sups 131 = .ok (.iload 5, 2) := by decide +kernel
theorem dX6_sups_133 : decode cX6_sups 133 = .ok (.aload_n 0, 1) := by decide +kernel
theorem dX6_sups_134 : decode cX6_sups 134 = .ok (.getfield 41, 3) := by decide +kernel
theorem dX6_sups_137 : decode cX6_sups 137 = .ok (.if_icmp .eq 67, 3) := by decide +kernel
theorem dX6_sups_140 : decode cX6_sups 140 = .ok (.aload_n 0, 1) := by decide +kernel
theorem dX6_sups_141 : decode cX6_sups 141 = .ok (.getfield 44, 3) := by decide +kernel
theorem dX6_sups_144 : decode cX6_sups 144 = .ok (.iload 5, 2) := by decide +kernel
theorem dX6_sups_146 : decode cX6_sups 146 = .ok (.iaload, 1) := by decide +kernel
theorem dX6_sups_147 : decode cX6_sups 147 = .ok (.aload_n 0, 1) := by decide +kernel
theorem dX6_sups_148 : decode cX6_sups 148 = .ok (.getfield 35, 3) := by decide +kernel
theorem dX6_sups_151 : decode cX6_sups 151 = .ok (.iload 5, 2) := by decide +kernel
theorem dX6_sups_153 : decode cX6_sups 153 = .ok (.iaload, 1) := by decide +kernel
theorem dX6_sups_154 : decode cX6_sups 154 = .ok (.if_icmp .ge 50, 3) := by decide +kernel
theorem dX6_sups_157 : decode cX6_sups 157 = .ok (.aload_n 0, 1) := by decide +kernel
theorem dX6_sups_158 : decode cX6_sups 158 = .ok (.getfield 47, 3) := by decide +kernel
theorem dX6_sups_161 : decode cX6_sups 161 = .ok (.iload 5, 2) := by decide +kernel
theorem dX6_sups_163 : decode cX6_sups 163 = .ok (.iaload, 1) := by decide +kernel
theorem dX6_sups_164 : decode cX6_sups 164 = .ok (.iload_n 3, 1) := by decide +kernel
theorem dX6_sups_165 : decode cX6_sups 165 = .ok (.if_icmp .gt 39, 3) := by decide +kernel
theorem dX6_sups_168 : decode cX6_sups 168 = .ok (.aload_n 0, 1) := by decide +kernel
theorem dX6_sups_169 : decode cX6_sups 169 = .ok (.getfield 50, 3) := by decide +kernel
theorem dX6_sups_172 : decode cX6_sups 172 = .ok (.iload 5, 2) := by decide +kernel
theorem dX6_sups_174 : decode cX6_sups 174 = .ok (.dup2, 1) := by decide +kernel
theorem dX6_sups_175 : decode cX6_sups 175 = .ok (.iaload, 1) := by decide +kernel
theorem dX6_sups_176 : decode cX6_sups 176 = .ok (.iconst 1, 1) := by decide +kernel
theorem dX6_sups_177 : decode cX6_sups 177 = .ok (.iadd, 1) := by decide +kernel
theorem dX6_sups_178 : decode cX6_sups 178 = .ok (.iastore, 1) := by decide +kernel
theorem dX6_sups_179 : decode cX6_sups 179 = .ok (.aload_n 0, 1) := by decide +kernel
theorem dX6_sups_180 : decode cX6_sups 180 = .ok (.dup, 1) := by decide +kernel
theorem dX6_sups_181 : decode cX6_sups 181 = .ok (.getfield 272, 3) := by decide +kernel
theorem dX6_sups_184 : decode cX6_sups 184 = .ok (.aload_n 0, 1) := by decide +kernel
theorem dX6_sups_185 : decode cX6_sups 185 = .ok (.iload 5, 2) := by decide +kernel
theorem dX6_sups_187 : decode cX6_sups 187 = .ok (.iload_n 3, 1) := by decide +kernel
theorem dX6_sups_188 : decode cX6_sups 188 = .ok (.aload_n 0, 1) := by decide +kernel
theorem dX6_sups_189 : decode cX6_sups 189 = .ok (.getfield 44, 3) := by decide +kernel
theorem dX6_sups_192 : decode cX6_sups 192 = .ok (.iload 5, 2) := by decide +kernel
theorem dX6_sups_194 : decode cX6_sups 194 = .ok (.iaload, 1) := by decide +kernel
theorem dX6_sups_195 : decode cX6_sups 195 = .ok (.iload 4, 2) := by decide +kernel
theorem dX6_sups_197 : decode cX6_sups 197 = .ok (.invokevirtual 116, 3) := by decide +kernel
theorem dX6_sups_200 : decode cX6_sups 200 = .ok (.iadd, 1) := by decide +kernel
theorem dX6_sups_201 : decode cX6_sups 201 = .ok (.putfield 272, 3) := by decide +kernel
theorem dX6_sups_204 : decode cX6_sups 204 = .ok (.iinc 5 1, 3) := by decide +kernel
theorem dX6_sups_207 : decode cX6_sups 207 = .ok (.goto (-85), 3) := by decide +kernel
theorem dX6_sups_210 : decode cX6_sups 210 = .ok (.aload_n 0, 1) := by decide +kernel
theorem dX6_sups_211 : decode cX6_sups 211 = .ok (.getfield 91, 3) := by decide +kernel
theorem dX6_sups_214 : decode cX6_sups 214 = .ok (.ifCond .ne 7, 3) := by decide +kernel
theorem dX6_sups_217 : decode cX6_sups 217 = .ok (.iconst 0, 1) := by decide +kernel
theorem dX6_sups_218 : decode cX6_sups 218 = .ok (.goto 10, 3) := by decide +kernel
theorem dX6_sups_221 : decode cX6_sups 221 = .ok (.aload_n 0, 1) := by decide +kernel
theorem dX6_sups_222 : decode cX6_sups 222 = .ok (.invokevirtual 296, 3) := by decide +kernel
theorem dX6_sups_225 : decode cX6_sups 225 = .ok (.iload 4, 2) := by decide +kernel
theorem dX6_sups_227 : decode cX6_sups 227 = .ok (.isub, 1) := by decide +kernel
theorem dX6_sups_228 : decode cX6_sups 228 = .ok (.istore 5, 2) := by decide +kernel
theorem dX6_sups_230 : decode cX6_sups 230 = .ok (.aload_n 0, 1) := by decide +kernel
theorem dX6_sups_231 : decode cX6_sups 231 = .ok (.iload 5, 2) := by decide +kernel
theorem dX6_sups_233 : decode cX6_sups 233 = .ok (.aload_n 0, 1) := by decide +kernel
theorem dX6_sups_234 : decode cX6_sups 234 = .ok (.getfield 282, 3) := by decide +kernel
theorem dX6_sups_237 : decode cX6_sups 237 = .ok (.if_icmp .le 8, 3) := by decide +kernel
theorem dX6_sups_240 : decode cX6_sups 240 = .ok (.iload 5, 2) := by decide +kernel
theorem dX6_sups_242 : decode cX6_sups 242 = .ok (.goto 7, 3) := by decide +kernel
theorem dX6_sups_245 : decode cX6_sups 245 = .ok (.aload_n 0, 1) := by decide +kernel
theorem dX6_sups_246 : decode cX6_sups 246 = .ok (.getfield 282, 3) := by decide +kernel
theorem dX6_sups_249 : decode cX6_sups 249 = .ok (.putfield 282, 3) := by decide +kernel
theorem dX6_sups_252 : decode cX6_sups 252 = .ok (.iinc 3 1, 3) := by decide +kernel
theorem dX6_sups_255 : decode cX6_sups 255 = .ok (.goto (-193), 3) := by decide +kernel
theorem dX6_sups_258 : decode cX6_sups 258 = .ok (.return_, 1) := by decide +kernel
theorem dX6_isTells_0 : decode cX6_isTells 0 = .ok (.iload_n 1, 1) := by decide +kernel
theorem dX6_isTells_1 : decode cX6_isTells 1 = .ok (.i2l, 1) := by decide +kernel
theorem dX6_isTells_2 : decode cX6_isTells 2 = .ok (.lconst 0, 1) := by decide +kernel
theorem dX6_isTells_3 : decode cX6_isTells 3 = .ok (.ldc2_w 299, 3) := by decide +kernel
theorem dX6_isTells_6 : decode cX6_isTells 6 = .ok (.invokestatic 94, 3) := by decide +kernel
theorem dX6_isTells_9 : decode cX6_isTells 9 = .ok (.ifCond .ne 36, 3) := by decide +kernel
theorem dX6_isTells_12 : decode cX6_isTells 12 = .ok (.iload_n 1, 1) := by decide +kernel
theorem dX6_isTells_13 : decode cX6_isTells 13 = .ok (.i2l, 1) := by decide +kernel
theorem dX6_isTells_14 : decode cX6_isTells 14 = .ok (.ldc2_w 159, 3) := by decide +kernel
theorem dX6_isTells_17 : decode cX6_isTells 17 = .ok (.ldc2_w 301, 3) := by decide +kernel
theorem dX6_isTells_20 : decode cX6_isTells 20 = .ok (.invokestatic 94, 3) := by decide +kernel
theorem dX6_isTells_23 : decode cX6_isTells 23 = .ok (.ifCond .eq 26, 3) := by decide +kernel
theorem dX6_isTells_26 : decode cX6_isTells 26 = .ok (.iload_n 1, 1) := by decide +kernel
theorem dX6_isTells_27 : decode cX6_isTells 27 = .ok (.bipush 10, 2) := by decide +kernel
theorem dX6_isTells_29 : decode cX6_isTells 29 = .ok (.irem, 1) := by decide +kernel
theorem dX6_isTells_30 : decode cX6_isTells 30 = .ok (.iconst 5, 1) := by decide +kernel
theorem dX6_isTells_31 : decode cX6_isTells 31 = .ok (.if_icmp .ge 18, 3) := by decide +kernel
theorem dX6_isTells_34 : decode cX6_isTells 34 = .ok (.aload_n 0, 1) := by decide +kernel
theorem dX6_isTells_35 : decode cX6_isTells 35 = .ok (.iload_n 1, 1) := by decide +kernel
theorem dX6_isTells_36 : decode cX6_isTells 36 = .ok (.bipush 10, 2) := by decide +kernel
theorem dX6_isTells_38 : decode cX6_isTells 38 = .ok (.irem, 1) := by decide +kernel
theorem dX6_isTells_39 : decode cX6_isTells 39 = .ok (.invokevirtual 100, 3) := by decide +kernel
theorem dX6_isTells_42 : decode cX6_isTells 42 = .ok (.ifCond .eq 7, 3) := by decide +kernel
theorem dX6_isTells_45 : decode cX6_isTells 45 = .ok (.iconst 1, 1) := by decide +kernel
theorem dX6_isTells_46 : decode cX6_isTells 46 = .ok (.goto 4, 3) := by decide +kernel
theorem dX6_isTells_49 : decode cX6_isTells 49 = .ok (.iconst 0, 1) := by decide +kernel
theorem dX6_isTells_50 : decode cX6_isTells 50 = .ok (.ireturn, 1) := by decide +kernel
theorem dX6_tells_0 : decode cX6_tells 0 = .ok (.iload_n 1, 1) := by decide +kernel
theorem dX6_tells_1 : decode cX6_tells 1 = .ok (.iconst 4, 1) := by decide +kernel
theorem dX6_tells_2 : decode cX6_tells 2 = .ok (.if_icmp .ge 43, 3) := by decide +kernel
theorem dX6_tells_5 : decode cX6_tells 5 = .ok (.iload_n 1, 1) := by decide +kernel
theorem dX6_tells_6 : decode cX6_tells 6 = .ok (.ifCond .ne 10, 3) := by decide +kernel
theorem dX6_tells_9 : decode cX6_tells 9 = .ok (.aload_n 0, 1) := by decide +kernel
theorem dX6_tells_10 : decode cX6_tells 10 = .ok (.getfield 272, 3) := by decide +kernel
theorem dX6_tells_13 : decode cX6_tells 13 = .ok (.goto 31, 3) := by decide +kernel
theorem dX6_tells_16 : decode cX6_tells 16 = .ok (.iload_n 1, 1) := by decide +kernel
theorem dX6_tells_17 : decode cX6_tells 17 = .ok (.iconst 1, 1) := by decide +kernel
theorem dX6_tells_18 : decode cX6_tells 18 = .ok (.if_icmp .ne 10, 3) := by decide +kernel
theorem dX6_tells_21 : decode cX6_tells 21 = .ok (.aload_n 0, 1) := by decide +kernel
theorem dX6_tells_22 : decode cX6_tells 22 = .ok (.getfield 282, 3) := by decide +kernel
theorem dX6_tells_25 : decode cX6_tells 25 = .ok (.goto 19, 3) := by decide +kernel
theorem dX6_tells_28 : decode cX6_tells 28 = .ok (.iload_n 1, 1) := by decide +kernel
theorem dX6_tells_29 : decode cX6_tells 29 = .ok (.iconst 2, 1) := by decide +kernel
theorem dX6_tells_30 : decode cX6_tells 30 = .ok (.if_icmp .ne 10, 3) := by decide +kernel
theorem dX6_tells_33 : decode cX6_tells 33 = .ok (.aload_n 0, 1) := by decide +kernel
theorem dX6_tells_34 : decode cX6_tells 34 = .ok (.getfield 279, 3) := by decide +kernel
theorem dX6_tells_37 : decode cX6_tells 37 = .ok (.goto 7, 3) := by decide +kernel
theorem dX6_tells_40 : decode cX6_tells 40 = .ok (.aload_n 0, 1) := by decide +kernel
theorem dX6_tells_41 : decode cX6_tells 41 = .ok (.getfield 269, 3) := by decide +kernel
theorem dX6_tells_44 : decode cX6_tells 44 = .ok (.ireturn, 1) := by decide +kernel
theorem dX6_tells_45 : decode cX6_tells 45 = .ok (.iload_n 1, 1) := by decide +kernel
theorem dX6_tells_46 : decode cX6_tells 46 = .ok (.bipush 10, 2) := by decide +kernel
theorem dX6_tells_48 : decode cX6_tells 48 = .ok (.irem, 1) := by decide +kernel
theorem dX6_tells_49 : decode cX6_tells 49 = .ok (.istore_n 2, 1) := by decide +kernel
theorem dX6_tells_50 : decode cX6_tells 50 = .ok (.iload_n 1, 1) := by decide +kernel
theorem dX6_tells_51 : decode cX6_tells 51 = .ok (.bipush 20, 2) := by decide +kernel
theorem dX6_tells_53 : decode cX6_tells 53 = .ok (.if_icmp .ge 12, 3) := by decide +kernel
theorem dX6_tells_56 : decode cX6_tells 56 = .ok (.aload_n 0, 1) := by decide +kernel
theorem dX6_tells_57 : decode cX6_tells 57 = .ok (.getfield 44, 3) := by decide +kernel
theorem dX6_tells_60 : decode cX6_tells 60 = .ok (.iload_n 2, 1) := by decide +kernel
theorem dX6_tells_61 : decode cX6_tells 61 = .ok (.iaload, 1) := by decide +kernel
theorem dX6_tells_62 : decode cX6_tells 62 = .ok (.goto 24, 3) := by decide +kernel
theorem dX6_tells_65 : decode cX6_tells 65 = .ok (.iload_n 1, 1) := by decide +kernel
theorem dX6_tells_66 : decode cX6_tells 66 = .ok (.bipush 30, 2) := by decide +kernel
theorem dX6_tells_68 : decode cX6_tells 68 = .ok (.if_icmp .ge 12, 3) := by decide +kernel
theorem dX6_tells_71 : decode cX6_tells 71 = .ok (.aload_n 0, 1) := by decide +kernel
theorem dX6_tells_72 : decode cX6_tells 72 = .ok (.getfield 50, 3) := by decide +kernel
theorem dX6_tells_75 : decode cX6_tells 75 = .ok (.iload_n 2, 1) := by decide +kernel
theorem dX6_tells_76 : decode cX6_tells 76 = .ok (.iaload, 1) := by decide +kernel
theorem dX6_tells_77 : decode cX6_tells 77 = .ok (.goto 9, 3) := by decide +kernel
theorem dX6_tells_80 : decode cX6_tells 80 = .ok (.aload_n 0, 1) := by decide +kernel
theorem dX6_tells_81 : decode cX6_tells 81 = .ok (.getfield 47, 3) := by decide +kernel
theorem dX6_tells_84 : decode cX6_tells 84 = .ok (.iload_n 2, 1) := by decide +kernel
theorem dX6_tells_85 : decode cX6_tells 85 = .ok (.iaload, 1) := by decide +kernel
theorem dX6_tells_86 : decode cX6_tells 86 = .ok (.ireturn, 1) := by decide +kernel
theorem dX6_supper_0 : decode cX6_supper 0 = .ok (.iload_n 1, 1) := by decide +kernel
theorem dX6_supper_1 : decode cX6_supper 1 = .ok (.i2l, 1) := by decide +kernel
theorem dX6_supper_2 : decode cX6_supper 2 = .ok (.lconst 0, 1) := by decide +kernel
theorem dX6_supper_3 : decode cX6_supper 3 = .ok (.ldc2_w 299, 3) := by decide +kernel
theorem dX6_supper_6 : decode cX6_supper 6 = .ok (.invokestatic 94, 3) := by decide +kernel
theorem dX6_supper_9 : decode cX6_supper 9 = .ok (.ifCond .eq 31, 3) := by decide +kernel
theorem dX6_supper_12 : decode cX6_supper 12 = .ok (.iload_n 1, 1) := by decide +kernel
theorem dX6_supper_13 : decode cX6_supper 13 = .ok (.ifCond .ne 19, 3) := by decide +kernel
theorem dX6_supper_16 : decode cX6_supper 16 = .ok (.iload_n 2, 1) := by decide +kernel
theorem dX6_supper_17 : decode cX6_supper 17 = .ok (.invokestatic 303, 3) := by decide +kernel
theorem dX6_supper_20 : decode cX6_supper 20 = .ok (.ifCond .eq 20, 3) := by decide +kernel
theorem dX6_supper_23 : decode cX6_supper 23 = .ok (.aload_n 0, 1) := by decide +kernel
theorem dX6_supper_24 : decode cX6_supper 24 = .ok (.getfield 71, 3) := by decide +kernel
theorem dX6_supper_27 : decode cX6_supper 27 = .ok (.iload_n 2, 1) := by decide +kernel
theorem dX6_supper_28 : decode cX6_supper 28 = .ok (.baload, 1) := by decide +kernel
theorem dX6_supper_29 : decode cX6_supper 29 = .ok (.ifCond .eq 11, 3) := by decide +kernel
theorem dX6_supper_32 : decode cX6_supper 32 = .ok (.aload_n 0, 1) := by decide +kernel
theorem dX6_supper_33 : decode cX6_supper 33 = .ok (.iload_n 3, 1) := by decide +kernel
theorem dX6_supper_34 : decode cX6_supper 34 = .ok (.invokevirtual 306, 3) := by decide +kernel
theorem dX6_supper_37 : decode cX6_supper 37 = .ok (.ifCond .ne 7, 3) := by decide +kernel
theorem dX6_supper_40 : decode cX6_supper 40 = .ok (.ldc_w 309, 3) := by decide +kernel
theorem dX6_supper_43 : decode cX6_supper 43 = .ok (.ireturn, 1) := by decide +kernel
theorem dX6_supper_44 : decode cX6_supper 44 = .ok (.aload_n 0, 1) := by decide +kernel
theorem dX6_supper_45 : decode cX6_supper 45 = .ok (.iload_n 1, 1) := by decide +kernel
theorem dX6_supper_46 : decode cX6_supper 46 = .ok (.iload_n 2, 1) := by decide +kernel
theorem dX6_supper_47 : decode cX6_supper 47 = .ok (.invokevirtual 310, 3) := by decide +kernel
theorem dX6_supper_50 : decode cX6_supper 50 = .ok (.aload_n 0, 1) := by decide +kernel
theorem dX6_supper_51 : decode cX6_supper 51 = .ok (.iload_n 3, 1) := by decide +kernel
theorem dX6_supper_52 : decode cX6_supper 52 = .ok (.invokevirtual 313, 3) := by decide +kernel
theorem dX6_supper_55 : decode cX6_supper 55 = .ok (.ireturn, 1) := by decide +kernel
theorem dX6_heap_0 : decode cX6_heap 0 = .ok (.iload_n 1, 1) := by decide +kernel
theorem dX6_heap_1 : decode cX6_heap 1 = .ok (.i2l, 1) := by decide +kernel
theorem dX6_heap_2 : decode cX6_heap 2 = .ok (.lconst 1, 1) := by decide +kernel
theorem dX6_heap_3 : decode cX6_heap 3 = .ok (.ldc2_w 104, 3) := by decide +kernel
theorem dX6_heap_6 : decode cX6_heap 6 = .ok (.invokestatic 94, 3) := by decide +kernel
theorem dX6_heap_9 : decode cX6_heap 9 = .ok (.ifCond .eq 11, 3) := by decide +kernel
theorem dX6_heap_12 : decode cX6_heap 12 = .ok (.aload_n 0, 1) := by decide +kernel
theorem dX6_heap_13 : decode cX6_heap 13 = .ok (.iload_n 2, 1) := by decide +kernel
theorem dX6_heap_14 : decode cX6_heap 14 = .ok (.invokevirtual 306, 3) := by decide +kernel
theorem dX6_heap_17 : decode cX6_heap 17 = .ok (.ifCond .ne 7, 3) := by decide +kernel
theorem dX6_heap_20 : decode cX6_heap 20 = .ok (.ldc_w 309, 3) := by decide +kernel
theorem dX6_heap_23 : decode cX6_heap 23 = .ok (.ireturn, 1) := by decide +kernel
theorem dX6_heap_24 : decode cX6_heap 24 = .ok (.aload_n 0, 1) := by decide +kernel
theorem dX6_heap_25 : decode cX6_heap 25 = .ok (.iconst 5, 1) := by decide +kernel
theorem dX6_heap_26 : decode cX6_heap 26 = .ok (.iload_n 1, 1) := by decide +kernel
theorem dX6_heap_27 : decode cX6_heap 27 = .ok (.invokevirtual 310, 3) := by decide +kernel
theorem dX6_heap_30 : decode cX6_heap 30 = .ok (.aload_n 0, 1) := by decide +kernel
theorem dX6_heap_31 : decode cX6_heap 31 = .ok (.iload_n 2, 1) := by decide +kernel
theorem dX6_heap_32 : decode cX6_heap 32 = .ok (.invokevirtual 313, 3) := by decide +kernel
theorem dX6_heap_35 : decode cX6_heap 35 = .ok (.ireturn, 1) := by decide +kernel
theorem dX6_tries_0 : decode cX6_tries 0 = .ok (.iload_n 1, 1) := by decide +kernel
theorem dX6_tries_1 : decode cX6_tries 1 = .ok (.iload_n 2, 1) := by decide +kernel
theorem dX6_tries_2 : decode cX6_tries 2 = .ok (.if_icmp .ne 66, 3) := by decide +kernel
theorem dX6_tries_5 : decode cX6_tries 5 = .ok (.aload_n 0, 1) := by decide +kernel
theorem dX6_tries_6 : decode cX6_tries 6 = .ok (.iconst 4, 1) := by decide +kernel
theorem dX6_tries_7 : decode cX6_tries 7 = .ok (.iload_n 2, 1) := by decide +kernel
theorem dX6_tries_8 : decode cX6_tries 8 = .ok (.invokevirtual 310, 3) := by decide +kernel
theorem dX6_tries_11 : decode cX6_tries 11 = .ok (.aload_n 0, 1) := by decide +kernel
theorem dX6_tries_12 : decode cX6_tries 12 = .ok (.getfield 316, 3) := by decide +kernel
theorem dX6_tries_15 : decode cX6_tries 15 = .ok (.ifCond .eq 14, 3) := by decide +kernel
theorem dX6_tries_18 : decode cX6_tries 18 = .ok (.aload_n 0, 1) := by decide +kernel
theorem dX6_tries_19 : decode cX6_tries 19 = .ok (.getfield 272, 3) := by decide +kernel
theorem dX6_tries_22 : decode cX6_tries 22 = .ok (.aload_n 0, 1) := by decide +kernel
theorem dX6_tries_23 : decode cX6_tries 23 = .ok (.getfield 319, 3) := by decide +kernel
theorem dX6_tries_26 : decode cX6_tries 26 = .ok (.if_icmp .ge 41, 3) := by decide +kernel
theorem dX6_tries_29 : decode cX6_tries 29 = .ok (.aload_n 0, 1) := by decide +kernel
theorem dX6_tries_30 : decode cX6_tries 30 = .ok (.iconst 1, 1) := by decide +kernel
theorem dX6_tries_31 : decode cX6_tries 31 = .ok (.putfield 316, 3) := by decide +kernel
theorem dX6_tries_34 : decode cX6_tries 34 = .ok (.aload_n 0, 1) := by decide +kernel
theorem dX6_tries_35 : decode cX6_tries 35 = .ok (.aload_n 0, 1) := by decide +kernel
theorem dX6_tries_36 : decode cX6_tries 36 = .ok (.getfield 272, 3) := by decide +kernel
theorem dX6_tries_39 : decode cX6_tries 39 = .ok (.putfield 319, 3) := by decide +kernel
theorem dX6_tries_42 : decode cX6_tries 42 = .ok (.iconst 0, 1) := by decide +kernel
theorem dX6_tries_43 : decode cX6_tries 43 = .ok (.istore_n 3, 1) := by decide +kernel
theorem dX6_tries_44 : decode cX6_tries 44 = .ok (.iload_n 3, 1) := by decide +kernel
theorem dX6_tries_45 : decode cX6_tries 45 = .ok (.iload_n 2, 1) := by decide +kernel
theorem dX6_tries_46 : decode cX6_tries 46 = .ok (.if_icmp .ge 21, 3) := by decide +kernel
theorem dX6_tries_49 : decode cX6_tries 49 = .ok (.aload_n 0, 1) := by decide +kernel
theorem dX6_tries_50 : decode cX6_tries 50 = .ok (.getfield 62, 3) := by decide +kernel
theorem dX6_tries_53 : decode cX6_tries 53 = .ok (.iload_n 3, 1) := by decide +kernel
theorem dX6_tries_54 : decode cX6_tries 54 = .ok (.aload_n 0, 1) := by decide +kernel
theorem dX6_tries_55 : decode cX6_tries 55 = .ok (.getfield 59, 3) := by decide +kernel
theorem dX6_tries_58 : decode cX6_tries 58 = .ok (.iload_n 3, 1) := by decide +kernel
theorem dX6_tries_59 : decode cX6_tries 59 = .ok (.iaload, 1) := by decide +kernel
theorem dX6_tries_60 : decode cX6_tries 60 = .ok (.iastore, 1) := by decide +kernel
theorem dX6_tries_61 : decode cX6_tries 61 = .ok (.iinc 3 1, 3) := by decide +kernel
theorem dX6_tries_64 : decode cX6_tries 64 = .ok (.goto (-20), 3) := by decide +kernel
theorem dX6_tries_67 : decode cX6_tries 67 = .ok (.return_, 1) := by decide +kernel
theorem dX6_tries_68 : decode cX6_tries 68 = .ok (.iconst 0, 1) := by decide +kernel
theorem dX6_tries_69 : decode cX6_tries 69 = .ok (.istore_n 3, 1) := by decide +kernel
theorem dX6_tries_70 : decode cX6_tries 70 = .ok (.iload_n 3, 1) := by decide +kernel
theorem dX6_tries_71 : decode cX6_tries 71 = .ok (.aload_n 0, 1) := by decide +kernel
theorem dX6_tries_72 : decode cX6_tries 72 = .ok (.getfield 91, 3) := by decide +kernel
theorem dX6_tries_75 : decode cX6_tries 75 = .ok (.if_icmp .ge 24, 3) := by decide +kernel
theorem dX6_tries_78 : decode cX6_tries 78 = .ok (.aload_n 0, 1) := by decide +kernel
theorem dX6_tries_79 : decode cX6_tries 79 = .ok (.getfield 59, 3) := by decide +kernel
theorem dX6_tries_82 : decode cX6_tries 82 = .ok (.iload_n 1, 1) := by decide +kernel
theorem dX6_tries_83 : decode cX6_tries 83 = .ok (.iload_n 3, 1) := by decide +kernel
theorem dX6_tries_84 : decode cX6_tries 84 = .ok (.iastore, 1) := by decide +kernel
theorem dX6_tries_85 : decode cX6_tries 85 = .ok (.aload_n 0, 1) := by decide +kernel
theorem dX6_tries_86 : decode cX6_tries 86 = .ok (.iload_n 1, 1) := by decide +kernel
theorem dX6_tries_87 : decode cX6_tries 87 = .ok (.iconst 1, 1) := by decide +kernel
theorem dX6_tries_88 : decode cX6_tries 88 = .ok (.iadd, 1) := by decide +kernel
theorem dX6_tries_89 : decode cX6_tries 89 = .ok (.iload_n 2, 1) := by decide +kernel
theorem dX6_tries_90 : decode cX6_tries 90 = .ok (.invokevirtual 322, 3) := by decide +kernel
theorem dX6_tries_93 : decode cX6_tries 93 = .ok (.iinc 3 1, 3) := by decide +kernel
theorem dX6_tries_96 : decode cX6_tries 96 = .ok (.goto (-26), 3) := by decide +kernel
theorem dX6_tries_99 : decode cX6_tries 99 = .ok (.return_, 1) := by decide +kernel
theorem dX6_best_0 : decode cX6_best 0 = .ok (.iload_n 1, 1) := by decide +kernel
theorem dX6_best_1 : decode cX6_best 1 = .ok (.i2l, 1) := by decide +kernel
theorem dX6_best_2 : decode cX6_best 2 = .ok (.lconst 0, 1) := by decide +kernel
theorem dX6_best_3 : decode cX6_best 3 = .ok (.ldc2_w 98, 3) := by decide +kernel
theorem dX6_best_6 : decode cX6_best 6 = .ok (.invokestatic 94, 3) := by decide +kernel
theorem dX6_best_9 : decode cX6_best 9 = .ok (.ifCond .eq 36, 3) := by decide +kernel
theorem dX6_best_12 : decode cX6_best 12 = .ok (.iload_n 1, 1) := by decide +kernel
theorem dX6_best_13 : decode cX6_best 13 = .ok (.aload_n 0, 1) := by decide +kernel
theorem dX6_best_14 : decode cX6_best 14 = .ok (.getfield 23, 3) := by decide +kernel
theorem dX6_best_17 : decode cX6_best 17 = .ok (.if_icmp .gt 28, 3) := by decide +kernel
theorem dX6_best_20 : decode cX6_best 20 = .ok (.iload_n 2, 1) := by decide +kernel
theorem dX6_best_21 : decode cX6_best 21 = .ok (.iconst (-1), 1) := by decide +kernel
theorem dX6_best_22 : decode cX6_best 22 = .ok (.if_icmp .eq 16, 3) := by decide +kernel
theorem dX6_best_25 : decode cX6_best 25 = .ok (.iload_n 2, 1) := by decide +kernel
theorem dX6_best_26 : decode cX6_best 26 = .ok (.i2l, 1) := by decide +kernel
theorem dX6_best_27 : decode cX6_best 27 = .ok (.lconst 0, 1) := by decide +kernel
theorem dX6_best_28 : decode cX6_best 28 = .ok (.iload_n 1, 1) := by decide +kernel
theorem dX6_best_29 : decode cX6_best 29 = .ok (.iconst 1, 1) := by decide +kernel
theorem dX6_best_30 : decode cX6_best 30 = .ok (.isub, 1) := by decide +kernel
theorem dX6_best_31 : decode cX6_best 31 = .ok (.i2l, 1) := by decide +kernel
theorem dX6_best_32 : decode cX6_best 32 = .ok (.invokestatic 94, 3) := by decide +kernel
theorem dX6_best_35 : decode cX6_best 35 = .ok (.ifCond .eq 10, 3) := by decide +kernel
theorem dX6_best_38 : decode cX6_best 38 = .ok (.aload_n 0, 1) := by decide +kernel
theorem dX6_best_39 : decode cX6_best 39 = .ok (.getfield 91, 3) := by decide +kernel
theorem dX6_best_42 : decode cX6_best 42 = .ok (.ifCond .ne 7, 3) := by decide +kernel
theorem dX6_best_45 : decode cX6_best 45 = .ok (.ldc_w 309, 3) := by decide +kernel
theorem dX6_best_48 : decode cX6_best 48 = .ok (.ireturn, 1) := by decide +kernel
theorem dX6_best_49 : decode cX6_best 49 = .ok (.aload_n 0, 1) := by decide +kernel
theorem dX6_best_50 : decode cX6_best 50 = .ok (.iconst 0, 1) := by decide +kernel
theorem dX6_best_51 : decode cX6_best 51 = .ok (.putfield 316, 3) := by decide +kernel
theorem dX6_best_54 : decode cX6_best 54 = .ok (.aload_n 0, 1) := by decide +kernel
theorem dX6_best_55 : decode cX6_best 55 = .ok (.iconst 0, 1) := by decide +kernel
theorem dX6_best_56 : decode cX6_best 56 = .ok (.iload_n 1, 1) := by decide +kernel
theorem dX6_best_57 : decode cX6_best 57 = .ok (.invokevirtual 322, 3) := by decide +kernel
theorem dX6_best_60 : decode cX6_best 60 = .ok (.iload_n 2, 1) := by decide +kernel
theorem dX6_best_61 : decode cX6_best 61 = .ok (.iconst (-1), 1) := by decide +kernel
theorem dX6_best_62 : decode cX6_best 62 = .ok (.if_icmp .ne 10, 3) := by decide +kernel
theorem dX6_best_65 : decode cX6_best 65 = .ok (.aload_n 0, 1) := by decide +kernel
theorem dX6_best_66 : decode cX6_best 66 = .ok (.getfield 319, 3) := by decide +kernel
theorem dX6_best_69 : decode cX6_best 69 = .ok (.goto 9, 3) := by decide +kernel
theorem dX6_best_72 : decode cX6_best 72 = .ok (.aload_n 0, 1) := by decide +kernel
theorem dX6_best_73 : decode cX6_best 73 = .ok (.getfield 62, 3) := by decide +kernel
theorem dX6_best_76 : decode cX6_best 76 = .ok (.iload_n 2, 1) := by decide +kernel
theorem dX6_best_77 : decode cX6_best 77 = .ok (.iaload, 1) := by decide +kernel
theorem dX6_best_78 : decode cX6_best 78 = .ok (.ireturn, 1) := by decide +kernel
theorem dX6_keep_0 : decode cX6_keep 0 = .ok (.iload_n 1, 1) := by decide +kernel
theorem dX6_keep_1 : decode cX6_keep 1 = .ok (.i2l, 1) := by decide +kernel
theorem dX6_keep_2 : decode cX6_keep 2 = .ok (.lconst 0, 1) := by decide +kernel
theorem dX6_keep_3 : decode cX6_keep 3 = .ok (.lconst 1, 1) := by decide +kernel
theorem dX6_keep_4 : decode cX6_keep 4 = .ok (.invokestatic 94, 3) := by decide +kernel
theorem dX6_keep_7 : decode cX6_keep 7 = .ok (.ifCond .ne 7, 3) := by decide +kernel
theorem dX6_keep_10 : decode cX6_keep 10 = .ok (.ldc_w 309, 3) := by decide +kernel
theorem dX6_keep_13 : decode cX6_keep 13 = .ok (.ireturn, 1) := by decide +kernel
theorem dX6_keep_14 : decode cX6_keep 14 = .ok (.iconst (-1), 1) := by decide +kernel
theorem dX6_keep_15 : decode cX6_keep 15 = .ok (.istore_n 2, 1) := by decide +kernel
theorem dX6_keep_16 : decode cX6_keep 16 = .ok (.iconst 0, 1) := by decide +kernel
theorem dX6_keep_17 : decode cX6_keep 17 = .ok (.istore_n 3, 1) := by decide +kernel
theorem dX6_keep_18 : decode cX6_keep 18 = .ok (.iconst 1, 1) := by decide +kernel
theorem dX6_keep_19 : decode cX6_keep 19 = .ok (.istore 4, 2) := by decide +kernel
theorem dX6_keep_21 : decode cX6_keep 21 = .ok (.iload 4, 2) := by decide +kernel
theorem dX6_keep_23 : decode cX6_keep 23 = .ok (.bipush 12, 2) := by decide +kernel
theorem dX6_keep_25 : decode cX6_keep 25 = .ok (.if_icmp .gt 37, 3) := by decide +kernel
theorem dX6_keep_28 : decode cX6_keep 28 = .ok (.aload_n 0, 1) := by decide +kernel
theorem dX6_keep_29 : decode cX6_keep 29 = .ok (.iconst 5, 1) := by decide +kernel
theorem dX6_keep_30 : decode cX6_keep 30 = .ok (.iload 4, 2) := by decide +kernel
theorem dX6_keep_32 : decode cX6_keep 32 = .ok (.invokevirtual 310, 3) := by decide +kernel
theorem dX6_keep_35 : decode cX6_keep 35 = .ok (.iload_n 2, 1) := by decide +kernel
theorem dX6_keep_36 : decode cX6_keep 36 = .ok (.iconst (-1), 1) := by decide +kernel
theorem dX6_keep_37 : decode cX6_keep 37 = .ok (.if_icmp .eq 11, 3) := by decide +kernel
theorem dX6_keep_40 : decode cX6_keep 40 = .ok (.aload_n 0, 1) := by decide +kernel
theorem dX6_keep_41 : decode cX6_keep 41 = .ok (.getfield 272, 3) := by decide +kernel
theorem dX6_keep_44 : decode cX6_keep 44 = .ok (.iload_n 3, 1) := by decide +kernel
theorem dX6_keep_45 : decode cX6_keep 45 = .ok (.if_icmp .ge 11, 3) := by decide +kernel
theorem dX6_keep_48 : decode cX6_keep 48 = .ok (.iload 4, 2) := by decide +kernel
theorem dX6_keep_50 : decode cX6_keep 50 = .ok (.istore_n 2, 1) := by decide +kernel
theorem dX6_keep_51 : decode cX6_keep 51 = .ok (.aload_n 0, 1) := by decide +kernel
theorem dX6_keep_52 : decode cX6_keep 52 = .ok (.getfield 272, 3) := by decide +kernel
theorem dX6_keep_55 : decode cX6_keep 55 = .ok (.istore_n 3, 1) := by decide +kernel
theorem dX6_keep_56 : decode cX6_keep 56 = .ok (.iinc 4 1, 3) := by decide +kernel
theorem dX6_keep_59 : decode cX6_keep 59 = .ok (.goto (-38), 3) := by decide +kernel
theorem dX6_keep_62 : decode cX6_keep 62 = .ok (.iload_n 1, 1) := by decide +kernel
theorem dX6_keep_63 : decode cX6_keep 63 = .ok (.ifCond .ne 7, 3) := by decide +kernel
theorem dX6_keep_66 : decode cX6_keep 66 = .ok (.iload_n 2, 1) := by decide +kernel
theorem dX6_keep_67 : decode cX6_keep 67 = .ok (.goto 4, 3) := by decide +kernel
theorem dX6_keep_70 : decode cX6_keep 70 = .ok (.iload_n 3, 1) := by decide +kernel
theorem dX6_keep_71 : decode cX6_keep 71 = .ok (.ireturn, 1) := by decide +kernel
theorem dX6_second_0 : decode cX6_second 0 = .ok (.aload_n 0, 1) := by decide +kernel
theorem dX6_second_1 : decode cX6_second 1 = .ok (.getfield 26, 3) := by decide +kernel
theorem dX6_second_4 : decode cX6_second 4 = .ok (.istore_n 1, 1) := by decide +kernel
theorem dX6_second_5 : decode cX6_second 5 = .ok (.aload_n 0, 1) := by decide +kernel
theorem dX6_second_6 : decode cX6_second 6 = .ok (.iconst 1, 1) := by decide +kernel
theorem dX6_second_7 : decode cX6_second 7 = .ok (.putfield 26, 3) := by decide +kernel
theorem dX6_second_10 : decode cX6_second 10 = .ok (.aload_n 0, 1) := by decide +kernel
theorem dX6_second_11 : decode cX6_second 11 = .ok (.iconst 2, 1) := by decide +kernel
theorem dX6_second_12 : decode cX6_second 12 = .ok (.iconst 0, 1) := by decide +kernel
theorem dX6_second_13 : decode cX6_second 13 = .ok (.invokevirtual 310, 3) := by decide +kernel
theorem dX6_second_16 : decode cX6_second 16 = .ok (.aload_n 0, 1) := by decide +kernel
theorem dX6_second_17 : decode cX6_second 17 = .ok (.getfield 272, 3) := by decide +kernel
theorem dX6_second_20 : decode cX6_second 20 = .ok (.istore_n 2, 1) := by decide +kernel
theorem dX6_second_21 : decode cX6_second 21 = .ok (.aload_n 0, 1) := by decide +kernel
theorem dX6_second_22 : decode cX6_second 22 = .ok (.iconst 2, 1) := by decide +kernel
theorem dX6_second_23 : decode cX6_second 23 = .ok (.putfield 26, 3) := by decide +kernel
theorem dX6_second_26 : decode cX6_second 26 = .ok (.aload_n 0, 1) := by decide +kernel
theorem dX6_second_27 : decode cX6_second 27 = .ok (.iconst 2, 1) := by decide +kernel
theorem dX6_second_28 : decode cX6_second 28 = .ok (.iconst 0, 1) := by decide +kernel
theorem dX6_second_29 : decode cX6_second 29 = .ok (.invokevirtual 310, 3) := by decide +kernel
theorem dX6_second_32 : decode cX6_second 32 = .ok (.aload_n 0, 1) := by decide +kernel
theorem dX6_second_33 : decode cX6_second 33 = .ok (.iload_n 1, 1) := by decide +kernel
theorem dX6_second_34 : decode cX6_second 34 = .ok (.putfield 26, 3) := by decide +kernel
theorem dX6_second_37 : decode cX6_second 37 = .ok (.iload_n 2, 1) := by decide +kernel
theorem dX6_second_38 : decode cX6_second 38 = .ok (.aload_n 0, 1) := by decide +kernel
theorem dX6_second_39 : decode cX6_second 39 = .ok (.getfield 272, 3) := by decide +kernel
theorem dX6_second_42 : decode cX6_second 42 = .ok (.isub, 1) := by decide +kernel
theorem dX6_second_43 : decode cX6_second 43 = .ok (.ireturn, 1) := by decide +kernel
theorem dX6_leave_0 : decode cX6_leave 0 = .ok (.iconst (-1), 1) := by decide +kernel
theorem dX6_leave_1 : decode cX6_leave 1 = .ok (.istore_n 1, 1) := by decide +kernel
theorem dX6_leave_2 : decode cX6_leave 2 = .ok (.iconst 0, 1) := by decide +kernel
theorem dX6_leave_3 : decode cX6_leave 3 = .ok (.istore_n 2, 1) := by decide +kernel
theorem dX6_leave_4 : decode cX6_leave 4 = .ok (.iconst 0, 1) := by decide +kernel
theorem dX6_leave_5 : decode cX6_leave 5 = .ok (.istore_n 3, 1) := by decide +kernel
theorem dX6_leave_6 : decode cX6_leave 6 = .ok (.iload_n 3, 1) := by decide +kernel
theorem dX6_leave_7 : decode cX6_leave 7 = .ok (.aload_n 0, 1) := by decide +kernel
theorem dX6_leave_8 : decode cX6_leave 8 = .ok (.getfield 91, 3) := by decide +kernel
theorem dX6_leave_11 : decode cX6_leave 11 = .ok (.if_icmp .ge 45, 3) := by decide +kernel
theorem dX6_leave_14 : decode cX6_leave 14 = .ok (.aload_n 0, 1) := by decide +kernel
theorem dX6_leave_15 : decode cX6_leave 15 = .ok (.iload_n 3, 1) := by decide +kernel
theorem dX6_leave_16 : decode cX6_leave 16 = .ok (.putfield 41, 3) := by decide +kernel
theorem dX6_leave_19 : decode cX6_leave 19 = .ok (.aload_n 0, 1) := by decide +kernel
theorem dX6_leave_20 : decode cX6_leave 20 = .ok (.iconst 2, 1) := by decide +kernel
theorem dX6_leave_21 : decode cX6_leave 21 = .ok (.iconst 0, 1) := by decide +kernel
theorem dX6_leave_22 : decode cX6_leave 22 = .ok (.invokevirtual 310, 3) := by decide +kernel
theorem dX6_leave_25 : decode cX6_leave 25 = .ok (.aload_n 0, 1) := by decide +kernel
theorem dX6_leave_26 : decode cX6_leave 26 = .ok (.iconst (-1), 1) := by decide +kernel
theorem dX6_leave_27 : decode cX6_leave 27 = .ok (.putfield 41, 3) := by decide +kernel
theorem dX6_leave_30 : decode cX6_leave 30 = .ok (.iload_n 1, 1) := by decide +kernel
theorem dX6_leave_31 : decode cX6_leave 31 = .ok (.iconst (-1), 1) := by decide +kernel
theorem dX6_leave_32 : decode cX6_leave 32 = .ok (.if_icmp .eq 11, 3) := by decide +kernel
theorem dX6_leave_35 : decode cX6_leave 35 = .ok (.aload_n 0, 1) := by decide +kernel
theorem dX6_leave_36 : decode cX6_leave 36 = .ok (.getfield 272, 3) := by decide +kernel
theorem dX6_leave_39 : decode cX6_leave 39 = .ok (.iload_n 2, 1) := by decide +kernel
theorem dX6_leave_40 : decode cX6_leave 40 = .ok (.if_icmp .ge 10, 3) := by decide +kernel
theorem dX6_leave_43 : decode cX6_leave 43 = .ok (.iload_n 3, 1) := by decide +kernel
theorem dX6_leave_44 : decode cX6_leave 44 = .ok (.istore_n 1, 1) := by decide +kernel
theorem dX6_leave_45 : decode cX6_leave 45 = .ok (.aload_n 0, 1) := by decide +kernel
theorem dX6_leave_46 : decode cX6_leave 46 = .ok (.getfield 272, 3) := by decide +kernel
theorem dX6_leave_49 : decode cX6_leave 49 = .ok (.istore_n 2, 1) := by decide +kernel
theorem dX6_leave_50 : decode cX6_leave 50 = .ok (.iinc 3 1, 3) := by decide +kernel
theorem dX6_leave_53 : decode cX6_leave 53 = .ok (.goto (-47), 3) := by decide +kernel
theorem dX6_leave_56 : decode cX6_leave 56 = .ok (.iload_n 1, 1) := by decide +kernel
theorem dX6_leave_57 : decode cX6_leave 57 = .ok (.ireturn, 1) := by decide +kernel
theorem dX6_servedMany_0 : decode cX6_servedMany 0 = .ok (.iconst 0, 1) := by decide +kernel
theorem dX6_servedMany_1 : decode cX6_servedMany 1 = .ok (.istore_n 1, 1) := by decide +kernel
theorem dX6_servedMany_2 : decode cX6_servedMany 2 = .ok (.iconst 0, 1) := by decide +kernel
theorem dX6_servedMany_3 : decode cX6_servedMany 3 = .ok (.istore_n 2, 1) := by decide +kernel
theorem dX6_servedMany_4 : decode cX6_servedMany 4 = .ok (.iload_n 2, 1) := by decide +kernel
theorem dX6_servedMany_5 : decode cX6_servedMany 5 = .ok (.aload_n 0, 1) := by decide +kernel
theorem dX6_servedMany_6 : decode cX6_servedMany 6 = .ok (.getfield 23, 3) := by decide +kernel
theorem dX6_servedMany_9 : decode cX6_servedMany 9 = .ok (.if_icmp .ge 27, 3) := by decide +kernel
theorem dX6_servedMany_12 : decode cX6_servedMany 12 = .ok (.iload_n 1, 1) := by decide +kernel
theorem dX6_servedMany_13 : decode cX6_servedMany 13 = .ok (.aload_n 0, 1) := by decide +kernel
theorem dX6_servedMany_14 : decode cX6_servedMany 14 = .ok (.iload_n 2, 1) := by decide +kernel
theorem dX6_servedMany_15 : decode cX6_servedMany 15 = .ok (.invokevirtual 257, 3) := by decide +kernel
theorem dX6_servedMany_18 : decode cX6_servedMany 18 = .ok (.bipush 60, 2) := by decide +kernel
theorem dX6_servedMany_20 : decode cX6_servedMany 20 = .ok (.if_icmp .ge 7, 3) := by decide +kernel
theorem dX6_servedMany_23 : decode cX6_servedMany 23 = .ok (.iconst 1, 1) := by decide +kernel
theorem dX6_servedMany_24 : decode cX6_servedMany 24 = .ok (.goto 4, 3) := by decide +kernel
theorem dX6_servedMany_27 : decode cX6_servedMany 27 = .ok (.iconst 0, 1) := by decide +kernel
theorem dX6_servedMany_28 : decode cX6_servedMany 28 = .ok (.iadd, 1) := by decide +kernel
theorem dX6_servedMany_29 : decode cX6_servedMany 29 = .ok (.istore_n 1, 1) := by decide +kernel
theorem dX6_servedMany_30 : decode cX6_servedMany 30 = .ok (.iinc 2 1, 3) := by decide +kernel
theorem dX6_servedMany_33 : decode cX6_servedMany 33 = .ok (.goto (-29), 3) := by decide +kernel
theorem dX6_servedMany_36 : decode cX6_servedMany 36 = .ok (.iload_n 1, 1) := by decide +kernel
theorem dX6_servedMany_37 : decode cX6_servedMany 37 = .ok (.ireturn, 1) := by decide +kernel
theorem dX6_waysOf_0 : decode cX6_waysOf 0 = .ok (.lconst 1, 1) := by decide +kernel
theorem dX6_waysOf_1 : decode cX6_waysOf 1 = .ok (.lstore_n 1, 1) := by decide +kernel
theorem dX6_waysOf_2 : decode cX6_waysOf 2 = .ok (.iconst 2, 1) := by decide +kernel
theorem dX6_waysOf_3 : decode cX6_waysOf 3 = .ok (.istore_n 3, 1) := by decide +kernel
theorem dX6_waysOf_4 : decode cX6_waysOf 4 = .ok (.iload_n 3, 1) := by decide +kernel
theorem dX6_waysOf_5 : decode cX6_waysOf 5 = .ok (.iload_n 0, 1) := by decide +kernel
theorem dX6_waysOf_6 : decode cX6_waysOf 6 = .ok (.if_icmp .gt 14, 3) := by decide +kernel
theorem dX6_waysOf_9 : decode cX6_waysOf 9 = .ok (.lload_n 1, 1) := by decide +kernel
theorem dX6_waysOf_10 : decode cX6_waysOf 10 = .ok (.iload_n 3, 1) := by decide +kernel
theorem dX6_waysOf_11 : decode cX6_waysOf 11 = .ok (.i2l, 1) := by decide +kernel
theorem dX6_waysOf_12 : decode cX6_waysOf 12 = .ok (.lmul, 1) := by decide +kernel
theorem dX6_waysOf_13 : decode cX6_waysOf 13 = .ok (.lstore_n 1, 1) := by decide +kernel
theorem dX6_waysOf_14 : decode cX6_waysOf 14 = .ok (.iinc 3 1, 3) := by decide +kernel
theorem dX6_waysOf_17 : decode cX6_waysOf 17 = .ok (.goto (-13), 3) := by decide +kernel
theorem dX6_waysOf_20 : decode cX6_waysOf 20 = .ok (.lload_n 1, 1) := by decide +kernel
theorem dX6_waysOf_21 : decode cX6_waysOf 21 = .ok (.lreturn, 1) := by decide +kernel
theorem dX6_ordersOf_0 : decode cX6_ordersOf 0 = .ok (.aload_n 0, 1) := by decide +kernel
theorem dX6_ordersOf_1 : decode cX6_ordersOf 1 = .ok (.invokevirtual 325, 3) := by decide +kernel
theorem dX6_ordersOf_4 : decode cX6_ordersOf 4 = .ok (.istore_n 2, 1) := by decide +kernel
theorem dX6_ordersOf_5 : decode cX6_ordersOf 5 = .ok (.iload_n 2, 1) := by decide +kernel
theorem dX6_ordersOf_6 : decode cX6_ordersOf 6 = .ok (.invokestatic 328, 3) := by decide +kernel
theorem dX6_ordersOf_9 : decode cX6_ordersOf 9 = .ok (.lstore_n 3, 1) := by decide +kernel
theorem dX6_ordersOf_10 : decode cX6_ordersOf 10 = .ok (.iconst 0, 1) := by decide +kernel
theorem dX6_ordersOf_11 : decode cX6_ordersOf 11 = .ok (.istore 5, 2) := by decide +kernel
theorem dX6_ordersOf_13 : decode cX6_ordersOf 13 = .ok (.iload 5, 2) := by decide +kernel
theorem dX6_ordersOf_15 : decode cX6_ordersOf 15 = .ok (.aload_n 0, 1) := by decide +kernel
theorem dX6_ordersOf_16 : decode cX6_ordersOf 16 = .ok (.getfield 91, 3) := by decide +kernel
theorem dX6_ordersOf_19 : decode cX6_ordersOf 19 = .ok (.if_icmp .ge 50, 3) := by decide +kernel
theorem dX6_ordersOf_22 : decode cX6_ordersOf 22 = .ok (.aload_n 0, 1) := by decide +kernel
theorem dX6_ordersOf_23 : decode cX6_ordersOf 23 = .ok (.getfield 81, 3) := by decide +kernel
theorem dX6_ordersOf_26 : decode cX6_ordersOf 26 = .ok (.bipush 40, 2) := by decide +kernel
theorem dX6_ordersOf_28 : decode cX6_ordersOf 28 = .ok (.iload_n 1, 1) := by decide +kernel
theorem dX6_ordersOf_29 : decode cX6_ordersOf 29 = .ok (.imul, 1) := by decide +kernel
theorem dX6_ordersOf_30 : decode cX6_ordersOf 30 = .ok (.iload 5, 2) := by decide +kernel
theorem dX6_ordersOf_32 : decode cX6_ordersOf 32 = .ok (.iadd, 1) := by decide +kernel
theorem dX6_ordersOf_33 : decode cX6_ordersOf 33 = .ok (.iaload, 1) := by decide +kernel
theorem dX6_ordersOf_34 : decode cX6_ordersOf 34 = .ok (.istore 6, 2) := by decide +kernel
theorem dX6_ordersOf_36 : decode cX6_ordersOf 36 = .ok (.iload 6, 2) := by decide +kernel
theorem dX6_ordersOf_38 : decode cX6_ordersOf 38 = .ok (.i2l, 1) := by decide +kernel
theorem dX6_ordersOf_39 : decode cX6_ordersOf 39 = .ok (.lconst 0, 1) := by decide +kernel
theorem dX6_ordersOf_40 : decode cX6_ordersOf 40 = .ok (.iload_n 2, 1) := by decide +kernel
theorem dX6_ordersOf_41 : decode cX6_ordersOf 41 = .ok (.i2l, 1) := by decide +kernel
theorem dX6_ordersOf_42 : decode cX6_ordersOf 42 = .ok (.invokestatic 94, 3) := by decide +kernel
theorem dX6_ordersOf_45 : decode cX6_ordersOf 45 = .ok (.ifCond .ne 5, 3) := by decide +kernel
theorem dX6_ordersOf_48 : decode cX6_ordersOf 48 = .ok (.lconst 0, 1) := by decide +kernel
theorem dX6_ordersOf_49 : decode cX6_ordersOf 49 = .ok (.lreturn, 1) := by decide +kernel
theorem dX6_ordersOf_50 : decode cX6_ordersOf 50 = .ok (.lload_n 3, 1) := by decide +kernel
theorem dX6_ordersOf_51 : decode cX6_ordersOf 51 = .ok (.iload 6, 2) := by decide +kernel
theorem dX6_ordersOf_53 : decode cX6_ordersOf 53 = .ok (.invokestatic 328, 3) := by decide +kernel
theorem dX6_ordersOf_56 : decode cX6_ordersOf 56 = .ok (.ldiv, 1) := by decide +kernel
theorem dX6_ordersOf_57 : decode cX6_ordersOf 57 = .ok (.lstore_n 3, 1) := by decide +kernel
theorem dX6_ordersOf_58 : decode cX6_ordersOf 58 = .ok (.iload_n 2, 1) := by decide +kernel
theorem dX6_ordersOf_59 : decode cX6_ordersOf 59 = .ok (.iload 6, 2) := by decide +kernel
theorem dX6_ordersOf_61 : decode cX6_ordersOf 61 = .ok (.isub, 1) := by decide +kernel
theorem dX6_ordersOf_62 : decode cX6_ordersOf 62 = .ok (.istore_n 2, 1) := by decide +kernel
theorem dX6_ordersOf_63 : decode cX6_ordersOf 63 = .ok (.iinc 5 1, 3) := by decide +kernel
theorem dX6_ordersOf_66 : decode cX6_ordersOf 66 = .ok (.goto (-53), 3) := by decide +kernel
theorem dX6_ordersOf_69 : decode cX6_ordersOf 69 = .ok (.iload_n 2, 1) := by decide +kernel
theorem dX6_ordersOf_70 : decode cX6_ordersOf 70 = .ok (.ifCond .ne 7, 3) := by decide +kernel
theorem dX6_ordersOf_73 : decode cX6_ordersOf 73 = .ok (.lload_n 3, 1) := by decide +kernel
theorem dX6_ordersOf_74 : decode cX6_ordersOf 74 = .ok (.goto 4, 3) := by decide +kernel
theorem dX6_ordersOf_77 : decode cX6_ordersOf 77 = .ok (.lconst 0, 1) := by decide +kernel
theorem dX6_ordersOf_78 : decode cX6_ordersOf 78 = .ok (.lreturn, 1) := by decide +kernel
theorem dX6_plates_0 : decode cX6_plates 0 = .ok (.iload_n 1, 1) := by decide +kernel
theorem dX6_plates_1 : decode cX6_plates 1 = .ok (.invokestatic 303, 3) := by decide +kernel
theorem dX6_plates_4 : decode cX6_plates 4 = .ok (.ifCond .eq 35, 3) := by decide +kernel
theorem dX6_plates_7 : decode cX6_plates 7 = .ok (.iload_n 2, 1) := by decide +kernel
theorem dX6_plates_8 : decode cX6_plates 8 = .ok (.i2l, 1) := by decide +kernel
theorem dX6_plates_9 : decode cX6_plates 9 = .ok (.lconst 0, 1) := by decide +kernel
theorem dX6_plates_10 : decode cX6_plates 10 = .ok (.lconst 1, 1) := by decide +kernel
theorem dX6_plates_11 : decode cX6_plates 11 = .ok (.invokestatic 94, 3) := by decide +kernel
theorem dX6_plates_14 : decode cX6_plates 14 = .ok (.ifCond .eq 25, 3) := by decide +kernel
theorem dX6_plates_17 : decode cX6_plates 17 = .ok (.aload_n 0, 1) := by decide +kernel
theorem dX6_plates_18 : decode cX6_plates 18 = .ok (.getfield 71, 3) := by decide +kernel
theorem dX6_plates_21 : decode cX6_plates 21 = .ok (.iload_n 1, 1) := by decide +kernel
theorem dX6_plates_22 : decode cX6_plates 22 = .ok (.baload, 1) := by decide +kernel
theorem dX6_plates_23 : decode cX6_plates 23 = .ok (.ifCond .eq 16, 3) := by decide +kernel
theorem dX6_plates_26 : decode cX6_plates 26 = .ok (.aload_n 0, 1) := by decide +kernel
theorem dX6_plates_27 : decode cX6_plates 27 = .ok (.getfield 78, 3) := by decide +kernel
theorem dX6_plates_30 : decode cX6_plates 30 = .ok (.iload_n 1, 1) := by decide +kernel
theorem dX6_plates_31 : decode cX6_plates 31 = .ok (.iaload, 1) := by decide +kernel
theorem dX6_plates_32 : decode cX6_plates 32 = .ok (.aload_n 0, 1) := by decide +kernel
theorem dX6_plates_33 : decode cX6_plates 33 = .ok (.getfield 91, 3) := by decide +kernel
theorem dX6_plates_36 : decode cX6_plates 36 = .ok (.if_icmp .eq 7, 3) := by decide +kernel
theorem dX6_plates_39 : decode cX6_plates 39 = .ok (.ldc2_w 332, 3) := by decide +kernel
theorem dX6_plates_42 : decode cX6_plates 42 = .ok (.lreturn, 1) := by decide +kernel
theorem dX6_plates_43 : decode cX6_plates 43 = .ok (.iload_n 2, 1) := by decide +kernel
theorem dX6_plates_44 : decode cX6_plates 44 = .ok (.iconst 1, 1) := by decide +kernel
theorem dX6_plates_45 : decode cX6_plates 45 = .ok (.if_icmp .ne 9, 3) := by decide +kernel
theorem dX6_plates_48 : decode cX6_plates 48 = .ok (.aload_n 0, 1) := by decide +kernel
theorem dX6_plates_49 : decode cX6_plates 49 = .ok (.iload_n 1, 1) := by decide +kernel
theorem dX6_plates_50 : decode cX6_plates 50 = .ok (.invokevirtual 334, 3) := by decide +kernel
theorem dX6_plates_53 : decode cX6_plates 53 = .ok (.lreturn, 1) := by decide +kernel
theorem dX6_plates_54 : decode cX6_plates 54 = .ok (.lconst 0, 1) := by decide +kernel
theorem dX6_plates_55 : decode cX6_plates 55 = .ok (.lstore_n 3, 1) := by decide +kernel
theorem dX6_plates_56 : decode cX6_plates 56 = .ok (.iconst 1, 1) := by decide +kernel
theorem dX6_plates_57 : decode cX6_plates 57 = .ok (.istore 5, 2) := by decide +kernel
theorem dX6_plates_59 : decode cX6_plates 59 = .ok (.iload 5, 2) := by decide +kernel
theorem dX6_plates_61 : decode cX6_plates 61 = .ok (.iconst 3, 1) := by decide +kernel
theorem dX6_plates_62 : decode cX6_plates 62 = .ok (.if_icmp .gt 87, 3) := by decide +kernel
theorem dX6_plates_65 : decode cX6_plates 65 = .ok (.aload_n 0, 1) := by decide +kernel
theorem dX6_plates_66 : decode cX6_plates 66 = .ok (.iload 5, 2) := by decide +kernel
theorem dX6_plates_68 : decode cX6_plates 68 = .ok (.iconst 0, 1) := by decide +kernel
theorem dX6_plates_69 : decode cX6_plates 69 = .ok (.invokevirtual 310, 3) := by decide +kernel
theorem dX6_plates_72 : decode cX6_plates 72 = .ok (.iconst 1, 1) := by decide +kernel
theorem dX6_plates_73 : decode cX6_plates 73 = .ok (.istore 6, 2) := by decide +kernel
theorem dX6_plates_75 : decode cX6_plates 75 = .ok (.iconst 0, 1) := by decide +kernel
theorem dX6_plates_76 : decode cX6_plates 76 = .ok (.istore 7, 2) := by decide +kernel
theorem dX6_plates_78 : decode cX6_plates 78 = .ok (.iload 7, 2) := by decide +kernel
theorem dX6_plates_80 : decode cX6_plates 80 = .ok (.aload_n 0, 1) := by decide +kernel
theorem dX6_plates_81 : decode cX6_plates 81 = .ok (.getfield 91, 3) := by decide +kernel
theorem dX6_plates_84 : decode cX6_plates 84 = .ok (.if_icmp .ge 43, 3) := by decide +kernel
theorem dX6_plates_87 : decode cX6_plates 87 = .ok (.iload 6, 2) := by decide +kernel
theorem dX6_plates_89 : decode cX6_plates 89 = .ok (.ifCond .eq 29, 3) := by decide +kernel
theorem dX6_plates_92 : decode cX6_plates 92 = .ok (.aload_n 0, 1) := by decide +kernel
theorem dX6_plates_93 : decode cX6_plates 93 = .ok (.getfield 44, 3) := by decide +kernel
theorem dX6_plates_96 : decode cX6_plates 96 = .ok (.iload 7, 2) := by decide +kernel
theorem dX6_plates_98 : decode cX6_plates 98 = .ok (.iaload, 1) := by decide +kernel
theorem dX6_plates_99 : decode cX6_plates 99 = .ok (.aload_n 0, 1) := by decide +kernel
theorem dX6_plates_100 : decode cX6_plates 100 = .ok (.getfield 81, 3) := by decide +kernel
theorem dX6_plates_103 : decode cX6_plates 103 = .ok (.bipush 40, 2) := by decide +kernel
theorem dX6_plates_105 : decode cX6_plates 105 = .ok (.iload_n 1, 1) := by decide +kernel
theorem dX6_plates_106 : decode cX6_plates 106 = .ok (.imul, 1) := by decide +kernel
theorem dX6_plates_107 : decode cX6_plates 107 = .ok (.iload 7, 2) := by decide +kernel
theorem dX6_plates_109 : decode cX6_plates 109 = .ok (.iadd, 1) := by decide +kernel
theorem dX6_plates_110 : decode cX6_plates 110 = .ok (.iaload, 1) := by decide +kernel
theorem dX6_plates_111 : decode cX6_plates 111 = .ok (.if_icmp .ne 7, 3) := by decide +kernel
theorem dX6_plates_114 : decode cX6_plates 114 = .ok (.iconst 1, 1) := by decide +kernel
theorem dX6_plates_115 : decode cX6_plates 115 = .ok (.goto 4, 3) := by decide +kernel
theorem dX6_plates_118 : decode cX6_plates 118 = .ok (.iconst 0, 1) := by decide +kernel
theorem dX6_plates_119 : decode cX6_plates 119 = .ok (.istore 6, 2) := by decide +kernel
theorem dX6_plates_121 : decode cX6_plates 121 = .ok (.iinc 7 1, 3) := by decide +kernel
theorem dX6_plates_124 : decode cX6_plates 124 = .ok (.goto (-46), 3) := by decide +kernel
theorem dX6_plates_127 : decode cX6_plates 127 = .ok (.lload_n 3, 1) := by decide +kernel
theorem dX6_plates_128 : decode cX6_plates 128 = .ok (.iload 6, 2) := by decide +kernel
theorem dX6_plates_130 : decode cX6_plates 130 = .ok (.ifCond .eq 7, 3) := by decide +kernel
theorem dX6_plates_133 : decode cX6_plates 133 = .ok (.lconst 1, 1) := by decide +kernel
theorem dX6_plates_134 : decode cX6_plates 134 = .ok (.goto 4, 3) := by decide +kernel
theorem dX6_plates_137 : decode cX6_plates 137 = .ok (.lconst 0, 1) := by decide +kernel
theorem dX6_plates_138 : decode cX6_plates 138 = .ok (.iload 5, 2) := by decide +kernel
theorem dX6_plates_140 : decode cX6_plates 140 = .ok (.lshl, 1) := by decide +kernel
theorem dX6_plates_141 : decode cX6_plates 141 = .ok (.lor, 1) := by decide +kernel
theorem dX6_plates_142 : decode cX6_plates 142 = .ok (.lstore_n 3, 1) := by decide +kernel
theorem dX6_plates_143 : decode cX6_plates 143 = .ok (.iinc 5 1, 3) := by decide +kernel
theorem dX6_plates_146 : decode cX6_plates 146 = .ok (.goto (-87), 3) := by decide +kernel
theorem dX6_plates_149 : decode cX6_plates 149 = .ok (.lload_n 3, 1) := by decide +kernel
theorem dX6_plates_150 : decode cX6_plates 150 = .ok (.lreturn, 1) := by decide +kernel
theorem dX6_isEatenSo_0 : decode cX6_isEatenSo 0 = .ok (.aload_n 0, 1) := by decide +kernel
theorem dX6_isEatenSo_1 : decode cX6_isEatenSo 1 = .ok (.getfield 47, 3) := by decide +kernel
theorem dX6_isEatenSo_4 : decode cX6_isEatenSo 4 = .ok (.iload_n 2, 1) := by decide +kernel
theorem dX6_isEatenSo_5 : decode cX6_isEatenSo 5 = .ok (.iaload, 1) := by decide +kernel
theorem dX6_isEatenSo_6 : decode cX6_isEatenSo 6 = .ok (.bipush 60, 2) := by decide +kernel
theorem dX6_isEatenSo_8 : decode cX6_isEatenSo 8 = .ok (.if_icmp .lt 8, 3) := by decide +kernel
theorem dX6_isEatenSo_11 : decode cX6_isEatenSo 11 = .ok (.bipush 60, 2) := by decide +kernel
theorem dX6_isEatenSo_13 : decode cX6_isEatenSo 13 = .ok (.goto 9, 3) := by decide +kernel
theorem dX6_isEatenSo_16 : decode cX6_isEatenSo 16 = .ok (.aload_n 0, 1) := by decide +kernel
theorem dX6_isEatenSo_17 : decode cX6_isEatenSo 17 = .ok (.getfield 47, 3) := by decide +kernel
theorem dX6_isEatenSo_20 : decode cX6_isEatenSo 20 = .ok (.iload_n 2, 1) := by decide +kernel
theorem dX6_isEatenSo_21 : decode cX6_isEatenSo 21 = .ok (.iaload, 1) := by decide +kernel
theorem dX6_isEatenSo_22 : decode cX6_isEatenSo 22 = .ok (.istore_n 3, 1) := by decide +kernel
theorem dX6_isEatenSo_23 : decode cX6_isEatenSo 23 = .ok (.iload_n 3, 1) := by decide +kernel
theorem dX6_isEatenSo_24 : decode cX6_isEatenSo 24 = .ok (.aload_n 0, 1) := by decide +kernel
theorem dX6_isEatenSo_25 : decode cX6_isEatenSo 25 = .ok (.getfield 81, 3) := by decide +kernel
theorem dX6_isEatenSo_28 : decode cX6_isEatenSo 28 = .ok (.bipush 40, 2) := by decide +kernel
theorem dX6_isEatenSo_30 : decode cX6_isEatenSo 30 = .ok (.iload_n 1, 1) := by decide +kernel
theorem dX6_isEatenSo_31 : decode cX6_isEatenSo 31 = .ok (.imul, 1) := by decide +kernel
theorem dX6_isEatenSo_32 : decode cX6_isEatenSo 32 = .ok (.iload_n 2, 1) := by decide +kernel
theorem dX6_isEatenSo_33 : decode cX6_isEatenSo 33 = .ok (.iadd, 1) := by decide +kernel
theorem dX6_isEatenSo_34 : decode cX6_isEatenSo 34 = .ok (.iaload, 1) := by decide +kernel
theorem dX6_isEatenSo_35 : decode cX6_isEatenSo 35 = .ok (.if_icmp .ne 7, 3) := by decide +kernel
theorem dX6_isEatenSo_38 : decode cX6_isEatenSo 38 = .ok (.iconst 1, 1) := by decide +kernel
theorem dX6_isEatenSo_39 : decode cX6_isEatenSo 39 = .ok (.goto 4, 3) := by decide +kernel
theorem dX6_isEatenSo_42 : decode cX6_isEatenSo 42 = .ok (.iconst 0, 1) := by decide +kernel
theorem dX6_isEatenSo_43 : decode cX6_isEatenSo 43 = .ok (.ireturn, 1) := by decide +kernel
theorem dX6_eaten_0 : decode cX6_eaten 0 = .ok (.iload_n 1, 1) := by decide +kernel
theorem dX6_eaten_1 : decode cX6_eaten 1 = .ok (.invokestatic 303, 3) := by decide +kernel
theorem dX6_eaten_4 : decode cX6_eaten 4 = .ok (.ifCond .eq 16, 3) := by decide +kernel
theorem dX6_eaten_7 : decode cX6_eaten 7 = .ok (.iload_n 2, 1) := by decide +kernel
theorem dX6_eaten_8 : decode cX6_eaten 8 = .ok (.iconst (-1), 1) := by decide +kernel
theorem dX6_eaten_9 : decode cX6_eaten 9 = .ok (.if_icmp .eq 14, 3) := by decide +kernel
theorem dX6_eaten_12 : decode cX6_eaten 12 = .ok (.aload_n 0, 1) := by decide +kernel
theorem dX6_eaten_13 : decode cX6_eaten 13 = .ok (.iload_n 2, 1) := by decide +kernel
theorem dX6_eaten_14 : decode cX6_eaten 14 = .ok (.invokevirtual 100, 3) := by decide +kernel
theorem dX6_eaten_17 : decode cX6_eaten 17 = .ok (.ifCond .ne 6, 3) := by decide +kernel
theorem dX6_eaten_20 : decode cX6_eaten 20 = .ok (.bipush (-2), 2) := by decide +kernel
theorem dX6_eaten_22 : decode cX6_eaten 22 = .ok (.ireturn, 1) := by decide +kernel
theorem dX6_eaten_23 : decode cX6_eaten 23 = .ok (.aload_n 0, 1) := by decide +kernel
theorem dX6_eaten_24 : decode cX6_eaten 24 = .ok (.getfield 71, 3) := by decide +kernel
theorem dX6_eaten_27 : decode cX6_eaten 27 = .ok (.iload_n 1, 1) := by decide +kernel
theorem dX6_eaten_28 : decode cX6_eaten 28 = .ok (.baload, 1) := by decide +kernel
theorem dX6_eaten_29 : decode cX6_eaten 29 = .ok (.ifCond .ne 6, 3) := by decide +kernel
theorem dX6_eaten_32 : decode cX6_eaten 32 = .ok (.bipush (-11), 2) := by decide +kernel
theorem dX6_eaten_34 : decode cX6_eaten 34 = .ok (.ireturn, 1) := by decide +kernel
theorem dX6_eaten_35 : decode cX6_eaten 35 = .ok (.aload_n 0, 1) := by decide +kernel
theorem dX6_eaten_36 : decode cX6_eaten 36 = .ok (.getfield 78, 3) := by decide +kernel
theorem dX6_eaten_39 : decode cX6_eaten 39 = .ok (.iload_n 1, 1) := by decide +kernel
theorem dX6_eaten_40 : decode cX6_eaten 40 = .ok (.iaload, 1) := by decide +kernel
theorem dX6_eaten_41 : decode cX6_eaten 41 = .ok (.aload_n 0, 1) := by decide +kernel
theorem dX6_eaten_42 : decode cX6_eaten 42 = .ok (.getfield 91, 3) := by decide +kernel
theorem dX6_eaten_45 : decode cX6_eaten 45 = .ok (.if_icmp .eq 6, 3) := by decide +kernel
theorem dX6_eaten_48 : decode cX6_eaten 48 = .ok (.bipush (-2), 2) := by decide +kernel
theorem dX6_eaten_50 : decode cX6_eaten 50 = .ok (.ireturn, 1) := by decide +kernel
theorem dX6_eaten_51 : decode cX6_eaten 51 = .ok (.iconst 0, 1) := by decide +kernel
theorem dX6_eaten_52 : decode cX6_eaten 52 = .ok (.istore_n 3, 1) := by decide +kernel
theorem dX6_eaten_53 : decode cX6_eaten 53 = .ok (.iload_n 2, 1) := by decide +kernel
theorem dX6_eaten_54 : decode cX6_eaten 54 = .ok (.iconst (-1), 1) := by decide +kernel
theorem dX6_eaten_55 : decode cX6_eaten 55 = .ok (.if_icmp .ne 50, 3) := by decide +kernel
theorem dX6_eaten_58 : decode cX6_eaten 58 = .ok (.aload_n 0, 1) := by decide +kernel
theorem dX6_eaten_59 : decode cX6_eaten 59 = .ok (.iconst 1, 1) := by decide +kernel
theorem dX6_eaten_60 : decode cX6_eaten 60 = .ok (.iconst 0, 1) := by decide +kernel
theorem dX6_eaten_61 : decode cX6_eaten 61 = .ok (.invokevirtual 310, 3) := by decide +kernel
theorem dX6_eaten_64 : decode cX6_eaten 64 = .ok (.iconst 0, 1) := by decide +kernel
theorem dX6_eaten_65 : decode cX6_eaten 65 = .ok (.istore 4, 2) := by decide +kernel
theorem dX6_eaten_67 : decode cX6_eaten 67 = .ok (.iload 4, 2) := by decide +kernel
theorem dX6_eaten_69 : decode cX6_eaten 69 = .ok (.aload_n 0, 1) := by decide +kernel
theorem dX6_eaten_70 : decode cX6_eaten 70 = .ok (.getfield 91, 3) := by decide +kernel
theorem dX6_eaten_73 : decode cX6_eaten 73 = .ok (.if_icmp .ge 30, 3) := by decide +kernel
theorem dX6_eaten_76 : decode cX6_eaten 76 = .ok (.iload_n 3, 1) := by decide +kernel
theorem dX6_eaten_77 : decode cX6_eaten 77 = .ok (.aload_n 0, 1) := by decide +kernel
theorem dX6_eaten_78 : decode cX6_eaten 78 = .ok (.iload_n 1, 1) := by decide +kernel
theorem dX6_eaten_79 : decode cX6_eaten 79 = .ok (.iload 4, 2) := by decide +kernel
theorem dX6_eaten_81 : decode cX6_eaten 81 = .ok (.invokevirtual 337, 3) := by decide +kernel
theorem dX6_eaten_84 : decode cX6_eaten 84 = .ok (.ifCond .eq 7, 3) := by decide +kernel
theorem dX6_eaten_87 : decode cX6_eaten 87 = .ok (.iconst 0, 1) := by decide +kernel
theorem dX6_eaten_88 : decode cX6_eaten 88 = .ok (.goto 4, 3) := by decide +kernel
theorem dX6_eaten_91 : decode cX6_eaten 91 = .ok (.iconst 1, 1) := by decide +kernel
theorem dX6_eaten_92 : decode cX6_eaten 92 = .ok (.iload 4, 2) := by decide +kernel
theorem dX6_eaten_94 : decode cX6_eaten 94 = .ok (.ishl, 1) := by decide +kernel
theorem dX6_eaten_95 : decode cX6_eaten 95 = .ok (.ior, 1) := by decide +kernel
theorem dX6_eaten_96 : decode cX6_eaten 96 = .ok (.istore_n 3, 1) := by decide +kernel
theorem dX6_eaten_97 : decode cX6_eaten 97 = .ok (.iinc 4 1, 3) := by decide +kernel
theorem dX6_eaten_100 : decode cX6_eaten 100 = .ok (.goto (-33), 3) := by decide +kernel
theorem dX6_eaten_103 : decode cX6_eaten 103 = .ok (.iload_n 3, 1) := by decide +kernel
theorem dX6_eaten_104 : decode cX6_eaten 104 = .ok (.ireturn, 1) := by decide +kernel
theorem dX6_eaten_105 : decode cX6_eaten 105 = .ok (.aload_n 0, 1) := by decide +kernel
theorem dX6_eaten_106 : decode cX6_eaten 106 = .ok (.getfield 38, 3) := by decide +kernel
theorem dX6_eaten_109 : decode cX6_eaten 109 = .ok (.iload_n 2, 1) := by decide +kernel
theorem dX6_eaten_110 : decode cX6_eaten 110 = .ok (.iaload, 1) := by decide +kernel
theorem dX6_eaten_111 : decode cX6_eaten 111 = .ok (.istore 4, 2) := by decide +kernel
theorem dX6_eaten_113 : decode cX6_eaten 113 = .ok (.iconst 1, 1) := by decide +kernel
theorem dX6_eaten_114 : decode cX6_eaten 114 = .ok (.istore 5, 2) := by decide +kernel
theorem dX6_eaten_116 : decode cX6_eaten 116 = .ok (.iload 5, 2) := by decide +kernel
theorem dX6_eaten_118 : decode cX6_eaten 118 = .ok (.bipush 20, 2) := by decide +kernel
theorem dX6_eaten_120 : decode cX6_eaten 120 = .ok (.if_icmp .gt 43, 3) := by decide +kernel
theorem dX6_eaten_123 : decode cX6_eaten 123 = .ok (.aload_n 0, 1) := by decide +kernel
theorem dX6_eaten_124 : decode cX6_eaten 124 = .ok (.getfield 38, 3) := by decide +kernel
theorem dX6_eaten_127 : decode cX6_eaten 127 = .ok (.iload_n 2, 1) := by decide +kernel
theorem dX6_eaten_128 : decode cX6_eaten 128 = .ok (.iload 5, 2) := by decide +kernel
theorem dX6_eaten_130 : decode cX6_eaten 130 = .ok (.iastore, 1) := by decide +kernel
theorem dX6_eaten_131 : decode cX6_eaten 131 = .ok (.aload_n 0, 1) := by decide +kernel
theorem dX6_eaten_132 : decode cX6_eaten 132 = .ok (.iconst 1, 1) := by decide +kernel
theorem dX6_eaten_133 : decode cX6_eaten 133 = .ok (.iconst 0, 1) := by decide +kernel
theorem dX6_eaten_134 : decode cX6_eaten 134 = .ok (.invokevirtual 310, 3) := by decide +kernel
theorem dX6_eaten_137 : decode cX6_eaten 137 = .ok (.iload_n 3, 1) := by decide +kernel
theorem dX6_eaten_138 : decode cX6_eaten 138 = .ok (.aload_n 0, 1) := by decide +kernel
theorem dX6_eaten_139 : decode cX6_eaten 139 = .ok (.iload_n 1, 1) := by decide +kernel
theorem dX6_eaten_140 : decode cX6_eaten 140 = .ok (.iload_n 2, 1) := by decide +kernel
theorem dX6_eaten_141 : decode cX6_eaten 141 = .ok (.invokevirtual 337, 3) := by decide +kernel
theorem dX6_eaten_144 : decode cX6_eaten 144 = .ok (.ifCond .eq 7, 3) := by decide +kernel
theorem dX6_eaten_147 : decode cX6_eaten 147 = .ok (.iconst 1, 1) := by decide +kernel
theorem dX6_eaten_148 : decode cX6_eaten 148 = .ok (.goto 4, 3) := by decide +kernel
theorem dX6_eaten_151 : decode cX6_eaten 151 = .ok (.iconst 0, 1) := by decide +kernel
theorem dX6_eaten_152 : decode cX6_eaten 152 = .ok (.iload 5, 2) := by decide +kernel
theorem dX6_eaten_154 : decode cX6_eaten 154 = .ok (.ishl, 1) := by decide +kernel
theorem dX6_eaten_155 : decode cX6_eaten 155 = .ok (.ior, 1) := by decide +kernel
theorem dX6_eaten_156 : decode cX6_eaten 156 = .ok (.istore_n 3, 1) := by decide +kernel
theorem dX6_eaten_157 : decode cX6_eaten 157 = .ok (.iinc 5 1, 3) := by decide +kernel
theorem dX6_eaten_160 : decode cX6_eaten 160 = .ok (.goto (-44), 3) := by decide +kernel
theorem dX6_eaten_163 : decode cX6_eaten 163 = .ok (.aload_n 0, 1) := by decide +kernel
theorem dX6_eaten_164 : decode cX6_eaten 164 = .ok (.getfield 38, 3) := by decide +kernel
theorem dX6_eaten_167 : decode cX6_eaten 167 = .ok (.iload_n 2, 1) := by decide +kernel
theorem dX6_eaten_168 : decode cX6_eaten 168 = .ok (.iload 4, 2) := by decide +kernel
theorem dX6_eaten_170 : decode cX6_eaten 170 = .ok (.iastore, 1) := by decide +kernel
theorem dX6_eaten_171 : decode cX6_eaten 171 = .ok (.iload_n 3, 1) := by decide +kernel
theorem dX6_eaten_172 : decode cX6_eaten 172 = .ok (.ireturn, 1) := by decide +kernel
theorem dX6_film_0 : decode cX6_film 0 = .ok (.iload_n 1, 1) := by decide +kernel
theorem dX6_film_1 : decode cX6_film 1 = .ok (.invokestatic 303, 3) := by decide +kernel
theorem dX6_film_4 : decode cX6_film 4 = .ok (.ifCond .eq 15, 3) := by decide +kernel
theorem dX6_film_7 : decode cX6_film 7 = .ok (.iload_n 2, 1) := by decide +kernel
theorem dX6_film_8 : decode cX6_film 8 = .ok (.i2l, 1) := by decide +kernel
theorem dX6_film_9 : decode cX6_film 9 = .ok (.lconst 1, 1) := by decide +kernel
theorem dX6_film_10 : decode cX6_film 10 = .ok (.ldc2_w 299, 3) := by decide +kernel
theorem dX6_film_13 : decode cX6_film 13 = .ok (.invokestatic 94, 3) := by decide +kernel
theorem dX6_film_16 : decode cX6_film 16 = .ok (.ifCond .ne 6, 3) := by decide +kernel
theorem dX6_film_19 : decode cX6_film 19 = .ok (.bipush (-2), 2) := by decide +kernel
theorem dX6_film_21 : decode cX6_film 21 = .ok (.ireturn, 1) := by decide +kernel
theorem dX6_film_22 : decode cX6_film 22 = .ok (.aload_n 0, 1) := by decide +kernel
theorem dX6_film_23 : decode cX6_film 23 = .ok (.iload_n 2, 1) := by decide +kernel
theorem dX6_film_24 : decode cX6_film 24 = .ok (.iconst 0, 1) := by decide +kernel
theorem dX6_film_25 : decode cX6_film 25 = .ok (.invokevirtual 310, 3) := by decide +kernel
theorem dX6_film_28 : decode cX6_film 28 = .ok (.aload_n 0, 1) := by decide +kernel
theorem dX6_film_29 : decode cX6_film 29 = .ok (.iload_n 1, 1) := by decide +kernel
theorem dX6_film_30 : decode cX6_film 30 = .ok (.iconst 0, 1) := by decide +kernel
theorem dX6_film_31 : decode cX6_film 31 = .ok (.aload_n 0, 1) := by decide +kernel
theorem dX6_film_32 : decode cX6_film 32 = .ok (.getfield 91, 3) := by decide +kernel
theorem dX6_film_35 : decode cX6_film 35 = .ok (.invokevirtual 340, 3) := by decide +kernel
theorem dX6_film_38 : decode cX6_film 38 = .ok (.pop, 1) := by decide +kernel
theorem dX6_film_39 : decode cX6_film 39 = .ok (.iconst 0, 1) := by decide +kernel
theorem dX6_film_40 : decode cX6_film 40 = .ok (.istore_n 3, 1) := by decide +kernel
theorem dX6_film_41 : decode cX6_film 41 = .ok (.iload_n 3, 1) := by decide +kernel
theorem dX6_film_42 : decode cX6_film 42 = .ok (.aload_n 0, 1) := by decide +kernel
theorem dX6_film_43 : decode cX6_film 43 = .ok (.getfield 91, 3) := by decide +kernel
theorem dX6_film_46 : decode cX6_film 46 = .ok (.if_icmp .ge 26, 3) := by decide +kernel
theorem dX6_film_49 : decode cX6_film 49 = .ok (.aload_n 0, 1) := by decide +kernel
theorem dX6_film_50 : decode cX6_film 50 = .ok (.getfield 81, 3) := by decide +kernel
theorem dX6_film_53 : decode cX6_film 53 = .ok (.bipush 40, 2) := by decide +kernel
theorem dX6_film_55 : decode cX6_film 55 = .ok (.iload_n 1, 1) := by decide +kernel
theorem dX6_film_56 : decode cX6_film 56 = .ok (.imul, 1) := by decide +kernel
theorem dX6_film_57 : decode cX6_film 57 = .ok (.iload_n 3, 1) := by decide +kernel
theorem dX6_film_58 : decode cX6_film 58 = .ok (.iadd, 1) := by decide +kernel
theorem dX6_film_59 : decode cX6_film 59 = .ok (.aload_n 0, 1) := by decide +kernel
theorem dX6_film_60 : decode cX6_film 60 = .ok (.getfield 44, 3) := by decide +kernel
theorem dX6_film_63 : decode cX6_film 63 = .ok (.iload_n 3, 1) := by decide +kernel
theorem dX6_film_64 : decode cX6_film 64 = .ok (.iaload, 1) := by decide +kernel
theorem dX6_film_65 : decode cX6_film 65 = .ok (.iastore, 1) := by decide +kernel
theorem dX6_film_66 : decode cX6_film 66 = .ok (.iinc 3 1, 3) := by decide +kernel
theorem dX6_film_69 : decode cX6_film 69 = .ok (.goto (-28), 3) := by decide +kernel
theorem dX6_film_72 : decode cX6_film 72 = .ok (.aload_n 0, 1) := by decide +kernel
theorem dX6_film_73 : decode cX6_film 73 = .ok (.getfield 91, 3) := by decide +kernel
theorem dX6_film_76 : decode cX6_film 76 = .ok (.ireturn, 1) := by decide +kernel
theorem dX6_draws_0 : decode cX6_draws 0 = .ok (.iload_n 1, 1) := by decide +kernel
theorem dX6_draws_1 : decode cX6_draws 1 = .ok (.istore_n 2, 1) := by decide +kernel
theorem dX6_draws_2 : decode cX6_draws 2 = .ok (.iconst 0, 1) := by decide +kernel
theorem dX6_draws_3 : decode cX6_draws 3 = .ok (.istore_n 3, 1) := by decide +kernel
theorem dX6_draws_4 : decode cX6_draws 4 = .ok (.iload_n 3, 1) := by decide +kernel
theorem dX6_draws_5 : decode cX6_draws 5 = .ok (.aload_n 0, 1) := by decide +kernel
theorem dX6_draws_6 : decode cX6_draws 6 = .ok (.getfield 23, 3) := by decide +kernel
theorem dX6_draws_9 : decode cX6_draws 9 = .ok (.if_icmp .ge 34, 3) := by decide +kernel
theorem dX6_draws_12 : decode cX6_draws 12 = .ok (.iload_n 2, 1) := by decide +kernel
theorem dX6_draws_13 : decode cX6_draws 13 = .ok (.ldc_w 343, 3) := by decide +kernel
theorem dX6_draws_16 : decode cX6_draws 16 = .ok (.imul, 1) := by decide +kernel
theorem dX6_draws_17 : decode cX6_draws 17 = .ok (.sipush 12345, 3) := by decide +kernel
theorem dX6_draws_20 : decode cX6_draws 20 = .ok (.iadd, 1) := by decide +kernel
theorem dX6_draws_21 : decode cX6_draws 21 = .ok (.istore_n 2, 1) := by decide +kernel
theorem dX6_draws_22 : decode cX6_draws 22 = .ok (.aload_n 0, 1) := by decide +kernel
theorem dX6_draws_23 : decode cX6_draws 23 = .ok (.getfield 59, 3) := by decide +kernel
theorem dX6_draws_26 : decode cX6_draws 26 = .ok (.iload_n 3, 1) := by decide +kernel
theorem dX6_draws_27 : decode cX6_draws 27 = .ok (.iload_n 2, 1) := by decide +kernel
theorem dX6_draws_28 : decode cX6_draws 28 = .ok (.bipush 9, 2) := by decide +kernel
theorem dX6_draws_30 : decode cX6_draws 30 = .ok (.iushr, 1) := by decide +kernel
theorem dX6_draws_31 : decode cX6_draws 31 = .ok (.aload_n 0, 1) := by decide +kernel
theorem dX6_draws_32 : decode cX6_draws 32 = .ok (.getfield 91, 3) := by decide +kernel
theorem dX6_draws_35 : decode cX6_draws 35 = .ok (.irem, 1) := by decide +kernel
theorem dX6_draws_36 : decode cX6_draws 36 = .ok (.iastore, 1) := by decide +kernel
theorem dX6_draws_37 : decode cX6_draws 37 = .ok (.iinc 3 1, 3) := by decide +kernel
theorem dX6_draws_40 : decode cX6_draws 40 = .ok (.goto (-36), 3) := by decide +kernel
theorem dX6_draws_43 : decode cX6_draws 43 = .ok (.aload_n 0, 1) := by decide +kernel
theorem dX6_draws_44 : decode cX6_draws 44 = .ok (.iconst 4, 1) := by decide +kernel
theorem dX6_draws_45 : decode cX6_draws 45 = .ok (.aload_n 0, 1) := by decide +kernel
theorem dX6_draws_46 : decode cX6_draws 46 = .ok (.getfield 23, 3) := by decide +kernel
theorem dX6_draws_49 : decode cX6_draws 49 = .ok (.invokevirtual 310, 3) := by decide +kernel
theorem dX6_draws_52 : decode cX6_draws 52 = .ok (.aload_n 0, 1) := by decide +kernel
theorem dX6_draws_53 : decode cX6_draws 53 = .ok (.getfield 272, 3) := by decide +kernel
theorem dX6_draws_56 : decode cX6_draws 56 = .ok (.ireturn, 1) := by decide +kernel
theorem dX6_drawn_0 : decode cX6_drawn 0 = .ok (.aload_n 0, 1) := by decide +kernel
theorem dX6_drawn_1 : decode cX6_drawn 1 = .ok (.getfield 91, 3) := by decide +kernel
theorem dX6_drawn_4 : decode cX6_drawn 4 = .ok (.ifCond .ne 9, 3) := by decide +kernel
theorem dX6_drawn_7 : decode cX6_drawn 7 = .ok (.ldc2_w 332, 3) := by decide +kernel
theorem dX6_drawn_10 : decode cX6_drawn 10 = .ok (.goto 9, 3) := by decide +kernel
theorem dX6_drawn_13 : decode cX6_drawn 13 = .ok (.aload_n 0, 1) := by decide +kernel
theorem dX6_drawn_14 : decode cX6_drawn 14 = .ok (.iload_n 1, 1) := by decide +kernel
theorem dX6_drawn_15 : decode cX6_drawn 15 = .ok (.invokevirtual 344, 3) := by decide +kernel
theorem dX6_drawn_18 : decode cX6_drawn 18 = .ok (.i2l, 1) := by decide +kernel
theorem dX6_drawn_19 : decode cX6_drawn 19 = .ok (.lreturn, 1) := by decide +kernel
theorem dX6_chance_0 : decode cX6_chance 0 = .ok (.iload_n 2, 1) := by decide +kernel
theorem dX6_chance_1 : decode cX6_chance 1 = .ok (.i2l, 1) := by decide +kernel
theorem dX6_chance_2 : decode cX6_chance 2 = .ok (.lconst 1, 1) := by decide +kernel
theorem dX6_chance_3 : decode cX6_chance 3 = .ok (.ldc2_w 110, 3) := by decide +kernel
theorem dX6_chance_6 : decode cX6_chance 6 = .ok (.invokestatic 94, 3) := by decide +kernel
theorem dX6_chance_9 : decode cX6_chance 9 = .ok (.ifCond .eq 20, 3) := by decide +kernel
theorem dX6_chance_12 : decode cX6_chance 12 = .ok (.iload_n 3, 1) := by decide +kernel
theorem dX6_chance_13 : decode cX6_chance 13 = .ok (.i2l, 1) := by decide +kernel
theorem dX6_chance_14 : decode cX6_chance 14 = .ok (.lconst 0, 1) := by decide +kernel
theorem dX6_chance_15 : decode cX6_chance 15 = .ok (.lconst 1, 1) := by decide +kernel
theorem dX6_chance_16 : decode cX6_chance 16 = .ok (.invokestatic 94, 3) := by decide +kernel
theorem dX6_chance_19 : decode cX6_chance 19 = .ok (.ifCond .eq 10, 3) := by decide +kernel
theorem dX6_chance_22 : decode cX6_chance 22 = .ok (.aload_n 0, 1) := by decide +kernel
theorem dX6_chance_23 : decode cX6_chance 23 = .ok (.getfield 91, 3) := by decide +kernel
theorem dX6_chance_26 : decode cX6_chance 26 = .ok (.ifCond .ne 7, 3) := by decide +kernel
theorem dX6_chance_29 : decode cX6_chance 29 = .ok (.ldc2_w 332, 3) := by decide +kernel
theorem dX6_chance_32 : decode cX6_chance 32 = .ok (.lreturn, 1) := by decide +kernel
theorem dX6_chance_33 : decode cX6_chance 33 = .ok (.aload_n 0, 1) := by decide +kernel
theorem dX6_chance_34 : decode cX6_chance 34 = .ok (.iconst 1, 1) := by decide +kernel
theorem dX6_chance_35 : decode cX6_chance 35 = .ok (.iconst 0, 1) := by decide +kernel
theorem dX6_chance_36 : decode cX6_chance 36 = .ok (.invokevirtual 310, 3) := by decide +kernel
theorem dX6_chance_39 : decode cX6_chance 39 = .ok (.aload_n 0, 1) := by decide +kernel
theorem dX6_chance_40 : decode cX6_chance 40 = .ok (.getfield 272, 3) := by decide +kernel
theorem dX6_chance_43 : decode cX6_chance 43 = .ok (.istore 4, 2) := by decide +kernel
theorem dX6_chance_45 : decode cX6_chance 45 = .ok (.lconst 0, 1) := by decide +kernel
theorem dX6_chance_46 : decode cX6_chance 46 = .ok (.lstore 5, 2) := by decide +kernel
theorem dX6_chance_48 : decode cX6_chance 48 = .ok (.iconst 0, 1) := by decide +kernel
theorem dX6_chance_49 : decode cX6_chance 49 = .ok (.istore 7, 2) := by decide +kernel
theorem dX6_chance_51 : decode cX6_chance 51 = .ok (.iload 7, 2) := by decide +kernel
theorem dX6_chance_53 : decode cX6_chance 53 = .ok (.iload_n 2, 1) := by decide +kernel
theorem dX6_chance_54 : decode cX6_chance 54 = .ok (.if_icmp .ge 32, 3) := by decide +kernel
theorem dX6_chance_57 : decode cX6_chance 57 = .ok (.lload 5, 2) := by decide +kernel
theorem dX6_chance_59 : decode cX6_chance 59 = .ok (.aload_n 0, 1) := by decide +kernel
theorem dX6_chance_60 : decode cX6_chance 60 = .ok (.iload_n 1, 1) := by decide +kernel
theorem dX6_chance_61 : decode cX6_chance 61 = .ok (.iload 7, 2) := by decide +kernel
theorem dX6_chance_63 : decode cX6_chance 63 = .ok (.iadd, 1) := by decide +kernel
theorem dX6_chance_64 : decode cX6_chance 64 = .ok (.invokevirtual 344, 3) := by decide +kernel
theorem dX6_chance_67 : decode cX6_chance 67 = .ok (.iload 4, 2) := by decide +kernel
theorem dX6_chance_69 : decode cX6_chance 69 = .ok (.if_icmp .gt 7, 3) := by decide +kernel
theorem dX6_chance_72 : decode cX6_chance 72 = .ok (.lconst 1, 1) := by decide +kernel
theorem dX6_chance_73 : decode cX6_chance 73 = .ok (.goto 4, 3) := by decide +kernel
theorem dX6_chance_76 : decode cX6_chance 76 = .ok (.lconst 0, 1) := by decide +kernel
theorem dX6_chance_77 : decode cX6_chance 77 = .ok (.ladd, 1) := by decide +kernel
theorem dX6_chance_78 : decode cX6_chance 78 = .ok (.lstore 5, 2) := by decide +kernel
theorem dX6_chance_80 : decode cX6_chance 80 = .ok (.iinc 7 1, 3) := by decide +kernel
theorem dX6_chance_83 : decode cX6_chance 83 = .ok (.goto (-32), 3) := by decide +kernel
theorem dX6_chance_86 : decode cX6_chance 86 = .ok (.lload 5, 2) := by decide +kernel
theorem dX6_chance_88 : decode cX6_chance 88 = .ok (.lstore 7, 2) := by decide +kernel
theorem dX6_chance_90 : decode cX6_chance 90 = .ok (.iload_n 2, 1) := by decide +kernel
theorem dX6_chance_91 : decode cX6_chance 91 = .ok (.i2l, 1) := by decide +kernel
theorem dX6_chance_92 : decode cX6_chance 92 = .ok (.lstore 9, 2) := by decide +kernel
theorem dX6_chance_94 : decode cX6_chance 94 = .ok (.lload 9, 2) := by decide +kernel
theorem dX6_chance_96 : decode cX6_chance 96 = .ok (.lconst 0, 1) := by decide +kernel
theorem dX6_chance_97 : decode cX6_chance 97 = .ok (.lcmp, 1) := by decide +kernel
theorem dX6_chance_98 : decode cX6_chance 98 = .ok (.ifCond .eq 21, 3) := by decide +kernel
theorem dX6_chance_101 : decode cX6_chance 101 = .ok (.lload 7, 2) := by decide +kernel
theorem dX6_chance_103 : decode cX6_chance 103 = .ok (.lload 9, 2) := by decide +kernel
theorem dX6_chance_105 : decode cX6_chance 105 = .ok (.lrem, 1) := by decide +kernel
theorem dX6_chance_106 : decode cX6_chance 106 = .ok (.lstore 11, 2) := by decide +kernel
theorem dX6_chance_108 : decode cX6_chance 108 = .ok (.lload 9, 2) := by decide +kernel
theorem dX6_chance_110 : decode cX6_chance 110 = .ok (.lstore 7, 2) := by decide +kernel
theorem dX6_chance_112 : decode cX6_chance 112 = .ok (.lload 11, 2) := by decide +kernel
theorem dX6_chance_114 : decode cX6_chance 114 = .ok (.lstore 9, 2) := by decide +kernel
theorem dX6_chance_116 : decode cX6_chance 116 = .ok (.goto (-22), 3) := by decide +kernel
theorem dX6_chance_119 : decode cX6_chance 119 = .ok (.iload_n 3, 1) := by decide +kernel
theorem dX6_chance_120 : decode cX6_chance 120 = .ok (.ifCond .ne 11, 3) := by decide +kernel
theorem dX6_chance_123 : decode cX6_chance 123 = .ok (.lload 5, 2) := by decide +kernel
theorem dX6_chance_125 : decode cX6_chance 125 = .ok (.lload 7, 2) := by decide +kernel
theorem dX6_chance_127 : decode cX6_chance 127 = .ok (.ldiv, 1) := by decide +kernel
theorem dX6_chance_128 : decode cX6_chance 128 = .ok (.goto 8, 3) := by decide +kernel
theorem dX6_chance_131 : decode cX6_chance 131 = .ok (.iload_n 2, 1) := by decide +kernel
theorem dX6_chance_132 : decode cX6_chance 132 = .ok (.i2l, 1) := by decide +kernel
theorem dX6_chance_133 : decode cX6_chance 133 = .ok (.lload 7, 2) := by decide +kernel
theorem dX6_chance_135 : decode cX6_chance 135 = .ok (.ldiv, 1) := by decide +kernel
theorem dX6_chance_136 : decode cX6_chance 136 = .ok (.lreturn, 1) := by decide +kernel
theorem dX6_image_0 : decode cX6_image 0 = .ok (.iconst 0, 1) := by decide +kernel
theorem dX6_image_1 : decode cX6_image 1 = .ok (.istore_n 1, 1) := by decide +kernel
theorem dX6_image_2 : decode cX6_image 2 = .ok (.iload_n 1, 1) := by decide +kernel
theorem dX6_image_3 : decode cX6_image 3 = .ok (.iconst 5, 1) := by decide +kernel
theorem dX6_image_4 : decode cX6_image 4 = .ok (.if_icmp .ge 50, 3) := by decide +kernel
theorem dX6_image_7 : decode cX6_image 7 = .ok (.aload_n 0, 1) := by decide +kernel
theorem dX6_image_8 : decode cX6_image 8 = .ok (.getfield 65, 3) := by decide +kernel
theorem dX6_image_11 : decode cX6_image 11 = .ok (.iload_n 1, 1) := by decide +kernel
theorem dX6_image_12 : decode cX6_image 12 = .ok (.aload_n 0, 1) := by decide +kernel
theorem dX6_image_13 : decode cX6_image 13 = .ok (.getfield 32, 3) := by decide +kernel
theorem dX6_image_16 : decode cX6_image 16 = .ok (.iload_n 1, 1) := by decide +kernel
theorem dX6_image_17 : decode cX6_image 17 = .ok (.iaload, 1) := by decide +kernel
theorem dX6_image_18 : decode cX6_image 18 = .ok (.iastore, 1) := by decide +kernel
theorem dX6_image_19 : decode cX6_image 19 = .ok (.aload_n 0, 1) := by decide +kernel
theorem dX6_image_20 : decode cX6_image 20 = .ok (.getfield 65, 3) := by decide +kernel
theorem dX6_image_23 : decode cX6_image 23 = .ok (.iconst 5, 1) := by decide +kernel
theorem dX6_image_24 : decode cX6_image 24 = .ok (.iload_n 1, 1) := by decide +kernel
theorem dX6_image_25 : decode cX6_image 25 = .ok (.iadd, 1) := by decide +kernel
theorem dX6_image_26 : decode cX6_image 26 = .ok (.aload_n 0, 1) := by decide +kernel
theorem dX6_image_27 : decode cX6_image 27 = .ok (.getfield 35, 3) := by decide +kernel
theorem dX6_image_30 : decode cX6_image 30 = .ok (.iload_n 1, 1) := by decide +kernel
theorem dX6_image_31 : decode cX6_image 31 = .ok (.iaload, 1) := by decide +kernel
theorem dX6_image_32 : decode cX6_image 32 = .ok (.iastore, 1) := by decide +kernel
theorem dX6_image_33 : decode cX6_image 33 = .ok (.aload_n 0, 1) := by decide +kernel
theorem dX6_image_34 : decode cX6_image 34 = .ok (.getfield 65, 3) := by decide +kernel
theorem dX6_image_37 : decode cX6_image 37 = .ok (.bipush 10, 2) := by decide +kernel
theorem dX6_image_39 : decode cX6_image 39 = .ok (.iload_n 1, 1) := by decide +kernel
theorem dX6_image_40 : decode cX6_image 40 = .ok (.iadd, 1) := by decide +kernel
theorem dX6_image_41 : decode cX6_image 41 = .ok (.aload_n 0, 1) := by decide +kernel
theorem dX6_image_42 : decode cX6_image 42 = .ok (.getfield 38, 3) := by decide +kernel
theorem dX6_image_45 : decode cX6_image 45 = .ok (.iload_n 1, 1) := by decide +kernel
theorem dX6_image_46 : decode cX6_image 46 = .ok (.iaload, 1) := by decide +kernel
theorem dX6_image_47 : decode cX6_image 47 = .ok (.iastore, 1) := by decide +kernel
theorem dX6_image_48 : decode cX6_image 48 = .ok (.iinc 1 1, 3) := by decide +kernel
theorem dX6_image_51 : decode cX6_image 51 = .ok (.goto (-49), 3) := by decide +kernel
theorem dX6_image_54 : decode cX6_image 54 = .ok (.aload_n 0, 1) := by decide +kernel
theorem dX6_image_55 : decode cX6_image 55 = .ok (.aload_n 0, 1) := by decide +kernel
theorem dX6_image_56 : decode cX6_image 56 = .ok (.getfield 91, 3) := by decide +kernel
theorem dX6_image_59 : decode cX6_image 59 = .ok (.putfield 68, 3) := by decide +kernel
theorem dX6_image_62 : decode cX6_image 62 = .ok (.aload_n 0, 1) := by decide +kernel
theorem dX6_image_63 : decode cX6_image 63 = .ok (.aload_n 0, 1) := by decide +kernel
theorem dX6_image_64 : decode cX6_image 64 = .ok (.getfield 23, 3) := by decide +kernel
theorem dX6_image_67 : decode cX6_image 67 = .ok (.putfield 347, 3) := by decide +kernel
theorem dX6_image_70 : decode cX6_image 70 = .ok (.aload_n 0, 1) := by decide +kernel
theorem dX6_image_71 : decode cX6_image 71 = .ok (.aload_n 0, 1) := by decide +kernel
theorem dX6_image_72 : decode cX6_image 72 = .ok (.getfield 26, 3) := by decide +kernel
theorem dX6_image_75 : decode cX6_image 75 = .ok (.putfield 350, 3) := by decide +kernel
theorem dX6_image_78 : decode cX6_image 78 = .ok (.aload_n 0, 1) := by decide +kernel
theorem dX6_image_79 : decode cX6_image 79 = .ok (.aload_n 0, 1) := by decide +kernel
theorem dX6_image_80 : decode cX6_image 80 = .ok (.getfield 244, 3) := by decide +kernel
theorem dX6_image_83 : decode cX6_image 83 = .ok (.putfield 353, 3) := by decide +kernel
theorem dX6_image_86 : decode cX6_image 86 = .ok (.aload_n 0, 1) := by decide +kernel
theorem dX6_image_87 : decode cX6_image 87 = .ok (.getfield 91, 3) := by decide +kernel
theorem dX6_image_90 : decode cX6_image 90 = .ok (.ireturn, 1) := by decide +kernel
theorem dX6_back_0 : decode cX6_back 0 = .ok (.aload_n 0, 1) := by decide +kernel
theorem dX6_back_1 : decode cX6_back 1 = .ok (.getfield 68, 3) := by decide +kernel
theorem dX6_back_4 : decode cX6_back 4 = .ok (.iconst (-1), 1) := by decide +kernel
theorem dX6_back_5 : decode cX6_back 5 = .ok (.if_icmp .ne 6, 3) := by decide +kernel
theorem dX6_back_8 : decode cX6_back 8 = .ok (.bipush (-3), 2) := by decide +kernel
theorem dX6_back_10 : decode cX6_back 10 = .ok (.ireturn, 1) := by decide +kernel
theorem dX6_back_11 : decode cX6_back 11 = .ok (.iconst 0, 1) := by decide +kernel
theorem dX6_back_12 : decode cX6_back 12 = .ok (.istore_n 1, 1) := by decide +kernel
theorem dX6_back_13 : decode cX6_back 13 = .ok (.iload_n 1, 1) := by decide +kernel
theorem dX6_back_14 : decode cX6_back 14 = .ok (.iconst 5, 1) := by decide +kernel
theorem dX6_back_15 : decode cX6_back 15 = .ok (.if_icmp .ge 50, 3) := by decide +kernel
theorem dX6_back_18 : decode cX6_back 18 = .ok (.aload_n 0, 1) := by decide +kernel
theorem dX6_back_19 : decode cX6_back 19 = .ok (.getfield 32, 3) := by decide +kernel
theorem dX6_back_22 : decode cX6_back 22 = .ok (.iload_n 1, 1) := by decide +kernel
theorem dX6_back_23 : decode cX6_back 23 = .ok (.aload_n 0, 1) := by decide +kernel
theorem dX6_back_24 : decode cX6_back 24 = .ok (.getfield 65, 3) := by decide +kernel
theorem dX6_back_27 : decode cX6_back 27 = .ok (.iload_n 1, 1) := by decide +kernel
theorem dX6_back_28 : decode cX6_back 28 = .ok (.iaload, 1) := by decide +kernel
theorem dX6_back_29 : decode cX6_back 29 = .ok (.iastore, 1) := by decide +kernel
theorem dX6_back_30 : decode cX6_back 30 = .ok (.aload_n 0, 1) := by decide +kernel
theorem dX6_back_31 : decode cX6_back 31 = .ok (.getfield 35, 3) := by decide +kernel
theorem dX6_back_34 : decode cX6_back 34 = .ok (.iload_n 1, 1) := by decide +kernel
theorem dX6_back_35 : decode cX6_back 35 = .ok (.aload_n 0, 1) := by decide +kernel
theorem dX6_back_36 : decode cX6_back 36 = .ok (.getfield 65, 3) := by decide +kernel
theorem dX6_back_39 : decode cX6_back 39 = .ok (.iconst 5, 1) := by decide +kernel
theorem dX6_back_40 : decode cX6_back 40 = .ok (.iload_n 1, 1) := by decide +kernel
theorem dX6_back_41 : decode cX6_back 41 = .ok (.iadd, 1) := by decide +kernel
theorem dX6_back_42 : decode cX6_back 42 = .ok (.iaload, 1) := by decide +kernel
theorem dX6_back_43 : decode cX6_back 43 = .ok (.iastore, 1) := by decide +kernel
theorem dX6_back_44 : decode cX6_back 44 = .ok (.aload_n 0, 1) := by decide +kernel
theorem dX6_back_45 : decode cX6_back 45 = .ok (.getfield 38, 3) := by decide +kernel
theorem dX6_back_48 : decode cX6_back 48 = .ok (.iload_n 1, 1) := by decide +kernel
theorem dX6_back_49 : decode cX6_back 49 = .ok (.aload_n 0, 1) := by decide +kernel
theorem dX6_back_50 : decode cX6_back 50 = .ok (.getfield 65, 3) := by decide +kernel
theorem dX6_back_53 : decode cX6_back 53 = .ok (.bipush 10, 2) := by decide +kernel
theorem dX6_back_55 : decode cX6_back 55 = .ok (.iload_n 1, 1) := by decide +kernel
theorem dX6_back_56 : decode cX6_back 56 = .ok (.iadd, 1) := by decide +kernel
theorem dX6_back_57 : decode cX6_back 57 = .ok (.iaload, 1) := by decide +kernel
theorem dX6_back_58 : decode cX6_back 58 = .ok (.iastore, 1) := by decide +kernel
theorem dX6_back_59 : decode cX6_back 59 = .ok (.iinc 1 1, 3) := by decide +kernel
theorem dX6_back_62 : decode cX6_back 62 = .ok (.goto (-49), 3) := by decide +kernel
theorem dX6_back_65 : decode cX6_back 65 = .ok (.aload_n 0, 1) := by decide +kernel
theorem dX6_back_66 : decode cX6_back 66 = .ok (.aload_n 0, 1) := by decide +kernel
theorem dX6_back_67 : decode cX6_back 67 = .ok (.getfield 68, 3) := by decide +kernel
theorem dX6_back_70 : decode cX6_back 70 = .ok (.putfield 91, 3) := by decide +kernel
theorem dX6_back_73 : decode cX6_back 73 = .ok (.aload_n 0, 1) := by decide +kernel
theorem dX6_back_74 : decode cX6_back 74 = .ok (.aload_n 0, 1) := by decide +kernel
theorem dX6_back_75 : decode cX6_back 75 = .ok (.getfield 347, 3) := by decide +kernel
theorem dX6_back_78 : decode cX6_back 78 = .ok (.putfield 23, 3) := by decide +kernel
theorem dX6_back_81 : decode cX6_back 81 = .ok (.aload_n 0, 1) := by decide +kernel
theorem dX6_back_82 : decode cX6_back 82 = .ok (.aload_n 0, 1) := by decide +kernel
theorem dX6_back_83 : decode cX6_back 83 = .ok (.getfield 350, 3) := by decide +kernel
theorem dX6_back_86 : decode cX6_back 86 = .ok (.putfield 26, 3) := by decide +kernel
theorem dX6_back_89 : decode cX6_back 89 = .ok (.aload_n 0, 1) := by decide +kernel
theorem dX6_back_90 : decode cX6_back 90 = .ok (.aload_n 0, 1) := by decide +kernel
theorem dX6_back_91 : decode cX6_back 91 = .ok (.getfield 353, 3) := by decide +kernel
theorem dX6_back_94 : decode cX6_back 94 = .ok (.putfield 244, 3) := by decide +kernel
theorem dX6_back_97 : decode cX6_back 97 = .ok (.aload_n 0, 1) := by decide +kernel
theorem dX6_back_98 : decode cX6_back 98 = .ok (.getfield 91, 3) := by decide +kernel
theorem dX6_back_101 : decode cX6_back 101 = .ok (.ireturn, 1) := by decide +kernel
theorem dX6_count_0 : decode cX6_count 0 = .ok (.iload_n 1, 1) := by decide +kernel
theorem dX6_count_1 : decode cX6_count 1 = .ok (.i2l, 1) := by decide +kernel
theorem dX6_count_2 : decode cX6_count 2 = .ok (.lconst 0, 1) := by decide +kernel
theorem dX6_count_3 : decode cX6_count 3 = .ok (.ldc2_w 356, 3) := by decide +kernel
theorem dX6_count_6 : decode cX6_count 6 = .ok (.invokestatic 94, 3) := by decide +kernel
theorem dX6_count_9 : decode cX6_count 9 = .ok (.ifCond .ne 6, 3) := by decide +kernel
theorem dX6_count_12 : decode cX6_count 12 = .ok (.bipush (-2), 2) := by decide +kernel
theorem dX6_count_14 : decode cX6_count 14 = .ok (.ireturn, 1) := by decide +kernel
theorem dX6_count_15 : decode cX6_count 15 = .ok (.iload_n 1, 1) := by decide +kernel
theorem dX6_count_16 : decode cX6_count 16 = .ok (.bipush 6, 2) := by decide +kernel
theorem dX6_count_18 : decode cX6_count 18 = .ok (.if_icmp .ge 67, 3) := by decide +kernel
theorem dX6_count_21 : decode cX6_count 21 = .ok (.iload_n 1, 1) := by decide +kernel
theorem dX6_count_22 : decode cX6_count 22 = .ok (.ifCond .ne 10, 3) := by decide +kernel
theorem dX6_count_25 : decode cX6_count 25 = .ok (.aload_n 0, 1) := by decide +kernel
theorem dX6_count_26 : decode cX6_count 26 = .ok (.getfield 91, 3) := by decide +kernel
theorem dX6_count_29 : decode cX6_count 29 = .ok (.goto 55, 3) := by decide +kernel
theorem dX6_count_32 : decode cX6_count 32 = .ok (.iload_n 1, 1) := by decide +kernel
theorem dX6_count_33 : decode cX6_count 33 = .ok (.iconst 1, 1) := by decide +kernel
theorem dX6_count_34 : decode cX6_count 34 = .ok (.if_icmp .ne 10, 3) := by decide +kernel
theorem dX6_count_37 : decode cX6_count 37 = .ok (.aload_n 0, 1) := by decide +kernel
theorem dX6_count_38 : decode cX6_count 38 = .ok (.getfield 23, 3) := by decide +kernel
theorem dX6_count_41 : decode cX6_count 41 = .ok (.goto 43, 3) := by decide +kernel
theorem dX6_count_44 : decode cX6_count 44 = .ok (.iload_n 1, 1) := by decide +kernel
theorem dX6_count_45 : decode cX6_count 45 = .ok (.iconst 2, 1) := by decide +kernel
theorem dX6_count_46 : decode cX6_count 46 = .ok (.if_icmp .ne 10, 3) := by decide +kernel
theorem dX6_count_49 : decode cX6_count 49 = .ok (.aload_n 0, 1) := by decide +kernel
theorem dX6_count_50 : decode cX6_count 50 = .ok (.getfield 26, 3) := by decide +kernel
theorem dX6_count_53 : decode cX6_count 53 = .ok (.goto 31, 3) := by decide +kernel
theorem dX6_count_56 : decode cX6_count 56 = .ok (.iload_n 1, 1) := by decide +kernel
theorem dX6_count_57 : decode cX6_count 57 = .ok (.iconst 3, 1) := by decide +kernel
theorem dX6_count_58 : decode cX6_count 58 = .ok (.if_icmp .ne 10, 3) := by decide +kernel
theorem dX6_count_61 : decode cX6_count 61 = .ok (.aload_n 0, 1) := by decide +kernel
theorem dX6_count_62 : decode cX6_count 62 = .ok (.getfield 88, 3) := by decide +kernel
theorem dX6_count_65 : decode cX6_count 65 = .ok (.goto 19, 3) := by decide +kernel
theorem dX6_count_68 : decode cX6_count 68 = .ok (.iload_n 1, 1) := by decide +kernel
theorem dX6_count_69 : decode cX6_count 69 = .ok (.iconst 4, 1) := by decide +kernel
theorem dX6_count_70 : decode cX6_count 70 = .ok (.if_icmp .ne 10, 3) := by decide +kernel
theorem dX6_count_73 : decode cX6_count 73 = .ok (.aload_n 0, 1) := by decide +kernel
theorem dX6_count_74 : decode cX6_count 74 = .ok (.getfield 126, 3) := by decide +kernel
theorem dX6_count_77 : decode cX6_count 77 = .ok (.goto 7, 3) := by decide +kernel
theorem dX6_count_80 : decode cX6_count 80 = .ok (.aload_n 0, 1) := by decide +kernel
theorem dX6_count_81 : decode cX6_count 81 = .ok (.getfield 244, 3) := by decide +kernel
theorem dX6_count_84 : decode cX6_count 84 = .ok (.ireturn, 1) := by decide +kernel
theorem dX6_count_85 : decode cX6_count 85 = .ok (.iload_n 1, 1) := by decide +kernel
theorem dX6_count_86 : decode cX6_count 86 = .ok (.bipush 6, 2) := by decide +kernel
theorem dX6_count_88 : decode cX6_count 88 = .ok (.if_icmp .ne 8, 3) := by decide +kernel
theorem dX6_count_91 : decode cX6_count 91 = .ok (.aload_n 0, 1) := by decide +kernel
theorem dX6_count_92 : decode cX6_count 92 = .ok (.invokevirtual 325, 3) := by decide +kernel
theorem dX6_count_95 : decode cX6_count 95 = .ok (.ireturn, 1) := by decide +kernel
theorem dX6_count_96 : decode cX6_count 96 = .ok (.iconst 0, 1) := by decide +kernel
theorem dX6_count_97 : decode cX6_count 97 = .ok (.istore_n 2, 1) := by decide +kernel
theorem dX6_count_98 : decode cX6_count 98 = .ok (.iconst 0, 1) := by decide +kernel
theorem dX6_count_99 : decode cX6_count 99 = .ok (.istore_n 3, 1) := by decide +kernel
theorem dX6_count_100 : decode cX6_count 100 = .ok (.iload_n 3, 1) := by decide +kernel
theorem dX6_count_101 : decode cX6_count 101 = .ok (.aload_n 0, 1) := by decide +kernel
theorem dX6_count_102 : decode cX6_count 102 = .ok (.getfield 91, 3) := by decide +kernel
theorem dX6_count_105 : decode cX6_count 105 = .ok (.if_icmp .ge 18, 3) := by decide +kernel
theorem dX6_count_108 : decode cX6_count 108 = .ok (.iload_n 2, 1) := by decide +kernel
theorem dX6_count_109 : decode cX6_count 109 = .ok (.aload_n 0, 1) := by decide +kernel
theorem dX6_count_110 : decode cX6_count 110 = .ok (.getfield 35, 3) := by decide +kernel
theorem dX6_count_113 : decode cX6_count 113 = .ok (.iload_n 3, 1) := by decide +kernel
theorem dX6_count_114 : decode cX6_count 114 = .ok (.iaload, 1) := by decide +kernel
theorem dX6_count_115 : decode cX6_count 115 = .ok (.iadd, 1) := by decide +kernel
theorem dX6_count_116 : decode cX6_count 116 = .ok (.istore_n 2, 1) := by decide +kernel
theorem dX6_count_117 : decode cX6_count 117 = .ok (.iinc 3 1, 3) := by decide +kernel
theorem dX6_count_120 : decode cX6_count 120 = .ok (.goto (-20), 3) := by decide +kernel
theorem dX6_count_123 : decode cX6_count 123 = .ok (.iload_n 2, 1) := by decide +kernel
theorem dX6_count_124 : decode cX6_count 124 = .ok (.ireturn, 1) := by decide +kernel
theorem dX6_isSheet_0 : decode cX6_isSheet 0 = .ok (.iload_n 0, 1) := by decide +kernel
theorem dX6_isSheet_1 : decode cX6_isSheet 1 = .ok (.i2l, 1) := by decide +kernel
theorem dX6_isSheet_2 : decode cX6_isSheet 2 = .ok (.lconst 0, 1) := by decide +kernel
theorem dX6_isSheet_3 : decode cX6_isSheet 3 = .ok (.ldc2_w 299, 3) := by decide +kernel
theorem dX6_isSheet_6 : decode cX6_isSheet 6 = .ok (.invokestatic 94, 3) := by decide +kernel
theorem dX6_isSheet_9 : decode cX6_isSheet 9 = .ok (.ireturn, 1) := by decide +kernel
theorem dX6_sheet_0 : decode cX6_sheet 0 = .ok (.iload_n 1, 1) := by decide +kernel
theorem dX6_sheet_1 : decode cX6_sheet 1 = .ok (.invokestatic 303, 3) := by decide +kernel
theorem dX6_sheet_4 : decode cX6_sheet 4 = .ok (.ifCond .eq 27, 3) := by decide +kernel
theorem dX6_sheet_7 : decode cX6_sheet 7 = .ok (.iload_n 2, 1) := by decide +kernel
theorem dX6_sheet_8 : decode cX6_sheet 8 = .ok (.i2l, 1) := by decide +kernel
theorem dX6_sheet_9 : decode cX6_sheet 9 = .ok (.ldc2_w 358, 3) := by decide +kernel
theorem dX6_sheet_12 : decode cX6_sheet 12 = .ok (.ldc2_w 106, 3) := by decide +kernel
theorem dX6_sheet_15 : decode cX6_sheet 15 = .ok (.invokestatic 94, 3) := by decide +kernel
theorem dX6_sheet_18 : decode cX6_sheet 18 = .ok (.ifCond .eq 13, 3) := by decide +kernel
theorem dX6_sheet_21 : decode cX6_sheet 21 = .ok (.iload_n 2, 1) := by decide +kernel
theorem dX6_sheet_22 : decode cX6_sheet 22 = .ok (.ifCond .lt 12, 3) := by decide +kernel
theorem dX6_sheet_25 : decode cX6_sheet 25 = .ok (.iload_n 3, 1) := by decide +kernel
theorem dX6_sheet_26 : decode cX6_sheet 26 = .ok (.bipush 40, 2) := by decide +kernel
theorem dX6_sheet_28 : decode cX6_sheet 28 = .ok (.if_icmp .le 6, 3) := by decide +kernel
theorem dX6_sheet_31 : decode cX6_sheet 31 = .ok (.bipush (-2), 2) := by decide +kernel
theorem dX6_sheet_33 : decode cX6_sheet 33 = .ok (.ireturn, 1) := by decide +kernel
theorem dX6_sheet_34 : decode cX6_sheet 34 = .ok (.iload_n 2, 1) := by decide +kernel
theorem dX6_sheet_35 : decode cX6_sheet 35 = .ok (.ifCond .lt 10, 3) := by decide +kernel
theorem dX6_sheet_38 : decode cX6_sheet 38 = .ok (.iload_n 3, 1) := by decide +kernel
theorem dX6_sheet_39 : decode cX6_sheet 39 = .ok (.ifCond .ge 6, 3) := by decide +kernel
theorem dX6_sheet_42 : decode cX6_sheet 42 = .ok (.bipush (-14), 2) := by decide +kernel
theorem dX6_sheet_44 : decode cX6_sheet 44 = .ok (.ireturn, 1) := by decide +kernel
theorem dX6_sheet_45 : decode cX6_sheet 45 = .ok (.aload_n 0, 1) := by decide +kernel
theorem dX6_sheet_46 : decode cX6_sheet 46 = .ok (.getfield 71, 3) := by decide +kernel
theorem dX6_sheet_49 : decode cX6_sheet 49 = .ok (.iload_n 1, 1) := by decide +kernel
theorem dX6_sheet_50 : decode cX6_sheet 50 = .ok (.iload_n 2, 1) := by decide +kernel
theorem dX6_sheet_51 : decode cX6_sheet 51 = .ok (.ifCond .lt 7, 3) := by decide +kernel
theorem dX6_sheet_54 : decode cX6_sheet 54 = .ok (.iconst 1, 1) := by decide +kernel
theorem dX6_sheet_55 : decode cX6_sheet 55 = .ok (.goto 4, 3) := by decide +kernel
theorem dX6_sheet_58 : decode cX6_sheet 58 = .ok (.iconst 0, 1) := by decide +kernel
theorem dX6_sheet_59 : decode cX6_sheet 59 = .ok (.bastore, 1) := by decide +kernel
theorem dX6_sheet_60 : decode cX6_sheet 60 = .ok (.aload_n 0, 1) := by decide +kernel
theorem dX6_sheet_61 : decode cX6_sheet 61 = .ok (.getfield 75, 3) := by decide +kernel
theorem dX6_sheet_64 : decode cX6_sheet 64 = .ok (.iload_n 1, 1) := by decide +kernel
theorem dX6_sheet_65 : decode cX6_sheet 65 = .ok (.iload_n 2, 1) := by decide +kernel
theorem dX6_sheet_66 : decode cX6_sheet 66 = .ok (.iastore, 1) := by decide +kernel
theorem dX6_sheet_67 : decode cX6_sheet 67 = .ok (.aload_n 0, 1) := by decide +kernel
theorem dX6_sheet_68 : decode cX6_sheet 68 = .ok (.getfield 78, 3) := by decide +kernel
theorem dX6_sheet_71 : decode cX6_sheet 71 = .ok (.iload_n 1, 1) := by decide +kernel
theorem dX6_sheet_72 : decode cX6_sheet 72 = .ok (.iload_n 3, 1) := by decide +kernel
theorem dX6_sheet_73 : decode cX6_sheet 73 = .ok (.iastore, 1) := by decide +kernel
theorem dX6_sheet_74 : decode cX6_sheet 74 = .ok (.iconst 0, 1) := by decide +kernel
theorem dX6_sheet_75 : decode cX6_sheet 75 = .ok (.istore 4, 2) := by decide +kernel
theorem dX6_sheet_77 : decode cX6_sheet 77 = .ok (.iload 4, 2) := by decide +kernel
theorem dX6_sheet_79 : decode cX6_sheet 79 = .ok (.iload_n 3, 1) := by decide +kernel
theorem dX6_sheet_80 : decode cX6_sheet 80 = .ok (.if_icmp .ge 26, 3) := by decide +kernel
theorem dX6_sheet_83 : decode cX6_sheet 83 = .ok (.iload_n 2, 1) := by decide +kernel
theorem dX6_sheet_84 : decode cX6_sheet 84 = .ok (.ifCond .lt 22, 3) := by decide +kernel
theorem dX6_sheet_87 : decode cX6_sheet 87 = .ok (.aload_n 0, 1) := by decide +kernel
theorem dX6_sheet_88 : decode cX6_sheet 88 = .ok (.getfield 81, 3) := by decide +kernel
theorem dX6_sheet_91 : decode cX6_sheet 91 = .ok (.bipush 40, 2) := by decide +kernel
theorem dX6_sheet_93 : decode cX6_sheet 93 = .ok (.iload_n 1, 1) := by decide +kernel
theorem dX6_sheet_94 : decode cX6_sheet 94 = .ok (.imul, 1) := by decide +kernel
theorem dX6_sheet_95 : decode cX6_sheet 95 = .ok (.iload 4, 2) := by decide +kernel
theorem dX6_sheet_97 : decode cX6_sheet 97 = .ok (.iadd, 1) := by decide +kernel
theorem dX6_sheet_98 : decode cX6_sheet 98 = .ok (.iconst 0, 1) := by decide +kernel
theorem dX6_sheet_99 : decode cX6_sheet 99 = .ok (.iastore, 1) := by decide +kernel
theorem dX6_sheet_100 : decode cX6_sheet 100 = .ok (.iinc 4 1, 3) := by decide +kernel
theorem dX6_sheet_103 : decode cX6_sheet 103 = .ok (.goto (-26), 3) := by decide +kernel
theorem dX6_sheet_106 : decode cX6_sheet 106 = .ok (.iconst 1, 1) := by decide +kernel
theorem dX6_sheet_107 : decode cX6_sheet 107 = .ok (.ireturn, 1) := by decide +kernel
theorem dX6_cell_0 : decode cX6_cell 0 = .ok (.iload_n 1, 1) := by decide +kernel
theorem dX6_cell_1 : decode cX6_cell 1 = .ok (.invokestatic 303, 3) := by decide +kernel
theorem dX6_cell_4 : decode cX6_cell 4 = .ok (.ifCond .ne 6, 3) := by decide +kernel
theorem dX6_cell_7 : decode cX6_cell 7 = .ok (.bipush (-2), 2) := by decide +kernel
theorem dX6_cell_9 : decode cX6_cell 9 = .ok (.ireturn, 1) := by decide +kernel
theorem dX6_cell_10 : decode cX6_cell 10 = .ok (.aload_n 0, 1) := by decide +kernel
theorem dX6_cell_11 : decode cX6_cell 11 = .ok (.getfield 71, 3) := by decide +kernel
theorem dX6_cell_14 : decode cX6_cell 14 = .ok (.iload_n 1, 1) := by decide +kernel
theorem dX6_cell_15 : decode cX6_cell 15 = .ok (.baload, 1) := by decide +kernel
theorem dX6_cell_16 : decode cX6_cell 16 = .ok (.ifCond .ne 6, 3) := by decide +kernel
theorem dX6_cell_19 : decode cX6_cell 19 = .ok (.bipush (-11), 2) := by decide +kernel
theorem dX6_cell_21 : decode cX6_cell 21 = .ok (.ireturn, 1) := by decide +kernel
theorem dX6_cell_22 : decode cX6_cell 22 = .ok (.iload_n 2, 1) := by decide +kernel
theorem dX6_cell_23 : decode cX6_cell 23 = .ok (.i2l, 1) := by decide +kernel
theorem dX6_cell_24 : decode cX6_cell 24 = .ok (.lconst 0, 1) := by decide +kernel
theorem dX6_cell_25 : decode cX6_cell 25 = .ok (.aload_n 0, 1) := by decide +kernel
theorem dX6_cell_26 : decode cX6_cell 26 = .ok (.getfield 78, 3) := by decide +kernel
theorem dX6_cell_29 : decode cX6_cell 29 = .ok (.iload_n 1, 1) := by decide +kernel
theorem dX6_cell_30 : decode cX6_cell 30 = .ok (.iaload, 1) := by decide +kernel
theorem dX6_cell_31 : decode cX6_cell 31 = .ok (.iconst 1, 1) := by decide +kernel
theorem dX6_cell_32 : decode cX6_cell 32 = .ok (.isub, 1) := by decide +kernel
theorem dX6_cell_33 : decode cX6_cell 33 = .ok (.i2l, 1) := by decide +kernel
theorem dX6_cell_34 : decode cX6_cell 34 = .ok (.invokestatic 94, 3) := by decide +kernel
theorem dX6_cell_37 : decode cX6_cell 37 = .ok (.ifCond .ne 6, 3) := by decide +kernel
theorem dX6_cell_40 : decode cX6_cell 40 = .ok (.bipush (-12), 2) := by decide +kernel
theorem dX6_cell_42 : decode cX6_cell 42 = .ok (.ireturn, 1) := by decide +kernel
theorem dX6_cell_43 : decode cX6_cell 43 = .ok (.aload_n 0, 1) := by decide +kernel
theorem dX6_cell_44 : decode cX6_cell 44 = .ok (.getfield 81, 3) := by decide +kernel
theorem dX6_cell_47 : decode cX6_cell 47 = .ok (.bipush 40, 2) := by decide +kernel
theorem dX6_cell_49 : decode cX6_cell 49 = .ok (.iload_n 1, 1) := by decide +kernel
theorem dX6_cell_50 : decode cX6_cell 50 = .ok (.imul, 1) := by decide +kernel
theorem dX6_cell_51 : decode cX6_cell 51 = .ok (.iload_n 2, 1) := by decide +kernel
theorem dX6_cell_52 : decode cX6_cell 52 = .ok (.iadd, 1) := by decide +kernel
theorem dX6_cell_53 : decode cX6_cell 53 = .ok (.aload_n 0, 1) := by decide +kernel
theorem dX6_cell_54 : decode cX6_cell 54 = .ok (.getfield 75, 3) := by decide +kernel
theorem dX6_cell_57 : decode cX6_cell 57 = .ok (.iload_n 1, 1) := by decide +kernel
theorem dX6_cell_58 : decode cX6_cell 58 = .ok (.iaload, 1) := by decide +kernel
theorem dX6_cell_59 : decode cX6_cell 59 = .ok (.ifCond .ne 8, 3) := by decide +kernel
theorem dX6_cell_62 : decode cX6_cell 62 = .ok (.iload_n 3, 1) := by decide +kernel
theorem dX6_cell_63 : decode cX6_cell 63 = .ok (.i2b, 1) := by decide +kernel
theorem dX6_cell_64 : decode cX6_cell 64 = .ok (.goto 19, 3) := by decide +kernel
theorem dX6_cell_67 : decode cX6_cell 67 = .ok (.aload_n 0, 1) := by decide +kernel
theorem dX6_cell_68 : decode cX6_cell 68 = .ok (.getfield 75, 3) := by decide +kernel
theorem dX6_cell_71 : decode cX6_cell 71 = .ok (.iload_n 1, 1) := by decide +kernel
theorem dX6_cell_72 : decode cX6_cell 72 = .ok (.iaload, 1) := by decide +kernel
theorem dX6_cell_73 : decode cX6_cell 73 = .ok (.iconst 1, 1) := by decide +kernel
theorem dX6_cell_74 : decode cX6_cell 74 = .ok (.if_icmp .ne 8, 3) := by decide +kernel
theorem dX6_cell_77 : decode cX6_cell 77 = .ok (.iload_n 3, 1) := by decide +kernel
theorem dX6_cell_78 : decode cX6_cell 78 = .ok (.i2s, 1) := by decide +kernel
theorem dX6_cell_79 : decode cX6_cell 79 = .ok (.goto 4, 3) := by decide +kernel
theorem dX6_cell_82 : decode cX6_cell 82 = .ok (.iload_n 3, 1) := by decide +kernel
theorem dX6_cell_83 : decode cX6_cell 83 = .ok (.iastore, 1) := by decide +kernel
theorem dX6_cell_84 : decode cX6_cell 84 = .ok (.iconst 1, 1) := by decide +kernel
theorem dX6_cell_85 : decode cX6_cell 85 = .ok (.ireturn, 1) := by decide +kernel
theorem dX6_copy_0 : decode cX6_copy 0 = .ok (.iload_n 1, 1) := by decide +kernel
theorem dX6_copy_1 : decode cX6_copy 1 = .ok (.invokestatic 303, 3) := by decide +kernel
theorem dX6_copy_4 : decode cX6_copy 4 = .ok (.ifCond .eq 10, 3) := by decide +kernel
theorem dX6_copy_7 : decode cX6_copy 7 = .ok (.iload_n 3, 1) := by decide +kernel
theorem dX6_copy_8 : decode cX6_copy 8 = .ok (.invokestatic 303, 3) := by decide +kernel
theorem dX6_copy_11 : decode cX6_copy 11 = .ok (.ifCond .ne 6, 3) := by decide +kernel
theorem dX6_copy_14 : decode cX6_copy 14 = .ok (.bipush (-2), 2) := by decide +kernel
theorem dX6_copy_16 : decode cX6_copy 16 = .ok (.ireturn, 1) := by decide +kernel
theorem dX6_copy_17 : decode cX6_copy 17 = .ok (.aload_n 0, 1) := by decide +kernel
theorem dX6_copy_18 : decode cX6_copy 18 = .ok (.getfield 71, 3) := by decide +kernel
theorem dX6_copy_21 : decode cX6_copy 21 = .ok (.iload_n 1, 1) := by decide +kernel
theorem dX6_copy_22 : decode cX6_copy 22 = .ok (.baload, 1) := by decide +kernel
theorem dX6_copy_23 : decode cX6_copy 23 = .ok (.ifCond .eq 12, 3) := by decide +kernel
theorem dX6_copy_26 : decode cX6_copy 26 = .ok (.aload_n 0, 1) := by decide +kernel
theorem dX6_copy_27 : decode cX6_copy 27 = .ok (.getfield 71, 3) := by decide +kernel
theorem dX6_copy_30 : decode cX6_copy 30 = .ok (.iload_n 3, 1) := by decide +kernel
theorem dX6_copy_31 : decode cX6_copy 31 = .ok (.baload, 1) := by decide +kernel
theorem dX6_copy_32 : decode cX6_copy 32 = .ok (.ifCond .ne 6, 3) := by decide +kernel
theorem dX6_copy_35 : decode cX6_copy 35 = .ok (.bipush (-11), 2) := by decide +kernel
theorem dX6_copy_37 : decode cX6_copy 37 = .ok (.ireturn, 1) := by decide +kernel
theorem dX6_copy_38 : decode cX6_copy 38 = .ok (.aload_n 0, 1) := by decide +kernel
theorem dX6_copy_39 : decode cX6_copy 39 = .ok (.getfield 75, 3) := by decide +kernel
theorem dX6_copy_42 : decode cX6_copy 42 = .ok (.iload_n 1, 1) := by decide +kernel
theorem dX6_copy_43 : decode cX6_copy 43 = .ok (.iaload, 1) := by decide +kernel
theorem dX6_copy_44 : decode cX6_copy 44 = .ok (.aload_n 0, 1) := by decide +kernel
theorem dX6_copy_45 : decode cX6_copy 45 = .ok (.getfield 75, 3) := by decide +kernel
theorem dX6_copy_48 : decode cX6_copy 48 = .ok (.iload_n 3, 1) := by decide +kernel
theorem dX6_copy_49 : decode cX6_copy 49 = .ok (.iaload, 1) := by decide +kernel
theorem dX6_copy_50 : decode cX6_copy 50 = .ok (.if_icmp .eq 6, 3) := by decide +kernel
theorem dX6_copy_53 : decode cX6_copy 53 = .ok (.bipush (-13), 2) := by decide +kernel
theorem dX6_copy_55 : decode cX6_copy 55 = .ok (.ireturn, 1) := by decide +kernel
theorem dX6_copy_56 : decode cX6_copy 56 = .ok (.iload 5, 2) := by decide +kernel
theorem dX6_copy_58 : decode cX6_copy 58 = .ok (.ifCond .lt 39, 3) := by decide +kernel
theorem dX6_copy_61 : decode cX6_copy 61 = .ok (.iload_n 2, 1) := by decide +kernel
theorem dX6_copy_62 : decode cX6_copy 62 = .ok (.ifCond .lt 35, 3) := by decide +kernel
theorem dX6_copy_65 : decode cX6_copy 65 = .ok (.iload 4, 2) := by decide +kernel
theorem dX6_copy_67 : decode cX6_copy 67 = .ok (.ifCond .lt 30, 3) := by decide +kernel
theorem dX6_copy_70 : decode cX6_copy 70 = .ok (.iload_n 2, 1) := by decide +kernel
theorem dX6_copy_71 : decode cX6_copy 71 = .ok (.aload_n 0, 1) := by decide +kernel
theorem dX6_copy_72 : decode cX6_copy 72 = .ok (.getfield 78, 3) := by decide +kernel
theorem dX6_copy_75 : decode cX6_copy 75 = .ok (.iload_n 1, 1) := by decide +kernel
theorem dX6_copy_76 : decode cX6_copy 76 = .ok (.iaload, 1) := by decide +kernel
theorem dX6_copy_77 : decode cX6_copy 77 = .ok (.iload 5, 2) := by decide +kernel
theorem dX6_copy_79 : decode cX6_copy 79 = .ok (.isub, 1) := by decide +kernel
theorem dX6_copy_80 : decode cX6_copy 80 = .ok (.if_icmp .gt 17, 3) := by decide +kernel
theorem dX6_copy_83 : decode cX6_copy 83 = .ok (.iload 4, 2) := by decide +kernel
theorem dX6_copy_85 : decode cX6_copy 85 = .ok (.aload_n 0, 1) := by decide +kernel
theorem dX6_copy_86 : decode cX6_copy 86 = .ok (.getfield 78, 3) := by decide +kernel
theorem dX6_copy_89 : decode cX6_copy 89 = .ok (.iload_n 3, 1) := by decide +kernel
theorem dX6_copy_90 : decode cX6_copy 90 = .ok (.iaload, 1) := by decide +kernel
theorem dX6_copy_91 : decode cX6_copy 91 = .ok (.iload 5, 2) := by decide +kernel
theorem dX6_copy_93 : decode cX6_copy 93 = .ok (.isub, 1) := by decide +kernel
theorem dX6_copy_94 : decode cX6_copy 94 = .ok (.if_icmp .le 6, 3) := by decide +kernel
theorem dX6_copy_97 : decode cX6_copy 97 = .ok (.bipush (-12), 2) := by decide +kernel
theorem dX6_copy_99 : decode cX6_copy 99 = .ok (.ireturn, 1) := by decide +kernel
theorem dX6_copy_100 : decode cX6_copy 100 = .ok (.iload_n 1, 1) := by decide +kernel
theorem dX6_copy_101 : decode cX6_copy 101 = .ok (.iload_n 3, 1) := by decide +kernel
theorem dX6_copy_102 : decode cX6_copy 102 = .ok (.if_icmp .ne 13, 3) := by decide +kernel
theorem dX6_copy_105 : decode cX6_copy 105 = .ok (.iload_n 2, 1) := by decide +kernel
theorem dX6_copy_106 : decode cX6_copy 106 = .ok (.iload 4, 2) := by decide +kernel
theorem dX6_copy_108 : decode cX6_copy 108 = .ok (.if_icmp .ge 7, 3) := by decide +kernel
theorem dX6_copy_111 : decode cX6_copy 111 = .ok (.iconst 1, 1) := by decide +kernel
theorem dX6_copy_112 : decode cX6_copy 112 = .ok (.goto 4, 3) := by decide +kernel
theorem dX6_copy_115 : decode cX6_copy 115 = .ok (.iconst 0, 1) := by decide +kernel
theorem dX6_copy_116 : decode cX6_copy 116 = .ok (.istore 6, 2) := by decide +kernel
theorem dX6_copy_118 : decode cX6_copy 118 = .ok (.iconst 0, 1) := by decide +kernel
theorem dX6_copy_119 : decode cX6_copy 119 = .ok (.istore 7, 2) := by decide +kernel
theorem dX6_copy_121 : decode cX6_copy 121 = .ok (.iload 7, 2) := by decide +kernel
theorem dX6_copy_123 : decode cX6_copy 123 = .ok (.iload 5, 2) := by decide +kernel
theorem dX6_copy_125 : decode cX6_copy 125 = .ok (.if_icmp .ge 57, 3) := by decide +kernel
theorem dX6_copy_128 : decode cX6_copy 128 = .ok (.iload 6, 2) := by decide +kernel
theorem dX6_copy_130 : decode cX6_copy 130 = .ok (.ifCond .eq 13, 3) := by decide +kernel
theorem dX6_copy_133 : decode cX6_copy 133 = .ok (.iload 5, 2) := by decide +kernel
theorem dX6_copy_135 : decode cX6_copy 135 = .ok (.iconst 1, 1) := by decide +kernel
theorem dX6_copy_136 : decode cX6_copy 136 = .ok (.isub, 1) := by decide +kernel
theorem dX6_copy_137 : decode cX6_copy 137 = .ok (.iload 7, 2) := by decide +kernel
theorem dX6_copy_139 : decode cX6_copy 139 = .ok (.isub, 1) := by decide +kernel
theorem dX6_copy_140 : decode cX6_copy 140 = .ok (.goto 5, 3) := by decide +kernel
theorem dX6_copy_143 : decode cX6_copy 143 = .ok (.iload 7, 2) := by decide +kernel
theorem dX6_copy_145 : decode cX6_copy 145 = .ok (.istore 8, 2) := by decide +kernel
theorem dX6_copy_147 : decode cX6_copy 147 = .ok (.aload_n 0, 1) := by decide +kernel
theorem dX6_copy_148 : decode cX6_copy 148 = .ok (.getfield 81, 3) := by decide +kernel
theorem dX6_copy_151 : decode cX6_copy 151 = .ok (.bipush 40, 2) := by decide +kernel
theorem dX6_copy_153 : decode cX6_copy 153 = .ok (.iload_n 3, 1) := by decide +kernel
theorem dX6_copy_154 : decode cX6_copy 154 = .ok (.imul, 1) := by decide +kernel
theorem dX6_copy_155 : decode cX6_copy 155 = .ok (.iload 4, 2) := by decide +kernel
theorem dX6_copy_157 : decode cX6_copy 157 = .ok (.iadd, 1) := by decide +kernel
theorem dX6_copy_158 : decode cX6_copy 158 = .ok (.iload 8, 2) := by decide +kernel
theorem dX6_copy_160 : decode cX6_copy 160 = .ok (.iadd, 1) := by decide +kernel
theorem dX6_copy_161 : decode cX6_copy 161 = .ok (.aload_n 0, 1) := by decide +kernel
theorem dX6_copy_162 : decode cX6_copy 162 = .ok (.getfield 81, 3) := by decide +kernel
theorem dX6_copy_165 : decode cX6_copy 165 = .ok (.bipush 40, 2) := by decide +kernel
theorem dX6_copy_167 : decode cX6_copy 167 = .ok (.iload_n 1, 1) := by decide +kernel
theorem dX6_copy_168 : decode cX6_copy 168 = .ok (.imul, 1) := by decide +kernel
theorem dX6_copy_169 : decode cX6_copy 169 = .ok (.iload_n 2, 1) := by decide +kernel
theorem dX6_copy_170 : decode cX6_copy 170 = .ok (.iadd, 1) := by decide +kernel
theorem dX6_copy_171 : decode cX6_copy 171 = .ok (.iload 8, 2) := by decide +kernel
theorem dX6_copy_173 : decode cX6_copy 173 = .ok (.iadd, 1) := by decide +kernel
theorem dX6_copy_174 : decode cX6_copy 174 = .ok (.iaload, 1) := by decide +kernel
theorem dX6_copy_175 : decode cX6_copy 175 = .ok (.iastore, 1) := by decide +kernel
theorem dX6_copy_176 : decode cX6_copy 176 = .ok (.iinc 7 1, 3) := by decide +kernel
theorem dX6_copy_179 : decode cX6_copy 179 = .ok (.goto (-58), 3) := by decide +kernel
theorem dX6_copy_182 : decode cX6_copy 182 = .ok (.iload 5, 2) := by decide +kernel
theorem dX6_copy_184 : decode cX6_copy 184 = .ok (.ireturn, 1) := by decide +kernel
theorem dX6_eaters_0 : decode cX6_eaters 0 = .ok (.iload_n 1, 1) := by decide +kernel
theorem dX6_eaters_1 : decode cX6_eaters 1 = .ok (.invokestatic 303, 3) := by decide +kernel
theorem dX6_eaters_4 : decode cX6_eaters 4 = .ok (.ifCond .eq 28, 3) := by decide +kernel
theorem dX6_eaters_7 : decode cX6_eaters 7 = .ok (.iload_n 2, 1) := by decide +kernel
theorem dX6_eaters_8 : decode cX6_eaters 8 = .ok (.i2l, 1) := by decide +kernel
theorem dX6_eaters_9 : decode cX6_eaters 9 = .ok (.lconst 0, 1) := by decide +kernel
theorem dX6_eaters_10 : decode cX6_eaters 10 = .ok (.ldc2_w 106, 3) := by decide +kernel
theorem dX6_eaters_13 : decode cX6_eaters 13 = .ok (.invokestatic 94, 3) := by decide +kernel
theorem dX6_eaters_16 : decode cX6_eaters 16 = .ok (.ifCond .eq 16, 3) := by decide +kernel
theorem dX6_eaters_19 : decode cX6_eaters 19 = .ok (.iload 4, 2) := by decide +kernel
theorem dX6_eaters_21 : decode cX6_eaters 21 = .ok (.i2l, 1) := by decide +kernel
theorem dX6_eaters_22 : decode cX6_eaters 22 = .ok (.lconst 0, 1) := by decide +kernel
theorem dX6_eaters_23 : decode cX6_eaters 23 = .ok (.ldc2_w 112, 3) := by decide +kernel
theorem dX6_eaters_26 : decode cX6_eaters 26 = .ok (.invokestatic 94, 3) := by decide +kernel
theorem dX6_eaters_29 : decode cX6_eaters 29 = .ok (.ifCond .ne 6, 3) := by decide +kernel
theorem dX6_eaters_32 : decode cX6_eaters 32 = .ok (.bipush (-2), 2) := by decide +kernel
theorem dX6_eaters_34 : decode cX6_eaters 34 = .ok (.ireturn, 1) := by decide +kernel
theorem dX6_eaters_35 : decode cX6_eaters 35 = .ok (.aload_n 0, 1) := by decide +kernel
theorem dX6_eaters_36 : decode cX6_eaters 36 = .ok (.getfield 71, 3) := by decide +kernel
theorem dX6_eaters_39 : decode cX6_eaters 39 = .ok (.iload_n 1, 1) := by decide +kernel
theorem dX6_eaters_40 : decode cX6_eaters 40 = .ok (.baload, 1) := by decide +kernel
theorem dX6_eaters_41 : decode cX6_eaters 41 = .ok (.ifCond .eq 16, 3) := by decide +kernel
theorem dX6_eaters_44 : decode cX6_eaters 44 = .ok (.aload_n 0, 1) := by decide +kernel
theorem dX6_eaters_45 : decode cX6_eaters 45 = .ok (.getfield 75, 3) := by decide +kernel
theorem dX6_eaters_48 : decode cX6_eaters 48 = .ok (.iload_n 1, 1) := by decide +kernel
theorem dX6_eaters_49 : decode cX6_eaters 49 = .ok (.iaload, 1) := by decide +kernel
theorem dX6_eaters_50 : decode cX6_eaters 50 = .ok (.iload_n 2, 1) := by decide +kernel
theorem dX6_eaters_51 : decode cX6_eaters 51 = .ok (.if_icmp .eq 6, 3) := by decide +kernel
theorem dX6_eaters_54 : decode cX6_eaters 54 = .ok (.bipush (-13), 2) := by decide +kernel
theorem dX6_eaters_56 : decode cX6_eaters 56 = .ok (.ireturn, 1) := by decide +kernel
theorem dX6_eaters_57 : decode cX6_eaters 57 = .ok (.aload_n 0, 1) := by decide +kernel
theorem dX6_eaters_58 : decode cX6_eaters 58 = .ok (.getfield 71, 3) := by decide +kernel
theorem dX6_eaters_61 : decode cX6_eaters 61 = .ok (.iload_n 1, 1) := by decide +kernel
theorem dX6_eaters_62 : decode cX6_eaters 62 = .ok (.baload, 1) := by decide +kernel
theorem dX6_eaters_63 : decode cX6_eaters 63 = .ok (.ifCond .ne 6, 3) := by decide +kernel
theorem dX6_eaters_66 : decode cX6_eaters 66 = .ok (.bipush (-11), 2) := by decide +kernel
theorem dX6_eaters_68 : decode cX6_eaters 68 = .ok (.ireturn, 1) := by decide +kernel
theorem dX6_eaters_69 : decode cX6_eaters 69 = .ok (.iconst 0, 1) := by decide +kernel
theorem dX6_eaters_70 : decode cX6_eaters 70 = .ok (.istore 5, 2) := by decide +kernel
theorem dX6_eaters_72 : decode cX6_eaters 72 = .ok (.iconst 0, 1) := by decide +kernel
theorem dX6_eaters_73 : decode cX6_eaters 73 = .ok (.istore 6, 2) := by decide +kernel
theorem dX6_eaters_75 : decode cX6_eaters 75 = .ok (.iload 6, 2) := by decide +kernel
theorem dX6_eaters_77 : decode cX6_eaters 77 = .ok (.iload 4, 2) := by decide +kernel
theorem dX6_eaters_79 : decode cX6_eaters 79 = .ok (.if_icmp .ge 88, 3) := by decide +kernel
theorem dX6_eaters_82 : decode cX6_eaters 82 = .ok (.iload_n 3, 1) := by decide +kernel
theorem dX6_eaters_83 : decode cX6_eaters 83 = .ok (.ifCond .lt 20, 3) := by decide +kernel
theorem dX6_eaters_86 : decode cX6_eaters 86 = .ok (.iload_n 3, 1) := by decide +kernel
theorem dX6_eaters_87 : decode cX6_eaters 87 = .ok (.aload_n 0, 1) := by decide +kernel
theorem dX6_eaters_88 : decode cX6_eaters 88 = .ok (.getfield 78, 3) := by decide +kernel
theorem dX6_eaters_91 : decode cX6_eaters 91 = .ok (.iload_n 1, 1) := by decide +kernel
theorem dX6_eaters_92 : decode cX6_eaters 92 = .ok (.iaload, 1) := by decide +kernel
theorem dX6_eaters_93 : decode cX6_eaters 93 = .ok (.iconst 3, 1) := by decide +kernel
theorem dX6_eaters_94 : decode cX6_eaters 94 = .ok (.iload 6, 2) := by decide +kernel
theorem dX6_eaters_96 : decode cX6_eaters 96 = .ok (.imul, 1) := by decide +kernel
theorem dX6_eaters_97 : decode cX6_eaters 97 = .ok (.isub, 1) := by decide +kernel
theorem dX6_eaters_98 : decode cX6_eaters 98 = .ok (.iconst 3, 1) := by decide +kernel
theorem dX6_eaters_99 : decode cX6_eaters 99 = .ok (.isub, 1) := by decide +kernel
theorem dX6_eaters_100 : decode cX6_eaters 100 = .ok (.if_icmp .le 6, 3) := by decide +kernel
theorem dX6_eaters_103 : decode cX6_eaters 103 = .ok (.bipush (-12), 2) := by decide +kernel
theorem dX6_eaters_105 : decode cX6_eaters 105 = .ok (.ireturn, 1) := by decide +kernel
theorem dX6_eaters_106 : decode cX6_eaters 106 = .ok (.bipush 40, 2) := by decide +kernel
theorem dX6_eaters_108 : decode cX6_eaters 108 = .ok (.iload_n 1, 1) := by decide +kernel
theorem dX6_eaters_109 : decode cX6_eaters 109 = .ok (.imul, 1) := by decide +kernel
theorem dX6_eaters_110 : decode cX6_eaters 110 = .ok (.iload_n 3, 1) := by decide +kernel
theorem dX6_eaters_111 : decode cX6_eaters 111 = .ok (.iadd, 1) := by decide +kernel
theorem dX6_eaters_112 : decode cX6_eaters 112 = .ok (.iconst 3, 1) := by decide +kernel
theorem dX6_eaters_113 : decode cX6_eaters 113 = .ok (.iload 6, 2) := by decide +kernel
theorem dX6_eaters_115 : decode cX6_eaters 115 = .ok (.imul, 1) := by decide +kernel
theorem dX6_eaters_116 : decode cX6_eaters 116 = .ok (.iadd, 1) := by decide +kernel
theorem dX6_eaters_117 : decode cX6_eaters 117 = .ok (.istore 7, 2) := by decide +kernel
theorem dX6_eaters_119 : decode cX6_eaters 119 = .ok (.iload 5, 2) := by decide +kernel
theorem dX6_eaters_121 : decode cX6_eaters 121 = .ok (.aload_n 0, 1) := by decide +kernel
theorem dX6_eaters_122 : decode cX6_eaters 122 = .ok (.aload_n 0, 1) := by decide +kernel
theorem dX6_eaters_123 : decode cX6_eaters 123 = .ok (.getfield 81, 3) := by decide +kernel
theorem dX6_eaters_126 : decode cX6_eaters 126 = .ok (.iload 7, 2) := by decide +kernel
theorem dX6_eaters_128 : decode cX6_eaters 128 = .ok (.iaload, 1) := by decide +kernel
theorem dX6_eaters_129 : decode cX6_eaters 129 = .ok (.aload_n 0, 1) := by decide +kernel
theorem dX6_eaters_130 : decode cX6_eaters 130 = .ok (.getfield 81, 3) := by decide +kernel
theorem dX6_eaters_133 : decode cX6_eaters 133 = .ok (.iload 7, 2) := by decide +kernel
theorem dX6_eaters_135 : decode cX6_eaters 135 = .ok (.iconst 1, 1) := by decide +kernel
theorem dX6_eaters_136 : decode cX6_eaters 136 = .ok (.iadd, 1) := by decide +kernel
theorem dX6_eaters_137 : decode cX6_eaters 137 = .ok (.iaload, 1) := by decide +kernel
theorem dX6_eaters_138 : decode cX6_eaters 138 = .ok (.aload_n 0, 1) := by decide +kernel
theorem dX6_eaters_139 : decode cX6_eaters 139 = .ok (.getfield 81, 3) := by decide +kernel
theorem dX6_eaters_142 : decode cX6_eaters 142 = .ok (.iload 7, 2) := by decide +kernel
theorem dX6_eaters_144 : decode cX6_eaters 144 = .ok (.iconst 2, 1) := by decide +kernel
theorem dX6_eaters_145 : decode cX6_eaters 145 = .ok (.iadd, 1) := by decide +kernel
theorem dX6_eaters_146 : decode cX6_eaters 146 = .ok (.iaload, 1) := by decide +kernel
theorem dX6_eaters_147 : decode cX6_eaters 147 = .ok (.invokevirtual 360, 3) := by decide +kernel
theorem dX6_eaters_150 : decode cX6_eaters 150 = .ok (.ifCond .lt 7, 3) := by decide +kernel
theorem dX6_eaters_153 : decode cX6_eaters 153 = .ok (.iconst 1, 1) := by decide +kernel
theorem dX6_eaters_154 : decode cX6_eaters 154 = .ok (.goto 4, 3) := by decide +kernel
theorem dX6_eaters_157 : decode cX6_eaters 157 = .ok (.iconst 0, 1) := by decide +kernel
theorem dX6_eaters_158 : decode cX6_eaters 158 = .ok (.iadd, 1) := by decide +kernel
theorem dX6_eaters_159 : decode cX6_eaters 159 = .ok (.istore 5, 2) := by decide +kernel
theorem dX6_eaters_161 : decode cX6_eaters 161 = .ok (.iinc 6 1, 3) := by decide +kernel
theorem dX6_eaters_164 : decode cX6_eaters 164 = .ok (.goto (-89), 3) := by decide +kernel
theorem dX6_eaters_167 : decode cX6_eaters 167 = .ok (.iload 5, 2) := by decide +kernel
theorem dX6_eaters_169 : decode cX6_eaters 169 = .ok (.ireturn, 1) := by decide +kernel
theorem dX6_over_0 : decode cX6_over 0 = .ok (.iload_n 0, 1) := by decide +kernel
theorem dX6_over_1 : decode cX6_over 1 = .ok (.ifCond .ne 7, 3) := by decide +kernel
theorem dX6_over_4 : decode cX6_over 4 = .ok (.iconst (-1), 1) := by decide +kernel
theorem dX6_over_5 : decode cX6_over 5 = .ok (.goto 22, 3) := by decide +kernel
theorem dX6_over_8 : decode cX6_over 8 = .ok (.iload_n 0, 1) := by decide +kernel
theorem dX6_over_9 : decode cX6_over 9 = .ok (.iconst 3, 1) := by decide +kernel
theorem dX6_over_10 : decode cX6_over 10 = .ok (.if_icmp .ne 7, 3) := by decide +kernel
theorem dX6_over_13 : decode cX6_over 13 = .ok (.iconst 1, 1) := by decide +kernel
theorem dX6_over_14 : decode cX6_over 14 = .ok (.goto 13, 3) := by decide +kernel
theorem dX6_over_17 : decode cX6_over 17 = .ok (.iload_n 0, 1) := by decide +kernel
theorem dX6_over_18 : decode cX6_over 18 = .ok (.iconst 4, 1) := by decide +kernel
theorem dX6_over_19 : decode cX6_over 19 = .ok (.if_icmp .ne 7, 3) := by decide +kernel
theorem dX6_over_22 : decode cX6_over 22 = .ok (.iconst 2, 1) := by decide +kernel
theorem dX6_over_23 : decode cX6_over 23 = .ok (.goto 4, 3) := by decide +kernel
theorem dX6_over_26 : decode cX6_over 26 = .ok (.iconst 0, 1) := by decide +kernel
theorem dX6_over_27 : decode cX6_over 27 = .ok (.ireturn, 1) := by decide +kernel
theorem dX6_taken_0 : decode cX6_taken 0 = .ok (.iload_n 2, 1) := by decide +kernel
theorem dX6_taken_1 : decode cX6_taken 1 = .ok (.i2l, 1) := by decide +kernel
theorem dX6_taken_2 : decode cX6_taken 2 = .ok (.lconst 0, 1) := by decide +kernel
theorem dX6_taken_3 : decode cX6_taken 3 = .ok (.ldc2_w 112, 3) := by decide +kernel
theorem dX6_taken_6 : decode cX6_taken 6 = .ok (.invokestatic 94, 3) := by decide +kernel
theorem dX6_taken_9 : decode cX6_taken 9 = .ok (.ifCond .ne 6, 3) := by decide +kernel
theorem dX6_taken_12 : decode cX6_taken 12 = .ok (.bipush (-2), 2) := by decide +kernel
theorem dX6_taken_14 : decode cX6_taken 14 = .ok (.ireturn, 1) := by decide +kernel
theorem dX6_taken_15 : decode cX6_taken 15 = .ok (.aload_n 0, 1) := by decide +kernel
theorem dX6_taken_16 : decode cX6_taken 16 = .ok (.iload_n 1, 1) := by decide +kernel
theorem dX6_taken_17 : decode cX6_taken 17 = .ok (.invokevirtual 100, 3) := by decide +kernel
theorem dX6_taken_20 : decode cX6_taken 20 = .ok (.ifCond .ne 6, 3) := by decide +kernel
theorem dX6_taken_23 : decode cX6_taken 23 = .ok (.bipush (-11), 2) := by decide +kernel
theorem dX6_taken_25 : decode cX6_taken 25 = .ok (.ireturn, 1) := by decide +kernel
theorem dX6_taken_26 : decode cX6_taken 26 = .ok (.aload_n 0, 1) := by decide +kernel
theorem dX6_taken_27 : decode cX6_taken 27 = .ok (.getfield 29, 3) := by decide +kernel
theorem dX6_taken_30 : decode cX6_taken 30 = .ok (.iload_n 1, 1) := by decide +kernel
theorem dX6_taken_31 : decode cX6_taken 31 = .ok (.iaload, 1) := by decide +kernel
theorem dX6_taken_32 : decode cX6_taken 32 = .ok (.istore_n 3, 1) := by decide +kernel
theorem dX6_taken_33 : decode cX6_taken 33 = .ok (.iload_n 3, 1) := by decide +kernel
theorem dX6_taken_34 : decode cX6_taken 34 = .ok (.iconst (-1), 1) := by decide +kernel
theorem dX6_taken_35 : decode cX6_taken 35 = .ok (.if_icmp .eq 16, 3) := by decide +kernel
theorem dX6_taken_38 : decode cX6_taken 38 = .ok (.iload_n 3, 1) := by decide +kernel
theorem dX6_taken_39 : decode cX6_taken 39 = .ok (.iload_n 2, 1) := by decide +kernel
theorem dX6_taken_40 : decode cX6_taken 40 = .ok (.if_icmp .eq 11, 3) := by decide +kernel
theorem dX6_taken_43 : decode cX6_taken 43 = .ok (.iload_n 3, 1) := by decide +kernel
theorem dX6_taken_44 : decode cX6_taken 44 = .ok (.invokestatic 363, 3) := by decide +kernel
theorem dX6_taken_47 : decode cX6_taken 47 = .ok (.istore_n 3, 1) := by decide +kernel
theorem dX6_taken_48 : decode cX6_taken 48 = .ok (.goto (-15), 3) := by decide +kernel
theorem dX6_taken_51 : decode cX6_taken 51 = .ok (.iload_n 3, 1) := by decide +kernel
theorem dX6_taken_52 : decode cX6_taken 52 = .ok (.iload_n 2, 1) := by decide +kernel
theorem dX6_taken_53 : decode cX6_taken 53 = .ok (.if_icmp .ne 12, 3) := by decide +kernel
theorem dX6_taken_56 : decode cX6_taken 56 = .ok (.aload_n 0, 1) := by decide +kernel
theorem dX6_taken_57 : decode cX6_taken 57 = .ok (.getfield 32, 3) := by decide +kernel
theorem dX6_taken_60 : decode cX6_taken 60 = .ok (.iload_n 1, 1) := by decide +kernel
theorem dX6_taken_61 : decode cX6_taken 61 = .ok (.iaload, 1) := by decide +kernel
theorem dX6_taken_62 : decode cX6_taken 62 = .ok (.goto 5, 3) := by decide +kernel
theorem dX6_taken_65 : decode cX6_taken 65 = .ok (.bipush (-13), 2) := by decide +kernel
theorem dX6_taken_67 : decode cX6_taken 67 = .ok (.ireturn, 1) := by decide +kernel
end
section
theorem dL_law_0 : decode cL_law 0 = .ok (.new 7, 3) := by decide +kernel
theorem dL_law_3 : decode cL_law 3 = .ok (.dup, 1) := by decide +kernel
theorem dL_law_4 : decode cL_law 4 = .ok (.invokespecial 9, 3) := by decide +kernel
theorem dL_law_7 : decode cL_law 7 = .ok (.astore_n 1, 1) := by decide +kernel
theorem dL_law_8 : decode cL_law 8 = .ok (.new 10, 3) := by decide +kernel
theorem dL_law_11 : decode cL_law 11 = .ok (.dup, 1) := by decide +kernel
theorem dL_law_12 : decode cL_law 12 = .ok (.invokespecial 12, 3) := by decide +kernel
theorem dL_law_15 : decode cL_law 15 = .ok (.astore_n 2, 1) := by decide +kernel
theorem dL_law_16 : decode cL_law 16 = .ok (.iconst 0, 1) := by decide +kernel
theorem dL_law_17 : decode cL_law 17 = .ok (.istore_n 3, 1) := by decide +kernel
theorem dL_law_18 : decode cL_law 18 = .ok (.iload_n 3, 1) := by decide +kernel
theorem dL_law_19 : decode cL_law 19 = .ok (.aload_n 0, 1) := by decide +kernel
theorem dL_law_20 : decode cL_law 20 = .ok (.arraylength, 1) := by decide +kernel
theorem dL_law_21 : decode cL_law 21 = .ok (.bipush 6, 2) := by decide +kernel
theorem dL_law_23 : decode cL_law 23 = .ok (.isub, 1) := by decide +kernel
theorem dL_law_24 : decode cL_law 24 = .ok (.if_icmp .gt 945, 3) := by decide +kernel
theorem dL_law_27 : decode cL_law 27 = .ok (.aload_n 0, 1) := by decide +kernel
theorem dL_law_28 : decode cL_law 28 = .ok (.iload_n 3, 1) := by decide +kernel
theorem dL_law_29 : decode cL_law 29 = .ok (.iaload, 1) := by decide +kernel
theorem dL_law_30 : decode cL_law 30 = .ok (.bipush 31, 2) := by decide +kernel
theorem dL_law_32 : decode cL_law 32 = .ok (.iand, 1) := by decide +kernel
theorem dL_law_33 : decode cL_law 33 = .ok (.tableswitch 930 0 25 #[119, 162, 205, 238, 261, 284, 297, 320, 363, 396, 429, 452, 465, 478, 512, 545, 578, 602, 646, 659, 672, 695, 738, 781, 844, 897], 119) := by decide +kernel
theorem dL_law_152 : decode cL_law 152 = .ok (.aload_n 1, 1) := by decide +kernel
theorem dL_law_153 : decode cL_law 153 = .ok (.aload_n 0, 1) := by decide +kernel
theorem dL_law_154 : decode cL_law 154 = .ok (.iload_n 3, 1) := by decide +kernel
theorem dL_law_155 : decode cL_law 155 = .ok (.iconst 1, 1) := by decide +kernel
theorem dL_law_156 : decode cL_law 156 = .ok (.iadd, 1) := by decide +kernel
theorem dL_law_157 : decode cL_law 157 = .ok (.iaload, 1) := by decide +kernel
theorem dL_law_158 : decode cL_law 158 = .ok (.aload_n 0, 1) := by decide +kernel
theorem dL_law_159 : decode cL_law 159 = .ok (.iload_n 3, 1) := by decide +kernel
theorem dL_law_160 : decode cL_law 160 = .ok (.iconst 2, 1) := by decide +kernel
theorem dL_law_161 : decode cL_law 161 = .ok (.iadd, 1) := by decide +kernel
theorem dL_law_162 : decode cL_law 162 = .ok (.iaload, 1) := by decide +kernel
theorem dL_law_163 : decode cL_law 163 = .ok (.aload_n 0, 1) := by decide +kernel
theorem dL_law_164 : decode cL_law 164 = .ok (.iload_n 3, 1) := by decide +kernel
theorem dL_law_165 : decode cL_law 165 = .ok (.iconst 3, 1) := by decide +kernel
theorem dL_law_166 : decode cL_law 166 = .ok (.iadd, 1) := by decide +kernel
theorem dL_law_167 : decode cL_law 167 = .ok (.iaload, 1) := by decide +kernel
theorem dL_law_168 : decode cL_law 168 = .ok (.invokevirtual 13, 3) := by decide +kernel
theorem dL_law_171 : decode cL_law 171 = .ok (.aload_n 2, 1) := by decide +kernel
theorem dL_law_172 : decode cL_law 172 = .ok (.aload_n 0, 1) := by decide +kernel
theorem dL_law_173 : decode cL_law 173 = .ok (.iload_n 3, 1) := by decide +kernel
theorem dL_law_174 : decode cL_law 174 = .ok (.iconst 1, 1) := by decide +kernel
theorem dL_law_175 : decode cL_law 175 = .ok (.iadd, 1) := by decide +kernel
theorem dL_law_176 : decode cL_law 176 = .ok (.iaload, 1) := by decide +kernel
theorem dL_law_177 : decode cL_law 177 = .ok (.aload_n 0, 1) := by decide +kernel
theorem dL_law_178 : decode cL_law 178 = .ok (.iload_n 3, 1) := by decide +kernel
theorem dL_law_179 : decode cL_law 179 = .ok (.iconst 2, 1) := by decide +kernel
theorem dL_law_180 : decode cL_law 180 = .ok (.iadd, 1) := by decide +kernel
theorem dL_law_181 : decode cL_law 181 = .ok (.iaload, 1) := by decide +kernel
theorem dL_law_182 : decode cL_law 182 = .ok (.aload_n 0, 1) := by decide +kernel
theorem dL_law_183 : decode cL_law 183 = .ok (.iload_n 3, 1) := by decide +kernel
theorem dL_law_184 : decode cL_law 184 = .ok (.iconst 3, 1) := by decide +kernel
theorem dL_law_185 : decode cL_law 185 = .ok (.iadd, 1) := by decide +kernel
theorem dL_law_186 : decode cL_law 186 = .ok (.iaload, 1) := by decide +kernel
theorem dL_law_187 : decode cL_law 187 = .ok (.invokevirtual 17, 3) := by decide +kernel
theorem dL_law_190 : decode cL_law 190 = .ok (.if_icmp .eq 773, 3) := by decide +kernel
theorem dL_law_193 : decode cL_law 193 = .ok (.iconst 0, 1) := by decide +kernel
theorem dL_law_194 : decode cL_law 194 = .ok (.ireturn, 1) := by decide +kernel
theorem dL_law_195 : decode cL_law 195 = .ok (.aload_n 1, 1) := by decide +kernel
theorem dL_law_196 : decode cL_law 196 = .ok (.aload_n 0, 1) := by decide +kernel
theorem dL_law_197 : decode cL_law 197 = .ok (.iload_n 3, 1) := by decide +kernel
theorem dL_law_198 : decode cL_law 198 = .ok (.iconst 1, 1) := by decide +kernel
theorem dL_law_199 : decode cL_law 199 = .ok (.iadd, 1) := by decide +kernel
theorem dL_law_200 : decode cL_law 200 = .ok (.iaload, 1) := by decide +kernel
theorem dL_law_201 : decode cL_law 201 = .ok (.aload_n 0, 1) := by decide +kernel
theorem dL_law_202 : decode cL_law 202 = .ok (.iload_n 3, 1) := by decide +kernel
theorem dL_law_203 : decode cL_law 203 = .ok (.iconst 2, 1) := by decide +kernel
theorem dL_law_204 : decode cL_law 204 = .ok (.iadd, 1) := by decide +kernel
theorem dL_law_205 : decode cL_law 205 = .ok (.iaload, 1) := by decide +kernel
theorem dL_law_206 : decode cL_law 206 = .ok (.aload_n 0, 1) := by decide +kernel
theorem dL_law_207 : decode cL_law 207 = .ok (.iload_n 3, 1) := by decide +kernel
theorem dL_law_208 : decode cL_law 208 = .ok (.iconst 3, 1) := by decide +kernel
theorem dL_law_209 : decode cL_law 209 = .ok (.iadd, 1) := by decide +kernel
theorem dL_law_210 : decode cL_law 210 = .ok (.iaload, 1) := by decide +kernel
theorem dL_law_211 : decode cL_law 211 = .ok (.invokevirtual 18, 3) := by decide +kernel
theorem dL_law_214 : decode cL_law 214 = .ok (.aload_n 2, 1) := by decide +kernel
theorem dL_law_215 : decode cL_law 215 = .ok (.aload_n 0, 1) := by decide +kernel
theorem dL_law_216 : decode cL_law 216 = .ok (.iload_n 3, 1) := by decide +kernel
theorem dL_law_217 : decode cL_law 217 = .ok (.iconst 1, 1) := by decide +kernel
theorem dL_law_218 : decode cL_law 218 = .ok (.iadd, 1) := by decide +kernel
theorem dL_law_219 : decode cL_law 219 = .ok (.iaload, 1) := by decide +kernel
theorem dL_law_220 : decode cL_law 220 = .ok (.aload_n 0, 1) := by decide +kernel
theorem dL_law_221 : decode cL_law 221 = .ok (.iload_n 3, 1) := by decide +kernel
theorem dL_law_222 : decode cL_law 222 = .ok (.iconst 2, 1) := by decide +kernel
theorem dL_law_223 : decode cL_law 223 = .ok (.iadd, 1) := by decide +kernel
theorem dL_law_224 : decode cL_law 224 = .ok (.iaload, 1) := by decide +kernel
theorem dL_law_225 : decode cL_law 225 = .ok (.aload_n 0, 1) := by decide +kernel
theorem dL_law_226 : decode cL_law 226 = .ok (.iload_n 3, 1) := by decide +kernel
theorem dL_law_227 : decode cL_law 227 = .ok (.iconst 3, 1) := by decide +kernel
theorem dL_law_228 : decode cL_law 228 = .ok (.iadd, 1) := by decide +kernel
theorem dL_law_229 : decode cL_law 229 = .ok (.iaload, 1) := by decide +kernel
theorem dL_law_230 : decode cL_law 230 = .ok (.invokevirtual 21, 3) := by decide +kernel
theorem dL_law_233 : decode cL_law 233 = .ok (.if_icmp .eq 730, 3) := by decide +kernel
theorem dL_law_236 : decode cL_law 236 = .ok (.iconst 0, 1) := by decide +kernel
theorem dL_law_237 : decode cL_law 237 = .ok (.ireturn, 1) := by decide +kernel
theorem dL_law_238 : decode cL_law 238 = .ok (.aload_n 1, 1) := by decide +kernel
theorem dL_law_239 : decode cL_law 239 = .ok (.aload_n 0, 1) := by decide +kernel
theorem dL_law_240 : decode cL_law 240 = .ok (.iload_n 3, 1) := by decide +kernel
theorem dL_law_241 : decode cL_law 241 = .ok (.iconst 1, 1) := by decide +kernel
theorem dL_law_242 : decode cL_law 242 = .ok (.iadd, 1) := by decide +kernel
theorem dL_law_243 : decode cL_law 243 = .ok (.iaload, 1) := by decide +kernel
theorem dL_law_244 : decode cL_law 244 = .ok (.aload_n 0, 1) := by decide +kernel
theorem dL_law_245 : decode cL_law 245 = .ok (.iload_n 3, 1) := by decide +kernel
theorem dL_law_246 : decode cL_law 246 = .ok (.iconst 2, 1) := by decide +kernel
theorem dL_law_247 : decode cL_law 247 = .ok (.iadd, 1) := by decide +kernel
theorem dL_law_248 : decode cL_law 248 = .ok (.iaload, 1) := by decide +kernel
theorem dL_law_249 : decode cL_law 249 = .ok (.invokevirtual 22, 3) := by decide +kernel
theorem dL_law_252 : decode cL_law 252 = .ok (.aload_n 2, 1) := by decide +kernel
theorem dL_law_253 : decode cL_law 253 = .ok (.aload_n 0, 1) := by decide +kernel
theorem dL_law_254 : decode cL_law 254 = .ok (.iload_n 3, 1) := by decide +kernel
theorem dL_law_255 : decode cL_law 255 = .ok (.iconst 1, 1) := by decide +kernel
theorem dL_law_256 : decode cL_law 256 = .ok (.iadd, 1) := by decide +kernel
theorem dL_law_257 : decode cL_law 257 = .ok (.iaload, 1) := by decide +kernel
theorem dL_law_258 : decode cL_law 258 = .ok (.aload_n 0, 1) := by decide +kernel
theorem dL_law_259 : decode cL_law 259 = .ok (.iload_n 3, 1) := by decide +kernel
theorem dL_law_260 : decode cL_law 260 = .ok (.iconst 2, 1) := by decide +kernel
theorem dL_law_261 : decode cL_law 261 = .ok (.iadd, 1) := by decide +kernel
theorem dL_law_262 : decode cL_law 262 = .ok (.iaload, 1) := by decide +kernel
theorem dL_law_263 : decode cL_law 263 = .ok (.invokevirtual 26, 3) := by decide +kernel
theorem dL_law_266 : decode cL_law 266 = .ok (.if_icmp .eq 697, 3) := by decide +kernel
theorem dL_law_269 : decode cL_law 269 = .ok (.iconst 0, 1) := by decide +kernel
theorem dL_law_270 : decode cL_law 270 = .ok (.ireturn, 1) := by decide +kernel
theorem dL_law_271 : decode cL_law 271 = .ok (.aload_n 1, 1) := by decide +kernel
theorem dL_law_272 : decode cL_law 272 = .ok (.aload_n 0, 1) := by decide +kernel
theorem dL_law_273 : decode cL_law 273 = .ok (.iload_n 3, 1) := by decide +kernel
theorem dL_law_274 : decode cL_law 274 = .ok (.iconst 1, 1) := by decide +kernel
theorem dL_law_275 : decode cL_law 275 = .ok (.iadd, 1) := by decide +kernel
theorem dL_law_276 : decode cL_law 276 = .ok (.iaload, 1) := by decide +kernel
theorem dL_law_277 : decode cL_law 277 = .ok (.invokevirtual 27, 3) := by decide +kernel
theorem dL_law_280 : decode cL_law 280 = .ok (.aload_n 2, 1) := by decide +kernel
theorem dL_law_281 : decode cL_law 281 = .ok (.aload_n 0, 1) := by decide +kernel
theorem dL_law_282 : decode cL_law 282 = .ok (.iload_n 3, 1) := by decide +kernel
theorem dL_law_283 : decode cL_law 283 = .ok (.iconst 1, 1) := by decide +kernel
theorem dL_law_284 : decode cL_law 284 = .ok (.iadd, 1) := by decide +kernel
theorem dL_law_285 : decode cL_law 285 = .ok (.iaload, 1) := by decide +kernel
theorem dL_law_286 : decode cL_law 286 = .ok (.invokevirtual 31, 3) := by decide +kernel
theorem dL_law_289 : decode cL_law 289 = .ok (.if_icmp .eq 674, 3) := by decide +kernel
theorem dL_law_292 : decode cL_law 292 = .ok (.iconst 0, 1) := by decide +kernel
theorem dL_law_293 : decode cL_law 293 = .ok (.ireturn, 1) := by decide +kernel
theorem dL_law_294 : decode cL_law 294 = .ok (.aload_n 1, 1) := by decide +kernel
theorem dL_law_295 : decode cL_law 295 = .ok (.aload_n 0, 1) := by decide +kernel
theorem dL_law_296 : decode cL_law 296 = .ok (.iload_n 3, 1) := by decide +kernel
theorem dL_law_297 : decode cL_law 297 = .ok (.iconst 1, 1) := by decide +kernel
theorem dL_law_298 : decode cL_law 298 = .ok (.iadd, 1) := by decide +kernel
theorem dL_law_299 : decode cL_law 299 = .ok (.iaload, 1) := by decide +kernel
theorem dL_law_300 : decode cL_law 300 = .ok (.invokevirtual 32, 3) := by decide +kernel
theorem dL_law_303 : decode cL_law 303 = .ok (.aload_n 2, 1) := by decide +kernel
theorem dL_law_304 : decode cL_law 304 = .ok (.aload_n 0, 1) := by decide +kernel
theorem dL_law_305 : decode cL_law 305 = .ok (.iload_n 3, 1) := by decide +kernel
theorem dL_law_306 : decode cL_law 306 = .ok (.iconst 1, 1) := by decide +kernel
theorem dL_law_307 : decode cL_law 307 = .ok (.iadd, 1) := by decide +kernel
theorem dL_law_308 : decode cL_law 308 = .ok (.iaload, 1) := by decide +kernel
theorem dL_law_309 : decode cL_law 309 = .ok (.invokevirtual 35, 3) := by decide +kernel
theorem dL_law_312 : decode cL_law 312 = .ok (.if_icmp .eq 651, 3) := by decide +kernel
theorem dL_law_315 : decode cL_law 315 = .ok (.iconst 0, 1) := by decide +kernel
theorem dL_law_316 : decode cL_law 316 = .ok (.ireturn, 1) := by decide +kernel
theorem dL_law_317 : decode cL_law 317 = .ok (.aload_n 1, 1) := by decide +kernel
theorem dL_law_318 : decode cL_law 318 = .ok (.invokevirtual 36, 3) := by decide +kernel
theorem dL_law_321 : decode cL_law 321 = .ok (.aload_n 2, 1) := by decide +kernel
theorem dL_law_322 : decode cL_law 322 = .ok (.invokevirtual 40, 3) := by decide +kernel
theorem dL_law_325 : decode cL_law 325 = .ok (.if_icmp .eq 638, 3) := by decide +kernel
theorem dL_law_328 : decode cL_law 328 = .ok (.iconst 0, 1) := by decide +kernel
theorem dL_law_329 : decode cL_law 329 = .ok (.ireturn, 1) := by decide +kernel
theorem dL_law_330 : decode cL_law 330 = .ok (.aload_n 1, 1) := by decide +kernel
theorem dL_law_331 : decode cL_law 331 = .ok (.aload_n 0, 1) := by decide +kernel
theorem dL_law_332 : decode cL_law 332 = .ok (.iload_n 3, 1) := by decide +kernel
theorem dL_law_333 : decode cL_law 333 = .ok (.iconst 1, 1) := by decide +kernel
theorem dL_law_334 : decode cL_law 334 = .ok (.iadd, 1) := by decide +kernel
theorem dL_law_335 : decode cL_law 335 = .ok (.iaload, 1) := by decide +kernel
theorem dL_law_336 : decode cL_law 336 = .ok (.invokevirtual 41, 3) := by decide +kernel
theorem dL_law_339 : decode cL_law 339 = .ok (.aload_n 2, 1) := by decide +kernel
theorem dL_law_340 : decode cL_law 340 = .ok (.aload_n 0, 1) := by decide +kernel
theorem dL_law_341 : decode cL_law 341 = .ok (.iload_n 3, 1) := by decide +kernel
theorem dL_law_342 : decode cL_law 342 = .ok (.iconst 1, 1) := by decide +kernel
theorem dL_law_343 : decode cL_law 343 = .ok (.iadd, 1) := by decide +kernel
theorem dL_law_344 : decode cL_law 344 = .ok (.iaload, 1) := by decide +kernel
theorem dL_law_345 : decode cL_law 345 = .ok (.invokevirtual 44, 3) := by decide +kernel
theorem dL_law_348 : decode cL_law 348 = .ok (.if_icmp .eq 615, 3) := by decide +kernel
theorem dL_law_351 : decode cL_law 351 = .ok (.iconst 0, 1) := by decide +kernel
theorem dL_law_352 : decode cL_law 352 = .ok (.ireturn, 1) := by decide +kernel
theorem dL_law_353 : decode cL_law 353 = .ok (.aload_n 1, 1) := by decide +kernel
theorem dL_law_354 : decode cL_law 354 = .ok (.aload_n 0, 1) := by decide +kernel
theorem dL_law_355 : decode cL_law 355 = .ok (.iload_n 3, 1) := by decide +kernel
theorem dL_law_356 : decode cL_law 356 = .ok (.iconst 1, 1) := by decide +kernel
theorem dL_law_357 : decode cL_law 357 = .ok (.iadd, 1) := by decide +kernel
theorem dL_law_358 : decode cL_law 358 = .ok (.iaload, 1) := by decide +kernel
theorem dL_law_359 : decode cL_law 359 = .ok (.aload_n 0, 1) := by decide +kernel
theorem dL_law_360 : decode cL_law 360 = .ok (.iload_n 3, 1) := by decide +kernel
theorem dL_law_361 : decode cL_law 361 = .ok (.iconst 2, 1) := by decide +kernel
theorem dL_law_362 : decode cL_law 362 = .ok (.iadd, 1) := by decide +kernel
theorem dL_law_363 : decode cL_law 363 = .ok (.iaload, 1) := by decide +kernel
theorem dL_law_364 : decode cL_law 364 = .ok (.aload_n 0, 1) := by decide +kernel
theorem dL_law_365 : decode cL_law 365 = .ok (.iload_n 3, 1) := by decide +kernel
theorem dL_law_366 : decode cL_law 366 = .ok (.iconst 3, 1) := by decide +kernel
theorem dL_law_367 : decode cL_law 367 = .ok (.iadd, 1) := by decide +kernel
theorem dL_law_368 : decode cL_law 368 = .ok (.iaload, 1) := by decide +kernel
theorem dL_law_369 : decode cL_law 369 = .ok (.invokevirtual 45, 3) := by decide +kernel
theorem dL_law_372 : decode cL_law 372 = .ok (.aload_n 2, 1) := by decide +kernel
theorem dL_law_373 : decode cL_law 373 = .ok (.aload_n 0, 1) := by decide +kernel
theorem dL_law_374 : decode cL_law 374 = .ok (.iload_n 3, 1) := by decide +kernel
theorem dL_law_375 : decode cL_law 375 = .ok (.iconst 1, 1) := by decide +kernel
theorem dL_law_376 : decode cL_law 376 = .ok (.iadd, 1) := by decide +kernel
theorem dL_law_377 : decode cL_law 377 = .ok (.iaload, 1) := by decide +kernel
theorem dL_law_378 : decode cL_law 378 = .ok (.aload_n 0, 1) := by decide +kernel
theorem dL_law_379 : decode cL_law 379 = .ok (.iload_n 3, 1) := by decide +kernel
theorem dL_law_380 : decode cL_law 380 = .ok (.iconst 2, 1) := by decide +kernel
theorem dL_law_381 : decode cL_law 381 = .ok (.iadd, 1) := by decide +kernel
theorem dL_law_382 : decode cL_law 382 = .ok (.iaload, 1) := by decide +kernel
theorem dL_law_383 : decode cL_law 383 = .ok (.aload_n 0, 1) := by decide +kernel
theorem dL_law_384 : decode cL_law 384 = .ok (.iload_n 3, 1) := by decide +kernel
theorem dL_law_385 : decode cL_law 385 = .ok (.iconst 3, 1) := by decide +kernel
theorem dL_law_386 : decode cL_law 386 = .ok (.iadd, 1) := by decide +kernel
theorem dL_law_387 : decode cL_law 387 = .ok (.iaload, 1) := by decide +kernel
theorem dL_law_388 : decode cL_law 388 = .ok (.invokevirtual 48, 3) := by decide +kernel
theorem dL_law_391 : decode cL_law 391 = .ok (.if_icmp .eq 572, 3) := by decide +kernel
theorem dL_law_394 : decode cL_law 394 = .ok (.iconst 0, 1) := by decide +kernel
theorem dL_law_395 : decode cL_law 395 = .ok (.ireturn, 1) := by decide +kernel
theorem dL_law_396 : decode cL_law 396 = .ok (.aload_n 1, 1) := by decide +kernel
theorem dL_law_397 : decode cL_law 397 = .ok (.aload_n 0, 1) := by decide +kernel
theorem dL_law_398 : decode cL_law 398 = .ok (.iload_n 3, 1) := by decide +kernel
theorem dL_law_399 : decode cL_law 399 = .ok (.iconst 1, 1) := by decide +kernel
theorem dL_law_400 : decode cL_law 400 = .ok (.iadd, 1) := by decide +kernel
theorem dL_law_401 : decode cL_law 401 = .ok (.iaload, 1) := by decide +kernel
theorem dL_law_402 : decode cL_law 402 = .ok (.aload_n 0, 1) := by decide +kernel
theorem dL_law_403 : decode cL_law 403 = .ok (.iload_n 3, 1) := by decide +kernel
theorem dL_law_404 : decode cL_law 404 = .ok (.iconst 2, 1) := by decide +kernel
theorem dL_law_405 : decode cL_law 405 = .ok (.iadd, 1) := by decide +kernel
theorem dL_law_406 : decode cL_law 406 = .ok (.iaload, 1) := by decide +kernel
theorem dL_law_407 : decode cL_law 407 = .ok (.invokevirtual 49, 3) := by decide +kernel
theorem dL_law_410 : decode cL_law 410 = .ok (.aload_n 2, 1) := by decide +kernel
theorem dL_law_411 : decode cL_law 411 = .ok (.aload_n 0, 1) := by decide +kernel
theorem dL_law_412 : decode cL_law 412 = .ok (.iload_n 3, 1) := by decide +kernel
theorem dL_law_413 : decode cL_law 413 = .ok (.iconst 1, 1) := by decide +kernel
theorem dL_law_414 : decode cL_law 414 = .ok (.iadd, 1) := by decide +kernel
theorem dL_law_415 : decode cL_law 415 = .ok (.iaload, 1) := by decide +kernel
theorem dL_law_416 : decode cL_law 416 = .ok (.aload_n 0, 1) := by decide +kernel
theorem dL_law_417 : decode cL_law 417 = .ok (.iload_n 3, 1) := by decide +kernel
theorem dL_law_418 : decode cL_law 418 = .ok (.iconst 2, 1) := by decide +kernel
theorem dL_law_419 : decode cL_law 419 = .ok (.iadd, 1) := by decide +kernel
theorem dL_law_420 : decode cL_law 420 = .ok (.iaload, 1) := by decide +kernel
theorem dL_law_421 : decode cL_law 421 = .ok (.invokevirtual 52, 3) := by decide +kernel
theorem dL_law_424 : decode cL_law 424 = .ok (.if_icmp .eq 539, 3) := by decide +kernel
theorem dL_law_427 : decode cL_law 427 = .ok (.iconst 0, 1) := by decide +kernel
theorem dL_law_428 : decode cL_law 428 = .ok (.ireturn, 1) := by decide +kernel
theorem dL_law_429 : decode cL_law 429 = .ok (.aload_n 1, 1) := by decide +kernel
theorem dL_law_430 : decode cL_law 430 = .ok (.aload_n 0, 1) := by decide +kernel
theorem dL_law_431 : decode cL_law 431 = .ok (.iload_n 3, 1) := by decide +kernel
theorem dL_law_432 : decode cL_law 432 = .ok (.iconst 1, 1) := by decide +kernel
theorem dL_law_433 : decode cL_law 433 = .ok (.iadd, 1) := by decide +kernel
theorem dL_law_434 : decode cL_law 434 = .ok (.iaload, 1) := by decide +kernel
theorem dL_law_435 : decode cL_law 435 = .ok (.aload_n 0, 1) := by decide +kernel
theorem dL_law_436 : decode cL_law 436 = .ok (.iload_n 3, 1) := by decide +kernel
theorem dL_law_437 : decode cL_law 437 = .ok (.iconst 2, 1) := by decide +kernel
theorem dL_law_438 : decode cL_law 438 = .ok (.iadd, 1) := by decide +kernel
theorem dL_law_439 : decode cL_law 439 = .ok (.iaload, 1) := by decide +kernel
theorem dL_law_440 : decode cL_law 440 = .ok (.invokevirtual 53, 3) := by decide +kernel
theorem dL_law_443 : decode cL_law 443 = .ok (.aload_n 2, 1) := by decide +kernel
theorem dL_law_444 : decode cL_law 444 = .ok (.aload_n 0, 1) := by decide +kernel
theorem dL_law_445 : decode cL_law 445 = .ok (.iload_n 3, 1) := by decide +kernel
theorem dL_law_446 : decode cL_law 446 = .ok (.iconst 1, 1) := by decide +kernel
theorem dL_law_447 : decode cL_law 447 = .ok (.iadd, 1) := by decide +kernel
theorem dL_law_448 : decode cL_law 448 = .ok (.iaload, 1) := by decide +kernel
theorem dL_law_449 : decode cL_law 449 = .ok (.aload_n 0, 1) := by decide +kernel
theorem dL_law_450 : decode cL_law 450 = .ok (.iload_n 3, 1) := by decide +kernel
theorem dL_law_451 : decode cL_law 451 = .ok (.iconst 2, 1) := by decide +kernel
theorem dL_law_452 : decode cL_law 452 = .ok (.iadd, 1) := by decide +kernel
theorem dL_law_453 : decode cL_law 453 = .ok (.iaload, 1) := by decide +kernel
theorem dL_law_454 : decode cL_law 454 = .ok (.invokevirtual 56, 3) := by decide +kernel
theorem dL_law_457 : decode cL_law 457 = .ok (.if_icmp .eq 506, 3) := by decide +kernel
theorem dL_law_460 : decode cL_law 460 = .ok (.iconst 0, 1) := by decide +kernel
theorem dL_law_461 : decode cL_law 461 = .ok (.ireturn, 1) := by decide +kernel
theorem dL_law_462 : decode cL_law 462 = .ok (.aload_n 1, 1) := by decide +kernel
theorem dL_law_463 : decode cL_law 463 = .ok (.aload_n 0, 1) := by decide +kernel
theorem dL_law_464 : decode cL_law 464 = .ok (.iload_n 3, 1) := by decide +kernel
theorem dL_law_465 : decode cL_law 465 = .ok (.iconst 1, 1) := by decide +kernel
theorem dL_law_466 : decode cL_law 466 = .ok (.iadd, 1) := by decide +kernel
theorem dL_law_467 : decode cL_law 467 = .ok (.iaload, 1) := by decide +kernel
theorem dL_law_468 : decode cL_law 468 = .ok (.invokevirtual 57, 3) := by decide +kernel
theorem dL_law_471 : decode cL_law 471 = .ok (.aload_n 2, 1) := by decide +kernel
theorem dL_law_472 : decode cL_law 472 = .ok (.aload_n 0, 1) := by decide +kernel
theorem dL_law_473 : decode cL_law 473 = .ok (.iload_n 3, 1) := by decide +kernel
theorem dL_law_474 : decode cL_law 474 = .ok (.iconst 1, 1) := by decide +kernel
theorem dL_law_475 : decode cL_law 475 = .ok (.iadd, 1) := by decide +kernel
theorem dL_law_476 : decode cL_law 476 = .ok (.iaload, 1) := by decide +kernel
theorem dL_law_477 : decode cL_law 477 = .ok (.invokevirtual 60, 3) := by decide +kernel
theorem dL_law_480 : decode cL_law 480 = .ok (.if_icmp .eq 483, 3) := by decide +kernel
theorem dL_law_483 : decode cL_law 483 = .ok (.iconst 0, 1) := by decide +kernel
theorem dL_law_484 : decode cL_law 484 = .ok (.ireturn, 1) := by decide +kernel
theorem dL_law_485 : decode cL_law 485 = .ok (.aload_n 1, 1) := by decide +kernel
theorem dL_law_486 : decode cL_law 486 = .ok (.invokevirtual 61, 3) := by decide +kernel
theorem dL_law_489 : decode cL_law 489 = .ok (.aload_n 2, 1) := by decide +kernel
theorem dL_law_490 : decode cL_law 490 = .ok (.invokevirtual 64, 3) := by decide +kernel
theorem dL_law_493 : decode cL_law 493 = .ok (.if_icmp .eq 470, 3) := by decide +kernel
theorem dL_law_496 : decode cL_law 496 = .ok (.iconst 0, 1) := by decide +kernel
theorem dL_law_497 : decode cL_law 497 = .ok (.ireturn, 1) := by decide +kernel
theorem dL_law_498 : decode cL_law 498 = .ok (.aload_n 1, 1) := by decide +kernel
theorem dL_law_499 : decode cL_law 499 = .ok (.invokevirtual 65, 3) := by decide +kernel
theorem dL_law_502 : decode cL_law 502 = .ok (.aload_n 2, 1) := by decide +kernel
theorem dL_law_503 : decode cL_law 503 = .ok (.invokevirtual 68, 3) := by decide +kernel
theorem dL_law_506 : decode cL_law 506 = .ok (.if_icmp .eq 457, 3) := by decide +kernel
theorem dL_law_509 : decode cL_law 509 = .ok (.iconst 0, 1) := by decide +kernel
theorem dL_law_510 : decode cL_law 510 = .ok (.ireturn, 1) := by decide +kernel
theorem dL_law_511 : decode cL_law 511 = .ok (.aload_n 1, 1) := by decide +kernel
theorem dL_law_512 : decode cL_law 512 = .ok (.aload_n 0, 1) := by decide +kernel
theorem dL_law_513 : decode cL_law 513 = .ok (.iload_n 3, 1) := by decide +kernel
theorem dL_law_514 : decode cL_law 514 = .ok (.iconst 1, 1) := by decide +kernel
theorem dL_law_515 : decode cL_law 515 = .ok (.iadd, 1) := by decide +kernel
theorem dL_law_516 : decode cL_law 516 = .ok (.iaload, 1) := by decide +kernel
theorem dL_law_517 : decode cL_law 517 = .ok (.aload_n 0, 1) := by decide +kernel
theorem dL_law_518 : decode cL_law 518 = .ok (.iload_n 3, 1) := by decide +kernel
theorem dL_law_519 : decode cL_law 519 = .ok (.iconst 2, 1) := by decide +kernel
theorem dL_law_520 : decode cL_law 520 = .ok (.iadd, 1) := by decide +kernel
theorem dL_law_521 : decode cL_law 521 = .ok (.iaload, 1) := by decide +kernel
theorem dL_law_522 : decode cL_law 522 = .ok (.invokevirtual 69, 3) := by decide +kernel
theorem dL_law_525 : decode cL_law 525 = .ok (.aload_n 2, 1) := by decide +kernel
theorem dL_law_526 : decode cL_law 526 = .ok (.aload_n 0, 1) := by decide +kernel
theorem dL_law_527 : decode cL_law 527 = .ok (.iload_n 3, 1) := by decide +kernel
theorem dL_law_528 : decode cL_law 528 = .ok (.iconst 1, 1) := by decide +kernel
theorem dL_law_529 : decode cL_law 529 = .ok (.iadd, 1) := by decide +kernel
theorem dL_law_530 : decode cL_law 530 = .ok (.iaload, 1) := by decide +kernel
theorem dL_law_531 : decode cL_law 531 = .ok (.aload_n 0, 1) := by decide +kernel
theorem dL_law_532 : decode cL_law 532 = .ok (.iload_n 3, 1) := by decide +kernel
theorem dL_law_533 : decode cL_law 533 = .ok (.iconst 2, 1) := by decide +kernel
theorem dL_law_534 : decode cL_law 534 = .ok (.iadd, 1) := by decide +kernel
theorem dL_law_535 : decode cL_law 535 = .ok (.iaload, 1) := by decide +kernel
theorem dL_law_536 : decode cL_law 536 = .ok (.invokevirtual 73, 3) := by decide +kernel
theorem dL_law_539 : decode cL_law 539 = .ok (.lcmp, 1) := by decide +kernel
theorem dL_law_540 : decode cL_law 540 = .ok (.ifCond .eq 423, 3) := by decide +kernel
theorem dL_law_543 : decode cL_law 543 = .ok (.iconst 0, 1) := by decide +kernel
theorem dL_law_544 : decode cL_law 544 = .ok (.ireturn, 1) := by decide +kernel
theorem dL_law_545 : decode cL_law 545 = .ok (.aload_n 1, 1) := by decide +kernel
theorem dL_law_546 : decode cL_law 546 = .ok (.aload_n 0, 1) := by decide +kernel
theorem dL_law_547 : decode cL_law 547 = .ok (.iload_n 3, 1) := by decide +kernel
theorem dL_law_548 : decode cL_law 548 = .ok (.iconst 1, 1) := by decide +kernel
theorem dL_law_549 : decode cL_law 549 = .ok (.iadd, 1) := by decide +kernel
theorem dL_law_550 : decode cL_law 550 = .ok (.iaload, 1) := by decide +kernel
theorem dL_law_551 : decode cL_law 551 = .ok (.aload_n 0, 1) := by decide +kernel
theorem dL_law_552 : decode cL_law 552 = .ok (.iload_n 3, 1) := by decide +kernel
theorem dL_law_553 : decode cL_law 553 = .ok (.iconst 2, 1) := by decide +kernel
theorem dL_law_554 : decode cL_law 554 = .ok (.iadd, 1) := by decide +kernel
theorem dL_law_555 : decode cL_law 555 = .ok (.iaload, 1) := by decide +kernel
theorem dL_law_556 : decode cL_law 556 = .ok (.invokevirtual 74, 3) := by decide +kernel
theorem dL_law_559 : decode cL_law 559 = .ok (.aload_n 2, 1) := by decide +kernel
theorem dL_law_560 : decode cL_law 560 = .ok (.aload_n 0, 1) := by decide +kernel
theorem dL_law_561 : decode cL_law 561 = .ok (.iload_n 3, 1) := by decide +kernel
theorem dL_law_562 : decode cL_law 562 = .ok (.iconst 1, 1) := by decide +kernel
theorem dL_law_563 : decode cL_law 563 = .ok (.iadd, 1) := by decide +kernel
theorem dL_law_564 : decode cL_law 564 = .ok (.iaload, 1) := by decide +kernel
theorem dL_law_565 : decode cL_law 565 = .ok (.aload_n 0, 1) := by decide +kernel
theorem dL_law_566 : decode cL_law 566 = .ok (.iload_n 3, 1) := by decide +kernel
theorem dL_law_567 : decode cL_law 567 = .ok (.iconst 2, 1) := by decide +kernel
theorem dL_law_568 : decode cL_law 568 = .ok (.iadd, 1) := by decide +kernel
theorem dL_law_569 : decode cL_law 569 = .ok (.iaload, 1) := by decide +kernel
theorem dL_law_570 : decode cL_law 570 = .ok (.invokevirtual 77, 3) := by decide +kernel
theorem dL_law_573 : decode cL_law 573 = .ok (.if_icmp .eq 390, 3) := by decide +kernel
theorem dL_law_576 : decode cL_law 576 = .ok (.iconst 0, 1) := by decide +kernel
theorem dL_law_577 : decode cL_law 577 = .ok (.ireturn, 1) := by decide +kernel
theorem dL_law_578 : decode cL_law 578 = .ok (.aload_n 1, 1) := by decide +kernel
theorem dL_law_579 : decode cL_law 579 = .ok (.aload_n 0, 1) := by decide +kernel
theorem dL_law_580 : decode cL_law 580 = .ok (.iload_n 3, 1) := by decide +kernel
theorem dL_law_581 : decode cL_law 581 = .ok (.iconst 1, 1) := by decide +kernel
theorem dL_law_582 : decode cL_law 582 = .ok (.iadd, 1) := by decide +kernel
theorem dL_law_583 : decode cL_law 583 = .ok (.iaload, 1) := by decide +kernel
theorem dL_law_584 : decode cL_law 584 = .ok (.aload_n 0, 1) := by decide +kernel
theorem dL_law_585 : decode cL_law 585 = .ok (.iload_n 3, 1) := by decide +kernel
theorem dL_law_586 : decode cL_law 586 = .ok (.iconst 2, 1) := by decide +kernel
theorem dL_law_587 : decode cL_law 587 = .ok (.iadd, 1) := by decide +kernel
theorem dL_law_588 : decode cL_law 588 = .ok (.iaload, 1) := by decide +kernel
theorem dL_law_589 : decode cL_law 589 = .ok (.invokevirtual 78, 3) := by decide +kernel
theorem dL_law_592 : decode cL_law 592 = .ok (.aload_n 2, 1) := by decide +kernel
theorem dL_law_593 : decode cL_law 593 = .ok (.aload_n 0, 1) := by decide +kernel
theorem dL_law_594 : decode cL_law 594 = .ok (.iload_n 3, 1) := by decide +kernel
theorem dL_law_595 : decode cL_law 595 = .ok (.iconst 1, 1) := by decide +kernel
theorem dL_law_596 : decode cL_law 596 = .ok (.iadd, 1) := by decide +kernel
theorem dL_law_597 : decode cL_law 597 = .ok (.iaload, 1) := by decide +kernel
theorem dL_law_598 : decode cL_law 598 = .ok (.aload_n 0, 1) := by decide +kernel
theorem dL_law_599 : decode cL_law 599 = .ok (.iload_n 3, 1) := by decide +kernel
theorem dL_law_600 : decode cL_law 600 = .ok (.iconst 2, 1) := by decide +kernel
theorem dL_law_601 : decode cL_law 601 = .ok (.iadd, 1) := by decide +kernel
theorem dL_law_602 : decode cL_law 602 = .ok (.iaload, 1) := by decide +kernel
theorem dL_law_603 : decode cL_law 603 = .ok (.invokevirtual 81, 3) := by decide +kernel
theorem dL_law_606 : decode cL_law 606 = .ok (.if_icmp .eq 357, 3) := by decide +kernel
theorem dL_law_609 : decode cL_law 609 = .ok (.iconst 0, 1) := by decide +kernel
theorem dL_law_610 : decode cL_law 610 = .ok (.ireturn, 1) := by decide +kernel
theorem dL_law_611 : decode cL_law 611 = .ok (.aload_n 1, 1) := by decide +kernel
theorem dL_law_612 : decode cL_law 612 = .ok (.aload_n 0, 1) := by decide +kernel
theorem dL_law_613 : decode cL_law 613 = .ok (.iload_n 3, 1) := by decide +kernel
theorem dL_law_614 : decode cL_law 614 = .ok (.iconst 1, 1) := by decide +kernel
theorem dL_law_615 : decode cL_law 615 = .ok (.iadd, 1) := by decide +kernel
theorem dL_law_616 : decode cL_law 616 = .ok (.iaload, 1) := by decide +kernel
theorem dL_law_617 : decode cL_law 617 = .ok (.invokevirtual 82, 3) := by decide +kernel
theorem dL_law_620 : decode cL_law 620 = .ok (.aload_n 2, 1) := by decide +kernel
theorem dL_law_621 : decode cL_law 621 = .ok (.aload_n 0, 1) := by decide +kernel
theorem dL_law_622 : decode cL_law 622 = .ok (.iload_n 3, 1) := by decide +kernel
theorem dL_law_623 : decode cL_law 623 = .ok (.iconst 1, 1) := by decide +kernel
theorem dL_law_624 : decode cL_law 624 = .ok (.iadd, 1) := by decide +kernel
theorem dL_law_625 : decode cL_law 625 = .ok (.iaload, 1) := by decide +kernel
theorem dL_law_626 : decode cL_law 626 = .ok (.invokevirtual 86, 3) := by decide +kernel
theorem dL_law_629 : decode cL_law 629 = .ok (.lcmp, 1) := by decide +kernel
theorem dL_law_630 : decode cL_law 630 = .ok (.ifCond .eq 333, 3) := by decide +kernel
theorem dL_law_633 : decode cL_law 633 = .ok (.iconst 0, 1) := by decide +kernel
theorem dL_law_634 : decode cL_law 634 = .ok (.ireturn, 1) := by decide +kernel
theorem dL_law_635 : decode cL_law 635 = .ok (.aload_n 1, 1) := by decide +kernel
theorem dL_law_636 : decode cL_law 636 = .ok (.aload_n 0, 1) := by decide +kernel
theorem dL_law_637 : decode cL_law 637 = .ok (.iload_n 3, 1) := by decide +kernel
theorem dL_law_638 : decode cL_law 638 = .ok (.iconst 1, 1) := by decide +kernel
theorem dL_law_639 : decode cL_law 639 = .ok (.iadd, 1) := by decide +kernel
theorem dL_law_640 : decode cL_law 640 = .ok (.iaload, 1) := by decide +kernel
theorem dL_law_641 : decode cL_law 641 = .ok (.aload_n 0, 1) := by decide +kernel
theorem dL_law_642 : decode cL_law 642 = .ok (.iload_n 3, 1) := by decide +kernel
theorem dL_law_643 : decode cL_law 643 = .ok (.iconst 2, 1) := by decide +kernel
theorem dL_law_644 : decode cL_law 644 = .ok (.iadd, 1) := by decide +kernel
theorem dL_law_645 : decode cL_law 645 = .ok (.iaload, 1) := by decide +kernel
theorem dL_law_646 : decode cL_law 646 = .ok (.aload_n 0, 1) := by decide +kernel
theorem dL_law_647 : decode cL_law 647 = .ok (.iload_n 3, 1) := by decide +kernel
theorem dL_law_648 : decode cL_law 648 = .ok (.iconst 3, 1) := by decide +kernel
theorem dL_law_649 : decode cL_law 649 = .ok (.iadd, 1) := by decide +kernel
theorem dL_law_650 : decode cL_law 650 = .ok (.iaload, 1) := by decide +kernel
theorem dL_law_651 : decode cL_law 651 = .ok (.invokevirtual 87, 3) := by decide +kernel
theorem dL_law_654 : decode cL_law 654 = .ok (.aload_n 2, 1) := by decide +kernel
theorem dL_law_655 : decode cL_law 655 = .ok (.aload_n 0, 1) := by decide +kernel
theorem dL_law_656 : decode cL_law 656 = .ok (.iload_n 3, 1) := by decide +kernel
theorem dL_law_657 : decode cL_law 657 = .ok (.iconst 1, 1) := by decide +kernel
theorem dL_law_658 : decode cL_law 658 = .ok (.iadd, 1) := by decide +kernel
theorem dL_law_659 : decode cL_law 659 = .ok (.iaload, 1) := by decide +kernel
theorem dL_law_660 : decode cL_law 660 = .ok (.aload_n 0, 1) := by decide +kernel
theorem dL_law_661 : decode cL_law 661 = .ok (.iload_n 3, 1) := by decide +kernel
theorem dL_law_662 : decode cL_law 662 = .ok (.iconst 2, 1) := by decide +kernel
theorem dL_law_663 : decode cL_law 663 = .ok (.iadd, 1) := by decide +kernel
theorem dL_law_664 : decode cL_law 664 = .ok (.iaload, 1) := by decide +kernel
theorem dL_law_665 : decode cL_law 665 = .ok (.aload_n 0, 1) := by decide +kernel
theorem dL_law_666 : decode cL_law 666 = .ok (.iload_n 3, 1) := by decide +kernel
theorem dL_law_667 : decode cL_law 667 = .ok (.iconst 3, 1) := by decide +kernel
theorem dL_law_668 : decode cL_law 668 = .ok (.iadd, 1) := by decide +kernel
theorem dL_law_669 : decode cL_law 669 = .ok (.iaload, 1) := by decide +kernel
theorem dL_law_670 : decode cL_law 670 = .ok (.invokevirtual 91, 3) := by decide +kernel
theorem dL_law_673 : decode cL_law 673 = .ok (.lcmp, 1) := by decide +kernel
theorem dL_law_674 : decode cL_law 674 = .ok (.ifCond .eq 289, 3) := by decide +kernel
theorem dL_law_677 : decode cL_law 677 = .ok (.iconst 0, 1) := by decide +kernel
theorem dL_law_678 : decode cL_law 678 = .ok (.ireturn, 1) := by decide +kernel
theorem dL_law_679 : decode cL_law 679 = .ok (.aload_n 1, 1) := by decide +kernel
theorem dL_law_680 : decode cL_law 680 = .ok (.invokevirtual 92, 3) := by decide +kernel
theorem dL_law_683 : decode cL_law 683 = .ok (.aload_n 2, 1) := by decide +kernel
theorem dL_law_684 : decode cL_law 684 = .ok (.invokevirtual 95, 3) := by decide +kernel
theorem dL_law_687 : decode cL_law 687 = .ok (.if_icmp .eq 276, 3) := by decide +kernel
theorem dL_law_690 : decode cL_law 690 = .ok (.iconst 0, 1) := by decide +kernel
theorem dL_law_691 : decode cL_law 691 = .ok (.ireturn, 1) := by decide +kernel
theorem dL_law_692 : decode cL_law 692 = .ok (.aload_n 1, 1) := by decide +kernel
theorem dL_law_693 : decode cL_law 693 = .ok (.invokevirtual 96, 3) := by decide +kernel
theorem dL_law_696 : decode cL_law 696 = .ok (.aload_n 2, 1) := by decide +kernel
theorem dL_law_697 : decode cL_law 697 = .ok (.invokevirtual 99, 3) := by decide +kernel
theorem dL_law_700 : decode cL_law 700 = .ok (.if_icmp .eq 263, 3) := by decide +kernel
theorem dL_law_703 : decode cL_law 703 = .ok (.iconst 0, 1) := by decide +kernel
theorem dL_law_704 : decode cL_law 704 = .ok (.ireturn, 1) := by decide +kernel
theorem dL_law_705 : decode cL_law 705 = .ok (.aload_n 1, 1) := by decide +kernel
theorem dL_law_706 : decode cL_law 706 = .ok (.aload_n 0, 1) := by decide +kernel
theorem dL_law_707 : decode cL_law 707 = .ok (.iload_n 3, 1) := by decide +kernel
theorem dL_law_708 : decode cL_law 708 = .ok (.iconst 1, 1) := by decide +kernel
theorem dL_law_709 : decode cL_law 709 = .ok (.iadd, 1) := by decide +kernel
theorem dL_law_710 : decode cL_law 710 = .ok (.iaload, 1) := by decide +kernel
theorem dL_law_711 : decode cL_law 711 = .ok (.invokevirtual 100, 3) := by decide +kernel
theorem dL_law_714 : decode cL_law 714 = .ok (.aload_n 2, 1) := by decide +kernel
theorem dL_law_715 : decode cL_law 715 = .ok (.aload_n 0, 1) := by decide +kernel
theorem dL_law_716 : decode cL_law 716 = .ok (.iload_n 3, 1) := by decide +kernel
theorem dL_law_717 : decode cL_law 717 = .ok (.iconst 1, 1) := by decide +kernel
theorem dL_law_718 : decode cL_law 718 = .ok (.iadd, 1) := by decide +kernel
theorem dL_law_719 : decode cL_law 719 = .ok (.iaload, 1) := by decide +kernel
theorem dL_law_720 : decode cL_law 720 = .ok (.invokevirtual 103, 3) := by decide +kernel
theorem dL_law_723 : decode cL_law 723 = .ok (.if_icmp .eq 240, 3) := by decide +kernel
theorem dL_law_726 : decode cL_law 726 = .ok (.iconst 0, 1) := by decide +kernel
theorem dL_law_727 : decode cL_law 727 = .ok (.ireturn, 1) := by decide +kernel
theorem dL_law_728 : decode cL_law 728 = .ok (.aload_n 1, 1) := by decide +kernel
theorem dL_law_729 : decode cL_law 729 = .ok (.aload_n 0, 1) := by decide +kernel
theorem dL_law_730 : decode cL_law 730 = .ok (.iload_n 3, 1) := by decide +kernel
theorem dL_law_731 : decode cL_law 731 = .ok (.iconst 1, 1) := by decide +kernel
theorem dL_law_732 : decode cL_law 732 = .ok (.iadd, 1) := by decide +kernel
theorem dL_law_733 : decode cL_law 733 = .ok (.iaload, 1) := by decide +kernel
theorem dL_law_734 : decode cL_law 734 = .ok (.aload_n 0, 1) := by decide +kernel
theorem dL_law_735 : decode cL_law 735 = .ok (.iload_n 3, 1) := by decide +kernel
theorem dL_law_736 : decode cL_law 736 = .ok (.iconst 2, 1) := by decide +kernel
theorem dL_law_737 : decode cL_law 737 = .ok (.iadd, 1) := by decide +kernel
theorem dL_law_738 : decode cL_law 738 = .ok (.iaload, 1) := by decide +kernel
theorem dL_law_739 : decode cL_law 739 = .ok (.aload_n 0, 1) := by decide +kernel
theorem dL_law_740 : decode cL_law 740 = .ok (.iload_n 3, 1) := by decide +kernel
theorem dL_law_741 : decode cL_law 741 = .ok (.iconst 3, 1) := by decide +kernel
theorem dL_law_742 : decode cL_law 742 = .ok (.iadd, 1) := by decide +kernel
theorem dL_law_743 : decode cL_law 743 = .ok (.iaload, 1) := by decide +kernel
theorem dL_law_744 : decode cL_law 744 = .ok (.invokevirtual 104, 3) := by decide +kernel
theorem dL_law_747 : decode cL_law 747 = .ok (.aload_n 2, 1) := by decide +kernel
theorem dL_law_748 : decode cL_law 748 = .ok (.aload_n 0, 1) := by decide +kernel
theorem dL_law_749 : decode cL_law 749 = .ok (.iload_n 3, 1) := by decide +kernel
theorem dL_law_750 : decode cL_law 750 = .ok (.iconst 1, 1) := by decide +kernel
theorem dL_law_751 : decode cL_law 751 = .ok (.iadd, 1) := by decide +kernel
theorem dL_law_752 : decode cL_law 752 = .ok (.iaload, 1) := by decide +kernel
theorem dL_law_753 : decode cL_law 753 = .ok (.aload_n 0, 1) := by decide +kernel
theorem dL_law_754 : decode cL_law 754 = .ok (.iload_n 3, 1) := by decide +kernel
theorem dL_law_755 : decode cL_law 755 = .ok (.iconst 2, 1) := by decide +kernel
theorem dL_law_756 : decode cL_law 756 = .ok (.iadd, 1) := by decide +kernel
theorem dL_law_757 : decode cL_law 757 = .ok (.iaload, 1) := by decide +kernel
theorem dL_law_758 : decode cL_law 758 = .ok (.aload_n 0, 1) := by decide +kernel
theorem dL_law_759 : decode cL_law 759 = .ok (.iload_n 3, 1) := by decide +kernel
theorem dL_law_760 : decode cL_law 760 = .ok (.iconst 3, 1) := by decide +kernel
theorem dL_law_761 : decode cL_law 761 = .ok (.iadd, 1) := by decide +kernel
theorem dL_law_762 : decode cL_law 762 = .ok (.iaload, 1) := by decide +kernel
theorem dL_law_763 : decode cL_law 763 = .ok (.invokevirtual 107, 3) := by decide +kernel
theorem dL_law_766 : decode cL_law 766 = .ok (.if_icmp .eq 197, 3) := by decide +kernel
theorem dL_law_769 : decode cL_law 769 = .ok (.iconst 0, 1) := by decide +kernel
theorem dL_law_770 : decode cL_law 770 = .ok (.ireturn, 1) := by decide +kernel
theorem dL_law_771 : decode cL_law 771 = .ok (.aload_n 1, 1) := by decide +kernel
theorem dL_law_772 : decode cL_law 772 = .ok (.aload_n 0, 1) := by decide +kernel
theorem dL_law_773 : decode cL_law 773 = .ok (.iload_n 3, 1) := by decide +kernel
theorem dL_law_774 : decode cL_law 774 = .ok (.iconst 1, 1) := by decide +kernel
theorem dL_law_775 : decode cL_law 775 = .ok (.iadd, 1) := by decide +kernel
theorem dL_law_776 : decode cL_law 776 = .ok (.iaload, 1) := by decide +kernel
theorem dL_law_777 : decode cL_law 777 = .ok (.aload_n 0, 1) := by decide +kernel
theorem dL_law_778 : decode cL_law 778 = .ok (.iload_n 3, 1) := by decide +kernel
theorem dL_law_779 : decode cL_law 779 = .ok (.iconst 2, 1) := by decide +kernel
theorem dL_law_780 : decode cL_law 780 = .ok (.iadd, 1) := by decide +kernel
theorem dL_law_781 : decode cL_law 781 = .ok (.iaload, 1) := by decide +kernel
theorem dL_law_782 : decode cL_law 782 = .ok (.aload_n 0, 1) := by decide +kernel
theorem dL_law_783 : decode cL_law 783 = .ok (.iload_n 3, 1) := by decide +kernel
theorem dL_law_784 : decode cL_law 784 = .ok (.iconst 3, 1) := by decide +kernel
theorem dL_law_785 : decode cL_law 785 = .ok (.iadd, 1) := by decide +kernel
theorem dL_law_786 : decode cL_law 786 = .ok (.iaload, 1) := by decide +kernel
theorem dL_law_787 : decode cL_law 787 = .ok (.invokevirtual 108, 3) := by decide +kernel
theorem dL_law_790 : decode cL_law 790 = .ok (.aload_n 2, 1) := by decide +kernel
theorem dL_law_791 : decode cL_law 791 = .ok (.aload_n 0, 1) := by decide +kernel
theorem dL_law_792 : decode cL_law 792 = .ok (.iload_n 3, 1) := by decide +kernel
theorem dL_law_793 : decode cL_law 793 = .ok (.iconst 1, 1) := by decide +kernel
theorem dL_law_794 : decode cL_law 794 = .ok (.iadd, 1) := by decide +kernel
theorem dL_law_795 : decode cL_law 795 = .ok (.iaload, 1) := by decide +kernel
theorem dL_law_796 : decode cL_law 796 = .ok (.aload_n 0, 1) := by decide +kernel
theorem dL_law_797 : decode cL_law 797 = .ok (.iload_n 3, 1) := by decide +kernel
theorem dL_law_798 : decode cL_law 798 = .ok (.iconst 2, 1) := by decide +kernel
theorem dL_law_799 : decode cL_law 799 = .ok (.iadd, 1) := by decide +kernel
theorem dL_law_800 : decode cL_law 800 = .ok (.iaload, 1) := by decide +kernel
theorem dL_law_801 : decode cL_law 801 = .ok (.aload_n 0, 1) := by decide +kernel
theorem dL_law_802 : decode cL_law 802 = .ok (.iload_n 3, 1) := by decide +kernel
theorem dL_law_803 : decode cL_law 803 = .ok (.iconst 3, 1) := by decide +kernel
theorem dL_law_804 : decode cL_law 804 = .ok (.iadd, 1) := by decide +kernel
theorem dL_law_805 : decode cL_law 805 = .ok (.iaload, 1) := by decide +kernel
theorem dL_law_806 : decode cL_law 806 = .ok (.invokevirtual 111, 3) := by decide +kernel
theorem dL_law_809 : decode cL_law 809 = .ok (.if_icmp .eq 154, 3) := by decide +kernel
theorem dL_law_812 : decode cL_law 812 = .ok (.iconst 0, 1) := by decide +kernel
theorem dL_law_813 : decode cL_law 813 = .ok (.ireturn, 1) := by decide +kernel
theorem dL_law_814 : decode cL_law 814 = .ok (.aload_n 1, 1) := by decide +kernel
theorem dL_law_815 : decode cL_law 815 = .ok (.aload_n 0, 1) := by decide +kernel
theorem dL_law_816 : decode cL_law 816 = .ok (.iload_n 3, 1) := by decide +kernel
theorem dL_law_817 : decode cL_law 817 = .ok (.iconst 1, 1) := by decide +kernel
theorem dL_law_818 : decode cL_law 818 = .ok (.iadd, 1) := by decide +kernel
theorem dL_law_819 : decode cL_law 819 = .ok (.iaload, 1) := by decide +kernel
theorem dL_law_820 : decode cL_law 820 = .ok (.aload_n 0, 1) := by decide +kernel
theorem dL_law_821 : decode cL_law 821 = .ok (.iload_n 3, 1) := by decide +kernel
theorem dL_law_822 : decode cL_law 822 = .ok (.iconst 2, 1) := by decide +kernel
theorem dL_law_823 : decode cL_law 823 = .ok (.iadd, 1) := by decide +kernel
theorem dL_law_824 : decode cL_law 824 = .ok (.iaload, 1) := by decide +kernel
theorem dL_law_825 : decode cL_law 825 = .ok (.aload_n 0, 1) := by decide +kernel
theorem dL_law_826 : decode cL_law 826 = .ok (.iload_n 3, 1) := by decide +kernel
theorem dL_law_827 : decode cL_law 827 = .ok (.iconst 3, 1) := by decide +kernel
theorem dL_law_828 : decode cL_law 828 = .ok (.iadd, 1) := by decide +kernel
theorem dL_law_829 : decode cL_law 829 = .ok (.iaload, 1) := by decide +kernel
theorem dL_law_830 : decode cL_law 830 = .ok (.aload_n 0, 1) := by decide +kernel
theorem dL_law_831 : decode cL_law 831 = .ok (.iload_n 3, 1) := by decide +kernel
theorem dL_law_832 : decode cL_law 832 = .ok (.iconst 4, 1) := by decide +kernel
theorem dL_law_833 : decode cL_law 833 = .ok (.iadd, 1) := by decide +kernel
theorem dL_law_834 : decode cL_law 834 = .ok (.iaload, 1) := by decide +kernel
theorem dL_law_835 : decode cL_law 835 = .ok (.aload_n 0, 1) := by decide +kernel
theorem dL_law_836 : decode cL_law 836 = .ok (.iload_n 3, 1) := by decide +kernel
theorem dL_law_837 : decode cL_law 837 = .ok (.iconst 5, 1) := by decide +kernel
theorem dL_law_838 : decode cL_law 838 = .ok (.iadd, 1) := by decide +kernel
theorem dL_law_839 : decode cL_law 839 = .ok (.iaload, 1) := by decide +kernel
theorem dL_law_840 : decode cL_law 840 = .ok (.invokevirtual 112, 3) := by decide +kernel
theorem dL_law_843 : decode cL_law 843 = .ok (.aload_n 2, 1) := by decide +kernel
theorem dL_law_844 : decode cL_law 844 = .ok (.aload_n 0, 1) := by decide +kernel
theorem dL_law_845 : decode cL_law 845 = .ok (.iload_n 3, 1) := by decide +kernel
theorem dL_law_846 : decode cL_law 846 = .ok (.iconst 1, 1) := by decide +kernel
theorem dL_law_847 : decode cL_law 847 = .ok (.iadd, 1) := by decide +kernel
theorem dL_law_848 : decode cL_law 848 = .ok (.iaload, 1) := by decide +kernel
theorem dL_law_849 : decode cL_law 849 = .ok (.aload_n 0, 1) := by decide +kernel
theorem dL_law_850 : decode cL_law 850 = .ok (.iload_n 3, 1) := by decide +kernel
theorem dL_law_851 : decode cL_law 851 = .ok (.iconst 2, 1) := by decide +kernel
theorem dL_law_852 : decode cL_law 852 = .ok (.iadd, 1) := by decide +kernel
theorem dL_law_853 : decode cL_law 853 = .ok (.iaload, 1) := by decide +kernel
theorem dL_law_854 : decode cL_law 854 = .ok (.aload_n 0, 1) := by decide +kernel
theorem dL_law_855 : decode cL_law 855 = .ok (.iload_n 3, 1) := by decide +kernel
theorem dL_law_856 : decode cL_law 856 = .ok (.iconst 3, 1) := by decide +kernel
theorem dL_law_857 : decode cL_law 857 = .ok (.iadd, 1) := by decide +kernel
theorem dL_law_858 : decode cL_law 858 = .ok (.iaload, 1) := by decide +kernel
theorem dL_law_859 : decode cL_law 859 = .ok (.aload_n 0, 1) := by decide +kernel
theorem dL_law_860 : decode cL_law 860 = .ok (.iload_n 3, 1) := by decide +kernel
theorem dL_law_861 : decode cL_law 861 = .ok (.iconst 4, 1) := by decide +kernel
theorem dL_law_862 : decode cL_law 862 = .ok (.iadd, 1) := by decide +kernel
theorem dL_law_863 : decode cL_law 863 = .ok (.iaload, 1) := by decide +kernel
theorem dL_law_864 : decode cL_law 864 = .ok (.aload_n 0, 1) := by decide +kernel
theorem dL_law_865 : decode cL_law 865 = .ok (.iload_n 3, 1) := by decide +kernel
theorem dL_law_866 : decode cL_law 866 = .ok (.iconst 5, 1) := by decide +kernel
theorem dL_law_867 : decode cL_law 867 = .ok (.iadd, 1) := by decide +kernel
theorem dL_law_868 : decode cL_law 868 = .ok (.iaload, 1) := by decide +kernel
theorem dL_law_869 : decode cL_law 869 = .ok (.invokevirtual 116, 3) := by decide +kernel
theorem dL_law_872 : decode cL_law 872 = .ok (.if_icmp .eq 91, 3) := by decide +kernel
theorem dL_law_875 : decode cL_law 875 = .ok (.iconst 0, 1) := by decide +kernel
theorem dL_law_876 : decode cL_law 876 = .ok (.ireturn, 1) := by decide +kernel
theorem dL_law_877 : decode cL_law 877 = .ok (.aload_n 1, 1) := by decide +kernel
theorem dL_law_878 : decode cL_law 878 = .ok (.aload_n 0, 1) := by decide +kernel
theorem dL_law_879 : decode cL_law 879 = .ok (.iload_n 3, 1) := by decide +kernel
theorem dL_law_880 : decode cL_law 880 = .ok (.iconst 1, 1) := by decide +kernel
theorem dL_law_881 : decode cL_law 881 = .ok (.iadd, 1) := by decide +kernel
theorem dL_law_882 : decode cL_law 882 = .ok (.iaload, 1) := by decide +kernel
theorem dL_law_883 : decode cL_law 883 = .ok (.aload_n 0, 1) := by decide +kernel
theorem dL_law_884 : decode cL_law 884 = .ok (.iload_n 3, 1) := by decide +kernel
theorem dL_law_885 : decode cL_law 885 = .ok (.iconst 2, 1) := by decide +kernel
theorem dL_law_886 : decode cL_law 886 = .ok (.iadd, 1) := by decide +kernel
theorem dL_law_887 : decode cL_law 887 = .ok (.iaload, 1) := by decide +kernel
theorem dL_law_888 : decode cL_law 888 = .ok (.aload_n 0, 1) := by decide +kernel
theorem dL_law_889 : decode cL_law 889 = .ok (.iload_n 3, 1) := by decide +kernel
theorem dL_law_890 : decode cL_law 890 = .ok (.iconst 3, 1) := by decide +kernel
theorem dL_law_891 : decode cL_law 891 = .ok (.iadd, 1) := by decide +kernel
theorem dL_law_892 : decode cL_law 892 = .ok (.iaload, 1) := by decide +kernel
theorem dL_law_893 : decode cL_law 893 = .ok (.aload_n 0, 1) := by decide +kernel
theorem dL_law_894 : decode cL_law 894 = .ok (.iload_n 3, 1) := by decide +kernel
theorem dL_law_895 : decode cL_law 895 = .ok (.iconst 4, 1) := by decide +kernel
theorem dL_law_896 : decode cL_law 896 = .ok (.iadd, 1) := by decide +kernel
theorem dL_law_897 : decode cL_law 897 = .ok (.iaload, 1) := by decide +kernel
theorem dL_law_898 : decode cL_law 898 = .ok (.invokevirtual 117, 3) := by decide +kernel
theorem dL_law_901 : decode cL_law 901 = .ok (.aload_n 2, 1) := by decide +kernel
theorem dL_law_902 : decode cL_law 902 = .ok (.aload_n 0, 1) := by decide +kernel
theorem dL_law_903 : decode cL_law 903 = .ok (.iload_n 3, 1) := by decide +kernel
theorem dL_law_904 : decode cL_law 904 = .ok (.iconst 1, 1) := by decide +kernel
theorem dL_law_905 : decode cL_law 905 = .ok (.iadd, 1) := by decide +kernel
theorem dL_law_906 : decode cL_law 906 = .ok (.iaload, 1) := by decide +kernel
theorem dL_law_907 : decode cL_law 907 = .ok (.aload_n 0, 1) := by decide +kernel
theorem dL_law_908 : decode cL_law 908 = .ok (.iload_n 3, 1) := by decide +kernel
theorem dL_law_909 : decode cL_law 909 = .ok (.iconst 2, 1) := by decide +kernel
theorem dL_law_910 : decode cL_law 910 = .ok (.iadd, 1) := by decide +kernel
theorem dL_law_911 : decode cL_law 911 = .ok (.iaload, 1) := by decide +kernel
theorem dL_law_912 : decode cL_law 912 = .ok (.aload_n 0, 1) := by decide +kernel
theorem dL_law_913 : decode cL_law 913 = .ok (.iload_n 3, 1) := by decide +kernel
theorem dL_law_914 : decode cL_law 914 = .ok (.iconst 3, 1) := by decide +kernel
theorem dL_law_915 : decode cL_law 915 = .ok (.iadd, 1) := by decide +kernel
theorem dL_law_916 : decode cL_law 916 = .ok (.iaload, 1) := by decide +kernel
theorem dL_law_917 : decode cL_law 917 = .ok (.aload_n 0, 1) := by decide +kernel
theorem dL_law_918 : decode cL_law 918 = .ok (.iload_n 3, 1) := by decide +kernel
theorem dL_law_919 : decode cL_law 919 = .ok (.iconst 4, 1) := by decide +kernel
theorem dL_law_920 : decode cL_law 920 = .ok (.iadd, 1) := by decide +kernel
theorem dL_law_921 : decode cL_law 921 = .ok (.iaload, 1) := by decide +kernel
theorem dL_law_922 : decode cL_law 922 = .ok (.invokevirtual 121, 3) := by decide +kernel
theorem dL_law_925 : decode cL_law 925 = .ok (.if_icmp .eq 38, 3) := by decide +kernel
theorem dL_law_928 : decode cL_law 928 = .ok (.iconst 0, 1) := by decide +kernel
theorem dL_law_929 : decode cL_law 929 = .ok (.ireturn, 1) := by decide +kernel
theorem dL_law_930 : decode cL_law 930 = .ok (.aload_n 1, 1) := by decide +kernel
theorem dL_law_931 : decode cL_law 931 = .ok (.aload_n 0, 1) := by decide +kernel
theorem dL_law_932 : decode cL_law 932 = .ok (.iload_n 3, 1) := by decide +kernel
theorem dL_law_933 : decode cL_law 933 = .ok (.iconst 1, 1) := by decide +kernel
theorem dL_law_934 : decode cL_law 934 = .ok (.iadd, 1) := by decide +kernel
theorem dL_law_935 : decode cL_law 935 = .ok (.iaload, 1) := by decide +kernel
theorem dL_law_936 : decode cL_law 936 = .ok (.aload_n 0, 1) := by decide +kernel
theorem dL_law_937 : decode cL_law 937 = .ok (.iload_n 3, 1) := by decide +kernel
theorem dL_law_938 : decode cL_law 938 = .ok (.iconst 2, 1) := by decide +kernel
theorem dL_law_939 : decode cL_law 939 = .ok (.iadd, 1) := by decide +kernel
theorem dL_law_940 : decode cL_law 940 = .ok (.iaload, 1) := by decide +kernel
theorem dL_law_941 : decode cL_law 941 = .ok (.invokevirtual 122, 3) := by decide +kernel
theorem dL_law_944 : decode cL_law 944 = .ok (.aload_n 2, 1) := by decide +kernel
theorem dL_law_945 : decode cL_law 945 = .ok (.aload_n 0, 1) := by decide +kernel
theorem dL_law_946 : decode cL_law 946 = .ok (.iload_n 3, 1) := by decide +kernel
theorem dL_law_947 : decode cL_law 947 = .ok (.iconst 1, 1) := by decide +kernel
theorem dL_law_948 : decode cL_law 948 = .ok (.iadd, 1) := by decide +kernel
theorem dL_law_949 : decode cL_law 949 = .ok (.iaload, 1) := by decide +kernel
theorem dL_law_950 : decode cL_law 950 = .ok (.aload_n 0, 1) := by decide +kernel
theorem dL_law_951 : decode cL_law 951 = .ok (.iload_n 3, 1) := by decide +kernel
theorem dL_law_952 : decode cL_law 952 = .ok (.iconst 2, 1) := by decide +kernel
theorem dL_law_953 : decode cL_law 953 = .ok (.iadd, 1) := by decide +kernel
theorem dL_law_954 : decode cL_law 954 = .ok (.iaload, 1) := by decide +kernel
theorem dL_law_955 : decode cL_law 955 = .ok (.invokevirtual 125, 3) := by decide +kernel
theorem dL_law_958 : decode cL_law 958 = .ok (.if_icmp .eq 5, 3) := by decide +kernel
theorem dL_law_961 : decode cL_law 961 = .ok (.iconst 0, 1) := by decide +kernel
theorem dL_law_962 : decode cL_law 962 = .ok (.ireturn, 1) := by decide +kernel
theorem dL_law_963 : decode cL_law 963 = .ok (.iinc 3 6, 3) := by decide +kernel
theorem dL_law_966 : decode cL_law 966 = .ok (.goto (-948), 3) := by decide +kernel
theorem dL_law_969 : decode cL_law 969 = .ok (.iconst 1, 1) := by decide +kernel
theorem dL_law_970 : decode cL_law 970 = .ok (.ireturn, 1) := by decide +kernel
end
section
/-! ===== printed by gen: nest words, String constants ===== -/
def nwF : List (String × Nat × String × String × String × String) := [(RX2, 101, RX3, "batter", "I", RX5), (RX5, 108, RX3, "batter", "I", RX5), (RX5, 97, RX3, "pans", "I", RX5), (RX2, 50, RX3, "rule", "I", RX5), (RX5, 129, RX3, "rule", "I", RX5), (RX2, 104, RX3, "seated", "I", RX5), (RX5, 158, RX3, "seated", "I", RX5), (RX2, 74, RX3, "kind", "[I", RX5), (RX5, 81, RX3, "kind", "[I", RX5), (RX5, 91, RX3, "number", "[I", RX5), (RX2, 158, RX3, "number", "[I", RX5), (RX5, 94, RX3, "want", "[I", RX5), (RX2, 149, RX3, "want", "[I", RX5), (RX2, 77, RX3, "pace", "[I", RX5), (RX5, 84, RX3, "pace", "[I", RX5), (RX5, 120, RX0, "size", "I", RX5), (RX5, 126, RX0, "fault", "I", RX5), (RX4, 28, RX0, "code", "[I", RX5), (RX4, 33, RX0, "ends", "[I", RX5), (RX5, 123, RX4, "known", "I", RX5), (RX5, 114, RX2, "readyAt", "[I", RX5), (RX5, 139, RX2, "plan", "[I", RX5), (RX5, 253, RX2, "eats", "[I", RX5), (RX5, 171, RX2, "absent", "I", RX5), (RX5, 193, RX2, "had", "[I", RX5), (RX5, 168, RX2, "cost", "I", RX5)]
def nwM : List (String × Nat × MethodName × String) := [(RX5, 9, yX3_init, RX5), (RX5, 21, yX0_init, RX5), (RX5, 28, yX4_init, RX5), (RX5, 35, yX1_init, RX5), (RX5, 42, yX2_init, RX5), (RX5, 51, yX0_write, RX5), (RX5, 55, yX0_reads, RX5), (RX5, 59, yX4_add, RX5), (RX5, 70, yX3_change, RX5), (RX5, 74, yX3_seat, RX5), (RX5, 77, yX3_has, RX5), (RX5, 101, yX2_lay, RX5), (RX2, 44, yX4_name, RX5), (RX2, 56, yX4_valueOf, RX5), (RX2, 80, yX5_eatsOf, RX5), (RX5, 105, yX2_hungers, RX5), (RX2, 161, yX5_hungersOf, RX5), (RX5, 111, yX2_bake, RX5), (RX5, 117, yX0_append, RX5), (RX5, 132, yX2_isAnswer, RX5), (RX2, 155, yX3_has, RX5), (RX5, 136, yX1_isMissing, RX5), (RX5, 142, yX1_sizeOf, RX5), (RX5, 146, yX1_item, RX5), (RX5, 149, yX2_run, RX5), (RX5, 152, yX2_answer, RX5), (RX5, 155, yX2_heapUp, RX5), (RX5, 161, yX2_planTurns, RX5), (RX5, 164, yX2_planFirst, RX5), (RX5, 218, yX2_servedCakes, RX5), (RX5, 183, yX1_has, RX5), (RX5, 250, yX2_lastTold, RX5), (RX5, 190, yX1_lay, RX5), (RX5, 196, yX1_put, RX5), (RX5, 199, yX2_planDrawn, RX5), (RX5, 210, yX3_become, RX5), (RX5, 222, yX3_wantOfAll, RX5), (RX5, 225, yX1_sortOf, RX5), (RX5, 228, yX1_spans, RX5), (RX5, 232, yX1_move, RX5)]
def sLen : List Nat := [38, 4, 6, 3, 4, 5, 4, 5, 6, 5, 2, 3, 3]
def sByt : List (List Int32) := [[116, 97, 107, 101, 115, 32, 52, 32, 59, 32, 104, 117, 110, 103, 101, 114, 32, 49, 32, 59, 32, 119, 111, 114, 116, 104, 32, 49, 48, 32, 45, 32, 108, 97, 116, 101, 32, 59], [99, 97, 107, 101], [109, 105, 110, 117, 116, 101], [104, 97, 100], [119, 97, 110, 116], [101, 97, 116, 101, 114], [108, 97, 116, 101], [116, 97, 107, 101, 115], [104, 117, 110, 103, 101, 114], [119, 111, 114, 116, 104], [111, 114], [97, 110, 100], [110, 111, 116]]
def sRef : List (String × Nat × String × Nat) := [(RX5, 49, "takes 4 ; hunger 1 ; worth 10 - late ;", 0), (RX0, 106, "cake", 1), (RX0, 108, "minute", 2), (RX0, 110, "had", 3), (RX0, 112, "want", 4), (RX0, 114, "eater", 5), (RX0, 116, "late", 6), (RX0, 118, "takes", 7), (RX0, 120, "hunger", 8), (RX0, 122, "worth", 9), (RX0, 124, "or", 10), (RX0, 126, "and", 11), (RX0, 128, "not", 12)]
/-! ===== words: the good words of the tables, and the nest mates' ===== -/
def gw : List Cond := lw_tbl.filter goodWord
theorem gw_in {w : Cond} (h : w ∈ lw_tbl) (hg : goodWord w = true) : w ∈ gw := List.mem_filter.mpr ⟨h, hg⟩
theorem gw_good (w : Cond) (h : w ∈ gw) : (w.onTables && w.keeps) = true ∨ ∃ ty, w = .arrayClass ty := good_of_word (List.mem_filter.mp h).2
abbrev wn_M : Type := MethodName × ByteArray × Nat × Option FieldType
def wy (mt : wn_M) : List Cond := .code mt.1 mt.2.1 mt.2.2.1 mt.2.2.2 :: gw
def nws : List Cond := nwF.map (fun q => Cond.fieldLinkNest q.1 q.2.1 q.2.2.1 q.2.2.2.1 q.2.2.2.2.1 q.2.2.2.2.2) ++ nwM.map (fun q => Cond.methodLinkNest q.1 q.2.1 q.2.2.1 q.2.2.2)
def Nws (U : State) : Prop := ∀ w ∈ nws, va_Nw w U
theorem Nws.warm {s U : State} (hW : s.WarmedH U.vm) (h : Nws s) : Nws U := by
  intro w hw
  have h1 := h w hw
  rcases List.mem_append.mp hw with h2 | h2
  · obtain ⟨q, -, rfl⟩ := List.mem_map.mp h2
    exact va_Nw.warmF hW h1
  · obtain ⟨q, -, rfl⟩ := List.mem_map.mp h2
    exact va_Nw.warmM hW h1
theorem Nws.same {u U : State} (hv : u.vm = U.vm) (h : Nws u) : Nws U := by
  intro w hw
  have h1 := h w hw
  rcases List.mem_append.mp hw with h2 | h2
  · obtain ⟨q, -, rfl⟩ := List.mem_map.mp h2
    exact va_Nw.same rfl hv h1
  · obtain ⟨q, -, rfl⟩ := List.mem_map.mp h2
    exact va_Nw.same rfl hv h1
/-! ===== what stays: classes, constants, statics ===== -/
abbrev wn_G : Type := va_G × ClassId × ClassId × (Nat → Nat) × (Nat → Nat) × Nat × Nat
def gD (G : wn_G) : va_G := G.1
def gI (G : wn_G) : ClassId := G.2.1
def gZ (G : wn_G) : ClassId := G.2.2.1
def gK (G : wn_G) : Nat → Nat := G.2.2.2.1
def gV (G : wn_G) : Nat → Nat := G.2.2.2.2.1
def gL (G : wn_G) : Nat := G.2.2.2.2.2.1
def gH (G : wn_G) : Nat := G.2.2.2.2.2.2
def tys (G : wn_G) : List (ClassId × FieldType) := [(gI G, .int), (gZ G, .boolean)]
def lowV : Nat → Int32 := fun j => [0, 1, 0, 0, 1].getD j 0
def highV : Nat → Int32 := fun j => [12, 2, 9, 12, 20].getD j 0
def Ev (G : wn_G) (A : Nat → Prop) (U : State) : Prop :=
  va_K (gD G) vwCl (tys G) U ∧ Nws U ∧ vk_S 13 sLen sByt (gK G) (gV G) A U U.heap ∧ (∀ q ∈ sRef, vk_R q.1 q.2.1 q.2.2.1 (gK G q.2.2.2) U) ∧
  (va_Z RX5 "LOWEST" "[I" (.ref (gL G)) A U U.heap ∧ va_T .int (gL G) 5 (fun j => .int (lowV j)) A U U.heap) ∧
  (va_Z RX5 "HIGHEST" "[I" (.ref (gH G)) A U U.heap ∧ va_T .int (gH G) 5 (fun j => .int (highV j)) A U U.heap) ∧
  va_Z RJ0 "COMPACT_STRINGS" "Z" (.int 1) A U U.heap ∧ va_Zq RJ3 "SIOOBE_FORMATTER" "Ljava/util/function/BiFunction;" A U U.heap
theorem Ev.same {G : wn_G} {A : Nat → Prop} {u U : State} (hv : U.vm = u.vm) (hh : U.heap = u.heap) (h : Ev G A u) : Ev G A U := by
  obtain ⟨h1, h2, h3, h4, ⟨h5, h6⟩, ⟨h7, h8⟩, h9, h10⟩ := h
  have hA : u.vm.Alike U.vm := by rw [hv]; exact Vm.Alike.refl _
  refine ⟨va_K.moved hA h1, h2.same hv.symm, ?_, fun q hq => vk_R.same hv (h4 q hq), ⟨?_, ?_⟩, ⟨?_, ?_⟩, ?_, ?_⟩
  · rw [hh]; exact vk_S.moved hA h3
  · rw [hh]; exact va_Z.moved hA h5
  · rw [hh]; exact va_T.moved hA h6
  · rw [hh]; exact va_Z.moved hA h7
  · rw [hh]; exact va_T.moved hA h8
  · rw [hh]; exact va_Z.moved hA h9
  · rw [hh]; exact va_Zq.moved hA h10
theorem Ev.call {G : wn_G} {A B : Nat → Prop} {s U : State} (hW : s.WarmedH U.vm) (hq : ∀ a : Nat, a < s.heap.size → ¬ A a → U.heap[a]? = s.heap[a]?) (hAB : ∀ q, B q → A q) (h : Ev G A s) : Ev G B U := by
  obtain ⟨h1, h2, h3, h4, ⟨h5, h6⟩, ⟨h7, h8⟩, h9, h10⟩ := h
  have hA : s.vm.Alike U.vm := hW.alike
  refine ⟨va_K.moved hA h1, h2.warm hW, ?_, fun q hq => vk_R.warm hW (h4 q hq), ⟨?_, ?_⟩, ⟨?_, ?_⟩, ?_, ?_⟩
  · exact (vk_S.moved hA (h3.kept hq)).narrow hAB
  · exact (va_Z.moved hA (h5.kept hq)).narrow hAB
  · exact (va_T.moved hA (h6.kept hq)).narrow hAB
  · exact (va_Z.moved hA (h7.kept hq)).narrow hAB
  · exact (va_T.moved hA (h8.kept hq)).narrow hAB
  · exact (va_Z.moved hA (h9.kept hq)).narrow hAB
  · exact (va_Zq.moved hA (h10.kept hq)).narrow hAB
/-! ===== a system of objects by number, and its memory ===== -/
/-- for each object: 0 a row of ints, 1 a row of booleans, c + 2 an object of class c; a row's length; an object's fields: 0 an int, 1 a long, o + 2 object o -/
abbrev wn_S : Type := List (Nat × Nat × List Nat)
abbrev Mm : Type := (Nat → Nat → Int32) × (Nat → Int64)
def ms (M : Mm) (o k : Nat) (v : Int32) : Mm := (fun o' k' => if o' = o ∧ k' = k then v else M.1 o' k', M.2)
def ml (M : Mm) (o : Nat) (v : Int64) : Mm := (M.1, fun o' => if o' = o then v else M.2 o')
/-- n places of row o from sp on go to row o2 from dp on -/
def mc (M : Mm) (o sp o2 dp n : Nat) : Mm := (fun o' k' => if o' = o2 ∧ dp ≤ k' ∧ k' < dp + n then M.1 o (sp + (k' - dp)) else M.1 o' k', M.2)
def fv (ad : Nat → Nat) (M : Mm) (o j : Nat) : Nat → Value
  | 0 => .int (M.1 o j)
  | 1 => .long (M.2 o)
  | t + 2 => .ref (ad t)
def en (G : wn_G) (ad : Nat → Nat) (M : Mm) (o : Nat) (q : Nat × Nat × List Nat) : va_E := match q.1 with
  | 0 => .inl (gI G, (q.2.1, .inl (M.1 o)))
  | 1 => .inl (gZ G, (q.2.1, .inl (M.1 o)))
  | c + 2 => .inr (c, q.2.2.mapIdx (fv ad M o))
def wo (G : wn_G) (S : wn_S) (ad : Nat → Nat) (M : Mm) : va_W := S.mapIdx (fun o q => (ad o, en G ad M o q))
section WO
variable {G : wn_G} {S : wn_S} {ad : Nat → Nat} {M M' : Mm} {A : Nat → Prop}
theorem wo_get (i : Nat) : (wo G S ad M)[i]? = S[i]?.map (fun q => (ad i, en G ad M i q)) := by
  unfold wo
  rw [List.getElem?_mapIdx]
theorem wo_at {o : Nat} {q : Nat × Nat × List Nat} (h : S[o]? = some q) : (wo G S ad M)[o]? = some (ad o, en G ad M o q) := by
  rw [wo_get, h]; rfl
theorem wo_ex {i : Nat} {p : Nat × va_E} (h : (wo G S ad M)[i]? = some p) : ∃ p', (wo G S ad M')[i]? = some p' ∧ p'.1 = p.1 := by
  rw [wo_get] at h ⊢
  cases hs : S[i]? with
  | none => rw [hs] at h; cases h
  | some q => rw [hs] at h; cases h; exact ⟨_, rfl, rfl⟩
theorem wo_D (h : va_D A (wo G S ad M)) : va_D A (wo G S ad M') := by
  refine ⟨fun i j p q hi hj e => ?_, fun k q hk => ?_⟩
  · obtain ⟨p', h1, h2⟩ := wo_ex (M' := M) hi
    obtain ⟨q', h3, h4⟩ := wo_ex (M' := M) hj
    exact h.1 i j p' q' h1 h3 (by rw [h2, h4]; exact e)
  · obtain ⟨q', h1, h2⟩ := wo_ex (M' := M) hk
    rw [← h2]
    exact h.2 k q' h1
theorem wo_A {sz q : Nat} (h : va_A (wo G S ad M) sz q) : va_A (wo G S ad M') sz q := by
  rcases h with ⟨k, e, h⟩ | h
  · obtain ⟨p', h1, h2⟩ := wo_ex (M' := M') h
    refine Or.inl ⟨k, p'.2, ?_⟩
    rw [h1, show q = p'.1 from h2.symm]
  · exact Or.inr h
theorem wo_set {o : Nat} {q : Nat × Nat × List Nat} {e : va_E} (h : S[o]? = some q) (he : e = en G ad M' o q) (h1 : ∀ i, i ≠ o → M'.1 i = M.1 i) (h2 : ∀ i, i ≠ o → M'.2 i = M.2 i) : (wo G S ad M).set o (ad o, e) = wo G S ad M' := by
  subst he
  refine List.ext_getElem? fun i => ?_
  have hl := (List.getElem?_eq_some_iff.mp (wo_at (G := G) (ad := ad) (M := M) h)).1
  by_cases hi : i = o
  · subst hi
    rw [List.getElem?_set_self hl, wo_at h]
  · rw [List.getElem?_set_ne (Ne.symm hi), wo_get, wo_get]
    have e : (fun q => (ad i, en G ad M i q)) = (fun q => (ad i, en G ad M' i q)) := by
      funext q
      have e1 : fv ad M i = fv ad M' i := by
        funext j t
        match t with
        | 0 => show Value.int _ = Value.int _; rw [h1 i hi]
        | 1 => show Value.long _ = Value.long _; rw [h2 i hi]
        | t + 2 => rfl
      obtain ⟨a, n, fk⟩ := q
      match a with
      | 0 => show (_, _) = (_, _); simp only [en]; rw [h1 i hi]
      | 1 => show (_, _) = (_, _); simp only [en]; rw [h1 i hi]
      | a + 2 => show (_, _) = (_, _); simp only [en]; rw [e1]
    rw [e]
theorem fs_int {o j : Nat} {fk : List Nat} {v : Int32} (h : fk[j]? = some 0) : (fk.mapIdx (fv ad M o)).set j (.int v) = fk.mapIdx (fv ad (ms M o j v) o) := by
  have hj := (List.getElem?_eq_some_iff.mp h).1
  refine List.ext_getElem? fun i => ?_
  by_cases hi : i = j
  · subst hi
    rw [List.getElem?_set_self (by simpa using hj), List.getElem?_mapIdx, h]
    simp [fv, ms]
  · rw [List.getElem?_set_ne (Ne.symm hi), List.getElem?_mapIdx, List.getElem?_mapIdx]
    congr 1
    funext t
    match t with
    | 0 => simp [fv, ms, hi]
    | 1 => rfl
    | t + 2 => rfl
theorem fs_long {o j : Nat} {fk : List Nat} {v : Int64} (h : fk[j]? = some 1) (hu : ∀ i, i < fk.length → fk[i]? = some 1 → i = j) : (fk.mapIdx (fv ad M o)).set j (.long v) = fk.mapIdx (fv ad (ml M o v) o) := by
  have hj := (List.getElem?_eq_some_iff.mp h).1
  refine List.ext_getElem? fun i => ?_
  by_cases hi : i = j
  · subst hi
    rw [List.getElem?_set_self (by simpa using hj), List.getElem?_mapIdx, h]
    simp [fv, ml]
  · rw [List.getElem?_set_ne (Ne.symm hi), List.getElem?_mapIdx, List.getElem?_mapIdx]
    cases ht : fk[i]? with
    | none => rfl
    | some t =>
      match t, ht with
      | 0, _ => rfl
      | 1, ht => exact absurd (hu i (List.getElem?_eq_some_iff.mp ht).1 ht) hi
      | t + 2, _ => rfl
theorem fv_get {o j t : Nat} {fk : List Nat} (h : fk[j]? = some t) : (fk.mapIdx (fv ad M o))[j]? = some (fv ad M o j t) := by
  rw [List.getElem?_mapIdx, h]; rfl
theorem ms_upd {o i : Nat} {v : Int32} : (ms M o i v).1 o = upd (M.1 o) i v := by
  funext k
  simp [ms, upd]
theorem ms_ne {o i k : Nat} {v : Int32} (h : k ≠ o) : (ms M o i v).1 k = M.1 k := by
  funext j
  simp [ms, h]
theorem mc_cpy {o sp o2 dp n : Nat} : (mc M o sp o2 dp n).1 o2 = va_cpy (M.1 o) (M.1 o2) sp dp n := by
  funext k
  simp [mc, va_cpy]
theorem mc_ne {o sp o2 dp n k : Nat} (h : k ≠ o2) : (mc M o sp o2 dp n).1 k = M.1 k := by
  funext j
  simp [mc, h]
end WO
end
section
/-! ===== the judgement of a method's body: at pc, with these locals, this stack and this memory, the body ends as the pure function says ===== -/
abbrev wn_X : Type := Program × Launch × Env × Room × State × MethodId × Array Value × List Frame × Method × Code × Nat × Nat × (State → Prop) × (Nat → Prop)
def PW (G : wn_G) (S : wn_S) (ad : Nat → Nat) (X : wn_X) (pc : Nat) (L : List (Nat × Value)) (st : List Value) (M : Mm) : Prop := match X with
  | (p, l, e, R, s, m, args, below, meth, c, cells, slots, Q, A) => ∀ (H : Heap) (locs : List Loc) (ls : Array Slot), va_P (gD G) vwCl (wo G S ad M) H → va_D A (wo G S ad M) → va_S A s.heap H locs → lv_has ls c.maxLocals L → W p l e R s m args below meth c H locs cells slots Q (F0 m pc ls st)
/-- what holds in a whole body: the machine, its code, the tables' words, what stays, its room -/
def Ok (G : wn_G) (own : String) (cc : ByteArray) (nL d : Nat) (X : wn_X) : Prop := match X with
  | (p, _, _, R, s, m, args, _, meth, c, cells, slots, _, A) => p.tables.exec = Jvm.exec ∧ c.code = cc ∧ c.maxLocals = nL ∧ s.vm.findClass own = some m.cls ∧ (∀ w ∈ gw, w.before args s = true) ∧ Ev G A s ∧ meth.locks = false ∧ d ≤ R.frames ∧ 64 * d ≤ R.locals ∧ cells ≤ R.cells ∧ slots ≤ R.slots ∧ ∀ q, s.heap.size ≤ q → A q
def Qs (G : wn_G) (S : wn_S) (ad : Nat → Nat) (M0 : Mm) (ro : Option Value) (A : Nat → Prop) : Array Value → State → Outcome → State → Prop := fun _ st oc t => oc = .returned ro ∧ va_P (gD G) vwCl (wo G S ad M0) t.heap ∧ va_F A st t
/-- the body is to end with this answer and this memory -/
def Tg (G : wn_G) (S : wn_S) (ad : Nat → Nat) (X : wn_X) (ret : Option FieldType) (M0 : Mm) (ro : Option Value) : Prop := match X with
  | (_, _, _, _, s, _, args, below, meth, _, cells, slots, Q, A) => meth.sig.returnType = ret ∧ Q = MQ below (Qs G S ad M0 ro A) args s cells slots A
def JW {ρ : Type} (G : wn_G) (S : wn_S) (ad : Nat → Nat) (X : wn_X) (pc : Nat) (L : List (Nat × Value)) (st : List Value) (M : Mm) (t : Option ρ) (K : ρ → Prop) : Prop := ∀ z : ρ, t = some z → K z → PW G S ad X pc L st M
/-! the words of the pure functions -/
def bi {α : Type} (x : Int32) (k : Int32 → Option α) : Option α := k x
def bl {α : Type} (x : Int64) (k : Int64 → Option α) : Option α := k x
def bm {α : Type} (x : Mm) (k : Mm → Option α) : Option α := k x
def bd {α : Type} (x : Option (Int32 × Mm)) (k : Int32 → Mm → Option α) : Option α := x.bind fun p => k p.1 p.2
def bdl {α : Type} (x : Option (Int64 × Mm)) (k : Int64 → Mm → Option α) : Option α := x.bind fun p => k p.1 p.2
def bds {α : Type} (x : Option (Nat × Mm)) (k : Nat → Mm → Option α) : Option α := x.bind fun p => k p.1 p.2
def bv {α : Type} (x : Option Mm) (k : Mm → Option α) : Option α := x.bind k
/-- a test that the machine makes by itself: with it, or nothing -/
def gd {α : Type} (c : Prop) (h : Decidable c) (t : Option α) : Option α := if c then t else none
def bin (i : Int32) (n : Nat) : Bool := decide (¬ (i < 0 ∨ n ≤ i.toNatClampNeg))
theorem bin_in {i : Int32} {n : Nat} (h : bin i n = true) : vp_in i n := (of_decide_eq_true h : ¬ (i < 0 ∨ n ≤ i.toNatClampNeg))
def irm (x y : Int32) : Int32 := x - x / y * y
def lrm (x y : Int64) : Int64 := x - x / y * y
def ius (x y : Int32) : Int32 := (x.toUInt32 >>> (y.toUInt32 &&& Int32.toUInt32 31)).toInt32
def isl (x y : Int32) : Int32 := x <<< (y &&& 31)
def lsl' (x : Int64) (y : Int32) : Int64 := x <<< (y.toInt64 &&& 63)
def lsr (x : Int64) (y : Int32) : Int64 := x >>> (y.toInt64 &&& 63)
def imx (x y : Int32) : Int32 := if x < y then y else x
def imn (x y : Int32) : Int32 := if y < x then y else x
def ex {σ ρ : Type} (t : Option ρ) : Option (σ ⊕ ρ) := t.map Sum.inr
/-- a loop: the body says the next state, or what comes behind the loop -/
def iter {σ ρ : Type} (body : σ → Option (σ ⊕ ρ)) : Nat → σ → Option ρ
  | 0, _ => none
  | n + 1, s => match body s with
    | none => none
    | some (.inl s') => iter body n s'
    | some (.inr y) => some y
def Kl {σ ρ : Type} (hd : σ → Prop) (K : ρ → Prop) : σ ⊕ ρ → Prop
  | .inl s => hd s
  | .inr y => K y
section JROWS
variable {ρ σ : Type} {G : wn_G} {S : wn_S} {ad : Nat → Nat} {X : wn_X} {own : String} {cc : ByteArray} {nL d pc : Nat} {L L' : List (Nat × Value)} {st : List Value} {M : Mm} {t t1 t2 : Option ρ} {K : ρ → Prop}
/-! names, ends -/
theorem jw_bi {x : Int32} {k : Int32 → Option ρ} (h : ∀ y : Int32, JW G S ad X pc L (.int y :: st) M (k y) K) : JW G S ad X pc L (.int x :: st) M (bi x k) K := h x
theorem jw_bl {x : Int64} {k : Int64 → Option ρ} (h : ∀ y : Int64, JW G S ad X pc L (.long y :: st) M (k y) K) : JW G S ad X pc L (.long x :: st) M (bl x k) K := h x
theorem jw_pw {z : ρ} (h : K z → PW G S ad X pc L st M) : JW G S ad X pc L st M (some z) K := fun z' e hK => by cases e; exact h hK
theorem jw_ex {hd : σ → Prop} (h : JW G S ad X pc L st M t K) : JW G S ad X pc L st M (ex t : Option (σ ⊕ ρ)) (Kl hd K) := by
  intro z e hK
  cases t with
  | none => cases e
  | some y => cases e; exact h y rfl hK
theorem jw_next {s : σ} {hd : σ → Prop} (h : hd s → PW G S ad X pc L st M) : JW G S ad X pc L st M (some (.inl s) : Option (σ ⊕ ρ)) (Kl hd K) := fun z e hK => by cases e; exact h hK
theorem pw_sub (ks : List Nat) (hl : lv_pick L ks = L') (h : PW G S ad X pc L' st M) : PW G S ad X pc L st M := by
  obtain ⟨p, l, e, R, s, m, args, below, meth, c, cells, slots, Q, A⟩ := X
  exact fun H locs ls hP hD hS hv => h H locs ls hP hD hS (lv_sub hv ks hl)
theorem jw_sub (ks : List Nat) (hl : lv_pick L ks = L') (h : JW G S ad X pc L' st M t K) : JW G S ad X pc L st M t K := fun z e hK => pw_sub ks hl (h z e hK)
theorem jw_iter {hd : σ → Prop} {body : σ → Option (σ ⊕ ρ)} {n : Nat} {s : σ} (hh : hd s → PW G S ad X pc L st M) (hb : ∀ s z, body s = some z → Kl hd K z → hd s) : JW G S ad X pc L st M (iter body n s) K := by
  have key : ∀ (n : Nat) (s : σ) (y : ρ), iter body n s = some y → K y → hd s := by
    intro n
    induction n with
    | zero => intro s y h; cases h
    | succ n ih =>
      intro s y h hK
      unfold iter at h
      cases hz : body s with
      | none => rw [hz] at h; cases h
      | some z =>
        rw [hz] at h
        refine hb s z hz ?_
        cases z with
        | inl s' => exact ih s' y h hK
        | inr y' => cases h; exact hK
  exact fun z e hK => hh (key n s z e hK)
theorem jw_gd {c : Prop} {hc : Decidable c} (h : c → JW G S ad X pc L st M t K) : JW G S ad X pc L st M (gd c hc t) K := by
  intro z e hK
  unfold gd at e
  by_cases q : c
  · rw [if_pos q] at e
    exact h q z e hK
  · rw [if_neg q] at e
    cases e
theorem j_iconst (O : Ok G own cc nL d X) {n : Int} {v : Int32} (hd : decode cc pc = .ok (.iconst n, 1)) (hn : Int32.ofInt n = v) (k : JW G S ad X (pc + 1) L (.int v :: st) M t K) : JW G S ad X pc L st M t K := by
  obtain ⟨p, l, e, R, s, m, args, below, meth, c, cells, slots, Q, A⟩ := X
  obtain ⟨hx, hb, hml, hown, hts, hE, hlk, hfr, hlo, hce, hsl, hA⟩ := O
  intro z hz hK H locs ls hP hD hS hv
  exact lv_iconst hx hb hd hn (k z hz hK H locs ls hP hD hS hv)
theorem j_bipush (O : Ok G own cc nL d X) {n : Int} {v : Int32} (hd : decode cc pc = .ok (.bipush n, 2)) (hn : (Int8.ofInt n).toInt32 = v) (k : JW G S ad X (pc + 2) L (.int v :: st) M t K) : JW G S ad X pc L st M t K := by
  obtain ⟨p, l, e, R, s, m, args, below, meth, c, cells, slots, Q, A⟩ := X
  obtain ⟨hx, hb, hml, hown, hts, hE, hlk, hfr, hlo, hce, hsl, hA⟩ := O
  intro z hz hK H locs ls hP hD hS hv
  exact lv_bipush hx hb hd hn (k z hz hK H locs ls hP hD hS hv)
theorem j_sipush (O : Ok G own cc nL d X) {n : Int} {v : Int32} (hd : decode cc pc = .ok (.sipush n, 3)) (hn : (Int16.ofInt n).toInt32 = v) (k : JW G S ad X (pc + 3) L (.int v :: st) M t K) : JW G S ad X pc L st M t K := by
  obtain ⟨p, l, e, R, s, m, args, below, meth, c, cells, slots, Q, A⟩ := X
  obtain ⟨hx, hb, hml, hown, hts, hE, hlk, hfr, hlo, hce, hsl, hA⟩ := O
  intro z hz hK H locs ls hP hD hS hv
  exact lv_sipush hx hb hd hn (k z hz hK H locs ls hP hD hS hv)
theorem j_lconst (O : Ok G own cc nL d X) {n : Fin 2} {v : Int64} (hd : decode cc pc = .ok (.lconst n, 1)) (hn : Int64.ofNat (n : Nat) = v) (k : JW G S ad X (pc + 1) L (.long v :: st) M t K) : JW G S ad X pc L st M t K := by
  obtain ⟨p, l, e, R, s, m, args, below, meth, c, cells, slots, Q, A⟩ := X
  obtain ⟨hx, hb, hml, hown, hts, hE, hlk, hfr, hlo, hce, hsl, hA⟩ := O
  intro z hz hK H locs ls hP hD hS hv
  exact lv_lconst hx hb hd hn (k z hz hK H locs ls hP hD hS hv)
theorem j_ldc (O : Ok G own cc nL d X) {index : Nat} {v : Int32} (hd : decode cc pc = .ok (.ldc index, 2)) (hw : Cond.constant own index v ∈ gw) (k : JW G S ad X (pc + 2) L (.int v :: st) M t K) : JW G S ad X pc L st M t K := by
  obtain ⟨p, l, e, R, s, m, args, below, meth, c, cells, slots, Q, A⟩ := X
  obtain ⟨hx, hb, hml, hown, hts, hE, hlk, hfr, hlo, hce, hsl, hA⟩ := O
  intro z hz hK H locs ls hP hD hS hv
  exact lv_ldc hx hb hown (hts _ hw) hd (k z hz hK H locs ls hP hD hS hv)
theorem j_ldcw (O : Ok G own cc nL d X) {index : Nat} {v : Int32} (hd : decode cc pc = .ok (.ldc_w index, 3)) (hw : Cond.constant own index v ∈ gw) (k : JW G S ad X (pc + 3) L (.int v :: st) M t K) : JW G S ad X pc L st M t K := by
  obtain ⟨p, l, e, R, s, m, args, below, meth, c, cells, slots, Q, A⟩ := X
  obtain ⟨hx, hb, hml, hown, hts, hE, hlk, hfr, hlo, hce, hsl, hA⟩ := O
  intro z hz hK H locs ls hP hD hS hv
  exact lv_ldcw hx hb hown (hts _ hw) hd (k z hz hK H locs ls hP hD hS hv)
theorem j_ldc2 (O : Ok G own cc nL d X) {index : Nat} {v : Int64} (hd : decode cc pc = .ok (.ldc2_w index, 3)) (hw : Cond.constantLong own index v ∈ gw) (k : JW G S ad X (pc + 3) L (.long v :: st) M t K) : JW G S ad X pc L st M t K := by
  obtain ⟨p, l, e, R, s, m, args, below, meth, c, cells, slots, Q, A⟩ := X
  obtain ⟨hx, hb, hml, hown, hts, hE, hlk, hfr, hlo, hce, hsl, hA⟩ := O
  intro z hz hK H locs ls hP hD hS hv
  exact lv_ldc2 hx hb hown (hts _ hw) hd (k z hz hK H locs ls hP hD hS hv)
theorem j_iload_n (O : Ok G own cc nL d X) {k : Fin 4} {x : Int32} (q : Nat) (hd : decode cc pc = .ok (.iload_n k, 1)) (hl : L[q]? = some (k.val, .int x)) (kk : JW G S ad X (pc + 1) L (.int x :: st) M t K) : JW G S ad X pc L st M t K := by
  obtain ⟨p, l, e, R, s, m, args, below, meth, c, cells, slots, Q, A⟩ := X
  obtain ⟨hx, hb, hml, hown, hts, hE, hlk, hfr, hlo, hce, hsl, hA⟩ := O
  intro z hz hK H locs ls hP hD hS hv
  exact lv_iload_n hx hb hd rfl (lv_at hv q hl) (kk z hz hK H locs ls hP hD hS hv)
theorem j_lload_n (O : Ok G own cc nL d X) {k : Fin 4} {x : Int64} (q : Nat) (hd : decode cc pc = .ok (.lload_n k, 1)) (hl : L[q]? = some (k.val, .long x)) (kk : JW G S ad X (pc + 1) L (.long x :: st) M t K) : JW G S ad X pc L st M t K := by
  obtain ⟨p, l, e, R, s, m, args, below, meth, c, cells, slots, Q, A⟩ := X
  obtain ⟨hx, hb, hml, hown, hts, hE, hlk, hfr, hlo, hce, hsl, hA⟩ := O
  intro z hz hK H locs ls hP hD hS hv
  exact lv_lload_n hx hb hd rfl (lv_at hv q hl) (kk z hz hK H locs ls hP hD hS hv)
theorem j_aload_n (O : Ok G own cc nL d X) {k : Fin 4} {x : Nat} (q : Nat) (hd : decode cc pc = .ok (.aload_n k, 1)) (hl : L[q]? = some (k.val, .ref x)) (kk : JW G S ad X (pc + 1) L (.ref x :: st) M t K) : JW G S ad X pc L st M t K := by
  obtain ⟨p, l, e, R, s, m, args, below, meth, c, cells, slots, Q, A⟩ := X
  obtain ⟨hx, hb, hml, hown, hts, hE, hlk, hfr, hlo, hce, hsl, hA⟩ := O
  intro z hz hK H locs ls hP hD hS hv
  exact lv_aload_n hx hb hd rfl (lv_at hv q hl) (kk z hz hK H locs ls hP hD hS hv)
theorem j_iload (O : Ok G own cc nL d X) {i : Nat} {x : Int32} (q : Nat) (hd : decode cc pc = .ok (.iload i, 2)) (hl : L[q]? = some (i, .int x)) (kk : JW G S ad X (pc + 2) L (.int x :: st) M t K) : JW G S ad X pc L st M t K := by
  obtain ⟨p, l, e, R, s, m, args, below, meth, c, cells, slots, Q, A⟩ := X
  obtain ⟨hx, hb, hml, hown, hts, hE, hlk, hfr, hlo, hce, hsl, hA⟩ := O
  intro z hz hK H locs ls hP hD hS hv
  exact lv_iload hx hb hd (lv_at hv q hl) (kk z hz hK H locs ls hP hD hS hv)
theorem j_lload (O : Ok G own cc nL d X) {i : Nat} {x : Int64} (q : Nat) (hd : decode cc pc = .ok (.lload i, 2)) (hl : L[q]? = some (i, .long x)) (kk : JW G S ad X (pc + 2) L (.long x :: st) M t K) : JW G S ad X pc L st M t K := by
  obtain ⟨p, l, e, R, s, m, args, below, meth, c, cells, slots, Q, A⟩ := X
  obtain ⟨hx, hb, hml, hown, hts, hE, hlk, hfr, hlo, hce, hsl, hA⟩ := O
  intro z hz hK H locs ls hP hD hS hv
  exact lv_lload hx hb hd (lv_at hv q hl) (kk z hz hK H locs ls hP hD hS hv)
theorem j_aload (O : Ok G own cc nL d X) {i : Nat} {x : Nat} (q : Nat) (hd : decode cc pc = .ok (.aload i, 2)) (hl : L[q]? = some (i, .ref x)) (kk : JW G S ad X (pc + 2) L (.ref x :: st) M t K) : JW G S ad X pc L st M t K := by
  obtain ⟨p, l, e, R, s, m, args, below, meth, c, cells, slots, Q, A⟩ := X
  obtain ⟨hx, hb, hml, hown, hts, hE, hlk, hfr, hlo, hce, hsl, hA⟩ := O
  intro z hz hK H locs ls hP hD hS hv
  exact lv_aload hx hb hd (lv_at hv q hl) (kk z hz hK H locs ls hP hD hS hv)
theorem j_istore_n (O : Ok G own cc nL d X) {k : Fin 4} {x : Int32} (hd : decode cc pc = .ok (.istore_n k, 1)) (hn : k.val < nL) (hl : (k.val, Value.int x) :: L.filter (fun q => !(q.1 == k.val) && !(q.1 + 1 == k.val && q.2.category == 2)) = L') (kk : JW G S ad X (pc + 1) L' st M t K) : JW G S ad X pc L (.int x :: st) M t K := by
  obtain ⟨p, l, e, R, s, m, args, below, meth, c, cells, slots, Q, A⟩ := X
  obtain ⟨hx, hb, hml, hown, hts, hE, hlk, hfr, hlo, hce, hsl, hA⟩ := O
  intro z hz hK H locs ls hP hD hS hv
  exact lv_istore_n hx hb hd rfl hv (by rw [hml]; exact hn) hl (fun ls hv => kk z hz hK H locs ls hP hD hS hv)
theorem j_istore (O : Ok G own cc nL d X) {i : Nat} {x : Int32} (hd : decode cc pc = .ok (.istore i, 2)) (hn : i < nL) (hl : (i, Value.int x) :: L.filter (fun q => !(q.1 == i) && !(q.1 + 1 == i && q.2.category == 2)) = L') (kk : JW G S ad X (pc + 2) L' st M t K) : JW G S ad X pc L (.int x :: st) M t K := by
  obtain ⟨p, l, e, R, s, m, args, below, meth, c, cells, slots, Q, A⟩ := X
  obtain ⟨hx, hb, hml, hown, hts, hE, hlk, hfr, hlo, hce, hsl, hA⟩ := O
  intro z hz hK H locs ls hP hD hS hv
  exact lv_istore hx hb hd hv (by rw [hml]; exact hn) hl (fun ls hv => kk z hz hK H locs ls hP hD hS hv)
theorem j_lstore_n (O : Ok G own cc nL d X) {k : Fin 4} {x : Int64} (hd : decode cc pc = .ok (.lstore_n k, 1)) (hn : k.val + 1 < nL) (hl : (k.val, Value.long x) :: L.filter (fun q => !(q.1 == k.val) && (!(q.1 == k.val + 1) && !(q.1 + 1 == k.val && q.2.category == 2))) = L') (kk : JW G S ad X (pc + 1) L' st M t K) : JW G S ad X pc L (.long x :: st) M t K := by
  obtain ⟨p, l, e, R, s, m, args, below, meth, c, cells, slots, Q, A⟩ := X
  obtain ⟨hx, hb, hml, hown, hts, hE, hlk, hfr, hlo, hce, hsl, hA⟩ := O
  intro z hz hK H locs ls hP hD hS hv
  exact lv_lstore_n hx hb hd rfl hv (by rw [hml]; exact hn) hl (fun ls hv => kk z hz hK H locs ls hP hD hS hv)
theorem j_lstore (O : Ok G own cc nL d X) {i : Nat} {x : Int64} (hd : decode cc pc = .ok (.lstore i, 2)) (hn : i + 1 < nL) (hl : (i, Value.long x) :: L.filter (fun q => !(q.1 == i) && (!(q.1 == i + 1) && !(q.1 + 1 == i && q.2.category == 2))) = L') (kk : JW G S ad X (pc + 2) L' st M t K) : JW G S ad X pc L (.long x :: st) M t K := by
  obtain ⟨p, l, e, R, s, m, args, below, meth, c, cells, slots, Q, A⟩ := X
  obtain ⟨hx, hb, hml, hown, hts, hE, hlk, hfr, hlo, hce, hsl, hA⟩ := O
  intro z hz hK H locs ls hP hD hS hv
  exact lv_lstore hx hb hd hv (by rw [hml]; exact hn) hl (fun ls hv => kk z hz hK H locs ls hP hD hS hv)
theorem j_astore_n (O : Ok G own cc nL d X) {k : Fin 4} {x : Nat} (hd : decode cc pc = .ok (.astore_n k, 1)) (hn : k.val < nL) (hl : (k.val, Value.ref x) :: L.filter (fun q => !(q.1 == k.val) && !(q.1 + 1 == k.val && q.2.category == 2)) = L') (kk : JW G S ad X (pc + 1) L' st M t K) : JW G S ad X pc L (.ref x :: st) M t K := by
  obtain ⟨p, l, e, R, s, m, args, below, meth, c, cells, slots, Q, A⟩ := X
  obtain ⟨hx, hb, hml, hown, hts, hE, hlk, hfr, hlo, hce, hsl, hA⟩ := O
  intro z hz hK H locs ls hP hD hS hv
  exact lv_astore_n hx hb hd rfl hv (by rw [hml]; exact hn) hl (fun ls hv => kk z hz hK H locs ls hP hD hS hv)
theorem j_astore (O : Ok G own cc nL d X) {i : Nat} {x : Nat} (hd : decode cc pc = .ok (.astore i, 2)) (hn : i < nL) (hl : (i, Value.ref x) :: L.filter (fun q => !(q.1 == i) && !(q.1 + 1 == i && q.2.category == 2)) = L') (kk : JW G S ad X (pc + 2) L' st M t K) : JW G S ad X pc L (.ref x :: st) M t K := by
  obtain ⟨p, l, e, R, s, m, args, below, meth, c, cells, slots, Q, A⟩ := X
  obtain ⟨hx, hb, hml, hown, hts, hE, hlk, hfr, hlo, hce, hsl, hA⟩ := O
  intro z hz hK H locs ls hP hD hS hv
  exact lv_astore hx hb hd hv (by rw [hml]; exact hn) hl (fun ls hv => kk z hz hK H locs ls hP hD hS hv)
theorem j_iinc (O : Ok G own cc nL d X) {i : Nat} {n : Int} {x v : Int32} {L2 : Int32 → List (Nat × Value)} {kf : Int32 → Option ρ} (q : Nat) (hd : decode cc pc = .ok (.iinc i n, 3)) (hq : L[q]? = some (i, .int x)) (hn0 : Int32.ofInt n = v) (hn : i < nL) (hl : ∀ y : Int32, (i, Value.int y) :: L.filter (fun q => !(q.1 == i) && !(q.1 + 1 == i && q.2.category == 2)) = L2 y) (kk : ∀ y : Int32, JW G S ad X (pc + 3) (L2 y) st M (kf y) K) : JW G S ad X pc L st M (bi (x + v) kf) K := by
  obtain ⟨p, l, e, R, s, m, args, below, meth, c, cells, slots, Q, A⟩ := X
  obtain ⟨hx, hb, hml, hown, hts, hE, hlk, hfr, hlo, hce, hsl, hA⟩ := O
  intro z hz hK H locs ls hP hD hS hv
  exact lv_iinc hx hb hd hv hq rfl (by rw [hml]; exact hn) (hl _) (fun ls hv => kk (x + v) z hz hK H locs ls hP hD hS (by rw [← hn0]; exact hv))
theorem j_iadd (O : Ok G own cc nL d X) {x y : Int32} (hd : decode cc pc = .ok (.iadd, 1))  (k : JW G S ad X (pc + 1) L (.int (x + y) :: st) M t K) : JW G S ad X pc L (.int y :: .int x :: st) M t K := by
  obtain ⟨p, l, e, R, s, m, args, below, meth, c, cells, slots, Q, A⟩ := X
  obtain ⟨hx, hb, hml, hown, hts, hE, hlk, hfr, hlo, hce, hsl, hA⟩ := O
  intro z hz hK H locs ls hP hD hS hv
  exact lv_iadd hx hb hd  (k z hz hK H locs ls hP hD hS hv)
theorem j_isub (O : Ok G own cc nL d X) {x y : Int32} (hd : decode cc pc = .ok (.isub, 1))  (k : JW G S ad X (pc + 1) L (.int (x - y) :: st) M t K) : JW G S ad X pc L (.int y :: .int x :: st) M t K := by
  obtain ⟨p, l, e, R, s, m, args, below, meth, c, cells, slots, Q, A⟩ := X
  obtain ⟨hx, hb, hml, hown, hts, hE, hlk, hfr, hlo, hce, hsl, hA⟩ := O
  intro z hz hK H locs ls hP hD hS hv
  exact lv_isub hx hb hd  (k z hz hK H locs ls hP hD hS hv)
theorem j_imul (O : Ok G own cc nL d X) {x y : Int32} (hd : decode cc pc = .ok (.imul, 1))  (k : JW G S ad X (pc + 1) L (.int (x * y) :: st) M t K) : JW G S ad X pc L (.int y :: .int x :: st) M t K := by
  obtain ⟨p, l, e, R, s, m, args, below, meth, c, cells, slots, Q, A⟩ := X
  obtain ⟨hx, hb, hml, hown, hts, hE, hlk, hfr, hlo, hce, hsl, hA⟩ := O
  intro z hz hK H locs ls hP hD hS hv
  exact lv_imul hx hb hd  (k z hz hK H locs ls hP hD hS hv)
theorem j_iand (O : Ok G own cc nL d X) {x y : Int32} (hd : decode cc pc = .ok (.iand, 1))  (k : JW G S ad X (pc + 1) L (.int (x &&& y) :: st) M t K) : JW G S ad X pc L (.int y :: .int x :: st) M t K := by
  obtain ⟨p, l, e, R, s, m, args, below, meth, c, cells, slots, Q, A⟩ := X
  obtain ⟨hx, hb, hml, hown, hts, hE, hlk, hfr, hlo, hce, hsl, hA⟩ := O
  intro z hz hK H locs ls hP hD hS hv
  exact lv_iand hx hb hd  (k z hz hK H locs ls hP hD hS hv)
theorem j_ior (O : Ok G own cc nL d X) {x y : Int32} (hd : decode cc pc = .ok (.ior, 1))  (k : JW G S ad X (pc + 1) L (.int (x ||| y) :: st) M t K) : JW G S ad X pc L (.int y :: .int x :: st) M t K := by
  obtain ⟨p, l, e, R, s, m, args, below, meth, c, cells, slots, Q, A⟩ := X
  obtain ⟨hx, hb, hml, hown, hts, hE, hlk, hfr, hlo, hce, hsl, hA⟩ := O
  intro z hz hK H locs ls hP hD hS hv
  exact lv_ior hx hb hd  (k z hz hK H locs ls hP hD hS hv)
theorem j_ishl (O : Ok G own cc nL d X) {x y : Int32} (hd : decode cc pc = .ok (.ishl, 1))  (k : JW G S ad X (pc + 1) L (.int (isl x y) :: st) M t K) : JW G S ad X pc L (.int y :: .int x :: st) M t K := by
  obtain ⟨p, l, e, R, s, m, args, below, meth, c, cells, slots, Q, A⟩ := X
  obtain ⟨hx, hb, hml, hown, hts, hE, hlk, hfr, hlo, hce, hsl, hA⟩ := O
  intro z hz hK H locs ls hP hD hS hv
  exact lv_ishl hx hb hd  (k z hz hK H locs ls hP hD hS hv)
theorem j_ladd (O : Ok G own cc nL d X) {x y : Int64} (hd : decode cc pc = .ok (.ladd, 1))  (k : JW G S ad X (pc + 1) L (.long (x + y) :: st) M t K) : JW G S ad X pc L (.long y :: .long x :: st) M t K := by
  obtain ⟨p, l, e, R, s, m, args, below, meth, c, cells, slots, Q, A⟩ := X
  obtain ⟨hx, hb, hml, hown, hts, hE, hlk, hfr, hlo, hce, hsl, hA⟩ := O
  intro z hz hK H locs ls hP hD hS hv
  exact lv_ladd hx hb hd  (k z hz hK H locs ls hP hD hS hv)
theorem j_lsub (O : Ok G own cc nL d X) {x y : Int64} (hd : decode cc pc = .ok (.lsub, 1))  (k : JW G S ad X (pc + 1) L (.long (x - y) :: st) M t K) : JW G S ad X pc L (.long y :: .long x :: st) M t K := by
  obtain ⟨p, l, e, R, s, m, args, below, meth, c, cells, slots, Q, A⟩ := X
  obtain ⟨hx, hb, hml, hown, hts, hE, hlk, hfr, hlo, hce, hsl, hA⟩ := O
  intro z hz hK H locs ls hP hD hS hv
  exact lv_lsub hx hb hd  (k z hz hK H locs ls hP hD hS hv)
theorem j_lmul (O : Ok G own cc nL d X) {x y : Int64} (hd : decode cc pc = .ok (.lmul, 1))  (k : JW G S ad X (pc + 1) L (.long (x * y) :: st) M t K) : JW G S ad X pc L (.long y :: .long x :: st) M t K := by
  obtain ⟨p, l, e, R, s, m, args, below, meth, c, cells, slots, Q, A⟩ := X
  obtain ⟨hx, hb, hml, hown, hts, hE, hlk, hfr, hlo, hce, hsl, hA⟩ := O
  intro z hz hK H locs ls hP hD hS hv
  exact lv_lmul hx hb hd  (k z hz hK H locs ls hP hD hS hv)
theorem j_land (O : Ok G own cc nL d X) {x y : Int64} (hd : decode cc pc = .ok (.land, 1))  (k : JW G S ad X (pc + 1) L (.long (x &&& y) :: st) M t K) : JW G S ad X pc L (.long y :: .long x :: st) M t K := by
  obtain ⟨p, l, e, R, s, m, args, below, meth, c, cells, slots, Q, A⟩ := X
  obtain ⟨hx, hb, hml, hown, hts, hE, hlk, hfr, hlo, hce, hsl, hA⟩ := O
  intro z hz hK H locs ls hP hD hS hv
  exact lv_land hx hb hd  (k z hz hK H locs ls hP hD hS hv)
theorem j_lor (O : Ok G own cc nL d X) {x y : Int64} (hd : decode cc pc = .ok (.lor, 1))  (k : JW G S ad X (pc + 1) L (.long (x ||| y) :: st) M t K) : JW G S ad X pc L (.long y :: .long x :: st) M t K := by
  obtain ⟨p, l, e, R, s, m, args, below, meth, c, cells, slots, Q, A⟩ := X
  obtain ⟨hx, hb, hml, hown, hts, hE, hlk, hfr, hlo, hce, hsl, hA⟩ := O
  intro z hz hK H locs ls hP hD hS hv
  exact lv_lor hx hb hd  (k z hz hK H locs ls hP hD hS hv)
theorem j_lcmp (O : Ok G own cc nL d X) {x y : Int64} (hd : decode cc pc = .ok (.lcmp, 1))  (k : JW G S ad X (pc + 1) L (.int (lg_cmp x y) :: st) M t K) : JW G S ad X pc L (.long y :: .long x :: st) M t K := by
  obtain ⟨p, l, e, R, s, m, args, below, meth, c, cells, slots, Q, A⟩ := X
  obtain ⟨hx, hb, hml, hown, hts, hE, hlk, hfr, hlo, hce, hsl, hA⟩ := O
  intro z hz hK H locs ls hP hD hS hv
  exact W.lcmp hx hb hd  (k z hz hK H locs ls hP hD hS hv)
theorem j_ineg (O : Ok G own cc nL d X) {x : Int32} (hd : decode cc pc = .ok (.ineg, 1))  (k : JW G S ad X (pc + 1) L (.int (-x) :: st) M t K) : JW G S ad X pc L (.int x :: st) M t K := by
  obtain ⟨p, l, e, R, s, m, args, below, meth, c, cells, slots, Q, A⟩ := X
  obtain ⟨hx, hb, hml, hown, hts, hE, hlk, hfr, hlo, hce, hsl, hA⟩ := O
  intro z hz hK H locs ls hP hD hS hv
  exact lv_ineg hx hb hd  (k z hz hK H locs ls hP hD hS hv)
theorem j_i2l (O : Ok G own cc nL d X) {x : Int32} (hd : decode cc pc = .ok (.i2l, 1))  (k : JW G S ad X (pc + 1) L (.long x.toInt64 :: st) M t K) : JW G S ad X pc L (.int x :: st) M t K := by
  obtain ⟨p, l, e, R, s, m, args, below, meth, c, cells, slots, Q, A⟩ := X
  obtain ⟨hx, hb, hml, hown, hts, hE, hlk, hfr, hlo, hce, hsl, hA⟩ := O
  intro z hz hK H locs ls hP hD hS hv
  exact lv_i2l hx hb hd rfl (k z hz hK H locs ls hP hD hS hv)
theorem j_l2i (O : Ok G own cc nL d X) {x : Int64} (hd : decode cc pc = .ok (.l2i, 1))  (k : JW G S ad X (pc + 1) L (.int x.toInt32 :: st) M t K) : JW G S ad X pc L (.long x :: st) M t K := by
  obtain ⟨p, l, e, R, s, m, args, below, meth, c, cells, slots, Q, A⟩ := X
  obtain ⟨hx, hb, hml, hown, hts, hE, hlk, hfr, hlo, hce, hsl, hA⟩ := O
  intro z hz hK H locs ls hP hD hS hv
  exact lv_l2i hx hb hd rfl (k z hz hK H locs ls hP hD hS hv)
theorem j_i2b (O : Ok G own cc nL d X) {x : Int32} (hd : decode cc pc = .ok (.i2b, 1))  (k : JW G S ad X (pc + 1) L (.int x.toInt8.toInt32 :: st) M t K) : JW G S ad X pc L (.int x :: st) M t K := by
  obtain ⟨p, l, e, R, s, m, args, below, meth, c, cells, slots, Q, A⟩ := X
  obtain ⟨hx, hb, hml, hown, hts, hE, hlk, hfr, hlo, hce, hsl, hA⟩ := O
  intro z hz hK H locs ls hP hD hS hv
  exact lv_i2b hx hb hd rfl (k z hz hK H locs ls hP hD hS hv)
theorem j_i2s (O : Ok G own cc nL d X) {x : Int32} (hd : decode cc pc = .ok (.i2s, 1))  (k : JW G S ad X (pc + 1) L (.int x.toInt16.toInt32 :: st) M t K) : JW G S ad X pc L (.int x :: st) M t K := by
  obtain ⟨p, l, e, R, s, m, args, below, meth, c, cells, slots, Q, A⟩ := X
  obtain ⟨hx, hb, hml, hown, hts, hE, hlk, hfr, hlo, hce, hsl, hA⟩ := O
  intro z hz hK H locs ls hP hD hS hv
  exact lv_i2s hx hb hd rfl (k z hz hK H locs ls hP hD hS hv)
theorem j_iushr (O : Ok G own cc nL d X) {x y : Int32} (hd : decode cc pc = .ok (.iushr, 1))  (k : JW G S ad X (pc + 1) L (.int (ius x y) :: st) M t K) : JW G S ad X pc L (.int y :: .int x :: st) M t K := by
  obtain ⟨p, l, e, R, s, m, args, below, meth, c, cells, slots, Q, A⟩ := X
  obtain ⟨hx, hb, hml, hown, hts, hE, hlk, hfr, hlo, hce, hsl, hA⟩ := O
  intro z hz hK H locs ls hP hD hS hv
  exact lv_iushr hx hb hd rfl (k z hz hK H locs ls hP hD hS hv)
theorem j_lshl (O : Ok G own cc nL d X) {x : Int64} {y : Int32} (hd : decode cc pc = .ok (.lshl, 1))  (k : JW G S ad X (pc + 1) L (.long (lsl' x y) :: st) M t K) : JW G S ad X pc L (.int y :: .long x :: st) M t K := by
  obtain ⟨p, l, e, R, s, m, args, below, meth, c, cells, slots, Q, A⟩ := X
  obtain ⟨hx, hb, hml, hown, hts, hE, hlk, hfr, hlo, hce, hsl, hA⟩ := O
  intro z hz hK H locs ls hP hD hS hv
  exact lv_lshl hx hb hd rfl (k z hz hK H locs ls hP hD hS hv)
theorem j_lshr (O : Ok G own cc nL d X) {x : Int64} {y : Int32} (hd : decode cc pc = .ok (.lshr, 1))  (k : JW G S ad X (pc + 1) L (.long (lsr x y) :: st) M t K) : JW G S ad X pc L (.int y :: .long x :: st) M t K := by
  obtain ⟨p, l, e, R, s, m, args, below, meth, c, cells, slots, Q, A⟩ := X
  obtain ⟨hx, hb, hml, hown, hts, hE, hlk, hfr, hlo, hce, hsl, hA⟩ := O
  intro z hz hK H locs ls hP hD hS hv
  exact lv_lshr hx hb hd rfl (k z hz hK H locs ls hP hD hS hv)
theorem j_dup (O : Ok G own cc nL d X) {va : Value} (hd : decode cc pc = .ok (.dup, 1)) (hc : va.category = 1) (k : JW G S ad X (pc + 1) L (va :: va :: st) M t K) : JW G S ad X pc L (va :: st) M t K := by
  obtain ⟨p, l, e, R, s, m, args, below, meth, c, cells, slots, Q, A⟩ := X
  obtain ⟨hx, hb, hml, hown, hts, hE, hlk, hfr, hlo, hce, hsl, hA⟩ := O
  intro z hz hK H locs ls hP hD hS hv
  exact lv_dup hx hb hd hc (k z hz hK H locs ls hP hD hS hv)
theorem j_pop (O : Ok G own cc nL d X) {va : Value} (hd : decode cc pc = .ok (.pop, 1)) (hc : va.category = 1) (k : JW G S ad X (pc + 1) L st M t K) : JW G S ad X pc L (va :: st) M t K := by
  obtain ⟨p, l, e, R, s, m, args, below, meth, c, cells, slots, Q, A⟩ := X
  obtain ⟨hx, hb, hml, hown, hts, hE, hlk, hfr, hlo, hce, hsl, hA⟩ := O
  intro z hz hK H locs ls hP hD hS hv
  exact lv_pop hx hb hd hc (k z hz hK H locs ls hP hD hS hv)
theorem j_dup2 (O : Ok G own cc nL d X) {va vb : Value} (hd : decode cc pc = .ok (.dup2, 1)) (hc : va.category = 1) (hc2 : vb.category = 1) (k : JW G S ad X (pc + 1) L (va :: vb :: va :: vb :: st) M t K) : JW G S ad X pc L (va :: vb :: st) M t K := by
  obtain ⟨p, l, e, R, s, m, args, below, meth, c, cells, slots, Q, A⟩ := X
  obtain ⟨hx, hb, hml, hown, hts, hE, hlk, hfr, hlo, hce, hsl, hA⟩ := O
  intro z hz hK H locs ls hP hD hS hv
  exact lv_dup2_11 hx hb hd hc hc2 (k z hz hK H locs ls hP hD hS hv)
theorem j_idiv (O : Ok G own cc nL d X) {x y : Int32} {hc : Decidable (¬ y = 0)} (hd : decode cc pc = .ok (.idiv, 1)) (k : JW G S ad X (pc + 1) L (.int (x / y) :: st) M t K) : JW G S ad X pc L (.int y :: .int x :: st) M (gd (¬ y = 0) hc t) K := by
  refine jw_gd fun hy => ?_
  obtain ⟨p, l, e, R, s, m, args, below, meth, c, cells, slots, Q, A⟩ := X
  obtain ⟨hx, hb, hml, hown, hts, hE, hlk, hfr, hlo, hce, hsl, hA⟩ := O
  intro z hz hK H locs ls hP hD hS hv
  exact lv_idiv hx hb hd hy (k z hz hK H locs ls hP hD hS hv)
theorem j_irem (O : Ok G own cc nL d X) {x y : Int32} {hc : Decidable (¬ y = 0)} (hd : decode cc pc = .ok (.irem, 1)) (k : JW G S ad X (pc + 1) L (.int (irm x y) :: st) M t K) : JW G S ad X pc L (.int y :: .int x :: st) M (gd (¬ y = 0) hc t) K := by
  refine jw_gd fun hy => ?_
  obtain ⟨p, l, e, R, s, m, args, below, meth, c, cells, slots, Q, A⟩ := X
  obtain ⟨hx, hb, hml, hown, hts, hE, hlk, hfr, hlo, hce, hsl, hA⟩ := O
  intro z hz hK H locs ls hP hD hS hv
  exact lv_irem hx hb hd hy (k z hz hK H locs ls hP hD hS hv)
theorem j_ldiv (O : Ok G own cc nL d X) {x y : Int64} {hc : Decidable (¬ y = 0)} (hd : decode cc pc = .ok (.ldiv, 1)) (k : JW G S ad X (pc + 1) L (.long (x / y) :: st) M t K) : JW G S ad X pc L (.long y :: .long x :: st) M (gd (¬ y = 0) hc t) K := by
  refine jw_gd fun hy => ?_
  obtain ⟨p, l, e, R, s, m, args, below, meth, c, cells, slots, Q, A⟩ := X
  obtain ⟨hx, hb, hml, hown, hts, hE, hlk, hfr, hlo, hce, hsl, hA⟩ := O
  intro z hz hK H locs ls hP hD hS hv
  exact lv_ldiv hx hb hd hy (k z hz hK H locs ls hP hD hS hv)
theorem j_lrem (O : Ok G own cc nL d X) {x y : Int64} {hc : Decidable (¬ y = 0)} (hd : decode cc pc = .ok (.lrem, 1)) (k : JW G S ad X (pc + 1) L (.long (lrm x y) :: st) M t K) : JW G S ad X pc L (.long y :: .long x :: st) M (gd (¬ y = 0) hc t) K := by
  refine jw_gd fun hy => ?_
  obtain ⟨p, l, e, R, s, m, args, below, meth, c, cells, slots, Q, A⟩ := X
  obtain ⟨hx, hb, hml, hown, hts, hE, hlk, hfr, hlo, hce, hsl, hA⟩ := O
  intro z hz hK H locs ls hP hD hS hv
  exact lv_lrem hx hb hd hy (k z hz hK H locs ls hP hD hS hv)
theorem j_if_eq (O : Ok G own cc nL d X) {x : Int32} {off : Int} {tgt : Nat} {hc : Decidable (x = 0)} (hd : decode cc pc = .ok (.ifCond .eq off, 3)) (ht : (pc : Int) + off = (tgt : Int)) (kt : JW G S ad X tgt L st M t1 K) (kf : JW G S ad X (pc + 3) L st M t2 K) : JW G S ad X pc L (.int x :: st) M (@ite _ (x = 0) hc t1 t2) K := by
  obtain ⟨p, l, e, R, s, m, args, below, meth, c, cells, slots, Q, A⟩ := X
  obtain ⟨hx, hb, hml, hown, hts, hE, hlk, hfr, hlo, hce, hsl, hA⟩ := O
  intro z hz hK H locs ls hP hD hS hv
  refine lv_if_eq hx hb hd ht (fun hq => ?_) (fun hq => ?_)
  · rw [if_pos hq] at hz; exact kt z hz hK H locs ls hP hD hS hv
  · rw [if_neg hq] at hz; exact kf z hz hK H locs ls hP hD hS hv
theorem j_if_ne (O : Ok G own cc nL d X) {x : Int32} {off : Int} {tgt : Nat} {hc : Decidable (x = 0)} (hd : decode cc pc = .ok (.ifCond .ne off, 3)) (ht : (pc : Int) + off = (tgt : Int)) (kt : JW G S ad X (pc + 3) L st M t1 K) (kf : JW G S ad X tgt L st M t2 K) : JW G S ad X pc L (.int x :: st) M (@ite _ (x = 0) hc t1 t2) K := by
  obtain ⟨p, l, e, R, s, m, args, below, meth, c, cells, slots, Q, A⟩ := X
  obtain ⟨hx, hb, hml, hown, hts, hE, hlk, hfr, hlo, hce, hsl, hA⟩ := O
  intro z hz hK H locs ls hP hD hS hv
  refine lv_if_ne hx hb hd ht (fun hq => ?_) (fun hq => ?_)
  · rw [if_neg hq] at hz; exact kf z hz hK H locs ls hP hD hS hv
  · rw [if_pos hq] at hz; exact kt z hz hK H locs ls hP hD hS hv
theorem j_if_lt (O : Ok G own cc nL d X) {x : Int32} {off : Int} {tgt : Nat} {hc : Decidable (x < 0)} (hd : decode cc pc = .ok (.ifCond .lt off, 3)) (ht : (pc : Int) + off = (tgt : Int)) (kt : JW G S ad X tgt L st M t1 K) (kf : JW G S ad X (pc + 3) L st M t2 K) : JW G S ad X pc L (.int x :: st) M (@ite _ (x < 0) hc t1 t2) K := by
  obtain ⟨p, l, e, R, s, m, args, below, meth, c, cells, slots, Q, A⟩ := X
  obtain ⟨hx, hb, hml, hown, hts, hE, hlk, hfr, hlo, hce, hsl, hA⟩ := O
  intro z hz hK H locs ls hP hD hS hv
  refine lv_if_lt hx hb hd ht (fun hq => ?_) (fun hq => ?_)
  · rw [if_pos hq] at hz; exact kt z hz hK H locs ls hP hD hS hv
  · rw [if_neg hq] at hz; exact kf z hz hK H locs ls hP hD hS hv
theorem j_if_ge (O : Ok G own cc nL d X) {x : Int32} {off : Int} {tgt : Nat} {hc : Decidable (0 ≤ x)} (hd : decode cc pc = .ok (.ifCond .ge off, 3)) (ht : (pc : Int) + off = (tgt : Int)) (kt : JW G S ad X tgt L st M t1 K) (kf : JW G S ad X (pc + 3) L st M t2 K) : JW G S ad X pc L (.int x :: st) M (@ite _ (0 ≤ x) hc t1 t2) K := by
  obtain ⟨p, l, e, R, s, m, args, below, meth, c, cells, slots, Q, A⟩ := X
  obtain ⟨hx, hb, hml, hown, hts, hE, hlk, hfr, hlo, hce, hsl, hA⟩ := O
  intro z hz hK H locs ls hP hD hS hv
  refine lv_if_ge hx hb hd ht (fun hq => ?_) (fun hq => ?_)
  · rw [if_pos hq] at hz; exact kt z hz hK H locs ls hP hD hS hv
  · rw [if_neg hq] at hz; exact kf z hz hK H locs ls hP hD hS hv
theorem j_if_gt (O : Ok G own cc nL d X) {x : Int32} {off : Int} {tgt : Nat} {hc : Decidable (0 < x)} (hd : decode cc pc = .ok (.ifCond .gt off, 3)) (ht : (pc : Int) + off = (tgt : Int)) (kt : JW G S ad X tgt L st M t1 K) (kf : JW G S ad X (pc + 3) L st M t2 K) : JW G S ad X pc L (.int x :: st) M (@ite _ (0 < x) hc t1 t2) K := by
  obtain ⟨p, l, e, R, s, m, args, below, meth, c, cells, slots, Q, A⟩ := X
  obtain ⟨hx, hb, hml, hown, hts, hE, hlk, hfr, hlo, hce, hsl, hA⟩ := O
  intro z hz hK H locs ls hP hD hS hv
  refine lv_if_gt hx hb hd ht (fun hq => ?_) (fun hq => ?_)
  · rw [if_pos hq] at hz; exact kt z hz hK H locs ls hP hD hS hv
  · rw [if_neg hq] at hz; exact kf z hz hK H locs ls hP hD hS hv
theorem j_if_le (O : Ok G own cc nL d X) {x : Int32} {off : Int} {tgt : Nat} {hc : Decidable (x ≤ 0)} (hd : decode cc pc = .ok (.ifCond .le off, 3)) (ht : (pc : Int) + off = (tgt : Int)) (kt : JW G S ad X tgt L st M t1 K) (kf : JW G S ad X (pc + 3) L st M t2 K) : JW G S ad X pc L (.int x :: st) M (@ite _ (x ≤ 0) hc t1 t2) K := by
  obtain ⟨p, l, e, R, s, m, args, below, meth, c, cells, slots, Q, A⟩ := X
  obtain ⟨hx, hb, hml, hown, hts, hE, hlk, hfr, hlo, hce, hsl, hA⟩ := O
  intro z hz hK H locs ls hP hD hS hv
  refine lv_if_le hx hb hd ht (fun hq => ?_) (fun hq => ?_)
  · rw [if_pos hq] at hz; exact kt z hz hK H locs ls hP hD hS hv
  · rw [if_neg hq] at hz; exact kf z hz hK H locs ls hP hD hS hv
theorem j_icmp_eq (O : Ok G own cc nL d X) {x y : Int32} {off : Int} {tgt : Nat} {hc : Decidable (x = y)} (hd : decode cc pc = .ok (.if_icmp .eq off, 3)) (ht : (pc : Int) + off = (tgt : Int)) (kt : JW G S ad X tgt L st M t1 K) (kf : JW G S ad X (pc + 3) L st M t2 K) : JW G S ad X pc L (.int y :: .int x :: st) M (@ite _ (x = y) hc t1 t2) K := by
  obtain ⟨p, l, e, R, s, m, args, below, meth, c, cells, slots, Q, A⟩ := X
  obtain ⟨hx, hb, hml, hown, hts, hE, hlk, hfr, hlo, hce, hsl, hA⟩ := O
  intro z hz hK H locs ls hP hD hS hv
  refine lv_icmp_eq hx hb hd ht (fun hq => ?_) (fun hq => ?_)
  · rw [if_pos hq] at hz; exact kt z hz hK H locs ls hP hD hS hv
  · rw [if_neg hq] at hz; exact kf z hz hK H locs ls hP hD hS hv
theorem j_icmp_ne (O : Ok G own cc nL d X) {x y : Int32} {off : Int} {tgt : Nat} {hc : Decidable (x = y)} (hd : decode cc pc = .ok (.if_icmp .ne off, 3)) (ht : (pc : Int) + off = (tgt : Int)) (kt : JW G S ad X (pc + 3) L st M t1 K) (kf : JW G S ad X tgt L st M t2 K) : JW G S ad X pc L (.int y :: .int x :: st) M (@ite _ (x = y) hc t1 t2) K := by
  obtain ⟨p, l, e, R, s, m, args, below, meth, c, cells, slots, Q, A⟩ := X
  obtain ⟨hx, hb, hml, hown, hts, hE, hlk, hfr, hlo, hce, hsl, hA⟩ := O
  intro z hz hK H locs ls hP hD hS hv
  refine lv_icmp_ne hx hb hd ht (fun hq => ?_) (fun hq => ?_)
  · rw [if_neg hq] at hz; exact kf z hz hK H locs ls hP hD hS hv
  · rw [if_pos hq] at hz; exact kt z hz hK H locs ls hP hD hS hv
theorem j_icmp_lt (O : Ok G own cc nL d X) {x y : Int32} {off : Int} {tgt : Nat} {hc : Decidable (x < y)} (hd : decode cc pc = .ok (.if_icmp .lt off, 3)) (ht : (pc : Int) + off = (tgt : Int)) (kt : JW G S ad X tgt L st M t1 K) (kf : JW G S ad X (pc + 3) L st M t2 K) : JW G S ad X pc L (.int y :: .int x :: st) M (@ite _ (x < y) hc t1 t2) K := by
  obtain ⟨p, l, e, R, s, m, args, below, meth, c, cells, slots, Q, A⟩ := X
  obtain ⟨hx, hb, hml, hown, hts, hE, hlk, hfr, hlo, hce, hsl, hA⟩ := O
  intro z hz hK H locs ls hP hD hS hv
  refine lv_icmp_lt hx hb hd ht (fun hq => ?_) (fun hq => ?_)
  · rw [if_pos hq] at hz; exact kt z hz hK H locs ls hP hD hS hv
  · rw [if_neg hq] at hz; exact kf z hz hK H locs ls hP hD hS hv
theorem j_icmp_ge (O : Ok G own cc nL d X) {x y : Int32} {off : Int} {tgt : Nat} {hc : Decidable (y ≤ x)} (hd : decode cc pc = .ok (.if_icmp .ge off, 3)) (ht : (pc : Int) + off = (tgt : Int)) (kt : JW G S ad X tgt L st M t1 K) (kf : JW G S ad X (pc + 3) L st M t2 K) : JW G S ad X pc L (.int y :: .int x :: st) M (@ite _ (y ≤ x) hc t1 t2) K := by
  obtain ⟨p, l, e, R, s, m, args, below, meth, c, cells, slots, Q, A⟩ := X
  obtain ⟨hx, hb, hml, hown, hts, hE, hlk, hfr, hlo, hce, hsl, hA⟩ := O
  intro z hz hK H locs ls hP hD hS hv
  refine lv_icmp_ge hx hb hd ht (fun hq => ?_) (fun hq => ?_)
  · rw [if_pos hq] at hz; exact kt z hz hK H locs ls hP hD hS hv
  · rw [if_neg hq] at hz; exact kf z hz hK H locs ls hP hD hS hv
theorem j_icmp_gt (O : Ok G own cc nL d X) {x y : Int32} {off : Int} {tgt : Nat} {hc : Decidable (y < x)} (hd : decode cc pc = .ok (.if_icmp .gt off, 3)) (ht : (pc : Int) + off = (tgt : Int)) (kt : JW G S ad X tgt L st M t1 K) (kf : JW G S ad X (pc + 3) L st M t2 K) : JW G S ad X pc L (.int y :: .int x :: st) M (@ite _ (y < x) hc t1 t2) K := by
  obtain ⟨p, l, e, R, s, m, args, below, meth, c, cells, slots, Q, A⟩ := X
  obtain ⟨hx, hb, hml, hown, hts, hE, hlk, hfr, hlo, hce, hsl, hA⟩ := O
  intro z hz hK H locs ls hP hD hS hv
  refine lv_icmp_gt hx hb hd ht (fun hq => ?_) (fun hq => ?_)
  · rw [if_pos hq] at hz; exact kt z hz hK H locs ls hP hD hS hv
  · rw [if_neg hq] at hz; exact kf z hz hK H locs ls hP hD hS hv
theorem j_icmp_le (O : Ok G own cc nL d X) {x y : Int32} {off : Int} {tgt : Nat} {hc : Decidable (x ≤ y)} (hd : decode cc pc = .ok (.if_icmp .le off, 3)) (ht : (pc : Int) + off = (tgt : Int)) (kt : JW G S ad X tgt L st M t1 K) (kf : JW G S ad X (pc + 3) L st M t2 K) : JW G S ad X pc L (.int y :: .int x :: st) M (@ite _ (x ≤ y) hc t1 t2) K := by
  obtain ⟨p, l, e, R, s, m, args, below, meth, c, cells, slots, Q, A⟩ := X
  obtain ⟨hx, hb, hml, hown, hts, hE, hlk, hfr, hlo, hce, hsl, hA⟩ := O
  intro z hz hK H locs ls hP hD hS hv
  refine lv_icmp_le hx hb hd ht (fun hq => ?_) (fun hq => ?_)
  · rw [if_pos hq] at hz; exact kt z hz hK H locs ls hP hD hS hv
  · rw [if_neg hq] at hz; exact kf z hz hK H locs ls hP hD hS hv
theorem j_goto (O : Ok G own cc nL d X) {off : Int} {tgt : Nat} (hd : decode cc pc = .ok (.goto off, 3)) (ht : (pc : Int) + off = (tgt : Int)) (k : JW G S ad X tgt L st M t K) : JW G S ad X pc L st M t K := by
  obtain ⟨p, l, e, R, s, m, args, below, meth, c, cells, slots, Q, A⟩ := X
  obtain ⟨hx, hb, hml, hown, hts, hE, hlk, hfr, hlo, hce, hsl, hA⟩ := O
  intro z hz hK H locs ls hP hD hS hv
  exact lv_goto hx hb hd ht (k z hz hK H locs ls hP hD hS hv)
theorem j_ifnonnull (O : Ok G own cc nL d X) {off : Int} {tgt x : Nat} (hd : decode cc pc = .ok (.ifnonnull off, 3)) (ht : (pc : Int) + off = (tgt : Int)) (k : JW G S ad X tgt L st M t K) : JW G S ad X pc L (.ref x :: st) M t K := by
  obtain ⟨p, l, e, R, s, m, args, below, meth, c, cells, slots, Q, A⟩ := X
  obtain ⟨hx, hb, hml, hown, hts, hE, hlk, hfr, hlo, hce, hsl, hA⟩ := O
  intro z hz hK H locs ls hP hD hS hv
  exact lv_ifnonnull hx hb hd ht (k z hz hK H locs ls hP hD hS hv)
theorem j_ifnull (O : Ok G own cc nL d X) {off : Int} {x : Nat} (hd : decode cc pc = .ok (.ifnull off, 3)) (k : JW G S ad X (pc + 3) L st M t K) : JW G S ad X pc L (.ref x :: st) M t K := by
  obtain ⟨p, l, e, R, s, m, args, below, meth, c, cells, slots, Q, A⟩ := X
  obtain ⟨hx, hb, hml, hown, hts, hE, hlk, hfr, hlo, hce, hsl, hA⟩ := O
  intro z hz hK H locs ls hP hD hS hv
  exact lv_ifnull hx hb hd (k z hz hK H locs ls hP hD hS hv)
/-- the cases of a switch, as a chain -/
def swc {α : Type} (x : Int32) : List (Int32 × Option α) → Option α → Option α
  | [], dflt => dflt
  | (c, t) :: r, dflt => if x = c then t else swc x r dflt
theorem j_switch (O : Ok G own cc nL d X) {x : Int32} (hs : ∀ y : Int32, y = x → JW G S ad X pc L (.int y :: st) M t K) : JW G S ad X pc L (.int x :: st) M t K := hs x rfl
theorem j_tin (O : Ok G own cc nL d X) {dflt lo hi : Int} {offs : Array Int} {len : Nat} {x : Int32} {off : Int} {tgt : Nat} (hd : decode cc pc = .ok (.tableswitch dflt lo hi offs, len)) (h1 : ¬ x.toInt < lo) (h2 : ¬ hi < x.toInt) (ho : offs[(x.toInt - lo).toNat]? = some off) (ht : (pc : Int) + off = (tgt : Int)) (k : JW G S ad X tgt L st M t K) : JW G S ad X pc L (.int x :: st) M t K := by
  obtain ⟨p, l, e, R, s, m, args, below, meth, c, cells, slots, Q, A⟩ := X
  obtain ⟨hx, hb, hml, hown, hts, hE, hlk, hfr, hlo, hce, hsl, hA⟩ := O
  intro z hz hK H locs ls hP hD hS hv
  exact lv_tableIn hx hb hd h1 h2 ho ht (k z hz hK H locs ls hP hD hS hv)
theorem j_tout (O : Ok G own cc nL d X) {dflt lo hi : Int} {offs : Array Int} {len : Nat} {x : Int32} {tgt : Nat} (hd : decode cc pc = .ok (.tableswitch dflt lo hi offs, len)) (h : x.toInt < lo ∨ hi < x.toInt) (ht : (pc : Int) + dflt = (tgt : Int)) (k : JW G S ad X tgt L st M t K) : JW G S ad X pc L (.int x :: st) M t K := by
  obtain ⟨p, l, e, R, s, m, args, below, meth, c, cells, slots, Q, A⟩ := X
  obtain ⟨hx, hb, hml, hown, hts, hE, hlk, hfr, hlo, hce, hsl, hA⟩ := O
  intro z hz hK H locs ls hP hD hS hv
  exact lv_tableOut hx hb hd h ht (k z hz hK H locs ls hP hD hS hv)
theorem j_lsw (O : Ok G own cc nL d X) {dflt : Int} {ps : Array (Int × Int)} {len : Nat} {x : Int32} {off : Int} {tgt : Nat} (hd : decode cc pc = .ok (.lookupswitch dflt ps, len)) (hp : (ps.toList.zip (ps.toList.drop 1)).all (fun (a, next) => a.1 < next.1) = true) (ho : Op.lookupswitch.offset ps.toList dflt x.toInt = off) (ht : (pc : Int) + off = (tgt : Int)) (k : JW G S ad X tgt L st M t K) : JW G S ad X pc L (.int x :: st) M t K := by
  obtain ⟨p, l, e, R, s, m, args, below, meth, c, cells, slots, Q, A⟩ := X
  obtain ⟨hx, hb, hml, hown, hts, hE, hlk, hfr, hlo, hce, hsl, hA⟩ := O
  intro z hz hK H locs ls hP hD hS hv
  exact lv_lookup hx hb hd hp ho ht (k z hz hK H locs ls hP hD hS hv)
theorem jw_swc {x c : Int32} {tc dflt : Option ρ} {r : List (Int32 × Option ρ)} (h1 : x = c → JW G S ad X pc L st M tc K) (h2 : ¬ x = c → JW G S ad X pc L st M (swc x r dflt) K) : JW G S ad X pc L st M (swc x ((c, tc) :: r) dflt) K := by
  by_cases h : x = c
  · have e : swc x ((c, tc) :: r) dflt = tc := by rw [swc, if_pos h]
    rw [e]; exact h1 h
  · have e : swc x ((c, tc) :: r) dflt = swc x r dflt := by rw [swc, if_neg h]
    rw [e]; exact h2 h
theorem jw_swd {x : Int32} {dflt : Option ρ} (h : JW G S ad X pc L st M dflt K) : JW G S ad X pc L st M (swc x [] dflt) K := h
/-- a field's link -/
def FL (own : String) (index ci k : Nat) (fin : Bool) : Prop := ∃ (C : String) (T : u_T) (N : Nat) (ty0 : Nat → FieldType), vwCl[ci]? = some (C, T, N) ∧ k < N ∧ (∀ w ∈ u_ws C T N, w ∈ gw) ∧ (T k).1 = C ∧ (T k).2.2.2 = fin ∧ (∀ k, k < N → parseFieldDescriptor (T k).2.2.1 = some (ty0 k)) ∧ (∀ a, a < N → ∀ b, b < N → a ≠ b → (T a).2.1 ≠ (T b).2.1) ∧
  (Cond.fieldLink own index C (T k).2.1 (T k).2.2.1 ∈ gw ∨ Cond.fieldLinkNest own index C (T k).2.1 (T k).2.2.1 RX5 ∈ nws)
/-- its type -/
def FTy (ci k : Nat) (ty : FieldType) : Prop := ∀ (C : String) (T : u_T) (N : Nat), vwCl[ci]? = some (C, T, N) → parseFieldDescriptor (T k).2.2.1 = some ty
theorem j_getf (O : Ok G own cc nL d X) (o k : Nat) {index ci n : Nat} {fk : List Nat} {tg : Nat} {v : Value} {fin : Bool} (hd : decode cc pc = .ok (.getfield index, 3)) (hl : FL own index ci k fin) (ho : S[o]? = some (ci + 2, n, fk)) (hk : fk[k]? = some tg) (hv0 : fv ad M o k tg = v) (kk : JW G S ad X (pc + 3) L (v :: st) M t K) : JW G S ad X pc L (.ref (ad o) :: st) M t K := by
  subst hv0
  obtain ⟨p, l, e, R, s, m, args, below, meth, c, cells, slots, Q, A⟩ := X
  obtain ⟨hx, hb, hml, hown, hts, hE, hlk, hfr, hlo, hce, hsl, hA⟩ := O
  intro z hz hK H locs ls hP hD hS hv
  obtain ⟨C, T, N, ty0, hc, hkN, hin, hT, -, -, -, hlink⟩ := hl
  have he := wo_at (G := G) (ad := ad) (M := M) ho
  rcases hlink with hlink | hlink
  · exact va_get (ref := C) hx hb hts hin hown hE.1 hP o he hc k hkN (hts _ hlink) (fun x q => by rw [← q, hT]) (fv_get hk) hd (kk z hz hK H locs ls hP hD hS hv)
  · exact va_getN (ref := C) hx hb hts hin hown hE.1 hP o he hc k hkN (va_Nw.use rfl (hE.2.1 _ hlink)) (fun x q => by rw [← q, hT]) (fv_get hk) hd (kk z hz hK H locs ls hP hD hS hv)
theorem j_put (O : Ok G own cc nL d X) (o k : Nat) {index ci n : Nat} {fk : List Nat} {v : Value} {M' : Mm} {ty : FieldType} (hd : decode cc pc = .ok (.putfield index, 3)) (hl : FL own index ci k false) (ho : S[o]? = some (ci + 2, n, fk)) (hty : FTy ci k ty) (hn : narrow ty v = v) (hfit : fits ty v = true) (hkl : k < fk.length)
    (hM : (fk.mapIdx (fv ad M o)).set k v = fk.mapIdx (fv ad M' o)) (h1 : ∀ i, i ≠ o → M'.1 i = M.1 i) (h2 : ∀ i, i ≠ o → M'.2 i = M.2 i) (kk : JW G S ad X (pc + 3) L st M' t K) : JW G S ad X pc L (v :: .ref (ad o) :: st) M t K := by
  obtain ⟨p, l, e, R, s, m, args, below, meth, c, cells, slots, Q, A⟩ := X
  obtain ⟨hx, hb, hml, hown, hts, hE, hlk, hfr, hlo, hce, hsl, hA⟩ := O
  intro z hz hK H locs ls hP hD hS hv
  obtain ⟨C, T, N, ty0, hc, hkN, hin, hT, hfin, hty0, hnm, hlink⟩ := hl
  have he := wo_at (G := G) (ad := ad) (M := M) ho
  have e : (wo G S ad M).set o (ad o, .inr (ci, (fk.mapIdx (fv ad M o)).set k v)) = wo G S ad M' := wo_set ho (by rw [hM]; rfl) h1 h2
  have hlen : k < (fk.mapIdx (fv ad M o)).length := by rw [List.length_mapIdx]; exact hkl
  rcases hlink with hlink | hlink
  · exact va_put (ref := C) hx hb hts hin ty0 hty0 hnm hown hE.1 hP hD hS o he hc k hkN (hts _ hlink) (fun x q => by rw [← q, hT]) hfin (hty C T N hc) hn hfit hlen hd (fun H locs hP hD hS => kk z hz hK H locs ls (by rw [← e]; exact hP) (by rw [← e]; exact hD) hS hv)
  · exact va_putN (ref := C) hx hb hts hin ty0 hty0 hnm hown hE.1 hP hD hS o he hc k hkN (va_Nw.use rfl (hE.2.1 _ hlink)) (fun x q => by rw [← q, hT]) hfin (hty C T N hc) hn hfit hlen hd (fun H locs hP hD hS => kk z hz hK H locs ls (by rw [← e]; exact hP) (by rw [← e]; exact hD) hS hv)
theorem ms_n1 {o k i : Nat} {v : Int32} (h : i ≠ o) : (ms M o k v).1 i = M.1 i := ms_ne h
theorem j_puti (O : Ok G own cc nL d X) (o k : Nat) {index ci n : Nat} {fk : List Nat} {v : Int32} {kf : Mm → Option ρ} (hd : decode cc pc = .ok (.putfield index, 3)) (hl : FL own index ci k false) (ho : S[o]? = some (ci + 2, n, fk)) (hty : FTy ci k .int) (hk : fk[k]? = some 0) (kk : ∀ M1 : Mm, JW G S ad X (pc + 3) L st M1 (kf M1) K) : JW G S ad X pc L (.int v :: .ref (ad o) :: st) M (bm (ms M o k v) kf) K :=
  j_put O o k hd hl ho hty rfl rfl (List.getElem?_eq_some_iff.mp hk).1 (fs_int hk) (fun _ h => ms_ne h) (fun _ _ => rfl) (kk _)
theorem j_putz (O : Ok G own cc nL d X) (o k : Nat) {index ci n : Nat} {fk : List Nat} {v : Int32} {kf : Mm → Option ρ} (hd : decode cc pc = .ok (.putfield index, 3)) (hl : FL own index ci k false) (ho : S[o]? = some (ci + 2, n, fk)) (hty : FTy ci k .boolean) (hv0 : narrow .boolean (.int v) = .int v ∧ fits .boolean (.int v) = true) (hk : fk[k]? = some 0) (kk : ∀ M1 : Mm, JW G S ad X (pc + 3) L st M1 (kf M1) K) : JW G S ad X pc L (.int v :: .ref (ad o) :: st) M (bm (ms M o k v) kf) K :=
  j_put O o k hd hl ho hty hv0.1 hv0.2 (List.getElem?_eq_some_iff.mp hk).1 (fs_int hk) (fun _ h => ms_ne h) (fun _ _ => rfl) (kk _)
theorem j_putl (O : Ok G own cc nL d X) (o k : Nat) {index ci n : Nat} {fk : List Nat} {v : Int64} {kf : Mm → Option ρ} (hd : decode cc pc = .ok (.putfield index, 3)) (hl : FL own index ci k false) (ho : S[o]? = some (ci + 2, n, fk)) (hty : FTy ci k .long) (hk : fk[k]? = some 1) (hu : ∀ i, i < fk.length → fk[i]? = some 1 → i = k) (kk : ∀ M1 : Mm, JW G S ad X (pc + 3) L st M1 (kf M1) K) : JW G S ad X pc L (.long v :: .ref (ad o) :: st) M (bm (ml M o v) kf) K :=
  j_put O o k hd hl ho hty rfl rfl (List.getElem?_eq_some_iff.mp hk).1 (fs_long hk hu) (fun _ _ => rfl) (fun i h => by simp [ml, h]) (kk _)
theorem j_iald (O : Ok G own cc nL d X) (o : Nat) {n : Nat} {fk : List Nat} {i : Int32} {hc : Decidable (bin i n = true)} (hd : decode cc pc = .ok (.iaload, 1)) (ho : S[o]? = some (0, n, fk)) (kk : JW G S ad X (pc + 1) L (.int (M.1 o i.toNatClampNeg) :: st) M t K) : JW G S ad X pc L (.int i :: .ref (ad o) :: st) M (gd (bin i n = true) hc t) K := by
  refine jw_gd fun hi => ?_
  obtain ⟨p, l, e, R, s, m, args, below, meth, c, cells, slots, Q, A⟩ := X
  obtain ⟨hx, hb, hml, hown, hts, hE, hlk, hfr, hlo, hce, hsl, hA⟩ := O
  intro z hz hK H locs ls hP hD hS hv
  exact va_iald (f := M.1 o) hx hb hE.1 hP o 0 (wo_at (G := G) (ad := ad) (M := M) ho) rfl (bin_in hi) hd (kk z hz hK H locs ls hP hD hS hv)
theorem j_zald (O : Ok G own cc nL d X) (o : Nat) {n : Nat} {fk : List Nat} {i : Int32} {hc : Decidable (bin i n = true)} (hd : decode cc pc = .ok (.baload, 1)) (ho : S[o]? = some (1, n, fk)) (kk : JW G S ad X (pc + 1) L (.int (M.1 o i.toNatClampNeg) :: st) M t K) : JW G S ad X pc L (.int i :: .ref (ad o) :: st) M (gd (bin i n = true) hc t) K := by
  refine jw_gd fun hi => ?_
  obtain ⟨p, l, e, R, s, m, args, below, meth, c, cells, slots, Q, A⟩ := X
  obtain ⟨hx, hb, hml, hown, hts, hE, hlk, hfr, hlo, hce, hsl, hA⟩ := O
  intro z hz hK H locs ls hP hD hS hv
  exact va_zald (f := M.1 o) hx hb hE.1 hP o 1 (wo_at (G := G) (ad := ad) (M := M) ho) rfl (bin_in hi) hd (kk z hz hK H locs ls hP hD hS hv)
theorem j_iast (O : Ok G own cc nL d X) (o : Nat) {n : Nat} {fk : List Nat} {i v : Int32} {hc : Decidable (bin i n = true)} {kf : Mm → Option ρ} (hd : decode cc pc = .ok (.iastore, 1)) (ho : S[o]? = some (0, n, fk)) (kk : ∀ M1 : Mm, JW G S ad X (pc + 1) L st M1 (kf M1) K) : JW G S ad X pc L (.int v :: .int i :: .ref (ad o) :: st) M (gd (bin i n = true) hc (bm (ms M o i.toNatClampNeg v) kf)) K := by
  refine jw_gd fun hi => ?_
  have kk := kk (ms M o i.toNatClampNeg v)
  obtain ⟨p, l, e, R, s, m, args, below, meth, c, cells, slots, Q, A⟩ := X
  obtain ⟨hx, hb, hml, hown, hts, hE, hlk, hfr, hlo, hce, hsl, hA⟩ := O
  intro z hz hK H locs ls hP hD hS hv
  have e : (wo G S ad M).set o (ad o, .inl (gI G, n, .inl (upd (M.1 o) i.toNatClampNeg v))) = wo G S ad (ms M o i.toNatClampNeg v) := wo_set ho (by rw [← ms_upd]; rfl) (fun _ h => ms_ne h) (fun _ _ => rfl)
  exact va_iast (f := M.1 o) hx hb hE.1 hP hD hS o 0 (wo_at (G := G) (ad := ad) (M := M) ho) rfl (bin_in hi) hd (fun H locs hP hD hS => kk z hz hK H locs ls (by rw [← e]; exact hP) (by rw [← e]; exact hD) hS hv)
theorem j_zast (O : Ok G own cc nL d X) (o : Nat) {n : Nat} {fk : List Nat} {i v : Int32} {hc : Decidable (bin i n = true)} {kf : Mm → Option ρ} (hd : decode cc pc = .ok (.bastore, 1)) (ho : S[o]? = some (1, n, fk)) (kk : ∀ M1 : Mm, JW G S ad X (pc + 1) L st M1 (kf M1) K) : JW G S ad X pc L (.int v :: .int i :: .ref (ad o) :: st) M (gd (bin i n = true) hc (bm (ms M o i.toNatClampNeg (vp_nar .boolean v)) kf)) K := by
  refine jw_gd fun hi => ?_
  have kk := kk (ms M o i.toNatClampNeg (vp_nar .boolean v))
  obtain ⟨p, l, e, R, s, m, args, below, meth, c, cells, slots, Q, A⟩ := X
  obtain ⟨hx, hb, hml, hown, hts, hE, hlk, hfr, hlo, hce, hsl, hA⟩ := O
  intro z hz hK H locs ls hP hD hS hv
  have e : (wo G S ad M).set o (ad o, .inl (gZ G, n, .inl (upd (M.1 o) i.toNatClampNeg (vp_nar .boolean v)))) = wo G S ad (ms M o i.toNatClampNeg (vp_nar .boolean v)) := wo_set ho (by rw [← ms_upd]; rfl) (fun _ h => ms_ne h) (fun _ _ => rfl)
  exact va_zast (f := M.1 o) hx hb hE.1 hP hD hS o 1 (wo_at (G := G) (ad := ad) (M := M) ho) rfl (bin_in hi) hd (fun H locs hP hD hS => kk z hz hK H locs ls (by rw [← e]; exact hP) (by rw [← e]; exact hD) hS hv)
theorem j_alen (O : Ok G own cc nL d X) (o : Nat) {n : Nat} {fk : List Nat} {v : Int32} (hd : decode cc pc = .ok (.arraylength, 1)) (ho : S[o]? = some (0, n, fk)) (hn : Int32.ofNat n = v) (kk : JW G S ad X (pc + 1) L (.int v :: st) M t K) : JW G S ad X pc L (.ref (ad o) :: st) M t K := by
  obtain ⟨p, l, e, R, s, m, args, below, meth, c, cells, slots, Q, A⟩ := X
  obtain ⟨hx, hb, hml, hown, hts, hE, hlk, hfr, hlo, hce, hsl, hA⟩ := O
  intro z hz hK H locs ls hP hD hS hv
  exact va_alen (x := (n, .inl (M.1 o))) hx hb hE.1 hP o 0 (wo_at (G := G) (ad := ad) (M := M) ho) (ty := .int) rfl hn hd (kk z hz hK H locs ls hP hD hS hv)
theorem j_gets_low (O : Ok G own cc nL d X) {index : Nat} (hd : decode cc pc = .ok (.getstatic index, 3)) (hw : Cond.fieldLink own index RX5 "LOWEST" "[I" ∈ gw) (kk : JW G S ad X (pc + 3) L (.ref (gL G) :: st) M t K) : JW G S ad X pc L st M t K := by
  obtain ⟨p, l, e, R, s, m, args, below, meth, c, cells, slots, Q, A⟩ := X
  obtain ⟨hx, hb, hml, hown, hts, hE, hlk, hfr, hlo, hce, hsl, hA⟩ := O
  intro z hz hK H locs ls hP hD hS hv
  exact va_gets hx hb (hE.2.2.2.2.1.1) hS hown (hts _ hw) (fun _ h => h) hd (kk z hz hK H locs ls hP hD hS hv)
theorem j_low_len (O : Ok G own cc nL d X) (hd : decode cc pc = .ok (.arraylength, 1)) (kk : JW G S ad X (pc + 1) L (.int 5 :: st) M t K) : JW G S ad X pc L (.ref (gL G) :: st) M t K := by
  obtain ⟨p, l, e, R, s, m, args, below, meth, c, cells, slots, Q, A⟩ := X
  obtain ⟨hx, hb, hml, hown, hts, hE, hlk, hfr, hlo, hce, hsl, hA⟩ := O
  intro z hz hK H locs ls hP hD hS hv
  exact va_tlen hx hb (hE.2.2.2.2.1.2) hS rfl hd (kk z hz hK H locs ls hP hD hS hv)
theorem j_low_ald (O : Ok G own cc nL d X) {i : Int32} {hc : Decidable (bin i 5 = true)} (hd : decode cc pc = .ok (.iaload, 1)) (kk : JW G S ad X (pc + 1) L (.int (lowV i.toNatClampNeg) :: st) M t K) : JW G S ad X pc L (.int i :: .ref (gL G) :: st) M (gd (bin i 5 = true) hc t) K := by
  refine jw_gd fun hi => ?_
  obtain ⟨p, l, e, R, s, m, args, below, meth, c, cells, slots, Q, A⟩ := X
  obtain ⟨hx, hb, hml, hown, hts, hE, hlk, hfr, hlo, hce, hsl, hA⟩ := O
  intro z hz hK H locs ls hP hD hS hv
  exact va_ti hx hb (hE.2.2.2.2.1.2) hS (bin_in hi) rfl hd (kk z hz hK H locs ls hP hD hS hv)
theorem j_gets_high (O : Ok G own cc nL d X) {index : Nat} (hd : decode cc pc = .ok (.getstatic index, 3)) (hw : Cond.fieldLink own index RX5 "HIGHEST" "[I" ∈ gw) (kk : JW G S ad X (pc + 3) L (.ref (gH G) :: st) M t K) : JW G S ad X pc L st M t K := by
  obtain ⟨p, l, e, R, s, m, args, below, meth, c, cells, slots, Q, A⟩ := X
  obtain ⟨hx, hb, hml, hown, hts, hE, hlk, hfr, hlo, hce, hsl, hA⟩ := O
  intro z hz hK H locs ls hP hD hS hv
  exact va_gets hx hb (hE.2.2.2.2.2.1.1) hS hown (hts _ hw) (fun _ h => h) hd (kk z hz hK H locs ls hP hD hS hv)
theorem j_high_len (O : Ok G own cc nL d X) (hd : decode cc pc = .ok (.arraylength, 1)) (kk : JW G S ad X (pc + 1) L (.int 5 :: st) M t K) : JW G S ad X pc L (.ref (gH G) :: st) M t K := by
  obtain ⟨p, l, e, R, s, m, args, below, meth, c, cells, slots, Q, A⟩ := X
  obtain ⟨hx, hb, hml, hown, hts, hE, hlk, hfr, hlo, hce, hsl, hA⟩ := O
  intro z hz hK H locs ls hP hD hS hv
  exact va_tlen hx hb (hE.2.2.2.2.2.1.2) hS rfl hd (kk z hz hK H locs ls hP hD hS hv)
theorem j_high_ald (O : Ok G own cc nL d X) {i : Int32} {hc : Decidable (bin i 5 = true)} (hd : decode cc pc = .ok (.iaload, 1)) (kk : JW G S ad X (pc + 1) L (.int (highV i.toNatClampNeg) :: st) M t K) : JW G S ad X pc L (.int i :: .ref (gH G) :: st) M (gd (bin i 5 = true) hc t) K := by
  refine jw_gd fun hi => ?_
  obtain ⟨p, l, e, R, s, m, args, below, meth, c, cells, slots, Q, A⟩ := X
  obtain ⟨hx, hb, hml, hown, hts, hE, hlk, hfr, hlo, hce, hsl, hA⟩ := O
  intro z hz hK H locs ls hP hD hS hv
  exact va_ti hx hb (hE.2.2.2.2.2.1.2) hS (bin_in hi) rfl hd (kk z hz hK H locs ls hP hD hS hv)
theorem j_iret (O : Ok G own cc nL d X) {v : Int32} (hd : decode cc pc = .ok (.ireturn, 1)) : JW G S ad X pc L [.int v] M (some (v, M)) (fun z : Int32 × Mm => Tg G S ad X (some .int) z.2 (some (.int z.1))) := by
  refine jw_pw fun hT => ?_
  obtain ⟨p, l, e, R, s, m, args, below, meth, c, cells, slots, Q, A⟩ := X
  obtain ⟨hx, hb, hml, hown, hts, hE, hlk, hfr, hlo, hce, hsl, hA⟩ := O
  obtain ⟨hr, hQ⟩ := hT
  intro H locs ls hP hD hS hv
  rw [hQ]
  exact W.iret hx hb hr (fun t ht _ => ⟨rfl, by rw [ht]; exact hP, hS.F ht⟩) hS.2.2 hd hlk
theorem j_lret (O : Ok G own cc nL d X) {v : Int64} (hd : decode cc pc = .ok (.lreturn, 1)) : JW G S ad X pc L [.long v] M (some (v, M)) (fun z : Int64 × Mm => Tg G S ad X (some .long) z.2 (some (.long z.1))) := by
  refine jw_pw fun hT => ?_
  obtain ⟨p, l, e, R, s, m, args, below, meth, c, cells, slots, Q, A⟩ := X
  obtain ⟨hx, hb, hml, hown, hts, hE, hlk, hfr, hlo, hce, hsl, hA⟩ := O
  obtain ⟨hr, hQ⟩ := hT
  intro H locs ls hP hD hS hv
  rw [hQ]
  exact W.lret hx hb hr (fun t ht _ => ⟨rfl, by rw [ht]; exact hP, hS.F ht⟩) hS.2.2 hd hlk
theorem j_zret (O : Ok G own cc nL d X) {v : Int32} {hc : Decidable (v = 0 ∨ v = 1)} (hd : decode cc pc = .ok (.ireturn, 1)) : JW G S ad X pc L [.int v] M (gd (v = 0 ∨ v = 1) hc (some (v, M))) (fun z : Int32 × Mm => Tg G S ad X (some .boolean) z.2 (some (.int z.1))) := by
  refine jw_gd fun h01 => jw_pw fun hT => ?_
  obtain ⟨p, l, e, R, s, m, args, below, meth, c, cells, slots, Q, A⟩ := X
  obtain ⟨hx, hb, hml, hown, hts, hE, hlk, hfr, hlo, hce, hsl, hA⟩ := O
  obtain ⟨hr, hQ⟩ := hT
  intro H locs ls hP hD hS hv
  rw [hQ]
  exact W.zret hx hb hr (by rcases h01 with rfl | rfl <;> rfl) (fun t ht _ => ⟨rfl, by rw [ht]; exact hP, hS.F ht⟩) hS.2.2 hd hlk
theorem j_z0 (O : Ok G own cc nL d X) (hd : decode cc pc = .ok (.ireturn, 1)) : JW G S ad X pc L [.int 0] M (some (0, M)) (fun z : Int32 × Mm => Tg G S ad X (some .boolean) z.2 (some (.int z.1))) := fun z hz hK => j_zret (hc := inferInstance) O hd z (by rw [gd, if_pos (Or.inl rfl)]; exact hz) hK
theorem j_z1 (O : Ok G own cc nL d X) (hd : decode cc pc = .ok (.ireturn, 1)) : JW G S ad X pc L [.int 1] M (some (1, M)) (fun z : Int32 × Mm => Tg G S ad X (some .boolean) z.2 (some (.int z.1))) := fun z hz hK => j_zret (hc := inferInstance) O hd z (by rw [gd, if_pos (Or.inr rfl)]; exact hz) hK
theorem j_vret (O : Ok G own cc nL d X) (hd : decode cc pc = .ok (.return_, 1)) : JW G S ad X pc L [] M (some M) (fun z : Mm => Tg G S ad X none z none) := by
  refine jw_pw fun hT => ?_
  obtain ⟨p, l, e, R, s, m, args, below, meth, c, cells, slots, Q, A⟩ := X
  obtain ⟨hx, hb, hml, hown, hts, hE, hlk, hfr, hlo, hce, hsl, hA⟩ := O
  obtain ⟨hr, hQ⟩ := hT
  intro H locs ls hP hD hS hv
  rw [hQ]
  exact W.vret hx hb hr (fun t ht _ => ⟨rfl, by rw [ht]; exact hP, hS.F ht⟩) hS.2.2 hd hlk
theorem j_sret (O : Ok G own cc nL d X) {i : Nat} (hd : decode cc pc = .ok (.areturn, 1)) : JW G S ad X pc L [.ref (gK G i)] M (some (i, M)) (fun z : Nat × Mm => Tg G S ad X (some (.object "java/lang/String")) z.2 (some (.ref (gK G z.1)))) := by
  refine jw_pw fun hT => ?_
  obtain ⟨p, l, e, R, s, m, args, below, meth, c, cells, slots, Q, A⟩ := X
  obtain ⟨hx, hb, hml, hown, hts, hE, hlk, hfr, hlo, hce, hsl, hA⟩ := O
  obtain ⟨hr, hQ⟩ := hT
  intro H locs ls hP hD hS hv
  rw [hQ]
  exact W.aret hx hb hr (Or.inl ⟨_, rfl⟩) (Or.inr ⟨_, rfl⟩) (fun t ht _ => ⟨rfl, by rw [ht]; exact hP, hS.F ht⟩) hS.2.2 hd hlk
theorem j_ldcs (O : Ok G own cc nL d X) {index : Nat} {tx : String} (i : Nat) (hd : decode cc pc = .ok (.ldc index, 2)) (hq : (own, index, tx, i) ∈ sRef) (kk : JW G S ad X (pc + 2) L (.ref (gK G i) :: st) M t K) : JW G S ad X pc L st M t K := by
  obtain ⟨p, l, e, R, s, m, args, below, meth, c, cells, slots, Q, A⟩ := X
  obtain ⟨hx, hb, hml, hown, hts, hE, hlk, hfr, hlo, hce, hsl, hA⟩ := O
  intro z hz hK H locs ls hP hD hS hv
  exact va_ldcS hx hb hown (hE.2.2.2.1 _ hq) hd (kk z hz hK H locs ls hP hD hS hv)
theorem j_max (O : Ok G own cc nL d X) {index : Nat} {x y : Int32} (hd : decode cc pc = .ok (.invokestatic index, 3)) (hw : Cond.methodLink own index Lib.Math.max.name ∈ gw) (hw2 : Cond.static Lib.Math.max.name ∈ gw) (hw3 : Cond.initialized "java/lang/Math" ∈ gw) (hw4 : Cond.code Lib.Math.max.name Lib.Math.max.code 2 (some .int) ∈ gw) (hd1 : 1 ≤ d) (hc : (st.map fun v => v.category).sum ≤ 8) (kk : JW G S ad X (pc + 3) L (.int (imx x y) :: st) M t K) : JW G S ad X pc L (.int y :: .int x :: st) M t K := by
  obtain ⟨p, l, e, R, s, m, args, below, meth, c, cells, slots, Q, A⟩ := X
  obtain ⟨hx, hb, hml, hown, hts, hE, hlk, hfr, hlo, hce, hsl, hA⟩ := O
  intro z hz hK H locs ls hP hD hS hv
  exact va_mmax hx hb hv.1.symm hown (hts _ hw) (hts _ hw2) (hts _ hw3) (hts _ hw4) (by omega) (by omega) hce hsl hd (kk z hz hK H locs ls hP hD hS hv)
theorem j_min (O : Ok G own cc nL d X) {index : Nat} {x y : Int32} (hd : decode cc pc = .ok (.invokestatic index, 3)) (hw : Cond.methodLink own index Lib.Math.min.name ∈ gw) (hw2 : Cond.static Lib.Math.min.name ∈ gw) (hw3 : Cond.initialized "java/lang/Math" ∈ gw) (hw4 : Cond.code Lib.Math.min.name Lib.Math.min.code 2 (some .int) ∈ gw) (hd1 : 1 ≤ d) (hc : (st.map fun v => v.category).sum ≤ 8) (kk : JW G S ad X (pc + 3) L (.int (imn x y) :: st) M t K) : JW G S ad X pc L (.int y :: .int x :: st) M t K := by
  obtain ⟨p, l, e, R, s, m, args, below, meth, c, cells, slots, Q, A⟩ := X
  obtain ⟨hx, hb, hml, hown, hts, hE, hlk, hfr, hlo, hce, hsl, hA⟩ := O
  intro z hz hK H locs ls hP hD hS hv
  exact va_mmin hx hb hv.1.symm hown (hts _ hw) (hts _ hw2) (hts _ hw3) (hts _ hw4) (by omega) (by omega) hce hsl hd (kk z hz hK H locs ls hP hD hS hv)
theorem j_copy (O : Ok G own cc nL d X) (o o2 : Nat) {index n0 n1 : Nat} {fk fk2 : List Nat} {sp dp n : Int32} {hc : Decidable (¬ sp < 0 ∧ ¬ dp < 0 ∧ ¬ n < 0 ∧ sp.toNatClampNeg + n.toNatClampNeg ≤ n0 ∧ dp.toNatClampNeg + n.toNatClampNeg ≤ n1)} {kf : Mm → Option ρ} (hd : decode cc pc = .ok (.invokestatic index, 3)) (ho : S[o]? = some (0, n0, fk)) (ho2 : S[o2]? = some (0, n1, fk2)) (hw : Cond.methodLink own index arraycopyName ∈ gw) (hw2 : Cond.native arraycopyName ∈ gw) (hw3 : Cond.static arraycopyName ∈ gw) (hw4 : Cond.initialized "java/lang/System" ∈ gw) (hd1 : 1 ≤ d) (hcat : (st.map fun v => v.category).sum ≤ 8) (kk : ∀ M1 : Mm, JW G S ad X (pc + 3) L st M1 (kf M1) K) :
    JW G S ad X pc L (.int n :: .int dp :: .ref (ad o2) :: .int sp :: .ref (ad o) :: st) M (gd (¬ sp < 0 ∧ ¬ dp < 0 ∧ ¬ n < 0 ∧ sp.toNatClampNeg + n.toNatClampNeg ≤ n0 ∧ dp.toNatClampNeg + n.toNatClampNeg ≤ n1) hc (bm (mc M o sp.toNatClampNeg o2 dp.toNatClampNeg n.toNatClampNeg) kf)) K := by
  refine jw_gd fun hi => ?_
  have kk := kk (mc M o sp.toNatClampNeg o2 dp.toNatClampNeg n.toNatClampNeg)
  obtain ⟨g1, g2, g3, g4, g5⟩ := hi
  obtain ⟨p, l, e, R, s, m, args, below, meth, c, cells, slots, Q, A⟩ := X
  obtain ⟨hx, hb, hml, hown, hts, hE, hlk, hfr, hlo, hce, hsl, hA⟩ := O
  intro z hz hK H locs ls hP hD hS hv
  have e : (wo G S ad M).set o2 (ad o2, .inl (gI G, n1, .inl (va_cpy (M.1 o) (M.1 o2) sp.toNatClampNeg dp.toNatClampNeg n.toNatClampNeg))) = wo G S ad (mc M o sp.toNatClampNeg o2 dp.toNatClampNeg n.toNatClampNeg) := wo_set ho2 (by rw [← mc_cpy]; rfl) (fun _ h => mc_ne h) (fun _ _ => rfl)
  have hnf : nativeFrameWords "java/lang/System" "arraycopy" 5 ≤ 40 := by decide +kernel
  exact va_copyi (f := M.1 o) (g := M.1 o2) hx hb hv.1.symm hown (hts _ hw) (hts _ hw2) (hts _ hw3) (hts _ hw4) hE.1 hP hD hS o o2 0 0 (wo_at (G := G) (ad := ad) (M := M) ho) (wo_at (G := G) (ad := ad) (M := M) ho2) (ty := .int) rfl rfl rfl g1 g2 g3 g4 g5 (fun _ _ => rfl) (by omega) (by omega) hd (fun H locs hP hD hS => kk z hz hK H locs ls (by rw [← e]; exact hP) (by rw [← e]; exact hD) hS hv)
end JROWS
end
section
/-! ===== methods: what a call does, and how it is used ===== -/
def rmd (d : Nat) : Room := { frames := d, cells := 0, slots := 0, locals := 64 * d }
def Ps (G : wn_G) (S : wn_S) (ad : Nat → Nat) (M : Mm) (sz : Nat) (av : List Value) : Array Value → State → Prop := va_Pc av (fun U => U.heap.size = sz ∧ va_P (gD G) vwCl (wo G S ad M) U.heap ∧ va_D (fun _ => True) (wo G S ad M) ∧ Ev G (va_A (wo G S ad M) sz) U)
/-- called with these values over this memory the method ends with this answer and that memory; nothing else changes -/
def Sp (G : wn_G) (S : wn_S) (ad : Nat → Nat) (mt : wn_M) (d : Nat) (av : List Value) (M M0 : Mm) (ro : Option Value) : Prop :=
  ∀ (l : Launch) (sz : Nat), Met l mt.1 (wy mt) (rmd d) (Ps G S ad M sz av) (Qs G S ad M0 ro (va_A (wo G S ad M) sz)) 0 0 (va_A (wo G S ad M) sz)
theorem ps_blind {G : wn_G} {S : wn_S} {ad : Nat → Nat} {M : Mm} {sz : Nat} {av : List Value} : FrameBlind (Ps G S ad M sz av) := by
  intro a U g mk q
  obtain ⟨h1, h2, h3, h4, h5⟩ := q
  exact ⟨h1, h2, h3, h4, Ev.same (u := U) (U := U.calling g mk a) rfl rfl h5⟩
theorem sp_intro {G : wn_G} {S : wn_S} {ad : Nat → Nat} {mt : wn_M} {own : String} {d : Nat} {av : List Value} {M M0 : Mm} {ro : Option Value} (hy : plainName mt.1.cls = true) (ho : mt.1.cls = own) (hn : (lg_sl av).length ≤ mt.2.2.1)
    (body : ∀ X : wn_X, Ok G own mt.2.1 mt.2.2.1 d X → Tg G S ad X mt.2.2.2 M0 ro → PW G S ad X 0 (lv_args 0 av) [] M) : Sp G S ad mt d av M M0 ro := by
  intro l sz
  obtain ⟨y, cc, nL, ret⟩ := mt
  refine Met.ofW (cc := cc) (maxL := nL) (ret := ret) hy rfl ?_
  intro p e s m args below meth c s₁ B hml hv
  obtain ⟨rfl, hsz, hP, hD0, hE⟩ := hv
  have hts := atoms_spec (ws := wy (y, cc, nL, ret)) B.pre
  have hown : s.vm.findClass own = some m.cls := ho ▸ findClass_of_methodNamed B.named
  have hlk := B.notSynchronized
  subst hsz
  have hl := lv_entry av (n := nL) hn
  rw [lg_entry_eq]
  refine body (p, l, e, rmd d, s, m, av.toArray, below, meth, c, 0, 0, MQ below (Qs G S ad M0 ro (va_A (wo G S ad M) s.heap.size)) av.toArray s 0 0 (va_A (wo G S ad M) s.heap.size), va_A (wo G S ad M) s.heap.size) ⟨B.exec, B.bytes, hml, hown, fun w hw => hts w (List.mem_cons_of_mem _ hw), hE, hlk, Nat.le_refl _, Nat.le_refl _, Nat.le_refl _, Nat.le_refl _, fun q h => Or.inr h⟩ ⟨B.returns, rfl⟩ s.heap [] _ hP hD0.self va_S.rf ?_
  rw [hml]
  exact hl
/-- what a method's own words and name give at any call of it -/
def MO (mt : wn_M) (n : Nat) : Prop := Cond.code mt.1 mt.2.1 mt.2.2.1 mt.2.2.2 ∈ gw ∧ Cond.initialized mt.1.cls ∈ gw ∧ (mt.1.cls ≠ "java/lang/invoke/MethodHandle" ∧ mt.1.cls ≠ "java/lang/invoke/VarHandle") ∧ (parseMethodDescriptor mt.1.desc).map (fun d => d.parameters.length) = some n ∧ mt.2.2.1 ≤ 40
def MV (mt : wn_M) (ci n : Nat) : Prop := MO mt n ∧ Cond.instanceMethod mt.1 ∈ gw ∧ Cond.selects mt.1.cls mt.1 mt.1 ∈ gw ∧ ∃ (T : u_T) (N : Nat), vwCl[ci]? = some (mt.1.cls, T, N)
def MS (mt : wn_M) (n : Nat) : Prop := MO mt n ∧ Cond.static mt.1 ∈ gw
def LM (own : String) (index : Nat) (y : MethodName) : Prop := Cond.methodLink own index y ∈ gw ∨ Cond.methodLinkNest own index y RX5 ∈ nws
section CALLS
variable {ρ : Type} {G : wn_G} {S : wn_S} {ad : Nat → Nat} {own : String} {cc : ByteArray} {nL d pc : Nat} {L : List (Nat × Value)} {st rest : List Value} {M M0 : Mm} {t : Option ρ} {K : ρ → Prop} {mt : wn_M} {dc n index : Nat} {As : List Value} {ro : Option Value}
theorem w_call {p : Program} {l : Launch} {e : Env} {R : Room} {s : State} {m : MethodId} {args : Array Value} {below : List Frame} {meth : Method} {c : Code} {H : Heap} {locs : List Loc} {cells slots : Nat} {Q : State → Prop} {A B : Nat → Prop} {ls : Array Slot} {a : Array Value}
    (hr : va_Run p l e R s m args below meth c H locs cells slots 0 0 (F0 m pc ls st) rest (Qs G S ad M0 ro B a) B) (hS : va_S A s.heap H locs) (hAB : ∀ q, B q → A q)
    (kk : ∀ (H1 : Heap) (locs1 : List Loc), va_P (gD G) vwCl (wo G S ad M0) H1 → H.size ≤ H1.size → (∀ q : Nat, q < H.size → ¬ B q → H1[q]? = H[q]?) → va_S A s.heap H1 locs1 → W p l e R s m args below meth c H1 locs1 cells slots Q (F0 m (pc + 3) ls (ro.toList ++ rest))) : W p l e R s m args below meth c H locs cells slots Q (F0 m pc ls st) := by
  intro T hT X
  obtain ⟨v, st₀, t, T', L, h0, X', hL, e1, e2, ⟨hv, hp, hz, hk⟩, stp⟩ := hr T hT X
  cases hv
  rw [h0] at hz hk
  obtain ⟨t2, a1, b1⟩ := kk T'.heap (locs ++ L) (by rw [e1]; exact hp) (by rw [e1]; exact hz) (fun q h1 h2 => by rw [e1]; exact hk q h1 h2)
    ⟨Nat.le_trans hS.1 (by rw [e1]; exact hz), fun q h1 h2 => by rw [e1, hk q (Nat.lt_of_lt_of_le h1 hS.1) (fun z => h2 (hAB q z))]; exact hS.2.1 q h1 h2, fun q hq => by
      rcases List.mem_append.mp hq with h | h
      · exact hS.2.2 q h
      · exact hAB _ (hL q h)⟩ T' rfl X'
  exact ⟨t2, stp t2 a1, b1⟩
theorem good_wy (hc : Cond.code mt.1 mt.2.1 mt.2.2.1 mt.2.2.2 ∈ gw) : GoodIn gw (wy mt) := by
  intro w hw
  rcases List.mem_cons.mp hw with rfl | hw
  · exact ⟨hc, gw_good _ hc⟩
  · exact ⟨hw, gw_good _ hw⟩
theorem p_callV {X : wn_X} (O : Ok G own cc nL d X) (o : Nat) {ci nn : Nat} {fk : List Nat} (hs : Sp G S ad mt dc (.ref (ad o) :: As) M M0 ro) (hd : decode cc pc = .ok (.invokevirtual index, 3)) (hm : MV mt ci n) (hl : LM own index mt.1) (ho : S[o]? = some (ci + 2, nn, fk)) (hn : As.length = n) (hst : st = As.reverse ++ .ref (ad o) :: rest) (hcat : (rest.map fun v => v.category).sum ≤ 8) (hdc : dc + 1 ≤ d)
    (kk : PW G S ad X (pc + 3) L (ro.toList ++ rest) M0) : PW G S ad X pc L st M := by
  subst hst
  obtain ⟨p, l, e, R, s, m, args, below, meth, c, cells, slots, Q, A⟩ := X
  obtain ⟨hx, hb, hml, hown, hts, hE, hlk, hfr, hlo, hce, hsl, hA⟩ := O
  intro H locs ls hP hD hS hv
  obtain ⟨⟨hcode, hini, hne, hpar, hnl⟩, hinst, hsel, T, N, hcl⟩ := hm
  have hAB : ∀ q, va_A (wo G S ad M) H.size q → A q := fun q h => by
    rcases h with ⟨k, ee, h⟩ | h
    · exact hD.2 k (q, ee) h
    · exact hA q (Nat.le_trans hS.1 h)
  have hPc : ∀ U : State, U.heap = H → s.WarmedH U.vm → Ps G S ad M H.size (.ref (ad o) :: As) (Value.ref (ad o) :: As).toArray U := fun U hU hW =>
    ⟨rfl, by rw [hU], by rw [hU]; exact hP, hD.weaken (fun _ _ _ _ => trivial), hE.call hW (fun a h1 h2 => by rw [hU]; exact hS.2.1 a h1 h2) hAB⟩
  have hrecv : ∃ cellB : Cell, H[ad o]? = some cellB ∧ cellB.vm.isStatics = false ∧ s.vm.findClass mt.1.cls = some cellB.cls := va_recv hE.1 hP hcl (wo_at (G := G) (ad := ad) (M := M) ho)
  have hR : (rmd dc).frames + 1 ≤ R.frames ∧ 8 + (mt.2.2.1 + 11) + (rmd dc).locals ≤ R.locals := ⟨by show dc + 1 ≤ _; omega, by show 8 + (mt.2.2.1 + 11) + 64 * dc ≤ _; omega⟩
  have hK : ∀ (H1 : Heap) (locs1 : List Loc), va_P (gD G) vwCl (wo G S ad M0) H1 → H.size ≤ H1.size → (∀ q : Nat, q < H.size → ¬ va_A (wo G S ad M) H.size q → H1[q]? = H[q]?) → va_S A s.heap H1 locs1 → W p l e R s m args below meth c H1 locs1 cells slots Q (F0 m (pc + 3) ls (ro.toList ++ rest)) :=
    fun H1 locs1 hP1 _ _ hS1 => kk H1 locs1 ls hP1 (wo_D hD) hS1 hv
  rcases hl with hl | hl
  · have cb : CallB R s args own index mt.1 mt.2.1 mt.2.2.1 mt.2.2.2 (wy mt) (rmd dc) 0 0 n := callB_of n hts (good_wy hcode) rfl rfl rfl (hts _ hini) (hts _ hl) ⟨hne.1, hne.2, hpar⟩ hR
    exact w_call (va_runV (C := mt.1.cls) (Ts := gw) ⟨hx, hb, hml, hown, hts⟩ (hs l H.size) ⟨cb, hts _ hinst, hts _ hsel⟩ ⟨ps_blind, hrecv, hPc⟩ rfl hn (hv.1.trans hml) rfl (lv_room hcat) hd ⟨hce, hsl⟩) hS hAB hK
  · have cb : va_CN R s args own index mt.1 RX5 mt.2.1 mt.2.2.1 mt.2.2.2 (wy mt) (rmd dc) 0 0 n := va_cnB n hts (good_wy hcode) rfl rfl rfl (hE.2.1 _ hl) (hts _ hini) ⟨hne.1, hne.2, hpar⟩ hR
    exact w_call (va_runVN (C := mt.1.cls) (Ts := gw) ⟨hx, hb, hml, hown, hts⟩ (hs l H.size) ⟨cb, hts _ hinst, hts _ hsel⟩ ⟨ps_blind, hrecv, hPc⟩ rfl hn (hv.1.trans hml) rfl (lv_room hcat) hd ⟨hce, hsl⟩) hS hAB hK
theorem p_callS {X : wn_X} (O : Ok G own cc nL d X) (hs : Sp G S ad mt dc As M M0 ro) (hd : decode cc pc = .ok (.invokestatic index, 3)) (hm : MS mt n) (hl : LM own index mt.1) (hn : As.length = n) (hst : st = As.reverse ++ rest) (hcat : (rest.map fun v => v.category).sum ≤ 8) (hdc : dc + 1 ≤ d)
    (kk : PW G S ad X (pc + 3) L (ro.toList ++ rest) M0) : PW G S ad X pc L st M := by
  subst hst
  obtain ⟨p, l, e, R, s, m, args, below, meth, c, cells, slots, Q, A⟩ := X
  obtain ⟨hx, hb, hml, hown, hts, hE, hlk, hfr, hlo, hce, hsl, hA⟩ := O
  intro H locs ls hP hD hS hv
  obtain ⟨⟨hcode, hini, hne, hpar, hnl⟩, hstat⟩ := hm
  have hAB : ∀ q, va_A (wo G S ad M) H.size q → A q := fun q h => by
    rcases h with ⟨k, ee, h⟩ | h
    · exact hD.2 k (q, ee) h
    · exact hA q (Nat.le_trans hS.1 h)
  have hPc : ∀ U : State, U.heap = H → s.WarmedH U.vm → Ps G S ad M H.size As As.toArray U := fun U hU hW =>
    ⟨rfl, by rw [hU], by rw [hU]; exact hP, hD.weaken (fun _ _ _ _ => trivial), hE.call hW (fun a h1 h2 => by rw [hU]; exact hS.2.1 a h1 h2) hAB⟩
  have hR : (rmd dc).frames + 1 ≤ R.frames ∧ 8 + (mt.2.2.1 + 11) + (rmd dc).locals ≤ R.locals := ⟨by show dc + 1 ≤ _; omega, by show 8 + (mt.2.2.1 + 11) + 64 * dc ≤ _; omega⟩
  have hK : ∀ (H1 : Heap) (locs1 : List Loc), va_P (gD G) vwCl (wo G S ad M0) H1 → H.size ≤ H1.size → (∀ q : Nat, q < H.size → ¬ va_A (wo G S ad M) H.size q → H1[q]? = H[q]?) → va_S A s.heap H1 locs1 → W p l e R s m args below meth c H1 locs1 cells slots Q (F0 m (pc + 3) ls (ro.toList ++ rest)) :=
    fun H1 locs1 hP1 _ _ hS1 => kk H1 locs1 ls hP1 (wo_D hD) hS1 hv
  rcases hl with hl | hl
  · have cb : CallB R s args own index mt.1 mt.2.1 mt.2.2.1 mt.2.2.2 (wy mt) (rmd dc) 0 0 n := callB_of n hts (good_wy hcode) rfl rfl rfl (hts _ hini) (hts _ hl) ⟨hne.1, hne.2, hpar⟩ hR
    exact w_call (va_runS (Ts := gw) ⟨hx, hb, hml, hown, hts⟩ (hs l H.size) ⟨cb, hts _ hstat⟩ ⟨ps_blind, hPc⟩ rfl hn (hv.1.trans hml) rfl (lv_room hcat) hd ⟨hce, hsl⟩) hS hAB hK
  · have cb : va_CN R s args own index mt.1 RX5 mt.2.1 mt.2.2.1 mt.2.2.2 (wy mt) (rmd dc) 0 0 n := va_cnB n hts (good_wy hcode) rfl rfl rfl (hE.2.1 _ hl) (hts _ hini) ⟨hne.1, hne.2, hpar⟩ hR
    exact w_call (va_runSN (Ts := gw) ⟨hx, hb, hml, hown, hts⟩ (hs l H.size) ⟨cb, hts _ hstat, trivial⟩ ⟨ps_blind, hPc⟩ rfl hn (hv.1.trans hml) rfl (lv_room hcat) hd ⟨hce, hsl⟩) hS hAB hK
theorem bd_some {α : Type} {x : Option (Int32 × Mm)} {k : Int32 → Mm → Option α} {z : α} (h : bd x k = some z) : ∃ r M1, x = some (r, M1) ∧ k r M1 = some z := by
  cases x with
  | none => cases h
  | some q => exact ⟨q.1, q.2, rfl, h⟩
theorem bdl_some {α : Type} {x : Option (Int64 × Mm)} {k : Int64 → Mm → Option α} {z : α} (h : bdl x k = some z) : ∃ r M1, x = some (r, M1) ∧ k r M1 = some z := by
  cases x with
  | none => cases h
  | some q => exact ⟨q.1, q.2, rfl, h⟩
theorem bds_some {α : Type} {x : Option (Nat × Mm)} {k : Nat → Mm → Option α} {z : α} (h : bds x k = some z) : ∃ r M1, x = some (r, M1) ∧ k r M1 = some z := by
  cases x with
  | none => cases h
  | some q => exact ⟨q.1, q.2, rfl, h⟩
theorem bv_some {α : Type} {x : Option Mm} {k : Mm → Option α} {z : α} (h : bv x k = some z) : ∃ M1, x = some M1 ∧ k M1 = some z := by
  cases x with
  | none => cases h
  | some q => exact ⟨q, rfl, h⟩
/-! a call, by what the method answers -/
theorem j_callVi {X : wn_X} (O : Ok G own cc nL d X) (o : Nat) {ci nn : Nat} {fk : List Nat} {f : Option (Int32 × Mm)} {kf : Int32 → Mm → Option ρ} (hs : ∀ r M1, f = some (r, M1) → Sp G S ad mt dc (.ref (ad o) :: As) M M1 (some (.int r))) (hd : decode cc pc = .ok (.invokevirtual index, 3)) (hm : MV mt ci n) (hl : LM own index mt.1) (ho : S[o]? = some (ci + 2, nn, fk)) (hn : As.length = n) (hst : st = As.reverse ++ .ref (ad o) :: rest) (hcat : (rest.map fun v => v.category).sum ≤ 8) (hdc : dc + 1 ≤ d)
    (kk : ∀ r M1, JW G S ad X (pc + 3) L (.int r :: rest) M1 (kf r M1) K) : JW G S ad X pc L st M (bd f kf) K := by
  intro z hz hK
  obtain ⟨r, M1, h1, h2⟩ := bd_some hz
  exact p_callV O o (hs r M1 h1) hd hm hl ho hn hst hcat hdc (kk r M1 z h2 hK)
theorem j_callVl {X : wn_X} (O : Ok G own cc nL d X) (o : Nat) {ci nn : Nat} {fk : List Nat} {f : Option (Int64 × Mm)} {kf : Int64 → Mm → Option ρ} (hs : ∀ r M1, f = some (r, M1) → Sp G S ad mt dc (.ref (ad o) :: As) M M1 (some (.long r))) (hd : decode cc pc = .ok (.invokevirtual index, 3)) (hm : MV mt ci n) (hl : LM own index mt.1) (ho : S[o]? = some (ci + 2, nn, fk)) (hn : As.length = n) (hst : st = As.reverse ++ .ref (ad o) :: rest) (hcat : (rest.map fun v => v.category).sum ≤ 8) (hdc : dc + 1 ≤ d)
    (kk : ∀ r M1, JW G S ad X (pc + 3) L (.long r :: rest) M1 (kf r M1) K) : JW G S ad X pc L st M (bdl f kf) K := by
  intro z hz hK
  obtain ⟨r, M1, h1, h2⟩ := bdl_some hz
  exact p_callV O o (hs r M1 h1) hd hm hl ho hn hst hcat hdc (kk r M1 z h2 hK)
theorem j_callVv {X : wn_X} (O : Ok G own cc nL d X) (o : Nat) {ci nn : Nat} {fk : List Nat} {f : Option Mm} {kf : Mm → Option ρ} (hs : ∀ M1, f = some M1 → Sp G S ad mt dc (.ref (ad o) :: As) M M1 none) (hd : decode cc pc = .ok (.invokevirtual index, 3)) (hm : MV mt ci n) (hl : LM own index mt.1) (ho : S[o]? = some (ci + 2, nn, fk)) (hn : As.length = n) (hst : st = As.reverse ++ .ref (ad o) :: rest) (hcat : (rest.map fun v => v.category).sum ≤ 8) (hdc : dc + 1 ≤ d)
    (kk : ∀ M1, JW G S ad X (pc + 3) L rest M1 (kf M1) K) : JW G S ad X pc L st M (bv f kf) K := by
  intro z hz hK
  obtain ⟨M1, h1, h2⟩ := bv_some hz
  exact p_callV O o (hs M1 h1) hd hm hl ho hn hst hcat hdc (kk M1 z h2 hK)
theorem j_callSi {X : wn_X} (O : Ok G own cc nL d X) {f : Option (Int32 × Mm)} {kf : Int32 → Mm → Option ρ} (hs : ∀ r M1, f = some (r, M1) → Sp G S ad mt dc As M M1 (some (.int r))) (hd : decode cc pc = .ok (.invokestatic index, 3)) (hm : MS mt n) (hl : LM own index mt.1) (hn : As.length = n) (hst : st = As.reverse ++ rest) (hcat : (rest.map fun v => v.category).sum ≤ 8) (hdc : dc + 1 ≤ d)
    (kk : ∀ r M1, JW G S ad X (pc + 3) L (.int r :: rest) M1 (kf r M1) K) : JW G S ad X pc L st M (bd f kf) K := by
  intro z hz hK
  obtain ⟨r, M1, h1, h2⟩ := bd_some hz
  exact p_callS O (hs r M1 h1) hd hm hl hn hst hcat hdc (kk r M1 z h2 hK)
theorem j_callSl {X : wn_X} (O : Ok G own cc nL d X) {f : Option (Int64 × Mm)} {kf : Int64 → Mm → Option ρ} (hs : ∀ r M1, f = some (r, M1) → Sp G S ad mt dc As M M1 (some (.long r))) (hd : decode cc pc = .ok (.invokestatic index, 3)) (hm : MS mt n) (hl : LM own index mt.1) (hn : As.length = n) (hst : st = As.reverse ++ rest) (hcat : (rest.map fun v => v.category).sum ≤ 8) (hdc : dc + 1 ≤ d)
    (kk : ∀ r M1, JW G S ad X (pc + 3) L (.long r :: rest) M1 (kf r M1) K) : JW G S ad X pc L st M (bdl f kf) K := by
  intro z hz hK
  obtain ⟨r, M1, h1, h2⟩ := bdl_some hz
  exact p_callS O (hs r M1 h1) hd hm hl hn hst hcat hdc (kk r M1 z h2 hK)
theorem j_callSs {X : wn_X} (O : Ok G own cc nL d X) {f : Option (Nat × Mm)} {kf : Nat → Mm → Option ρ} (hs : ∀ r M1, f = some (r, M1) → Sp G S ad mt dc As M M1 (some (.ref (gK G r)))) (hd : decode cc pc = .ok (.invokestatic index, 3)) (hm : MS mt n) (hl : LM own index mt.1) (hn : As.length = n) (hst : st = As.reverse ++ rest) (hcat : (rest.map fun v => v.category).sum ≤ 8) (hdc : dc + 1 ≤ d)
    (kk : ∀ r M1, JW G S ad X (pc + 3) L (.ref (gK G r) :: rest) M1 (kf r M1) K) : JW G S ad X pc L st M (bds f kf) K := by
  intro z hz hK
  obtain ⟨r, M1, h1, h2⟩ := bds_some hz
  exact p_callS O (hs r M1 h1) hd hm hl hn hst hcat hdc (kk r M1 z h2 hK)
theorem j_callSv {X : wn_X} (O : Ok G own cc nL d X) {f : Option Mm} {kf : Mm → Option ρ} (hs : ∀ M1, f = some M1 → Sp G S ad mt dc As M M1 none) (hd : decode cc pc = .ok (.invokestatic index, 3)) (hm : MS mt n) (hl : LM own index mt.1) (hn : As.length = n) (hst : st = As.reverse ++ rest) (hcat : (rest.map fun v => v.category).sum ≤ 8) (hdc : dc + 1 ≤ d)
    (kk : ∀ M1, JW G S ad X (pc + 3) L rest M1 (kf M1) K) : JW G S ad X pc L st M (bv f kf) K := by
  intro z hz hK
  obtain ⟨M1, h1, h2⟩ := bv_some hz
  exact p_callS O (hs M1 h1) hd hm hl hn hst hcat hdc (kk M1 z h2 hK)
end CALLS
end
section
theorem i_vc : Claimed_1_1 ∧ Claimed_1_2 := sorry
end
