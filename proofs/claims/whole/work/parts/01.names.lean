-- ===== PART A: goes FIRST, ahead of the names: the tables' words, and 'selects' of the private methods out of them =====
/-- a private method of a class that the tables say can be made, by its rows of tables_1 -/
def lw_okq (q : MethodName × Nat) : Prop := (q.1.cls ≠ "java/lang/invoke/MethodHandle" ∧ q.1.cls ≠ "java/lang/invoke/VarHandle") ∧ Cond.instantiable q.1.cls q.2 ∈ tables_1 ∧ Cond.privateMethod q.1 ∈ tables_1 ∧ Cond.instanceMethod q.1 ∈ tables_1
theorem lw_p0 : lw_okq (⟨"SkyTenders$Text", "append", "(I)Z"⟩, 2) := ⟨⟨by decide +kernel, by decide +kernel⟩, List.mem_of_getElem? (i := 19) (by decide +kernel), List.mem_of_getElem? (i := 212) (by decide +kernel), List.mem_of_getElem? (i := 213) (by decide +kernel)⟩
theorem lw_p1 : lw_okq (⟨"SkyTenders$Text", "readInto", "(LSkyTenders$Tender;)I"⟩, 2) := ⟨⟨by decide +kernel, by decide +kernel⟩, List.mem_of_getElem? (i := 19) (by decide +kernel), List.mem_of_getElem? (i := 224) (by decide +kernel), List.mem_of_getElem? (i := 225) (by decide +kernel)⟩
theorem lw_p2 : lw_okq (⟨"SkyTenders$Tender", "become", "(LSkyTenders$Tender;)V"⟩, 8) := ⟨⟨by decide +kernel, by decide +kernel⟩, List.mem_of_getElem? (i := 34) (by decide +kernel), List.mem_of_getElem? (i := 256) (by decide +kernel), List.mem_of_getElem? (i := 257) (by decide +kernel)⟩
theorem lw_p3 : lw_okq (⟨"SkyTenders$Tender", "allMakers", "()I"⟩, 8) := ⟨⟨by decide +kernel, by decide +kernel⟩, List.mem_of_getElem? (i := 34) (by decide +kernel), List.mem_of_getElem? (i := 264) (by decide +kernel), List.mem_of_getElem? (i := 265) (by decide +kernel)⟩
theorem lw_p4 : lw_okq (⟨"SkyTenders", "cheapest", "(LSkyTenders$Tender;I)I"⟩, 11) := ⟨⟨by decide +kernel, by decide +kernel⟩, List.mem_of_getElem? (i := 11) (by decide +kernel), List.mem_of_getElem? (i := 268) (by decide +kernel), List.mem_of_getElem? (i := 269) (by decide +kernel)⟩
theorem lw_p5 : lw_okq (⟨"SkyTenders$Search", "stockUp", "(LSkyTenders$Tender;I)V"⟩, 4) := ⟨⟨by decide +kernel, by decide +kernel⟩, List.mem_of_getElem? (i := 84) (by decide +kernel), List.mem_of_getElem? (i := 272) (by decide +kernel), List.mem_of_getElem? (i := 273) (by decide +kernel)⟩
theorem lw_p6 : lw_okq (⟨"SkyTenders$Search", "takeTried", "(II)V"⟩, 4) := ⟨⟨by decide +kernel, by decide +kernel⟩, List.mem_of_getElem? (i := 84) (by decide +kernel), List.mem_of_getElem? (i := 279) (by decide +kernel), List.mem_of_getElem? (i := 280) (by decide +kernel)⟩
theorem lw_p7 : lw_okq (⟨"SkyTenders$Search", "canServe", "(LSkyTenders$Tender;II)Z"⟩, 4) := ⟨⟨by decide +kernel, by decide +kernel⟩, List.mem_of_getElem? (i := 84) (by decide +kernel), List.mem_of_getElem? (i := 283) (by decide +kernel), List.mem_of_getElem? (i := 284) (by decide +kernel)⟩
theorem lw_p8 : lw_okq (⟨"SkyTenders$Tender", "makes", "(II)Z"⟩, 8) := ⟨⟨by decide +kernel, by decide +kernel⟩, List.mem_of_getElem? (i := 34) (by decide +kernel), List.mem_of_getElem? (i := 287) (by decide +kernel), List.mem_of_getElem? (i := 288) (by decide +kernel)⟩
theorem lw_p9 : lw_okq (⟨"SkyTenders$Tender", "couldBeSecondHand", "(I)Z"⟩, 8) := ⟨⟨by decide +kernel, by decide +kernel⟩, List.mem_of_getElem? (i := 34) (by decide +kernel), List.mem_of_getElem? (i := 291) (by decide +kernel), List.mem_of_getElem? (i := 292) (by decide +kernel)⟩
theorem lw_p10 : lw_okq (⟨"SkyTenders", "mostServed", "(LSkyTenders$Tender;I)I"⟩, 11) := ⟨⟨by decide +kernel, by decide +kernel⟩, List.mem_of_getElem? (i := 11) (by decide +kernel), List.mem_of_getElem? (i := 295) (by decide +kernel), List.mem_of_getElem? (i := 296) (by decide +kernel)⟩
theorem lw_p11 : lw_okq (⟨"SkyTenders", "runYears", "()V"⟩, 11) := ⟨⟨by decide +kernel, by decide +kernel⟩, List.mem_of_getElem? (i := 11) (by decide +kernel), List.mem_of_getElem? (i := 302) (by decide +kernel), List.mem_of_getElem? (i := 303) (by decide +kernel)⟩
theorem lw_p12 : lw_okq (⟨"SkyTenders$Search", "smells", "(LSkyTenders$Tender;)Z"⟩, 4) := ⟨⟨by decide +kernel, by decide +kernel⟩, List.mem_of_getElem? (i := 84) (by decide +kernel), List.mem_of_getElem? (i := 306) (by decide +kernel), List.mem_of_getElem? (i := 307) (by decide +kernel)⟩
theorem lw_p13 : lw_okq (⟨"SkyTenders$Search", "unitsBy", "(LSkyTenders$Tender;I)I"⟩, 4) := ⟨⟨by decide +kernel, by decide +kernel⟩, List.mem_of_getElem? (i := 84) (by decide +kernel), List.mem_of_getElem? (i := 310) (by decide +kernel), List.mem_of_getElem? (i := 311) (by decide +kernel)⟩
theorem lw_p14 : lw_okq (⟨"SkyTenders$Tender", "hasField", "(I)Z"⟩, 8) := ⟨⟨by decide +kernel, by decide +kernel⟩, List.mem_of_getElem? (i := 34) (by decide +kernel), List.mem_of_getElem? (i := 318) (by decide +kernel), List.mem_of_getElem? (i := 319) (by decide +kernel)⟩
theorem lw_p15 : lw_okq (⟨"SkyTenders$Tender", "hasMaker", "(I)Z"⟩, 8) := ⟨⟨by decide +kernel, by decide +kernel⟩, List.mem_of_getElem? (i := 34) (by decide +kernel), List.mem_of_getElem? (i := 326) (by decide +kernel), List.mem_of_getElem? (i := 327) (by decide +kernel)⟩
def lw_privs_1 : List (MethodName × Nat) := [(⟨"SkyTenders$Text", "append", "(I)Z"⟩, 2), (⟨"SkyTenders$Text", "readInto", "(LSkyTenders$Tender;)I"⟩, 2), (⟨"SkyTenders$Tender", "become", "(LSkyTenders$Tender;)V"⟩, 8), (⟨"SkyTenders$Tender", "allMakers", "()I"⟩, 8), (⟨"SkyTenders", "cheapest", "(LSkyTenders$Tender;I)I"⟩, 11), (⟨"SkyTenders$Search", "stockUp", "(LSkyTenders$Tender;I)V"⟩, 4), (⟨"SkyTenders$Search", "takeTried", "(II)V"⟩, 4), (⟨"SkyTenders$Search", "canServe", "(LSkyTenders$Tender;II)Z"⟩, 4), (⟨"SkyTenders$Tender", "makes", "(II)Z"⟩, 8), (⟨"SkyTenders$Tender", "couldBeSecondHand", "(I)Z"⟩, 8), (⟨"SkyTenders", "mostServed", "(LSkyTenders$Tender;I)I"⟩, 11), (⟨"SkyTenders", "runYears", "()V"⟩, 11), (⟨"SkyTenders$Search", "smells", "(LSkyTenders$Tender;)Z"⟩, 4), (⟨"SkyTenders$Search", "unitsBy", "(LSkyTenders$Tender;I)I"⟩, 4), (⟨"SkyTenders$Tender", "hasField", "(I)Z"⟩, 8), (⟨"SkyTenders$Tender", "hasMaker", "(I)Z"⟩, 8)]
theorem lw_r1 : ∀ q ∈ lw_privs_1, lw_okq q := List.forall_mem_cons.mpr ⟨lw_p0, List.forall_mem_cons.mpr ⟨lw_p1, List.forall_mem_cons.mpr ⟨lw_p2, List.forall_mem_cons.mpr ⟨lw_p3, List.forall_mem_cons.mpr ⟨lw_p4, List.forall_mem_cons.mpr ⟨lw_p5, List.forall_mem_cons.mpr ⟨lw_p6, List.forall_mem_cons.mpr ⟨lw_p7, List.forall_mem_cons.mpr ⟨lw_p8, List.forall_mem_cons.mpr ⟨lw_p9, List.forall_mem_cons.mpr ⟨lw_p10, List.forall_mem_cons.mpr ⟨lw_p11, List.forall_mem_cons.mpr ⟨lw_p12, List.forall_mem_cons.mpr ⟨lw_p13, List.forall_mem_cons.mpr ⟨lw_p14, List.forall_mem_cons.mpr ⟨lw_p15, fun _ h => absurd h List.not_mem_nil⟩⟩⟩⟩⟩⟩⟩⟩⟩⟩⟩⟩⟩⟩⟩⟩
theorem lw_p16 : lw_okq (⟨"SkyTenders", "unitsInBest", "(LSkyTenders$Tender;I)I"⟩, 11) := ⟨⟨by decide +kernel, by decide +kernel⟩, List.mem_of_getElem? (i := 11) (by decide +kernel), List.mem_of_getElem? (i := 330) (by decide +kernel), List.mem_of_getElem? (i := 331) (by decide +kernel)⟩
theorem lw_p17 : lw_okq (⟨"SkyTenders", "paidTo", "(LSkyTenders$Tender;I)I"⟩, 11) := ⟨⟨by decide +kernel, by decide +kernel⟩, List.mem_of_getElem? (i := 11) (by decide +kernel), List.mem_of_getElem? (i := 334) (by decide +kernel), List.mem_of_getElem? (i := 335) (by decide +kernel)⟩
theorem lw_p18 : lw_okq (⟨"SkyTenders", "doNow", "(III)I"⟩, 11) := ⟨⟨by decide +kernel, by decide +kernel⟩, List.mem_of_getElem? (i := 11) (by decide +kernel), List.mem_of_getElem? (i := 342) (by decide +kernel), List.mem_of_getElem? (i := 343) (by decide +kernel)⟩
theorem lw_p19 : lw_okq (⟨"SkyTenders$Tender", "refusal", "(III)I"⟩, 8) := ⟨⟨by decide +kernel, by decide +kernel⟩, List.mem_of_getElem? (i := 34) (by decide +kernel), List.mem_of_getElem? (i := 346) (by decide +kernel), List.mem_of_getElem? (i := 347) (by decide +kernel)⟩
theorem lw_p20 : lw_okq (⟨"SkyTenders$Tender", "change", "(III)I"⟩, 8) := ⟨⟨by decide +kernel, by decide +kernel⟩, List.mem_of_getElem? (i := 34) (by decide +kernel), List.mem_of_getElem? (i := 352) (by decide +kernel), List.mem_of_getElem? (i := 353) (by decide +kernel)⟩
theorem lw_p21 : lw_okq (⟨"SkyTenders$Doings", "add", "(III)V"⟩, 4) := ⟨⟨by decide +kernel, by decide +kernel⟩, List.mem_of_getElem? (i := 126) (by decide +kernel), List.mem_of_getElem? (i := 356) (by decide +kernel), List.mem_of_getElem? (i := 357) (by decide +kernel)⟩
theorem lw_p22 : lw_okq (⟨"SkyTenders$Doings", "forgetFirst", "()V"⟩, 4) := ⟨⟨by decide +kernel, by decide +kernel⟩, List.mem_of_getElem? (i := 126) (by decide +kernel), List.mem_of_getElem? (i := 360) (by decide +kernel), List.mem_of_getElem? (i := 361) (by decide +kernel)⟩
theorem lw_p23 : lw_okq (⟨"SkyTenders", "spell", "(JI)Z"⟩, 11) := ⟨⟨by decide +kernel, by decide +kernel⟩, List.mem_of_getElem? (i := 11) (by decide +kernel), List.mem_of_getElem? (i := 391) (by decide +kernel), List.mem_of_getElem? (i := 392) (by decide +kernel)⟩
theorem lw_p24 : lw_okq (⟨"SkyTenders$Tender", "hasLeague", "(I)Z"⟩, 8) := ⟨⟨by decide +kernel, by decide +kernel⟩, List.mem_of_getElem? (i := 34) (by decide +kernel), List.mem_of_getElem? (i := 408) (by decide +kernel), List.mem_of_getElem? (i := 409) (by decide +kernel)⟩
theorem lw_p25 : lw_okq (⟨"SkyTenders", "sharesOf", "(I)I"⟩, 11) := ⟨⟨by decide +kernel, by decide +kernel⟩, List.mem_of_getElem? (i := 11) (by decide +kernel), List.mem_of_getElem? (i := 421) (by decide +kernel), List.mem_of_getElem? (i := 422) (by decide +kernel)⟩
theorem lw_p26 : lw_okq (⟨"SkyTenders", "canBe", "(I)Z"⟩, 11) := ⟨⟨by decide +kernel, by decide +kernel⟩, List.mem_of_getElem? (i := 11) (by decide +kernel), List.mem_of_getElem? (i := 429) (by decide +kernel), List.mem_of_getElem? (i := 430) (by decide +kernel)⟩
theorem lw_p27 : lw_okq (⟨"SkyTenders", "changesTrial", "(III)Z"⟩, 11) := ⟨⟨by decide +kernel, by decide +kernel⟩, List.mem_of_getElem? (i := 11) (by decide +kernel), List.mem_of_getElem? (i := 433) (by decide +kernel), List.mem_of_getElem? (i := 434) (by decide +kernel)⟩
theorem lw_p28 : lw_okq (⟨"SkyTenders$Seen", "add", "(IIZ)Z"⟩, 4) := ⟨⟨by decide +kernel, by decide +kernel⟩, List.mem_of_getElem? (i := 149) (by decide +kernel), List.mem_of_getElem? (i := 456) (by decide +kernel), List.mem_of_getElem? (i := 457) (by decide +kernel)⟩
theorem lw_p29 : lw_okq (⟨"SkyTenders", "allSeenIsSo", "(LSkyTenders$Tender;)Z"⟩, 11) := ⟨⟨by decide +kernel, by decide +kernel⟩, List.mem_of_getElem? (i := 11) (by decide +kernel), List.mem_of_getElem? (i := 468) (by decide +kernel), List.mem_of_getElem? (i := 469) (by decide +kernel)⟩
theorem lw_p30 : lw_okq (⟨"SkyTenders", "chanceOfLeft", "(II)I"⟩, 11) := ⟨⟨by decide +kernel, by decide +kernel⟩, List.mem_of_getElem? (i := 11) (by decide +kernel), List.mem_of_getElem? (i := 476) (by decide +kernel), List.mem_of_getElem? (i := 477) (by decide +kernel)⟩
theorem lw_p31 : lw_okq (⟨"SkyTenders", "roomOf", "(I)LSkyTenders$Tender;"⟩, 11) := ⟨⟨by decide +kernel, by decide +kernel⟩, List.mem_of_getElem? (i := 11) (by decide +kernel), List.mem_of_getElem? (i := 494) (by decide +kernel), List.mem_of_getElem? (i := 495) (by decide +kernel)⟩
def lw_privs_2 : List (MethodName × Nat) := [(⟨"SkyTenders", "unitsInBest", "(LSkyTenders$Tender;I)I"⟩, 11), (⟨"SkyTenders", "paidTo", "(LSkyTenders$Tender;I)I"⟩, 11), (⟨"SkyTenders", "doNow", "(III)I"⟩, 11), (⟨"SkyTenders$Tender", "refusal", "(III)I"⟩, 8), (⟨"SkyTenders$Tender", "change", "(III)I"⟩, 8), (⟨"SkyTenders$Doings", "add", "(III)V"⟩, 4), (⟨"SkyTenders$Doings", "forgetFirst", "()V"⟩, 4), (⟨"SkyTenders", "spell", "(JI)Z"⟩, 11), (⟨"SkyTenders$Tender", "hasLeague", "(I)Z"⟩, 8), (⟨"SkyTenders", "sharesOf", "(I)I"⟩, 11), (⟨"SkyTenders", "canBe", "(I)Z"⟩, 11), (⟨"SkyTenders", "changesTrial", "(III)Z"⟩, 11), (⟨"SkyTenders$Seen", "add", "(IIZ)Z"⟩, 4), (⟨"SkyTenders", "allSeenIsSo", "(LSkyTenders$Tender;)Z"⟩, 11), (⟨"SkyTenders", "chanceOfLeft", "(II)I"⟩, 11), (⟨"SkyTenders", "roomOf", "(I)LSkyTenders$Tender;"⟩, 11)]
theorem lw_r2 : ∀ q ∈ lw_privs_2, lw_okq q := List.forall_mem_cons.mpr ⟨lw_p16, List.forall_mem_cons.mpr ⟨lw_p17, List.forall_mem_cons.mpr ⟨lw_p18, List.forall_mem_cons.mpr ⟨lw_p19, List.forall_mem_cons.mpr ⟨lw_p20, List.forall_mem_cons.mpr ⟨lw_p21, List.forall_mem_cons.mpr ⟨lw_p22, List.forall_mem_cons.mpr ⟨lw_p23, List.forall_mem_cons.mpr ⟨lw_p24, List.forall_mem_cons.mpr ⟨lw_p25, List.forall_mem_cons.mpr ⟨lw_p26, List.forall_mem_cons.mpr ⟨lw_p27, List.forall_mem_cons.mpr ⟨lw_p28, List.forall_mem_cons.mpr ⟨lw_p29, List.forall_mem_cons.mpr ⟨lw_p30, List.forall_mem_cons.mpr ⟨lw_p31, fun _ h => absurd h List.not_mem_nil⟩⟩⟩⟩⟩⟩⟩⟩⟩⟩⟩⟩⟩⟩⟩⟩
theorem lw_p32 : lw_okq (⟨"SkyTendersModel", "readText", "()I"⟩, 31) := ⟨⟨by decide +kernel, by decide +kernel⟩, List.mem_of_getElem? (i := 502) (by decide +kernel), List.mem_of_getElem? (i := 618) (by decide +kernel), List.mem_of_getElem? (i := 619) (by decide +kernel)⟩
theorem lw_p33 : lw_okq (⟨"SkyTendersModel", "take", "(I)Z"⟩, 31) := ⟨⟨by decide +kernel, by decide +kernel⟩, List.mem_of_getElem? (i := 502) (by decide +kernel), List.mem_of_getElem? (i := 622) (by decide +kernel), List.mem_of_getElem? (i := 623) (by decide +kernel)⟩
theorem lw_p34 : lw_okq (⟨"SkyTendersModel", "takePart", "(I)Z"⟩, 31) := ⟨⟨by decide +kernel, by decide +kernel⟩, List.mem_of_getElem? (i := 502) (by decide +kernel), List.mem_of_getElem? (i := 631) (by decide +kernel), List.mem_of_getElem? (i := 632) (by decide +kernel)⟩
theorem lw_p35 : lw_okq (⟨"SkyTendersModel", "takeMore", "(II)Z"⟩, 31) := ⟨⟨by decide +kernel, by decide +kernel⟩, List.mem_of_getElem? (i := 502) (by decide +kernel), List.mem_of_getElem? (i := 636) (by decide +kernel), List.mem_of_getElem? (i := 637) (by decide +kernel)⟩
theorem lw_p36 : lw_okq (⟨"SkyTendersModel", "allMakers", "()I"⟩, 31) := ⟨⟨by decide +kernel, by decide +kernel⟩, List.mem_of_getElem? (i := 502) (by decide +kernel), List.mem_of_getElem? (i := 648) (by decide +kernel), List.mem_of_getElem? (i := 649) (by decide +kernel)⟩
theorem lw_p37 : lw_okq (⟨"SkyTendersModel", "leastBy", "([II)I"⟩, 31) := ⟨⟨by decide +kernel, by decide +kernel⟩, List.mem_of_getElem? (i := 502) (by decide +kernel), List.mem_of_getElem? (i := 652) (by decide +kernel), List.mem_of_getElem? (i := 653) (by decide +kernel)⟩
theorem lw_p38 : lw_okq (⟨"SkyTendersModel", "find", "([II)V"⟩, 31) := ⟨⟨by decide +kernel, by decide +kernel⟩, List.mem_of_getElem? (i := 502) (by decide +kernel), List.mem_of_getElem? (i := 656) (by decide +kernel), List.mem_of_getElem? (i := 657) (by decide +kernel)⟩
theorem lw_p39 : lw_okq (⟨"SkyTendersModel", "costOf", "([IIII)I"⟩, 31) := ⟨⟨by decide +kernel, by decide +kernel⟩, List.mem_of_getElem? (i := 502) (by decide +kernel), List.mem_of_getElem? (i := 663) (by decide +kernel), List.mem_of_getElem? (i := 664) (by decide +kernel)⟩
theorem lw_p40 : lw_okq (⟨"SkyTendersModel", "servedBy", "(III)I"⟩, 31) := ⟨⟨by decide +kernel, by decide +kernel⟩, List.mem_of_getElem? (i := 502) (by decide +kernel), List.mem_of_getElem? (i := 667) (by decide +kernel), List.mem_of_getElem? (i := 668) (by decide +kernel)⟩
theorem lw_p41 : lw_okq (⟨"SkyTendersModel", "mayServe", "([IIIII)Z"⟩, 31) := ⟨⟨by decide +kernel, by decide +kernel⟩, List.mem_of_getElem? (i := 502) (by decide +kernel), List.mem_of_getElem? (i := 671) (by decide +kernel), List.mem_of_getElem? (i := 672) (by decide +kernel)⟩
theorem lw_p42 : lw_okq (⟨"SkyTendersModel", "isMaker", "(I)Z"⟩, 31) := ⟨⟨by decide +kernel, by decide +kernel⟩, List.mem_of_getElem? (i := 502) (by decide +kernel), List.mem_of_getElem? (i := 675) (by decide +kernel), List.mem_of_getElem? (i := 676) (by decide +kernel)⟩
theorem lw_p43 : lw_okq (⟨"SkyTendersModel", "mostOf", "([II)I"⟩, 31) := ⟨⟨by decide +kernel, by decide +kernel⟩, List.mem_of_getElem? (i := 502) (by decide +kernel), List.mem_of_getElem? (i := 682) (by decide +kernel), List.mem_of_getElem? (i := 683) (by decide +kernel)⟩
theorem lw_p44 : lw_okq (⟨"SkyTendersModel", "run", "()V"⟩, 31) := ⟨⟨by decide +kernel, by decide +kernel⟩, List.mem_of_getElem? (i := 502) (by decide +kernel), List.mem_of_getElem? (i := 686) (by decide +kernel), List.mem_of_getElem? (i := 687) (by decide +kernel)⟩
theorem lw_p45 : lw_okq (⟨"SkyTendersModel", "layTrial", "()V"⟩, 31) := ⟨⟨by decide +kernel, by decide +kernel⟩, List.mem_of_getElem? (i := 502) (by decide +kernel), List.mem_of_getElem? (i := 690) (by decide +kernel), List.mem_of_getElem? (i := 691) (by decide +kernel)⟩
theorem lw_p46 : lw_okq (⟨"SkyTendersModel", "unitsOf", "([II)I"⟩, 31) := ⟨⟨by decide +kernel, by decide +kernel⟩, List.mem_of_getElem? (i := 502) (by decide +kernel), List.mem_of_getElem? (i := 694) (by decide +kernel), List.mem_of_getElem? (i := 695) (by decide +kernel)⟩
theorem lw_p47 : lw_okq (⟨"SkyTendersModel", "isField", "(I)Z"⟩, 31) := ⟨⟨by decide +kernel, by decide +kernel⟩, List.mem_of_getElem? (i := 502) (by decide +kernel), List.mem_of_getElem? (i := 702) (by decide +kernel), List.mem_of_getElem? (i := 703) (by decide +kernel)⟩
def lw_privs_3 : List (MethodName × Nat) := [(⟨"SkyTendersModel", "readText", "()I"⟩, 31), (⟨"SkyTendersModel", "take", "(I)Z"⟩, 31), (⟨"SkyTendersModel", "takePart", "(I)Z"⟩, 31), (⟨"SkyTendersModel", "takeMore", "(II)Z"⟩, 31), (⟨"SkyTendersModel", "allMakers", "()I"⟩, 31), (⟨"SkyTendersModel", "leastBy", "([II)I"⟩, 31), (⟨"SkyTendersModel", "find", "([II)V"⟩, 31), (⟨"SkyTendersModel", "costOf", "([IIII)I"⟩, 31), (⟨"SkyTendersModel", "servedBy", "(III)I"⟩, 31), (⟨"SkyTendersModel", "mayServe", "([IIIII)Z"⟩, 31), (⟨"SkyTendersModel", "isMaker", "(I)Z"⟩, 31), (⟨"SkyTendersModel", "mostOf", "([II)I"⟩, 31), (⟨"SkyTendersModel", "run", "()V"⟩, 31), (⟨"SkyTendersModel", "layTrial", "()V"⟩, 31), (⟨"SkyTendersModel", "unitsOf", "([II)I"⟩, 31), (⟨"SkyTendersModel", "isField", "(I)Z"⟩, 31)]
theorem lw_r3 : ∀ q ∈ lw_privs_3, lw_okq q := List.forall_mem_cons.mpr ⟨lw_p32, List.forall_mem_cons.mpr ⟨lw_p33, List.forall_mem_cons.mpr ⟨lw_p34, List.forall_mem_cons.mpr ⟨lw_p35, List.forall_mem_cons.mpr ⟨lw_p36, List.forall_mem_cons.mpr ⟨lw_p37, List.forall_mem_cons.mpr ⟨lw_p38, List.forall_mem_cons.mpr ⟨lw_p39, List.forall_mem_cons.mpr ⟨lw_p40, List.forall_mem_cons.mpr ⟨lw_p41, List.forall_mem_cons.mpr ⟨lw_p42, List.forall_mem_cons.mpr ⟨lw_p43, List.forall_mem_cons.mpr ⟨lw_p44, List.forall_mem_cons.mpr ⟨lw_p45, List.forall_mem_cons.mpr ⟨lw_p46, List.forall_mem_cons.mpr ⟨lw_p47, fun _ h => absurd h List.not_mem_nil⟩⟩⟩⟩⟩⟩⟩⟩⟩⟩⟩⟩⟩⟩⟩⟩
theorem lw_p48 : lw_okq (⟨"SkyTendersModel", "paid", "([II)I"⟩, 31) := ⟨⟨by decide +kernel, by decide +kernel⟩, List.mem_of_getElem? (i := 502) (by decide +kernel), List.mem_of_getElem? (i := 710) (by decide +kernel), List.mem_of_getElem? (i := 711) (by decide +kernel)⟩
theorem lw_p49 : lw_okq (⟨"SkyTendersModel", "change", "(II)V"⟩, 31) := ⟨⟨by decide +kernel, by decide +kernel⟩, List.mem_of_getElem? (i := 502) (by decide +kernel), List.mem_of_getElem? (i := 719) (by decide +kernel), List.mem_of_getElem? (i := 720) (by decide +kernel)⟩
theorem lw_p50 : lw_okq (⟨"SkyTendersModel", "sharesOf", "(II)I"⟩, 31) := ⟨⟨by decide +kernel, by decide +kernel⟩, List.mem_of_getElem? (i := 502) (by decide +kernel), List.mem_of_getElem? (i := 769) (by decide +kernel), List.mem_of_getElem? (i := 770) (by decide +kernel)⟩
theorem lw_p51 : lw_okq (⟨"SkyTendersModel", "judged", "(IIII)Z"⟩, 31) := ⟨⟨by decide +kernel, by decide +kernel⟩, List.mem_of_getElem? (i := 502) (by decide +kernel), List.mem_of_getElem? (i := 781) (by decide +kernel), List.mem_of_getElem? (i := 782) (by decide +kernel)⟩
theorem lw_p52 : lw_okq (⟨"SkyTendersModel", "isOrder", "(I)Z"⟩, 31) := ⟨⟨by decide +kernel, by decide +kernel⟩, List.mem_of_getElem? (i := 502) (by decide +kernel), List.mem_of_getElem? (i := 789) (by decide +kernel), List.mem_of_getElem? (i := 790) (by decide +kernel)⟩
theorem lw_p53 : lw_okq (⟨"SkyTendersModel", "agrees", "()Z"⟩, 31) := ⟨⟨by decide +kernel, by decide +kernel⟩, List.mem_of_getElem? (i := 502) (by decide +kernel), List.mem_of_getElem? (i := 814) (by decide +kernel), List.mem_of_getElem? (i := 815) (by decide +kernel)⟩
def lw_privs_4 : List (MethodName × Nat) := [(⟨"SkyTendersModel", "paid", "([II)I"⟩, 31), (⟨"SkyTendersModel", "change", "(II)V"⟩, 31), (⟨"SkyTendersModel", "sharesOf", "(II)I"⟩, 31), (⟨"SkyTendersModel", "judged", "(IIII)Z"⟩, 31), (⟨"SkyTendersModel", "isOrder", "(I)Z"⟩, 31), (⟨"SkyTendersModel", "agrees", "()Z"⟩, 31)]
theorem lw_r4 : ∀ q ∈ lw_privs_4, lw_okq q := List.forall_mem_cons.mpr ⟨lw_p48, List.forall_mem_cons.mpr ⟨lw_p49, List.forall_mem_cons.mpr ⟨lw_p50, List.forall_mem_cons.mpr ⟨lw_p51, List.forall_mem_cons.mpr ⟨lw_p52, List.forall_mem_cons.mpr ⟨lw_p53, fun _ h => absurd h List.not_mem_nil⟩⟩⟩⟩⟩⟩
def lw_privs : List (MethodName × Nat) := lw_privs_1 ++ (lw_privs_2 ++ (lw_privs_3 ++ (lw_privs_4)))
def lw_tbl : List Cond := k2_sels lw_privs ++ tables_1
theorem lw_privs_ok : ∀ q ∈ lw_privs, lw_okq q := by
  show ∀ q ∈ lw_privs_1 ++ (lw_privs_2 ++ (lw_privs_3 ++ (lw_privs_4))), lw_okq q
  exact List.forall_mem_append.mpr ⟨lw_r1, List.forall_mem_append.mpr ⟨lw_r2, List.forall_mem_append.mpr ⟨lw_r3, lw_r4⟩⟩⟩

def RX0 : String := "SkyTenders$Doings"
def TX0 : u_T := fun k => match k with
  | 0 => ("SkyTenders$Doings", "count", "I", false)
  | 1 => ("SkyTenders$Doings", "kind", "[I", true)
  | 2 => ("SkyTenders$Doings", "place", "[I", true)
  | _ => ("SkyTenders$Doings", "was", "[I", true)
def tyX0 : Nat → FieldType := fun k => match k with
  | 0 => .int
  | 1 => .array .int
  | 2 => .array .int
  | _ => .array .int
theorem nmX0 : ∀ a, a < 4 → ∀ b, b < 4 → a ≠ b → (TX0 a).2.1 ≠ (TX0 b).2.1 := by decide +kernel
theorem tyX0_ok : ∀ k, k < 4 → parseFieldDescriptor (TX0 k).2.2.1 = some (tyX0 k) := by decide +kernel
abbrev cX0_init : ByteArray := prog_2_method_1_code
def yX0_init : MethodName := ⟨RX0, "<init>", "()V"⟩
abbrev cX0_add : ByteArray := prog_2_method_2_code
def yX0_add : MethodName := ⟨RX0, "add", "(III)V"⟩
abbrev cX0_forgetFirst : ByteArray := prog_2_method_3_code
def yX0_forgetFirst : MethodName := ⟨RX0, "forgetFirst", "()V"⟩
def RX1 : String := "SkyTenders$Run"
def TX1 : u_T := fun k => match k with
  | 0 => ("SkyTenders$Run", "years", "I", false)
  | 1 => ("SkyTenders$Run", "spent", "I", false)
  | _ => ("SkyTenders$Run", "firstSmell", "I", false)
def tyX1 : Nat → FieldType := fun k => match k with
  | 0 => .int
  | 1 => .int
  | _ => .int
theorem nmX1 : ∀ a, a < 3 → ∀ b, b < 3 → a ≠ b → (TX1 a).2.1 ≠ (TX1 b).2.1 := by decide +kernel
theorem tyX1_ok : ∀ k, k < 3 → parseFieldDescriptor (TX1 k).2.2.1 = some (tyX1 k) := by decide +kernel
abbrev cX1_init : ByteArray := prog_3_method_1_code
def yX1_init : MethodName := ⟨RX1, "<init>", "()V"⟩
def RX2 : String := "SkyTenders$Search"
def TX2 : u_T := fun k => match k with
  | 0 => ("SkyTenders$Search", "found", "I", false)
  | 1 => ("SkyTenders$Search", "by", "[I", true)
  | 2 => ("SkyTenders$Search", "tried", "[I", true)
  | _ => ("SkyTenders$Search", "left", "[I", true)
def tyX2 : Nat → FieldType := fun k => match k with
  | 0 => .int
  | 1 => .array .int
  | 2 => .array .int
  | _ => .array .int
theorem nmX2 : ∀ a, a < 4 → ∀ b, b < 4 → a ≠ b → (TX2 a).2.1 ≠ (TX2 b).2.1 := by decide +kernel
theorem tyX2_ok : ∀ k, k < 4 → parseFieldDescriptor (TX2 k).2.2.1 = some (tyX2 k) := by decide +kernel
abbrev cX2_init : ByteArray := prog_4_method_1_code
def yX2_init : MethodName := ⟨RX2, "<init>", "()V"⟩
abbrev cX2_stockUp : ByteArray := prog_4_method_2_code
def yX2_stockUp : MethodName := ⟨RX2, "stockUp", "(LSkyTenders$Tender;I)V"⟩
abbrev cX2_canServe : ByteArray := prog_4_method_3_code
def yX2_canServe : MethodName := ⟨RX2, "canServe", "(LSkyTenders$Tender;II)Z"⟩
abbrev cX2_takeTried : ByteArray := prog_4_method_4_code
def yX2_takeTried : MethodName := ⟨RX2, "takeTried", "(II)V"⟩
abbrev cX2_unitsBy : ByteArray := prog_4_method_5_code
def yX2_unitsBy : MethodName := ⟨RX2, "unitsBy", "(LSkyTenders$Tender;I)I"⟩
abbrev cX2_smells : ByteArray := prog_4_method_6_code
def yX2_smells : MethodName := ⟨RX2, "smells", "(LSkyTenders$Tender;)Z"⟩
def RX3 : String := "SkyTenders$Seen"
def TX3 : u_T := fun k => match k with
  | 0 => ("SkyTenders$Seen", "count", "I", false)
  | 1 => ("SkyTenders$Seen", "field", "[I", true)
  | 2 => ("SkyTenders$Seen", "by", "[I", true)
  | _ => ("SkyTenders$Seen", "was", "[Z", true)
def tyX3 : Nat → FieldType := fun k => match k with
  | 0 => .int
  | 1 => .array .int
  | 2 => .array .int
  | _ => .array .boolean
theorem nmX3 : ∀ a, a < 4 → ∀ b, b < 4 → a ≠ b → (TX3 a).2.1 ≠ (TX3 b).2.1 := by decide +kernel
theorem tyX3_ok : ∀ k, k < 4 → parseFieldDescriptor (TX3 k).2.2.1 = some (tyX3 k) := by decide +kernel
abbrev cX3_init : ByteArray := prog_5_method_1_code
def yX3_init : MethodName := ⟨RX3, "<init>", "()V"⟩
abbrev cX3_add : ByteArray := prog_5_method_2_code
def yX3_add : MethodName := ⟨RX3, "add", "(IIZ)Z"⟩
def RX4 : String := "SkyTenders$Tender"
def TX4 : u_T := fun k => match k with
  | 0 => ("SkyTenders$Tender", "fields", "I", false)
  | 1 => ("SkyTenders$Tender", "makers", "I", false)
  | 2 => ("SkyTenders$Tender", "patience", "I", false)
  | 3 => ("SkyTenders$Tender", "weather", "[I", true)
  | 4 => ("SkyTenders$Tender", "units", "[I", true)
  | 5 => ("SkyTenders$Tender", "weathers", "[I", true)
  | 6 => ("SkyTenders$Tender", "stock", "[I", true)
  | _ => ("SkyTenders$Tender", "price", "[I", true)
def tyX4 : Nat → FieldType := fun k => match k with
  | 0 => .int
  | 1 => .int
  | 2 => .int
  | 3 => .array .int
  | 4 => .array .int
  | 5 => .array .int
  | 6 => .array .int
  | _ => .array .int
theorem nmX4 : ∀ a, a < 8 → ∀ b, b < 8 → a ≠ b → (TX4 a).2.1 ≠ (TX4 b).2.1 := by decide +kernel
theorem tyX4_ok : ∀ k, k < 8 → parseFieldDescriptor (TX4 k).2.2.1 = some (tyX4 k) := by decide +kernel
abbrev cX4_init : ByteArray := prog_6_method_1_code
def yX4_init : MethodName := ⟨RX4, "<init>", "()V"⟩
abbrev cX4_become : ByteArray := prog_6_method_2_code
def yX4_become : MethodName := ⟨RX4, "become", "(LSkyTenders$Tender;)V"⟩
abbrev cX4_hasField : ByteArray := prog_6_method_3_code
def yX4_hasField : MethodName := ⟨RX4, "hasField", "(I)Z"⟩
abbrev cX4_hasMaker : ByteArray := prog_6_method_4_code
def yX4_hasMaker : MethodName := ⟨RX4, "hasMaker", "(I)Z"⟩
abbrev cX4_hasLeague : ByteArray := prog_6_method_5_code
def yX4_hasLeague : MethodName := ⟨RX4, "hasLeague", "(I)Z"⟩
abbrev cX4_allMakers : ByteArray := prog_6_method_6_code
def yX4_allMakers : MethodName := ⟨RX4, "allMakers", "()I"⟩
abbrev cX4_makes : ByteArray := prog_6_method_7_code
def yX4_makes : MethodName := ⟨RX4, "makes", "(II)Z"⟩
abbrev cX4_couldBeSecondHand : ByteArray := prog_6_method_8_code
def yX4_couldBeSecondHand : MethodName := ⟨RX4, "couldBeSecondHand", "(I)Z"⟩
abbrev cX4_refusal : ByteArray := prog_6_method_9_code
def yX4_refusal : MethodName := ⟨RX4, "refusal", "(III)I"⟩
abbrev cX4_change : ByteArray := prog_6_method_10_code
def yX4_change : MethodName := ⟨RX4, "change", "(III)I"⟩
def RX5 : String := "SkyTenders$Text"
def TX5 : u_T := fun k => match k with
  | 0 => ("SkyTenders$Text", "length", "I", false)
  | _ => ("SkyTenders$Text", "letters", "[I", true)
def tyX5 : Nat → FieldType := fun k => match k with
  | 0 => .int
  | _ => .array .int
theorem nmX5 : ∀ a, a < 2 → ∀ b, b < 2 → a ≠ b → (TX5 a).2.1 ≠ (TX5 b).2.1 := by decide +kernel
theorem tyX5_ok : ∀ k, k < 2 → parseFieldDescriptor (TX5 k).2.2.1 = some (tyX5 k) := by decide +kernel
abbrev cX5_init : ByteArray := prog_7_method_1_code
def yX5_init : MethodName := ⟨RX5, "<init>", "()V"⟩
abbrev cX5_append : ByteArray := prog_7_method_2_code
def yX5_append : MethodName := ⟨RX5, "append", "(I)Z"⟩
abbrev cX5_readInto : ByteArray := prog_7_method_3_code
def yX5_readInto : MethodName := ⟨RX5, "readInto", "(LSkyTenders$Tender;)I"⟩
abbrev cX5_behind : ByteArray := prog_7_method_4_code
def yX5_behind : MethodName := ⟨RX5, "behind", "(IILSkyTenders$Tender;)I"⟩
abbrev cX5_behindHead : ByteArray := prog_7_method_5_code
def yX5_behindHead : MethodName := ⟨RX5, "behindHead", "(ILSkyTenders$Tender;)I"⟩
abbrev cX5_behindFieldWeather : ByteArray := prog_7_method_6_code
def yX5_behindFieldWeather : MethodName := ⟨RX5, "behindFieldWeather", "(ILSkyTenders$Tender;)I"⟩
abbrev cX5_behindFieldUnits : ByteArray := prog_7_method_7_code
def yX5_behindFieldUnits : MethodName := ⟨RX5, "behindFieldUnits", "(ILSkyTenders$Tender;)I"⟩
abbrev cX5_behindMakerWeatherOrStock : ByteArray := prog_7_method_8_code
def yX5_behindMakerWeatherOrStock : MethodName := ⟨RX5, "behindMakerWeatherOrStock", "(ILSkyTenders$Tender;)I"⟩
abbrev cX5_behindMakerPrice : ByteArray := prog_7_method_9_code
def yX5_behindMakerPrice : MethodName := ⟨RX5, "behindMakerPrice", "(ILSkyTenders$Tender;)I"⟩
abbrev cX5_isFigure : ByteArray := prog_7_method_10_code
def yX5_isFigure : MethodName := ⟨RX5, "isFigure", "(I)Z"⟩
abbrev cX5_weatherOf : ByteArray := prog_7_method_11_code
def yX5_weatherOf : MethodName := ⟨RX5, "weatherOf", "(I)I"⟩
def RX6 : String := "SkyTenders"
def TX6 : u_T := fun k => match k with
  | 0 => ("SkyTenders", "text", "LSkyTenders$Text;", true)
  | 1 => ("SkyTenders", "now", "LSkyTenders$Tender;", true)
  | 2 => ("SkyTenders", "trial", "LSkyTenders$Tender;", true)
  | 3 => ("SkyTenders", "search", "LSkyTenders$Search;", true)
  | 4 => ("SkyTenders", "run", "LSkyTenders$Run;", true)
  | 5 => ("SkyTenders", "doings", "LSkyTenders$Doings;", true)
  | 6 => ("SkyTenders", "seen", "LSkyTenders$Seen;", true)
  | 7 => ("SkyTenders", "kept", "[LSkyTenders$Tender;", true)
  | 8 => ("SkyTenders", "figures", "[I", true)
  | 9 => ("SkyTenders", "keptSlots", "I", false)
  | _ => ("SkyTenders", "theSeed", "J", false)
def tyX6 : Nat → FieldType := fun k => match k with
  | 0 => .object "SkyTenders$Text"
  | 1 => .object "SkyTenders$Tender"
  | 2 => .object "SkyTenders$Tender"
  | 3 => .object "SkyTenders$Search"
  | 4 => .object "SkyTenders$Run"
  | 5 => .object "SkyTenders$Doings"
  | 6 => .object "SkyTenders$Seen"
  | 7 => .array (.object "SkyTenders$Tender")
  | 8 => .array .int
  | 9 => .int
  | _ => .long
theorem nmX6 : ∀ a, a < 11 → ∀ b, b < 11 → a ≠ b → (TX6 a).2.1 ≠ (TX6 b).2.1 := by decide +kernel
theorem tyX6_ok : ∀ k, k < 11 → parseFieldDescriptor (TX6 k).2.2.1 = some (tyX6 k) := by decide +kernel
abbrev cX6_init : ByteArray := prog_1_method_1_code
def yX6_init : MethodName := ⟨RX6, "<init>", "()V"⟩
abbrev cX6_write : ByteArray := prog_1_method_2_code
def yX6_write : MethodName := ⟨RX6, "write", "(I)I"⟩
abbrev cX6_wipe : ByteArray := prog_1_method_3_code
def yX6_wipe : MethodName := ⟨RX6, "wipe", "()I"⟩
abbrev cX6_fault : ByteArray := prog_1_method_4_code
def yX6_fault : MethodName := ⟨RX6, "fault", "()I"⟩
abbrev cX6_tender : ByteArray := prog_1_method_5_code
def yX6_tender : MethodName := ⟨RX6, "tender", "()I"⟩
abbrev cX6_about : ByteArray := prog_1_method_6_code
def yX6_about : MethodName := ⟨RX6, "about", "(I)I"⟩
abbrev cX6_field : ByteArray := prog_1_method_7_code
def yX6_field : MethodName := ⟨RX6, "field", "(II)I"⟩
abbrev cX6_maker : ByteArray := prog_1_method_8_code
def yX6_maker : MethodName := ⟨RX6, "maker", "(II)I"⟩
abbrev cX6_reprice : ByteArray := prog_1_method_9_code
def yX6_reprice : MethodName := ⟨RX6, "reprice", "(II)I"⟩
abbrev cX6_restock : ByteArray := prog_1_method_10_code
def yX6_restock : MethodName := ⟨RX6, "restock", "(II)I"⟩
abbrev cX6_want : ByteArray := prog_1_method_11_code
def yX6_want : MethodName := ⟨RX6, "want", "(II)I"⟩
abbrev cX6_bear : ByteArray := prog_1_method_12_code
def yX6_bear : MethodName := ⟨RX6, "bear", "(I)I"⟩
abbrev cX6_undo : ByteArray := prog_1_method_13_code
def yX6_undo : MethodName := ⟨RX6, "undo", "()I"⟩
abbrev cX6_doNow : ByteArray := prog_1_method_14_code
def yX6_doNow : MethodName := ⟨RX6, "doNow", "(III)I"⟩
abbrev cX6_best : ByteArray := prog_1_method_15_code
def yX6_best : MethodName := ⟨RX6, "best", "()I"⟩
abbrev cX6_cost : ByteArray := prog_1_method_16_code
def yX6_cost : MethodName := ⟨RX6, "cost", "(I)I"⟩
abbrev cX6_gain : ByteArray := prog_1_method_17_code
def yX6_gain : MethodName := ⟨RX6, "gain", "(II)I"⟩
abbrev cX6_ran : ByteArray := prog_1_method_18_code
def yX6_ran : MethodName := ⟨RX6, "ran", "(I)I"⟩
abbrev cX6_least : ByteArray := prog_1_method_19_code
def yX6_least : MethodName := ⟨RX6, "least", "(I)I"⟩
abbrev cX6_most : ByteArray := prog_1_method_20_code
def yX6_most : MethodName := ⟨RX6, "most", "(I)I"⟩
abbrev cX6_holds : ByteArray := prog_1_method_21_code
def yX6_holds : MethodName := ⟨RX6, "holds", "(I)I"⟩
abbrev cX6_judge : ByteArray := prog_1_method_22_code
def yX6_judge : MethodName := ⟨RX6, "judge", "(IJ)I"⟩
abbrev cX6_share : ByteArray := prog_1_method_23_code
def yX6_share : MethodName := ⟨RX6, "share", "(IZ)I"⟩
abbrev cX6_see : ByteArray := prog_1_method_24_code
def yX6_see : MethodName := ⟨RX6, "see", "(III)I"⟩
abbrev cX6_unsee : ByteArray := prog_1_method_25_code
def yX6_unsee : MethodName := ⟨RX6, "unsee", "()I"⟩
abbrev cX6_which : ByteArray := prog_1_method_26_code
def yX6_which : MethodName := ⟨RX6, "which", "(I)I"⟩
abbrev cX6_gone : ByteArray := prog_1_method_27_code
def yX6_gone : MethodName := ⟨RX6, "gone", "(IZ)I"⟩
abbrev cX6_seed : ByteArray := prog_1_method_28_code
def yX6_seed : MethodName := ⟨RX6, "seed", "(J)J"⟩
abbrev cX6_drawn : ByteArray := prog_1_method_29_code
def yX6_drawn : MethodName := ⟨RX6, "drawn", "(I)I"⟩
abbrev cX6_keep : ByteArray := prog_1_method_30_code
def yX6_keep : MethodName := ⟨RX6, "keep", "(I)I"⟩
abbrev cX6_again : ByteArray := prog_1_method_31_code
def yX6_again : MethodName := ⟨RX6, "again", "(I)I"⟩
abbrev cX6_roomOf : ByteArray := prog_1_method_32_code
def yX6_roomOf : MethodName := ⟨RX6, "roomOf", "(I)LSkyTenders$Tender;"⟩
abbrev cX6_cheapest : ByteArray := prog_1_method_33_code
def yX6_cheapest : MethodName := ⟨RX6, "cheapest", "(LSkyTenders$Tender;I)I"⟩
abbrev cX6_serveFrom : ByteArray := prog_1_method_34_code
def yX6_serveFrom : MethodName := ⟨RX6, "serveFrom", "(LSkyTenders$Tender;LSkyTenders$Search;III)V"⟩
abbrev cX6_mostServed : ByteArray := prog_1_method_35_code
def yX6_mostServed : MethodName := ⟨RX6, "mostServed", "(LSkyTenders$Tender;I)I"⟩
abbrev cX6_countFrom : ByteArray := prog_1_method_36_code
def yX6_countFrom : MethodName := ⟨RX6, "countFrom", "(LSkyTenders$Tender;LSkyTenders$Search;III)V"⟩
abbrev cX6_unitsInBest : ByteArray := prog_1_method_37_code
def yX6_unitsInBest : MethodName := ⟨RX6, "unitsInBest", "(LSkyTenders$Tender;I)I"⟩
abbrev cX6_paidTo : ByteArray := prog_1_method_38_code
def yX6_paidTo : MethodName := ⟨RX6, "paidTo", "(LSkyTenders$Tender;I)I"⟩
abbrev cX6_runYears : ByteArray := prog_1_method_39_code
def yX6_runYears : MethodName := ⟨RX6, "runYears", "()V"⟩
abbrev cX6_sharesOf : ByteArray := prog_1_method_40_code
def yX6_sharesOf : MethodName := ⟨RX6, "sharesOf", "(I)I"⟩
abbrev cX6_canBe : ByteArray := prog_1_method_41_code
def yX6_canBe : MethodName := ⟨RX6, "canBe", "(I)Z"⟩
abbrev cX6_changesTrial : ByteArray := prog_1_method_42_code
def yX6_changesTrial : MethodName := ⟨RX6, "changesTrial", "(III)Z"⟩
abbrev cX6_allSeenIsSo : ByteArray := prog_1_method_43_code
def yX6_allSeenIsSo : MethodName := ⟨RX6, "allSeenIsSo", "(LSkyTenders$Tender;)Z"⟩
abbrev cX6_chanceOfLeft : ByteArray := prog_1_method_44_code
def yX6_chanceOfLeft : MethodName := ⟨RX6, "chanceOfLeft", "(II)I"⟩
abbrev cX6_partOfFraction : ByteArray := prog_1_method_45_code
def yX6_partOfFraction : MethodName := ⟨RX6, "partOfFraction", "(IIZ)I"⟩
abbrev cX6_spell : ByteArray := prog_1_method_46_code
def yX6_spell : MethodName := ⟨RX6, "spell", "(JI)Z"⟩
abbrev cX6_asFigures : ByteArray := prog_1_method_47_code
def yX6_asFigures : MethodName := ⟨RX6, "asFigures", "([II)I"⟩
def RX7 : String := "SkyTendersModel"
def TX7 : u_T := fun k => match k with
  | 0 => ("SkyTendersModel", "text", "[I", true)
  | 1 => ("SkyTendersModel", "length", "I", false)
  | 2 => ("SkyTendersModel", "fields", "I", false)
  | 3 => ("SkyTendersModel", "makers", "I", false)
  | 4 => ("SkyTendersModel", "weather", "[I", true)
  | 5 => ("SkyTendersModel", "makes", "[I", true)
  | 6 => ("SkyTendersModel", "now", "[I", true)
  | 7 => ("SkyTendersModel", "trial", "[I", true)
  | 8 => ("SkyTendersModel", "diary", "[I", true)
  | 9 => ("SkyTendersModel", "doings", "I", false)
  | 10 => ("SkyTendersModel", "next", "I", false)
  | 11 => ("SkyTendersModel", "kept", "[I", true)
  | 12 => ("SkyTendersModel", "isKept", "[Z", true)
  | 13 => ("SkyTendersModel", "readFields", "I", false)
  | 14 => ("SkyTendersModel", "readMakers", "I", false)
  | 15 => ("SkyTendersModel", "readWeather", "[I", true)
  | 16 => ("SkyTendersModel", "readMakes", "[I", true)
  | 17 => ("SkyTendersModel", "readRow", "[I", true)
  | 18 => ("SkyTendersModel", "seenField", "[I", true)
  | 19 => ("SkyTendersModel", "seenBy", "[I", true)
  | 20 => ("SkyTendersModel", "seenWas", "[I", true)
  | 21 => ("SkyTendersModel", "seen", "I", false)
  | 22 => ("SkyTendersModel", "seed", "J", false)
  | 23 => ("SkyTendersModel", "leastCost", "I", false)
  | 24 => ("SkyTendersModel", "bestCode", "I", false)
  | 25 => ("SkyTendersModel", "used", "[I", true)
  | 26 => ("SkyTendersModel", "worth", "[I", true)
  | 27 => ("SkyTendersModel", "wanted", "I", false)
  | 28 => ("SkyTendersModel", "years", "I", false)
  | 29 => ("SkyTendersModel", "firstHand", "I", false)
  | _ => ("SkyTendersModel", "yearsCost", "I", false)
def tyX7 : Nat → FieldType := fun k => match k with
  | 0 => .array .int
  | 1 => .int
  | 2 => .int
  | 3 => .int
  | 4 => .array .int
  | 5 => .array .int
  | 6 => .array .int
  | 7 => .array .int
  | 8 => .array .int
  | 9 => .int
  | 10 => .int
  | 11 => .array .int
  | 12 => .array .boolean
  | 13 => .int
  | 14 => .int
  | 15 => .array .int
  | 16 => .array .int
  | 17 => .array .int
  | 18 => .array .int
  | 19 => .array .int
  | 20 => .array .int
  | 21 => .int
  | 22 => .long
  | 23 => .int
  | 24 => .int
  | 25 => .array .int
  | 26 => .array .int
  | 27 => .int
  | 28 => .int
  | 29 => .int
  | _ => .int
theorem nmX7 : ∀ a, a < 31 → ∀ b, b < 31 → a ≠ b → (TX7 a).2.1 ≠ (TX7 b).2.1 := by decide +kernel
theorem tyX7_ok : ∀ k, k < 31 → parseFieldDescriptor (TX7 k).2.2.1 = some (tyX7 k) := by decide +kernel
abbrev cX7_init : ByteArray := prog_9_method_1_code
def yX7_init : MethodName := ⟨RX7, "<init>", "()V"⟩
abbrev cX7_in : ByteArray := prog_9_method_3_code
def yX7_in : MethodName := ⟨RX7, "in", "(JJJ)Z"⟩
abbrev cX7_has : ByteArray := prog_9_method_4_code
def yX7_has : MethodName := ⟨RX7, "has", "(II)Z"⟩
abbrev cX7_power : ByteArray := prog_9_method_5_code
def yX7_power : MethodName := ⟨RX7, "power", "(II)I"⟩
abbrev cX7_divisor : ByteArray := prog_9_method_6_code
def yX7_divisor : MethodName := ⟨RX7, "divisor", "(II)I"⟩
abbrev cX7_fraction : ByteArray := prog_9_method_7_code
def yX7_fraction : MethodName := ⟨RX7, "fraction", "(IIZ)I"⟩
abbrev cX7_isField : ByteArray := prog_9_method_8_code
def yX7_isField : MethodName := ⟨RX7, "isField", "(I)Z"⟩
abbrev cX7_isMaker : ByteArray := prog_9_method_9_code
def yX7_isMaker : MethodName := ⟨RX7, "isMaker", "(I)Z"⟩
abbrev cX7_allMakers : ByteArray := prog_9_method_10_code
def yX7_allMakers : MethodName := ⟨RX7, "allMakers", "()I"⟩
abbrev cX7_write : ByteArray := prog_9_method_11_code
def yX7_write : MethodName := ⟨RX7, "write", "(I)I"⟩
abbrev cX7_wipe : ByteArray := prog_9_method_12_code
def yX7_wipe : MethodName := ⟨RX7, "wipe", "()I"⟩
abbrev cX7_weatherOf : ByteArray := prog_9_method_13_code
def yX7_weatherOf : MethodName := ⟨RX7, "weatherOf", "(I)I"⟩
abbrev cX7_take : ByteArray := prog_9_method_14_code
def yX7_take : MethodName := ⟨RX7, "take", "(I)Z"⟩
abbrev cX7_takePart : ByteArray := prog_9_method_15_code
def yX7_takePart : MethodName := ⟨RX7, "takePart", "(I)Z"⟩
abbrev cX7_takeMore : ByteArray := prog_9_method_16_code
def yX7_takeMore : MethodName := ⟨RX7, "takeMore", "(II)Z"⟩
abbrev cX7_readText : ByteArray := prog_9_method_17_code
def yX7_readText : MethodName := ⟨RX7, "readText", "()I"⟩
abbrev cX7_fault : ByteArray := prog_9_method_18_code
def yX7_fault : MethodName := ⟨RX7, "fault", "()I"⟩
abbrev cX7_tender : ByteArray := prog_9_method_19_code
def yX7_tender : MethodName := ⟨RX7, "tender", "()I"⟩
abbrev cX7_servedBy : ByteArray := prog_9_method_20_code
def yX7_servedBy : MethodName := ⟨RX7, "servedBy", "(III)I"⟩
abbrev cX7_mayServe : ByteArray := prog_9_method_21_code
def yX7_mayServe : MethodName := ⟨RX7, "mayServe", "([IIIII)Z"⟩
abbrev cX7_costOf : ByteArray := prog_9_method_22_code
def yX7_costOf : MethodName := ⟨RX7, "costOf", "([IIII)I"⟩
abbrev cX7_find : ByteArray := prog_9_method_23_code
def yX7_find : MethodName := ⟨RX7, "find", "([II)V"⟩
abbrev cX7_leastBy : ByteArray := prog_9_method_24_code
def yX7_leastBy : MethodName := ⟨RX7, "leastBy", "([II)I"⟩
abbrev cX7_unitsOf : ByteArray := prog_9_method_25_code
def yX7_unitsOf : MethodName := ⟨RX7, "unitsOf", "([II)I"⟩
abbrev cX7_paid : ByteArray := prog_9_method_26_code
def yX7_paid : MethodName := ⟨RX7, "paid", "([II)I"⟩
abbrev cX7_mostOf : ByteArray := prog_9_method_27_code
def yX7_mostOf : MethodName := ⟨RX7, "mostOf", "([II)I"⟩
abbrev cX7_run : ByteArray := prog_9_method_28_code
def yX7_run : MethodName := ⟨RX7, "run", "()V"⟩
abbrev cX7_layTrial : ByteArray := prog_9_method_29_code
def yX7_layTrial : MethodName := ⟨RX7, "layTrial", "()V"⟩
abbrev cX7_about : ByteArray := prog_9_method_30_code
def yX7_about : MethodName := ⟨RX7, "about", "(I)I"⟩
abbrev cX7_field : ByteArray := prog_9_method_31_code
def yX7_field : MethodName := ⟨RX7, "field", "(II)I"⟩
abbrev cX7_maker : ByteArray := prog_9_method_32_code
def yX7_maker : MethodName := ⟨RX7, "maker", "(II)I"⟩
abbrev cX7_change : ByteArray := prog_9_method_33_code
def yX7_change : MethodName := ⟨RX7, "change", "(II)V"⟩
abbrev cX7_reprice : ByteArray := prog_9_method_34_code
def yX7_reprice : MethodName := ⟨RX7, "reprice", "(II)I"⟩
abbrev cX7_restock : ByteArray := prog_9_method_35_code
def yX7_restock : MethodName := ⟨RX7, "restock", "(II)I"⟩
abbrev cX7_want : ByteArray := prog_9_method_36_code
def yX7_want : MethodName := ⟨RX7, "want", "(II)I"⟩
abbrev cX7_bear : ByteArray := prog_9_method_37_code
def yX7_bear : MethodName := ⟨RX7, "bear", "(I)I"⟩
abbrev cX7_undo : ByteArray := prog_9_method_38_code
def yX7_undo : MethodName := ⟨RX7, "undo", "()I"⟩
abbrev cX7_best : ByteArray := prog_9_method_39_code
def yX7_best : MethodName := ⟨RX7, "best", "()I"⟩
abbrev cX7_cost : ByteArray := prog_9_method_40_code
def yX7_cost : MethodName := ⟨RX7, "cost", "(I)I"⟩
abbrev cX7_gain : ByteArray := prog_9_method_41_code
def yX7_gain : MethodName := ⟨RX7, "gain", "(II)I"⟩
abbrev cX7_ran : ByteArray := prog_9_method_42_code
def yX7_ran : MethodName := ⟨RX7, "ran", "(I)I"⟩
abbrev cX7_least : ByteArray := prog_9_method_43_code
def yX7_least : MethodName := ⟨RX7, "least", "(I)I"⟩
abbrev cX7_most : ByteArray := prog_9_method_44_code
def yX7_most : MethodName := ⟨RX7, "most", "(I)I"⟩
abbrev cX7_sharesOf : ByteArray := prog_9_method_45_code
def yX7_sharesOf : MethodName := ⟨RX7, "sharesOf", "(II)I"⟩
abbrev cX7_holds : ByteArray := prog_9_method_46_code
def yX7_holds : MethodName := ⟨RX7, "holds", "(I)I"⟩
abbrev cX7_judged : ByteArray := prog_9_method_47_code
def yX7_judged : MethodName := ⟨RX7, "judged", "(IIII)Z"⟩
abbrev cX7_tenThousands : ByteArray := prog_9_method_48_code
def yX7_tenThousands : MethodName := ⟨RX7, "tenThousands", "(I)J"⟩
abbrev cX7_judge : ByteArray := prog_9_method_49_code
def yX7_judge : MethodName := ⟨RX7, "judge", "(IJ)I"⟩
abbrev cX7_makerAt : ByteArray := prog_9_method_50_code
def yX7_makerAt : MethodName := ⟨RX7, "makerAt", "(II)I"⟩
abbrev cX7_isOrder : ByteArray := prog_9_method_51_code
def yX7_isOrder : MethodName := ⟨RX7, "isOrder", "(I)Z"⟩
abbrev cX7_share : ByteArray := prog_9_method_52_code
def yX7_share : MethodName := ⟨RX7, "share", "(IZ)I"⟩
abbrev cX7_see : ByteArray := prog_9_method_53_code
def yX7_see : MethodName := ⟨RX7, "see", "(III)I"⟩
abbrev cX7_unsee : ByteArray := prog_9_method_54_code
def yX7_unsee : MethodName := ⟨RX7, "unsee", "()I"⟩
abbrev cX7_agrees : ByteArray := prog_9_method_55_code
def yX7_agrees : MethodName := ⟨RX7, "agrees", "()Z"⟩
abbrev cX7_which : ByteArray := prog_9_method_56_code
def yX7_which : MethodName := ⟨RX7, "which", "(I)I"⟩
abbrev cX7_gone : ByteArray := prog_9_method_57_code
def yX7_gone : MethodName := ⟨RX7, "gone", "(IZ)I"⟩
abbrev cX7_seed : ByteArray := prog_9_method_58_code
def yX7_seed : MethodName := ⟨RX7, "seed", "(J)J"⟩
abbrev cX7_drawn : ByteArray := prog_9_method_59_code
def yX7_drawn : MethodName := ⟨RX7, "drawn", "(I)I"⟩
abbrev cX7_keep : ByteArray := prog_9_method_60_code
def yX7_keep : MethodName := ⟨RX7, "keep", "(I)I"⟩
abbrev cX7_again : ByteArray := prog_9_method_61_code
def yX7_again : MethodName := ⟨RX7, "again", "(I)I"⟩
def RJ6 : String := "java/lang/Integer"
abbrev cJ6_bitCount_0f7a4 : ByteArray := prog_10_method_49_code
def yJ6_bitCount_0f7a4 : MethodName := ⟨RJ6, "bitCount", "(I)I"⟩
def RL : String := "SkyTendersLaw"
abbrev cL_law : ByteArray := code
theorem iX0 : ∀ w ∈ u_ws RX0 TX0 4, w ∈ lw_tbl := by decide +kernel
theorem iX1 : ∀ w ∈ u_ws RX1 TX1 3, w ∈ lw_tbl := by decide +kernel
theorem iX2 : ∀ w ∈ u_ws RX2 TX2 4, w ∈ lw_tbl := by decide +kernel
theorem iX3 : ∀ w ∈ u_ws RX3 TX3 4, w ∈ lw_tbl := by decide +kernel
theorem iX4 : ∀ w ∈ u_ws RX4 TX4 8, w ∈ lw_tbl := by decide +kernel
theorem iX5 : ∀ w ∈ u_ws RX5 TX5 2, w ∈ lw_tbl := by decide +kernel
theorem iX6 : ∀ w ∈ u_ws RX6 TX6 11, w ∈ lw_tbl := by decide +kernel
theorem iX7 : ∀ w ∈ u_ws RX7 TX7 31, w ∈ lw_tbl := by decide +kernel
abbrev vwCl : List vw_C := [(RX0, TX0, 4), (RX1, TX1, 3), (RX2, TX2, 4), (RX3, TX3, 4), (RX4, TX4, 8), (RX5, TX5, 2), (RX6, TX6, 11), (RX7, TX7, 31)]
