section
-- ===== PART A: goes FIRST, ahead of the names: the tables' words, and 'selects' of the private methods out of them =====
/-- a private method of a class that the tables say can be made, by its rows of tables_1 -/
def lw_okq (q : MethodName × Nat) : Prop := (q.1.cls ≠ "java/lang/invoke/MethodHandle" ∧ q.1.cls ≠ "java/lang/invoke/VarHandle") ∧ Cond.instantiable q.1.cls q.2 ∈ tables_1 ∧ Cond.privateMethod q.1 ∈ tables_1 ∧ Cond.instanceMethod q.1 ∈ tables_1
theorem lw_p0 : lw_okq (⟨"SkyTenders$Text", "append", "(I)Z"⟩, 2) := ⟨⟨by decide +kernel, by decide +kernel⟩, List.mem_of_getElem? (i := 19) (by decide +kernel), List.mem_of_getElem? (i := 212) (by decide +kernel), List.mem_of_getElem? (i := 213) (by decide +kernel)⟩
theorem lw_p1 : lw_okq (⟨"SkyTenders$Text", "readInto", "(LSkyTenders$Tender;)I"⟩, 2) := ⟨⟨by decide +kernel, by decide +kernel⟩, List.mem_of_getElem? (i := 19) (by decide +kernel), List.mem_of_getElem? (i := 224) (by decide +kernel), List.mem_of_getElem? (i := 225) (by decide +kernel)⟩
theorem lw_p2 : lw_okq (⟨"SkyTenders$Tender", "become", "(LSkyTenders$Tender;)V"⟩, 8) := ⟨⟨by decide +kernel, by decide +kernel⟩, List.mem_of_getElem? (i := 34) (by decide +kernel), List.mem_of_getElem? (i := 256) (by decide +kernel), List.mem_of_getElem? (i := 257) (by decide +kernel)⟩
theorem lw_p3 : lw_okq (⟨"SkyTenders$Tender", "allMakers", "()I"⟩, 8) := ⟨⟨by decide +kernel, by decide +kernel⟩, List.mem_of_getElem? (i := 34) (by decide +kernel), List.mem_of_getElem? (i := 264) (by decide +kernel), List.mem_of_getElem? (i := 265) (by decide +kernel)⟩
theorem lw_p4 : lw_okq (⟨"SkyTenders", "cheapest", "(LSkyTenders$Tender;I)I"⟩, 11) := ⟨⟨by decide +kernel, by decide +kernel⟩, List.mem_of_getElem? (i := 11) (by decide +kernel), List.mem_of_getElem? (i := 268) (by decide +kernel), List.mem_of_getElem? (i := 269) (by decide +kernel)⟩
theorem lw_p5 : lw_okq (⟨"SkyTenders$Search", "stockUp", "(LSkyTenders$Tender;I)V"⟩, 4) := ⟨⟨by decide +kernel, by decide +kernel⟩, List.mem_of_getElem? (i := 84) (by decide +kernel), List.mem_of_getElem? (i := 272) (by decide +kernel), List.mem_of_getElem? (i := 273) (by decide +kernel)⟩
theorem lw_p6 : lw_okq (⟨"SkyTenders$Search", "takeTried", "(II)V"⟩, 4) := ⟨⟨by decide +kernel, by decide +kernel⟩, List.mem_of_getElem? (i := 84) (by decide +kernel), List.mem_of_getElem? (i := 279) (by decide +kernel), List.mem_of_getElem? (i := 280) (by decide +kernel)⟩
theorem lw_p7 : lw_okq (⟨"SkyTenders$Search", "canServe", "(LSkyTenders$Tender;II)Z"⟩, 4) := ⟨⟨by decide +kernel, by decide +kernel⟩, List.mem_of_getElem? (i := 84) (by decide +kernel), List.mem_of_getElem? (i := 283) (by decide +kernel), List.mem_of_getElem? (i := 284) (by decide +kernel)⟩
theorem lw_p8 : lw_okq (⟨"SkyTenders$Tender", "makes", "(II)Z"⟩, 8) := ⟨⟨by decide +kernel, by decide +kernel⟩, List.mem_of_getElem? (i := 34) (by decide +kernel), List.mem_of_getElem? (i := 287) (by decide +kernel), List.mem_of_getElem? (i := 288) (by decide +kernel)⟩
theorem lw_p9 : lw_okq (⟨"SkyTenders$Tender", "couldBeSecondHand", "(I)Z"⟩, 8) := ⟨⟨by decide +kernel, by decide +kernel⟩, List.mem_of_getElem? (i := 34) (by decide +kernel), List.mem_of_getElem? (i := 291) (by decide +kernel), List.mem_of_getElem? (i := 292) (by decide +kernel)⟩
theorem lw_p10 : lw_okq (⟨"SkyTenders", "mostServed", "(LSkyTenders$Tender;I)I"⟩, 11) := ⟨⟨by decide +kernel, by decide +kernel⟩, List.mem_of_getElem? (i := 11) (by decide +kernel), List.mem_of_getElem? (i := 295) (by decide +kernel), List.mem_of_getElem? (i := 296) (by decide +kernel)⟩
theorem lw_p11 : lw_okq (⟨"SkyTenders", "runYears", "()V"⟩, 11) := ⟨⟨by decide +kernel, by decide +kernel⟩, List.mem_of_getElem? (i := 11) (by decide +kernel), List.mem_of_getElem? (i := 302) (by decide +kernel), List.mem_of_getElem? (i := 303) (by decide +kernel)⟩
theorem lw_p12 : lw_okq (⟨"SkyTenders$Search", "smells", "(LSkyTenders$Tender;)Z"⟩, 4) := ⟨⟨by decide +kernel, by decide +kernel⟩, List.mem_of_getElem? (i := 84) (by decide +kernel), List.mem_of_getElem? (i := 306) (by decide +kernel), List.mem_of_getElem? (i := 307) (by decide +kernel)⟩
theorem lw_p13 : lw_okq (⟨"SkyTenders$Search", "unitsBy", "(LSkyTenders$Tender;I)I"⟩, 4) := ⟨⟨by decide +kernel, by decide +kernel⟩, List.mem_of_getElem? (i := 84) (by decide +kernel), List.mem_of_getElem? (i := 310) (by decide +kernel), List.mem_of_getElem? (i := 311) (by decide +kernel)⟩
theorem lw_p14 : lw_okq (⟨"SkyTenders$Tender", "hasField", "(I)Z"⟩, 8) := ⟨⟨by decide +kernel, by decide +kernel⟩, List.mem_of_getElem? (i := 34) (by decide +kernel), List.mem_of_getElem? (i := 318) (by decide +kernel), List.mem_of_getElem? (i := 319) (by decide +kernel)⟩
theorem lw_p15 : lw_okq (⟨"SkyTenders$Tender", "hasMaker", "(I)Z"⟩, 8) := ⟨⟨by decide +kernel, by decide +kernel⟩, List.mem_of_getElem? (i := 34) (by decide +kernel), List.mem_of_getElem? (i := 326) (by decide +kernel), List.mem_of_getElem? (i := 327) (by decide +kernel)⟩
def lw_privs_1 : List (MethodName × Nat) := [(⟨"SkyTenders$Text", "append", "(I)Z"⟩, 2), (⟨"SkyTenders$Text", "readInto", "(LSkyTenders$Tender;)I"⟩, 2), (⟨"SkyTenders$Tender", "become", "(LSkyTenders$Tender;)V"⟩, 8), (⟨"SkyTenders$Tender", "allMakers", "()I"⟩, 8), (⟨"SkyTenders", "cheapest", "(LSkyTenders$Tender;I)I"⟩, 11), (⟨"SkyTenders$Search", "stockUp", "(LSkyTenders$Tender;I)V"⟩, 4), (⟨"SkyTenders$Search", "takeTried", "(II)V"⟩, 4), (⟨"SkyTenders$Search", "canServe", "(LSkyTenders$Tender;II)Z"⟩, 4), (⟨"SkyTenders$Tender", "makes", "(II)Z"⟩, 8), (⟨"SkyTenders$Tender", "couldBeSecondHand", "(I)Z"⟩, 8), (⟨"SkyTenders", "mostServed", "(LSkyTenders$Tender;I)I"⟩, 11), (⟨"SkyTenders", "runYears", "()V"⟩, 11), (⟨"SkyTenders$Search", "smells", "(LSkyTenders$Tender;)Z"⟩, 4), (⟨"SkyTenders$Search", "unitsBy", "(LSkyTenders$Tender;I)I"⟩, 4), (⟨"SkyTenders$Tender", "hasField", "(I)Z"⟩, 8), (⟨"SkyTenders$Tender", "hasMaker", "(I)Z"⟩, 8)]
theorem lw_r1 : ∀ q ∈ lw_privs_1, lw_okq q := List.forall_mem_cons.mpr ⟨lw_p0, List.forall_mem_cons.mpr ⟨lw_p1, List.forall_mem_cons.mpr ⟨lw_p2, List.forall_mem_cons.mpr ⟨lw_p3, List.forall_mem_cons.mpr ⟨lw_p4, List.forall_mem_cons.mpr ⟨lw_p5, List.forall_mem_cons.mpr ⟨lw_p6, List.forall_mem_cons.mpr ⟨lw_p7, List.forall_mem_cons.mpr ⟨lw_p8, List.forall_mem_cons.mpr ⟨lw_p9, List.forall_mem_cons.mpr ⟨lw_p10, List.forall_mem_cons.mpr ⟨lw_p11, List.forall_mem_cons.mpr ⟨lw_p12, List.forall_mem_cons.mpr ⟨lw_p13, List.forall_mem_cons.mpr ⟨lw_p14, List.forall_mem_cons.mpr ⟨lw_p15, fun _ h => absurd h List.not_mem_nil⟩⟩⟩⟩⟩⟩⟩⟩⟩⟩⟩⟩⟩⟩⟩⟩
theorem lw_p16 : lw_okq (⟨"SkyTenders", "unitsInBest", "(LSkyTenders$Tender;I)I"⟩, 11) := ⟨⟨by decide +kernel, by decide +kernel⟩, List.mem_of_getElem? (i := 11) (by decide +kernel), List.mem_of_getElem? (i := 330) (by decide +kernel), List.mem_of_getElem? (i := 331) (by decide +kernel)⟩
theorem lw_p17 : lw_okq (⟨"SkyTenders", "paidTo", "(LSkyTenders$Tender;I)I"⟩, 11) := ⟨⟨by decide +kernel, by decide +kernel⟩, List.mem_of_getElem? (i := 11) (by decide +kernel), List.mem_of_getElem? (i := 334) (by decide +kernel), List.mem_of_getElem? (i := 335) (by decide +kernel)⟩
theorem lw_p18 : lw_okq (⟨"SkyTenders", "doNow", "(III)I"⟩, 11) := ⟨⟨by decide +kernel, by decide +kernel⟩, List.mem_of_getElem? (i := 11) (by decide +kernel), List.mem_of_getElem? (i := 342) (by decide +kernel), List.mem_of_getElem? (i := 343) (by decide +kernel)⟩
theorem lw_p19 : lw_okq (⟨"SkyTenders$Tender", "refusal", "(III)I"⟩, 8) := ⟨⟨by decide +kernel, by decide +kernel⟩, List.mem_of_getElem? (i := 34) (by decide +kernel), List.mem_of_getElem? (i := 346) (by decide +kernel), List.mem_of_getElem? (i := 347) (by decide +kernel)⟩
theorem lw_p20 : lw_okq (⟨"SkyTenders$Tender", "change", "(III)I"⟩, 8) := ⟨⟨by decide +kernel, by decide +kernel⟩, List.mem_of_getElem? (i := 34) (by decide +kernel), List.mem_of_getElem? (i := 352) (by decide +kernel), List.mem_of_getElem? (i := 353) (by decide +kernel)⟩
theorem lw_p21 : lw_okq (⟨"SkyTenders$Doings", "add", "(III)V"⟩, 4) := ⟨⟨by decide +kernel, by decide +kernel⟩, List.mem_of_getElem? (i := 126) (by decide +kernel), List.mem_of_getElem? (i := 356) (by decide +kernel), List.mem_of_getElem? (i := 357) (by decide +kernel)⟩
theorem lw_p22 : lw_okq (⟨"SkyTenders$Doings", "forgetFirst", "()V"⟩, 4) := ⟨⟨by decide +kernel, by decide +kernel⟩, List.mem_of_getElem? (i := 126) (by decide +kernel), List.mem_of_getElem? (i := 360) (by decide +kernel), List.mem_of_getElem? (i := 361) (by decide +kernel)⟩
theorem lw_p23 : lw_okq (⟨"SkyTenders", "spell", "(JI)Z"⟩, 11) := ⟨⟨by decide +kernel, by decide +kernel⟩, List.mem_of_getElem? (i := 11) (by decide +kernel), List.mem_of_getElem? (i := 391) (by decide +kernel), List.mem_of_getElem? (i := 392) (by decide +kernel)⟩
theorem lw_p24 : lw_okq (⟨"SkyTenders$Tender", "hasLeague", "(I)Z"⟩, 8) := ⟨⟨by decide +kernel, by decide +kernel⟩, List.mem_of_getElem? (i := 34) (by decide +kernel), List.mem_of_getElem? (i := 408) (by decide +kernel), List.mem_of_getElem? (i := 409) (by decide +kernel)⟩
theorem lw_p25 : lw_okq (⟨"SkyTenders", "sharesOf", "(I)I"⟩, 11) := ⟨⟨by decide +kernel, by decide +kernel⟩, List.mem_of_getElem? (i := 11) (by decide +kernel), List.mem_of_getElem? (i := 421) (by decide +kernel), List.mem_of_getElem? (i := 422) (by decide +kernel)⟩
theorem lw_p26 : lw_okq (⟨"SkyTenders", "canBe", "(I)Z"⟩, 11) := ⟨⟨by decide +kernel, by decide +kernel⟩, List.mem_of_getElem? (i := 11) (by decide +kernel), List.mem_of_getElem? (i := 429) (by decide +kernel), List.mem_of_getElem? (i := 430) (by decide +kernel)⟩
theorem lw_p27 : lw_okq (⟨"SkyTenders", "changesTrial", "(III)Z"⟩, 11) := ⟨⟨by decide +kernel, by decide +kernel⟩, List.mem_of_getElem? (i := 11) (by decide +kernel), List.mem_of_getElem? (i := 433) (by decide +kernel), List.mem_of_getElem? (i := 434) (by decide +kernel)⟩
theorem lw_p28 : lw_okq (⟨"SkyTenders$Seen", "add", "(IIZ)Z"⟩, 4) := ⟨⟨by decide +kernel, by decide +kernel⟩, List.mem_of_getElem? (i := 149) (by decide +kernel), List.mem_of_getElem? (i := 456) (by decide +kernel), List.mem_of_getElem? (i := 457) (by decide +kernel)⟩
theorem lw_p29 : lw_okq (⟨"SkyTenders", "allSeenIsSo", "(LSkyTenders$Tender;)Z"⟩, 11) := ⟨⟨by decide +kernel, by decide +kernel⟩, List.mem_of_getElem? (i := 11) (by decide +kernel), List.mem_of_getElem? (i := 468) (by decide +kernel), List.mem_of_getElem? (i := 469) (by decide +kernel)⟩
theorem lw_p30 : lw_okq (⟨"SkyTenders", "chanceOfLeft", "(II)I"⟩, 11) := ⟨⟨by decide +kernel, by decide +kernel⟩, List.mem_of_getElem? (i := 11) (by decide +kernel), List.mem_of_getElem? (i := 476) (by decide +kernel), List.mem_of_getElem? (i := 477) (by decide +kernel)⟩
theorem lw_p31 : lw_okq (⟨"SkyTenders", "roomOf", "(I)LSkyTenders$Tender;"⟩, 11) := ⟨⟨by decide +kernel, by decide +kernel⟩, List.mem_of_getElem? (i := 11) (by decide +kernel), List.mem_of_getElem? (i := 494) (by decide +kernel), List.mem_of_getElem? (i := 495) (by decide +kernel)⟩
def lw_privs_2 : List (MethodName × Nat) := [(⟨"SkyTenders", "unitsInBest", "(LSkyTenders$Tender;I)I"⟩, 11), (⟨"SkyTenders", "paidTo", "(LSkyTenders$Tender;I)I"⟩, 11), (⟨"SkyTenders", "doNow", "(III)I"⟩, 11), (⟨"SkyTenders$Tender", "refusal", "(III)I"⟩, 8), (⟨"SkyTenders$Tender", "change", "(III)I"⟩, 8), (⟨"SkyTenders$Doings", "add", "(III)V"⟩, 4), (⟨"SkyTenders$Doings", "forgetFirst", "()V"⟩, 4), (⟨"SkyTenders", "spell", "(JI)Z"⟩, 11), (⟨"SkyTenders$Tender", "hasLeague", "(I)Z"⟩, 8), (⟨"SkyTenders", "sharesOf", "(I)I"⟩, 11), (⟨"SkyTenders", "canBe", "(I)Z"⟩, 11), (⟨"SkyTenders", "changesTrial", "(III)Z"⟩, 11), (⟨"SkyTenders$Seen", "add", "(IIZ)Z"⟩, 4), (⟨"SkyTenders", "allSeenIsSo", "(LSkyTenders$Tender;)Z"⟩, 11), (⟨"SkyTenders", "chanceOfLeft", "(II)I"⟩, 11), (⟨"SkyTenders", "roomOf", "(I)LSkyTenders$Tender;"⟩, 11)]
theorem lw_r2 : ∀ q ∈ lw_privs_2, lw_okq q := List.forall_mem_cons.mpr ⟨lw_p16, List.forall_mem_cons.mpr ⟨lw_p17, List.forall_mem_cons.mpr ⟨lw_p18, List.forall_mem_cons.mpr ⟨lw_p19, List.forall_mem_cons.mpr ⟨lw_p20, List.forall_mem_cons.mpr ⟨lw_p21, List.forall_mem_cons.mpr ⟨lw_p22, List.forall_mem_cons.mpr ⟨lw_p23, List.forall_mem_cons.mpr ⟨lw_p24, List.forall_mem_cons.mpr ⟨lw_p25, List.forall_mem_cons.mpr ⟨lw_p26, List.forall_mem_cons.mpr ⟨lw_p27, List.forall_mem_cons.mpr ⟨lw_p28, List.forall_mem_cons.mpr ⟨lw_p29, List.forall_mem_cons.mpr ⟨lw_p30, List.forall_mem_cons.mpr ⟨lw_p31, fun _ h => absurd h List.not_mem_nil⟩⟩⟩⟩⟩⟩⟩⟩⟩⟩⟩⟩⟩⟩⟩⟩
theorem lw_p32 : lw_okq (⟨"SkyTendersModel", "readText", "()I"⟩, 31) := ⟨⟨by decide +kernel, by decide +kernel⟩, List.mem_of_getElem? (i := 502) (by decide +kernel), List.mem_of_getElem? (i := 618) (by decide +kernel), List.mem_of_getElem? (i := 619) (by decide +kernel)⟩
theorem lw_p33 : lw_okq (⟨"SkyTendersModel", "take", "(I)Z"⟩, 31) := ⟨⟨by decide +kernel, by decide +kernel⟩, List.mem_of_getElem? (i := 502) (by decide +kernel), List.mem_of_getElem? (i := 622) (by decide +kernel), List.mem_of_getElem? (i := 623) (by decide +kernel)⟩
theorem lw_p34 : lw_okq (⟨"SkyTendersModel", "takePart", "(I)Z"⟩, 31) := ⟨⟨by decide +kernel, by decide +kernel⟩, List.mem_of_getElem? (i := 502) (by decide +kernel), List.mem_of_getElem? (i := 631) (by decide +kernel), List.mem_of_getElem? (i := 632) (by decide +kernel)⟩
theorem lw_p35 : lw_okq (⟨"SkyTendersModel", "takeMore", "(II)Z"⟩, 31) := ⟨⟨by decide +kernel, by decide +kernel⟩, List.mem_of_getElem? (i := 502) (by decide +kernel), List.mem_of_getElem? (i := 636) (by decide +kernel), List.mem_of_getElem? (i := 637) (by decide +kernel)⟩
theorem lw_p36 : lw_okq (⟨"SkyTendersModel", "allMakers", "()I"⟩, 31) := ⟨⟨by decide +kernel, by decide +kernel⟩, List.mem_of_getElem? (i := 502) (by decide +kernel), List.mem_of_getElem? (i := 648) (by decide +kernel), List.mem_of_getElem? (i := 649) (by decide +kernel)⟩
theorem lw_p37 : lw_okq (⟨"SkyTendersModel", "leastBy", "([II)I"⟩, 31) := ⟨⟨by decide +kernel, by decide +kernel⟩, List.mem_of_getElem? (i := 502) (by decide +kernel), List.mem_of_getElem? (i := 652) (by decide +kernel), List.mem_of_getElem? (i := 653) (by decide +kernel)⟩
theorem lw_p38 : lw_okq (⟨"SkyTendersModel", "find", "([II)V"⟩, 31) := ⟨⟨by decide +kernel, by decide +kernel⟩, List.mem_of_getElem? (i := 502) (by decide +kernel), List.mem_of_getElem? (i := 656) (by decide +kernel), List.mem_of_getElem? (i := 657) (by decide +kernel)⟩
theorem lw_p39 : lw_okq (⟨"SkyTendersModel", "costOf", "([IIII)I"⟩, 31) := ⟨⟨by decide +kernel, by decide +kernel⟩, List.mem_of_getElem? (i := 502) (by decide +kernel), List.mem_of_getElem? (i := 663) (by decide +kernel), List.mem_of_getElem? (i := 664) (by decide +kernel)⟩
theorem lw_p40 : lw_okq (⟨"SkyTendersModel", "servedBy", "(III)I"⟩, 31) := ⟨⟨by decide +kernel, by decide +kernel⟩, List.mem_of_getElem? (i := 502) (by decide +kernel), List.mem_of_getElem? (i := 667) (by decide +kernel), List.mem_of_getElem? (i := 668) (by decide +kernel)⟩
theorem lw_p41 : lw_okq (⟨"SkyTendersModel", "mayServe", "([IIIII)Z"⟩, 31) := ⟨⟨by decide +kernel, by decide +kernel⟩, List.mem_of_getElem? (i := 502) (by decide +kernel), List.mem_of_getElem? (i := 671) (by decide +kernel), List.mem_of_getElem? (i := 672) (by decide +kernel)⟩
theorem lw_p42 : lw_okq (⟨"SkyTendersModel", "isMaker", "(I)Z"⟩, 31) := ⟨⟨by decide +kernel, by decide +kernel⟩, List.mem_of_getElem? (i := 502) (by decide +kernel), List.mem_of_getElem? (i := 675) (by decide +kernel), List.mem_of_getElem? (i := 676) (by decide +kernel)⟩
theorem lw_p43 : lw_okq (⟨"SkyTendersModel", "mostOf", "([II)I"⟩, 31) := ⟨⟨by decide +kernel, by decide +kernel⟩, List.mem_of_getElem? (i := 502) (by decide +kernel), List.mem_of_getElem? (i := 682) (by decide +kernel), List.mem_of_getElem? (i := 683) (by decide +kernel)⟩
theorem lw_p44 : lw_okq (⟨"SkyTendersModel", "run", "()V"⟩, 31) := ⟨⟨by decide +kernel, by decide +kernel⟩, List.mem_of_getElem? (i := 502) (by decide +kernel), List.mem_of_getElem? (i := 686) (by decide +kernel), List.mem_of_getElem? (i := 687) (by decide +kernel)⟩
theorem lw_p45 : lw_okq (⟨"SkyTendersModel", "layTrial", "()V"⟩, 31) := ⟨⟨by decide +kernel, by decide +kernel⟩, List.mem_of_getElem? (i := 502) (by decide +kernel), List.mem_of_getElem? (i := 690) (by decide +kernel), List.mem_of_getElem? (i := 691) (by decide +kernel)⟩
theorem lw_p46 : lw_okq (⟨"SkyTendersModel", "unitsOf", "([II)I"⟩, 31) := ⟨⟨by decide +kernel, by decide +kernel⟩, List.mem_of_getElem? (i := 502) (by decide +kernel), List.mem_of_getElem? (i := 694) (by decide +kernel), List.mem_of_getElem? (i := 695) (by decide +kernel)⟩
theorem lw_p47 : lw_okq (⟨"SkyTendersModel", "isField", "(I)Z"⟩, 31) := ⟨⟨by decide +kernel, by decide +kernel⟩, List.mem_of_getElem? (i := 502) (by decide +kernel), List.mem_of_getElem? (i := 702) (by decide +kernel), List.mem_of_getElem? (i := 703) (by decide +kernel)⟩
def lw_privs_3 : List (MethodName × Nat) := [(⟨"SkyTendersModel", "readText", "()I"⟩, 31), (⟨"SkyTendersModel", "take", "(I)Z"⟩, 31), (⟨"SkyTendersModel", "takePart", "(I)Z"⟩, 31), (⟨"SkyTendersModel", "takeMore", "(II)Z"⟩, 31), (⟨"SkyTendersModel", "allMakers", "()I"⟩, 31), (⟨"SkyTendersModel", "leastBy", "([II)I"⟩, 31), (⟨"SkyTendersModel", "find", "([II)V"⟩, 31), (⟨"SkyTendersModel", "costOf", "([IIII)I"⟩, 31), (⟨"SkyTendersModel", "servedBy", "(III)I"⟩, 31), (⟨"SkyTendersModel", "mayServe", "([IIIII)Z"⟩, 31), (⟨"SkyTendersModel", "isMaker", "(I)Z"⟩, 31), (⟨"SkyTendersModel", "mostOf", "([II)I"⟩, 31), (⟨"SkyTendersModel", "run", "()V"⟩, 31), (⟨"SkyTendersModel", "layTrial", "()V"⟩, 31), (⟨"SkyTendersModel", "unitsOf", "([II)I"⟩, 31), (⟨"SkyTendersModel", "isField", "(I)Z"⟩, 31)]
theorem lw_r3 : ∀ q ∈ lw_privs_3, lw_okq q := List.forall_mem_cons.mpr ⟨lw_p32, List.forall_mem_cons.mpr ⟨lw_p33, List.forall_mem_cons.mpr ⟨lw_p34, List.forall_mem_cons.mpr ⟨lw_p35, List.forall_mem_cons.mpr ⟨lw_p36, List.forall_mem_cons.mpr ⟨lw_p37, List.forall_mem_cons.mpr ⟨lw_p38, List.forall_mem_cons.mpr ⟨lw_p39, List.forall_mem_cons.mpr ⟨lw_p40, List.forall_mem_cons.mpr ⟨lw_p41, List.forall_mem_cons.mpr ⟨lw_p42, List.forall_mem_cons.mpr ⟨lw_p43, List.forall_mem_cons.mpr ⟨lw_p44, List.forall_mem_cons.mpr ⟨lw_p45, List.forall_mem_cons.mpr ⟨lw_p46, List.forall_mem_cons.mpr ⟨lw_p47, fun _ h => absurd h List.not_mem_nil⟩⟩⟩⟩⟩⟩⟩⟩⟩⟩⟩⟩⟩⟩⟩⟩
theorem lw_p48 : lw_okq (⟨"SkyTendersModel", "paid", "([II)I"⟩, 31) := ⟨⟨by decide +kernel, by decide +kernel⟩, List.mem_of_getElem? (i := 502) (by decide +kernel), List.mem_of_getElem? (i := 710) (by decide +kernel), List.mem_of_getElem? (i := 711) (by decide +kernel)⟩
theorem lw_p49 : lw_okq (⟨"SkyTendersModel", "change", "(II)V"⟩, 31) := ⟨⟨by decide +kernel, by decide +kernel⟩, List.mem_of_getElem? (i := 502) (by decide +kernel), List.mem_of_getElem? (i := 719) (by decide +kernel), List.mem_of_getElem? (i := 720) (by decide +kernel)⟩
theorem lw_p50 : lw_okq (⟨"SkyTendersModel", "sharesOf", "(II)I"⟩, 31) := ⟨⟨by decide +kernel, by decide +kernel⟩, List.mem_of_getElem? (i := 502) (by decide +kernel), List.mem_of_getElem? (i := 769) (by decide +kernel), List.mem_of_getElem? (i := 770) (by decide +kernel)⟩
theorem lw_p51 : lw_okq (⟨"SkyTendersModel", "judged", "(IIII)Z"⟩, 31) := ⟨⟨by decide +kernel, by decide +kernel⟩, List.mem_of_getElem? (i := 502) (by decide +kernel), List.mem_of_getElem? (i := 781) (by decide +kernel), List.mem_of_getElem? (i := 782) (by decide +kernel)⟩
theorem lw_p52 : lw_okq (⟨"SkyTendersModel", "isOrder", "(I)Z"⟩, 31) := ⟨⟨by decide +kernel, by decide +kernel⟩, List.mem_of_getElem? (i := 502) (by decide +kernel), List.mem_of_getElem? (i := 789) (by decide +kernel), List.mem_of_getElem? (i := 790) (by decide +kernel)⟩
theorem lw_p53 : lw_okq (⟨"SkyTendersModel", "agrees", "()Z"⟩, 31) := ⟨⟨by decide +kernel, by decide +kernel⟩, List.mem_of_getElem? (i := 502) (by decide +kernel), List.mem_of_getElem? (i := 814) (by decide +kernel), List.mem_of_getElem? (i := 815) (by decide +kernel)⟩
def lw_privs_4 : List (MethodName × Nat) := [(⟨"SkyTendersModel", "paid", "([II)I"⟩, 31), (⟨"SkyTendersModel", "change", "(II)V"⟩, 31), (⟨"SkyTendersModel", "sharesOf", "(II)I"⟩, 31), (⟨"SkyTendersModel", "judged", "(IIII)Z"⟩, 31), (⟨"SkyTendersModel", "isOrder", "(I)Z"⟩, 31), (⟨"SkyTendersModel", "agrees", "()Z"⟩, 31)]
theorem lw_r4 : ∀ q ∈ lw_privs_4, lw_okq q := List.forall_mem_cons.mpr ⟨lw_p48, List.forall_mem_cons.mpr ⟨lw_p49, List.forall_mem_cons.mpr ⟨lw_p50, List.forall_mem_cons.mpr ⟨lw_p51, List.forall_mem_cons.mpr ⟨lw_p52, List.forall_mem_cons.mpr ⟨lw_p53, fun _ h => absurd h List.not_mem_nil⟩⟩⟩⟩⟩⟩
def lw_privs : List (MethodName × Nat) := lw_privs_1 ++ (lw_privs_2 ++ (lw_privs_3 ++ (lw_privs_4)))
def lw_tbl : List Cond := k2_sels lw_privs ++ tables_1
theorem lw_privs_ok : ∀ q ∈ lw_privs, lw_okq q := by
  show ∀ q ∈ lw_privs_1 ++ (lw_privs_2 ++ (lw_privs_3 ++ (lw_privs_4))), lw_okq q
  exact List.forall_mem_append.mpr ⟨lw_r1, List.forall_mem_append.mpr ⟨lw_r2, List.forall_mem_append.mpr ⟨lw_r3, lw_r4⟩⟩⟩

def RX0 : String := "SkyTenders$Doings"
def TX0 : u_T := fun k => match k with
  | 0 => ("SkyTenders$Doings", "count", "I", false)
  | 1 => ("SkyTenders$Doings", "kind", "[I", true)
  | 2 => ("SkyTenders$Doings", "place", "[I", true)
  | _ => ("SkyTenders$Doings", "was", "[I", true)
def tyX0 : Nat → FieldType := fun k => match k with
  | 0 => .int
  | 1 => .array .int
  | 2 => .array .int
  | _ => .array .int
theorem nmX0 : ∀ a, a < 4 → ∀ b, b < 4 → a ≠ b → (TX0 a).2.1 ≠ (TX0 b).2.1 := by decide +kernel
theorem tyX0_ok : ∀ k, k < 4 → parseFieldDescriptor (TX0 k).2.2.1 = some (tyX0 k) := by decide +kernel
abbrev cX0_init : ByteArray := prog_2_method_1_code
def yX0_init : MethodName := ⟨RX0, "<init>", "()V"⟩
abbrev cX0_add : ByteArray := prog_2_method_2_code
def yX0_add : MethodName := ⟨RX0, "add", "(III)V"⟩
abbrev cX0_forgetFirst : ByteArray := prog_2_method_3_code
def yX0_forgetFirst : MethodName := ⟨RX0, "forgetFirst", "()V"⟩
def RX1 : String := "SkyTenders$Run"
def TX1 : u_T := fun k => match k with
  | 0 => ("SkyTenders$Run", "years", "I", false)
  | 1 => ("SkyTenders$Run", "spent", "I", false)
  | _ => ("SkyTenders$Run", "firstSmell", "I", false)
def tyX1 : Nat → FieldType := fun k => match k with
  | 0 => .int
  | 1 => .int
  | _ => .int
theorem nmX1 : ∀ a, a < 3 → ∀ b, b < 3 → a ≠ b → (TX1 a).2.1 ≠ (TX1 b).2.1 := by decide +kernel
theorem tyX1_ok : ∀ k, k < 3 → parseFieldDescriptor (TX1 k).2.2.1 = some (tyX1 k) := by decide +kernel
abbrev cX1_init : ByteArray := prog_3_method_1_code
def yX1_init : MethodName := ⟨RX1, "<init>", "()V"⟩
def RX2 : String := "SkyTenders$Search"
def TX2 : u_T := fun k => match k with
  | 0 => ("SkyTenders$Search", "found", "I", false)
  | 1 => ("SkyTenders$Search", "by", "[I", true)
  | 2 => ("SkyTenders$Search", "tried", "[I", true)
  | _ => ("SkyTenders$Search", "left", "[I", true)
def tyX2 : Nat → FieldType := fun k => match k with
  | 0 => .int
  | 1 => .array .int
  | 2 => .array .int
  | _ => .array .int
theorem nmX2 : ∀ a, a < 4 → ∀ b, b < 4 → a ≠ b → (TX2 a).2.1 ≠ (TX2 b).2.1 := by decide +kernel
theorem tyX2_ok : ∀ k, k < 4 → parseFieldDescriptor (TX2 k).2.2.1 = some (tyX2 k) := by decide +kernel
abbrev cX2_init : ByteArray := prog_4_method_1_code
def yX2_init : MethodName := ⟨RX2, "<init>", "()V"⟩
abbrev cX2_stockUp : ByteArray := prog_4_method_2_code
def yX2_stockUp : MethodName := ⟨RX2, "stockUp", "(LSkyTenders$Tender;I)V"⟩
abbrev cX2_canServe : ByteArray := prog_4_method_3_code
def yX2_canServe : MethodName := ⟨RX2, "canServe", "(LSkyTenders$Tender;II)Z"⟩
abbrev cX2_takeTried : ByteArray := prog_4_method_4_code
def yX2_takeTried : MethodName := ⟨RX2, "takeTried", "(II)V"⟩
abbrev cX2_unitsBy : ByteArray := prog_4_method_5_code
def yX2_unitsBy : MethodName := ⟨RX2, "unitsBy", "(LSkyTenders$Tender;I)I"⟩
abbrev cX2_smells : ByteArray := prog_4_method_6_code
def yX2_smells : MethodName := ⟨RX2, "smells", "(LSkyTenders$Tender;)Z"⟩
def RX3 : String := "SkyTenders$Seen"
def TX3 : u_T := fun k => match k with
  | 0 => ("SkyTenders$Seen", "count", "I", false)
  | 1 => ("SkyTenders$Seen", "field", "[I", true)
  | 2 => ("SkyTenders$Seen", "by", "[I", true)
  | _ => ("SkyTenders$Seen", "was", "[Z", true)
def tyX3 : Nat → FieldType := fun k => match k with
  | 0 => .int
  | 1 => .array .int
  | 2 => .array .int
  | _ => .array .boolean
theorem nmX3 : ∀ a, a < 4 → ∀ b, b < 4 → a ≠ b → (TX3 a).2.1 ≠ (TX3 b).2.1 := by decide +kernel
theorem tyX3_ok : ∀ k, k < 4 → parseFieldDescriptor (TX3 k).2.2.1 = some (tyX3 k) := by decide +kernel
abbrev cX3_init : ByteArray := prog_5_method_1_code
def yX3_init : MethodName := ⟨RX3, "<init>", "()V"⟩
abbrev cX3_add : ByteArray := prog_5_method_2_code
def yX3_add : MethodName := ⟨RX3, "add", "(IIZ)Z"⟩
def RX4 : String := "SkyTenders$Tender"
def TX4 : u_T := fun k => match k with
  | 0 => ("SkyTenders$Tender", "fields", "I", false)
  | 1 => ("SkyTenders$Tender", "makers", "I", false)
  | 2 => ("SkyTenders$Tender", "patience", "I", false)
  | 3 => ("SkyTenders$Tender", "weather", "[I", true)
  | 4 => ("SkyTenders$Tender", "units", "[I", true)
  | 5 => ("SkyTenders$Tender", "weathers", "[I", true)
  | 6 => ("SkyTenders$Tender", "stock", "[I", true)
  | _ => ("SkyTenders$Tender", "price", "[I", true)
def tyX4 : Nat → FieldType := fun k => match k with
  | 0 => .int
  | 1 => .int
  | 2 => .int
  | 3 => .array .int
  | 4 => .array .int
  | 5 => .array .int
  | 6 => .array .int
  | _ => .array .int
theorem nmX4 : ∀ a, a < 8 → ∀ b, b < 8 → a ≠ b → (TX4 a).2.1 ≠ (TX4 b).2.1 := by decide +kernel
theorem tyX4_ok : ∀ k, k < 8 → parseFieldDescriptor (TX4 k).2.2.1 = some (tyX4 k) := by decide +kernel
abbrev cX4_init : ByteArray := prog_6_method_1_code
def yX4_init : MethodName := ⟨RX4, "<init>", "()V"⟩
abbrev cX4_become : ByteArray := prog_6_method_2_code
def yX4_become : MethodName := ⟨RX4, "become", "(LSkyTenders$Tender;)V"⟩
abbrev cX4_hasField : ByteArray := prog_6_method_3_code
def yX4_hasField : MethodName := ⟨RX4, "hasField", "(I)Z"⟩
abbrev cX4_hasMaker : ByteArray := prog_6_method_4_code
def yX4_hasMaker : MethodName := ⟨RX4, "hasMaker", "(I)Z"⟩
abbrev cX4_hasLeague : ByteArray := prog_6_method_5_code
def yX4_hasLeague : MethodName := ⟨RX4, "hasLeague", "(I)Z"⟩
abbrev cX4_allMakers : ByteArray := prog_6_method_6_code
def yX4_allMakers : MethodName := ⟨RX4, "allMakers", "()I"⟩
abbrev cX4_makes : ByteArray := prog_6_method_7_code
def yX4_makes : MethodName := ⟨RX4, "makes", "(II)Z"⟩
abbrev cX4_couldBeSecondHand : ByteArray := prog_6_method_8_code
def yX4_couldBeSecondHand : MethodName := ⟨RX4, "couldBeSecondHand", "(I)Z"⟩
abbrev cX4_refusal : ByteArray := prog_6_method_9_code
def yX4_refusal : MethodName := ⟨RX4, "refusal", "(III)I"⟩
abbrev cX4_change : ByteArray := prog_6_method_10_code
def yX4_change : MethodName := ⟨RX4, "change", "(III)I"⟩
def RX5 : String := "SkyTenders$Text"
def TX5 : u_T := fun k => match k with
  | 0 => ("SkyTenders$Text", "length", "I", false)
  | _ => ("SkyTenders$Text", "letters", "[I", true)
def tyX5 : Nat → FieldType := fun k => match k with
  | 0 => .int
  | _ => .array .int
theorem nmX5 : ∀ a, a < 2 → ∀ b, b < 2 → a ≠ b → (TX5 a).2.1 ≠ (TX5 b).2.1 := by decide +kernel
theorem tyX5_ok : ∀ k, k < 2 → parseFieldDescriptor (TX5 k).2.2.1 = some (tyX5 k) := by decide +kernel
abbrev cX5_init : ByteArray := prog_7_method_1_code
def yX5_init : MethodName := ⟨RX5, "<init>", "()V"⟩
abbrev cX5_append : ByteArray := prog_7_method_2_code
def yX5_append : MethodName := ⟨RX5, "append", "(I)Z"⟩
abbrev cX5_readInto : ByteArray := prog_7_method_3_code
def yX5_readInto : MethodName := ⟨RX5, "readInto", "(LSkyTenders$Tender;)I"⟩
abbrev cX5_behind : ByteArray := prog_7_method_4_code
def yX5_behind : MethodName := ⟨RX5, "behind", "(IILSkyTenders$Tender;)I"⟩
abbrev cX5_behindHead : ByteArray := prog_7_method_5_code
def yX5_behindHead : MethodName := ⟨RX5, "behindHead", "(ILSkyTenders$Tender;)I"⟩
abbrev cX5_behindFieldWeather : ByteArray := prog_7_method_6_code
def yX5_behindFieldWeather : MethodName := ⟨RX5, "behindFieldWeather", "(ILSkyTenders$Tender;)I"⟩
abbrev cX5_behindFieldUnits : ByteArray := prog_7_method_7_code
def yX5_behindFieldUnits : MethodName := ⟨RX5, "behindFieldUnits", "(ILSkyTenders$Tender;)I"⟩
abbrev cX5_behindMakerWeatherOrStock : ByteArray := prog_7_method_8_code
def yX5_behindMakerWeatherOrStock : MethodName := ⟨RX5, "behindMakerWeatherOrStock", "(ILSkyTenders$Tender;)I"⟩
abbrev cX5_behindMakerPrice : ByteArray := prog_7_method_9_code
def yX5_behindMakerPrice : MethodName := ⟨RX5, "behindMakerPrice", "(ILSkyTenders$Tender;)I"⟩
abbrev cX5_isFigure : ByteArray := prog_7_method_10_code
def yX5_isFigure : MethodName := ⟨RX5, "isFigure", "(I)Z"⟩
abbrev cX5_weatherOf : ByteArray := prog_7_method_11_code
def yX5_weatherOf : MethodName := ⟨RX5, "weatherOf", "(I)I"⟩
def RX6 : String := "SkyTenders"
def TX6 : u_T := fun k => match k with
  | 0 => ("SkyTenders", "text", "LSkyTenders$Text;", true)
  | 1 => ("SkyTenders", "now", "LSkyTenders$Tender;", true)
  | 2 => ("SkyTenders", "trial", "LSkyTenders$Tender;", true)
  | 3 => ("SkyTenders", "search", "LSkyTenders$Search;", true)
  | 4 => ("SkyTenders", "run", "LSkyTenders$Run;", true)
  | 5 => ("SkyTenders", "doings", "LSkyTenders$Doings;", true)
  | 6 => ("SkyTenders", "seen", "LSkyTenders$Seen;", true)
  | 7 => ("SkyTenders", "kept", "[LSkyTenders$Tender;", true)
  | 8 => ("SkyTenders", "figures", "[I", true)
  | 9 => ("SkyTenders", "keptSlots", "I", false)
  | _ => ("SkyTenders", "theSeed", "J", false)
def tyX6 : Nat → FieldType := fun k => match k with
  | 0 => .object "SkyTenders$Text"
  | 1 => .object "SkyTenders$Tender"
  | 2 => .object "SkyTenders$Tender"
  | 3 => .object "SkyTenders$Search"
  | 4 => .object "SkyTenders$Run"
  | 5 => .object "SkyTenders$Doings"
  | 6 => .object "SkyTenders$Seen"
  | 7 => .array (.object "SkyTenders$Tender")
  | 8 => .array .int
  | 9 => .int
  | _ => .long
theorem nmX6 : ∀ a, a < 11 → ∀ b, b < 11 → a ≠ b → (TX6 a).2.1 ≠ (TX6 b).2.1 := by decide +kernel
theorem tyX6_ok : ∀ k, k < 11 → parseFieldDescriptor (TX6 k).2.2.1 = some (tyX6 k) := by decide +kernel
abbrev cX6_init : ByteArray := prog_1_method_1_code
def yX6_init : MethodName := ⟨RX6, "<init>", "()V"⟩
abbrev cX6_write : ByteArray := prog_1_method_2_code
def yX6_write : MethodName := ⟨RX6, "write", "(I)I"⟩
abbrev cX6_wipe : ByteArray := prog_1_method_3_code
def yX6_wipe : MethodName := ⟨RX6, "wipe", "()I"⟩
abbrev cX6_fault : ByteArray := prog_1_method_4_code
def yX6_fault : MethodName := ⟨RX6, "fault", "()I"⟩
abbrev cX6_tender : ByteArray := prog_1_method_5_code
def yX6_tender : MethodName := ⟨RX6, "tender", "()I"⟩
abbrev cX6_about : ByteArray := prog_1_method_6_code
def yX6_about : MethodName := ⟨RX6, "about", "(I)I"⟩
abbrev cX6_field : ByteArray := prog_1_method_7_code
def yX6_field : MethodName := ⟨RX6, "field", "(II)I"⟩
abbrev cX6_maker : ByteArray := prog_1_method_8_code
def yX6_maker : MethodName := ⟨RX6, "maker", "(II)I"⟩
abbrev cX6_reprice : ByteArray := prog_1_method_9_code
def yX6_reprice : MethodName := ⟨RX6, "reprice", "(II)I"⟩
abbrev cX6_restock : ByteArray := prog_1_method_10_code
def yX6_restock : MethodName := ⟨RX6, "restock", "(II)I"⟩
abbrev cX6_want : ByteArray := prog_1_method_11_code
def yX6_want : MethodName := ⟨RX6, "want", "(II)I"⟩
abbrev cX6_bear : ByteArray := prog_1_method_12_code
def yX6_bear : MethodName := ⟨RX6, "bear", "(I)I"⟩
abbrev cX6_undo : ByteArray := prog_1_method_13_code
def yX6_undo : MethodName := ⟨RX6, "undo", "()I"⟩
abbrev cX6_doNow : ByteArray := prog_1_method_14_code
def yX6_doNow : MethodName := ⟨RX6, "doNow", "(III)I"⟩
abbrev cX6_best : ByteArray := prog_1_method_15_code
def yX6_best : MethodName := ⟨RX6, "best", "()I"⟩
abbrev cX6_cost : ByteArray := prog_1_method_16_code
def yX6_cost : MethodName := ⟨RX6, "cost", "(I)I"⟩
abbrev cX6_gain : ByteArray := prog_1_method_17_code
def yX6_gain : MethodName := ⟨RX6, "gain", "(II)I"⟩
abbrev cX6_ran : ByteArray := prog_1_method_18_code
def yX6_ran : MethodName := ⟨RX6, "ran", "(I)I"⟩
abbrev cX6_least : ByteArray := prog_1_method_19_code
def yX6_least : MethodName := ⟨RX6, "least", "(I)I"⟩
abbrev cX6_most : ByteArray := prog_1_method_20_code
def yX6_most : MethodName := ⟨RX6, "most", "(I)I"⟩
abbrev cX6_holds : ByteArray := prog_1_method_21_code
def yX6_holds : MethodName := ⟨RX6, "holds", "(I)I"⟩
abbrev cX6_judge : ByteArray := prog_1_method_22_code
def yX6_judge : MethodName := ⟨RX6, "judge", "(IJ)I"⟩
abbrev cX6_share : ByteArray := prog_1_method_23_code
def yX6_share : MethodName := ⟨RX6, "share", "(IZ)I"⟩
abbrev cX6_see : ByteArray := prog_1_method_24_code
def yX6_see : MethodName := ⟨RX6, "see", "(III)I"⟩
abbrev cX6_unsee : ByteArray := prog_1_method_25_code
def yX6_unsee : MethodName := ⟨RX6, "unsee", "()I"⟩
abbrev cX6_which : ByteArray := prog_1_method_26_code
def yX6_which : MethodName := ⟨RX6, "which", "(I)I"⟩
abbrev cX6_gone : ByteArray := prog_1_method_27_code
def yX6_gone : MethodName := ⟨RX6, "gone", "(IZ)I"⟩
abbrev cX6_seed : ByteArray := prog_1_method_28_code
def yX6_seed : MethodName := ⟨RX6, "seed", "(J)J"⟩
abbrev cX6_drawn : ByteArray := prog_1_method_29_code
def yX6_drawn : MethodName := ⟨RX6, "drawn", "(I)I"⟩
abbrev cX6_keep : ByteArray := prog_1_method_30_code
def yX6_keep : MethodName := ⟨RX6, "keep", "(I)I"⟩
abbrev cX6_again : ByteArray := prog_1_method_31_code
def yX6_again : MethodName := ⟨RX6, "again", "(I)I"⟩
abbrev cX6_roomOf : ByteArray := prog_1_method_32_code
def yX6_roomOf : MethodName := ⟨RX6, "roomOf", "(I)LSkyTenders$Tender;"⟩
abbrev cX6_cheapest : ByteArray := prog_1_method_33_code
def yX6_cheapest : MethodName := ⟨RX6, "cheapest", "(LSkyTenders$Tender;I)I"⟩
abbrev cX6_serveFrom : ByteArray := prog_1_method_34_code
def yX6_serveFrom : MethodName := ⟨RX6, "serveFrom", "(LSkyTenders$Tender;LSkyTenders$Search;III)V"⟩
abbrev cX6_mostServed : ByteArray := prog_1_method_35_code
def yX6_mostServed : MethodName := ⟨RX6, "mostServed", "(LSkyTenders$Tender;I)I"⟩
abbrev cX6_countFrom : ByteArray := prog_1_method_36_code
def yX6_countFrom : MethodName := ⟨RX6, "countFrom", "(LSkyTenders$Tender;LSkyTenders$Search;III)V"⟩
abbrev cX6_unitsInBest : ByteArray := prog_1_method_37_code
def yX6_unitsInBest : MethodName := ⟨RX6, "unitsInBest", "(LSkyTenders$Tender;I)I"⟩
abbrev cX6_paidTo : ByteArray := prog_1_method_38_code
def yX6_paidTo : MethodName := ⟨RX6, "paidTo", "(LSkyTenders$Tender;I)I"⟩
abbrev cX6_runYears : ByteArray := prog_1_method_39_code
def yX6_runYears : MethodName := ⟨RX6, "runYears", "()V"⟩
abbrev cX6_sharesOf : ByteArray := prog_1_method_40_code
def yX6_sharesOf : MethodName := ⟨RX6, "sharesOf", "(I)I"⟩
abbrev cX6_canBe : ByteArray := prog_1_method_41_code
def yX6_canBe : MethodName := ⟨RX6, "canBe", "(I)Z"⟩
abbrev cX6_changesTrial : ByteArray := prog_1_method_42_code
def yX6_changesTrial : MethodName := ⟨RX6, "changesTrial", "(III)Z"⟩
abbrev cX6_allSeenIsSo : ByteArray := prog_1_method_43_code
def yX6_allSeenIsSo : MethodName := ⟨RX6, "allSeenIsSo", "(LSkyTenders$Tender;)Z"⟩
abbrev cX6_chanceOfLeft : ByteArray := prog_1_method_44_code
def yX6_chanceOfLeft : MethodName := ⟨RX6, "chanceOfLeft", "(II)I"⟩
abbrev cX6_partOfFraction : ByteArray := prog_1_method_45_code
def yX6_partOfFraction : MethodName := ⟨RX6, "partOfFraction", "(IIZ)I"⟩
abbrev cX6_spell : ByteArray := prog_1_method_46_code
def yX6_spell : MethodName := ⟨RX6, "spell", "(JI)Z"⟩
abbrev cX6_asFigures : ByteArray := prog_1_method_47_code
def yX6_asFigures : MethodName := ⟨RX6, "asFigures", "([II)I"⟩
def RX7 : String := "SkyTendersModel"
def TX7 : u_T := fun k => match k with
  | 0 => ("SkyTendersModel", "text", "[I", true)
  | 1 => ("SkyTendersModel", "length", "I", false)
  | 2 => ("SkyTendersModel", "fields", "I", false)
  | 3 => ("SkyTendersModel", "makers", "I", false)
  | 4 => ("SkyTendersModel", "weather", "[I", true)
  | 5 => ("SkyTendersModel", "makes", "[I", true)
  | 6 => ("SkyTendersModel", "now", "[I", true)
  | 7 => ("SkyTendersModel", "trial", "[I", true)
  | 8 => ("SkyTendersModel", "diary", "[I", true)
  | 9 => ("SkyTendersModel", "doings", "I", false)
  | 10 => ("SkyTendersModel", "next", "I", false)
  | 11 => ("SkyTendersModel", "kept", "[I", true)
  | 12 => ("SkyTendersModel", "isKept", "[Z", true)
  | 13 => ("SkyTendersModel", "readFields", "I", false)
  | 14 => ("SkyTendersModel", "readMakers", "I", false)
  | 15 => ("SkyTendersModel", "readWeather", "[I", true)
  | 16 => ("SkyTendersModel", "readMakes", "[I", true)
  | 17 => ("SkyTendersModel", "readRow", "[I", true)
  | 18 => ("SkyTendersModel", "seenField", "[I", true)
  | 19 => ("SkyTendersModel", "seenBy", "[I", true)
  | 20 => ("SkyTendersModel", "seenWas", "[I", true)
  | 21 => ("SkyTendersModel", "seen", "I", false)
  | 22 => ("SkyTendersModel", "seed", "J", false)
  | 23 => ("SkyTendersModel", "leastCost", "I", false)
  | 24 => ("SkyTendersModel", "bestCode", "I", false)
  | 25 => ("SkyTendersModel", "used", "[I", true)
  | 26 => ("SkyTendersModel", "worth", "[I", true)
  | 27 => ("SkyTendersModel", "wanted", "I", false)
  | 28 => ("SkyTendersModel", "years", "I", false)
  | 29 => ("SkyTendersModel", "firstHand", "I", false)
  | _ => ("SkyTendersModel", "yearsCost", "I", false)
def tyX7 : Nat → FieldType := fun k => match k with
  | 0 => .array .int
  | 1 => .int
  | 2 => .int
  | 3 => .int
  | 4 => .array .int
  | 5 => .array .int
  | 6 => .array .int
  | 7 => .array .int
  | 8 => .array .int
  | 9 => .int
  | 10 => .int
  | 11 => .array .int
  | 12 => .array .boolean
  | 13 => .int
  | 14 => .int
  | 15 => .array .int
  | 16 => .array .int
  | 17 => .array .int
  | 18 => .array .int
  | 19 => .array .int
  | 20 => .array .int
  | 21 => .int
  | 22 => .long
  | 23 => .int
  | 24 => .int
  | 25 => .array .int
  | 26 => .array .int
  | 27 => .int
  | 28 => .int
  | 29 => .int
  | _ => .int
theorem nmX7 : ∀ a, a < 31 → ∀ b, b < 31 → a ≠ b → (TX7 a).2.1 ≠ (TX7 b).2.1 := by decide +kernel
theorem tyX7_ok : ∀ k, k < 31 → parseFieldDescriptor (TX7 k).2.2.1 = some (tyX7 k) := by decide +kernel
abbrev cX7_init : ByteArray := prog_9_method_1_code
def yX7_init : MethodName := ⟨RX7, "<init>", "()V"⟩
abbrev cX7_in : ByteArray := prog_9_method_3_code
def yX7_in : MethodName := ⟨RX7, "in", "(JJJ)Z"⟩
abbrev cX7_has : ByteArray := prog_9_method_4_code
def yX7_has : MethodName := ⟨RX7, "has", "(II)Z"⟩
abbrev cX7_power : ByteArray := prog_9_method_5_code
def yX7_power : MethodName := ⟨RX7, "power", "(II)I"⟩
abbrev cX7_divisor : ByteArray := prog_9_method_6_code
def yX7_divisor : MethodName := ⟨RX7, "divisor", "(II)I"⟩
abbrev cX7_fraction : ByteArray := prog_9_method_7_code
def yX7_fraction : MethodName := ⟨RX7, "fraction", "(IIZ)I"⟩
abbrev cX7_isField : ByteArray := prog_9_method_8_code
def yX7_isField : MethodName := ⟨RX7, "isField", "(I)Z"⟩
abbrev cX7_isMaker : ByteArray := prog_9_method_9_code
def yX7_isMaker : MethodName := ⟨RX7, "isMaker", "(I)Z"⟩
abbrev cX7_allMakers : ByteArray := prog_9_method_10_code
def yX7_allMakers : MethodName := ⟨RX7, "allMakers", "()I"⟩
abbrev cX7_write : ByteArray := prog_9_method_11_code
def yX7_write : MethodName := ⟨RX7, "write", "(I)I"⟩
abbrev cX7_wipe : ByteArray := prog_9_method_12_code
def yX7_wipe : MethodName := ⟨RX7, "wipe", "()I"⟩
abbrev cX7_weatherOf : ByteArray := prog_9_method_13_code
def yX7_weatherOf : MethodName := ⟨RX7, "weatherOf", "(I)I"⟩
abbrev cX7_take : ByteArray := prog_9_method_14_code
def yX7_take : MethodName := ⟨RX7, "take", "(I)Z"⟩
abbrev cX7_takePart : ByteArray := prog_9_method_15_code
def yX7_takePart : MethodName := ⟨RX7, "takePart", "(I)Z"⟩
abbrev cX7_takeMore : ByteArray := prog_9_method_16_code
def yX7_takeMore : MethodName := ⟨RX7, "takeMore", "(II)Z"⟩
abbrev cX7_readText : ByteArray := prog_9_method_17_code
def yX7_readText : MethodName := ⟨RX7, "readText", "()I"⟩
abbrev cX7_fault : ByteArray := prog_9_method_18_code
def yX7_fault : MethodName := ⟨RX7, "fault", "()I"⟩
abbrev cX7_tender : ByteArray := prog_9_method_19_code
def yX7_tender : MethodName := ⟨RX7, "tender", "()I"⟩
abbrev cX7_servedBy : ByteArray := prog_9_method_20_code
def yX7_servedBy : MethodName := ⟨RX7, "servedBy", "(III)I"⟩
abbrev cX7_mayServe : ByteArray := prog_9_method_21_code
def yX7_mayServe : MethodName := ⟨RX7, "mayServe", "([IIIII)Z"⟩
abbrev cX7_costOf : ByteArray := prog_9_method_22_code
def yX7_costOf : MethodName := ⟨RX7, "costOf", "([IIII)I"⟩
abbrev cX7_find : ByteArray := prog_9_method_23_code
def yX7_find : MethodName := ⟨RX7, "find", "([II)V"⟩
abbrev cX7_leastBy : ByteArray := prog_9_method_24_code
def yX7_leastBy : MethodName := ⟨RX7, "leastBy", "([II)I"⟩
abbrev cX7_unitsOf : ByteArray := prog_9_method_25_code
def yX7_unitsOf : MethodName := ⟨RX7, "unitsOf", "([II)I"⟩
abbrev cX7_paid : ByteArray := prog_9_method_26_code
def yX7_paid : MethodName := ⟨RX7, "paid", "([II)I"⟩
abbrev cX7_mostOf : ByteArray := prog_9_method_27_code
def yX7_mostOf : MethodName := ⟨RX7, "mostOf", "([II)I"⟩
abbrev cX7_run : ByteArray := prog_9_method_28_code
def yX7_run : MethodName := ⟨RX7, "run", "()V"⟩
abbrev cX7_layTrial : ByteArray := prog_9_method_29_code
def yX7_layTrial : MethodName := ⟨RX7, "layTrial", "()V"⟩
abbrev cX7_about : ByteArray := prog_9_method_30_code
def yX7_about : MethodName := ⟨RX7, "about", "(I)I"⟩
abbrev cX7_field : ByteArray := prog_9_method_31_code
def yX7_field : MethodName := ⟨RX7, "field", "(II)I"⟩
abbrev cX7_maker : ByteArray := prog_9_method_32_code
def yX7_maker : MethodName := ⟨RX7, "maker", "(II)I"⟩
abbrev cX7_change : ByteArray := prog_9_method_33_code
def yX7_change : MethodName := ⟨RX7, "change", "(II)V"⟩
abbrev cX7_reprice : ByteArray := prog_9_method_34_code
def yX7_reprice : MethodName := ⟨RX7, "reprice", "(II)I"⟩
abbrev cX7_restock : ByteArray := prog_9_method_35_code
def yX7_restock : MethodName := ⟨RX7, "restock", "(II)I"⟩
abbrev cX7_want : ByteArray := prog_9_method_36_code
def yX7_want : MethodName := ⟨RX7, "want", "(II)I"⟩
abbrev cX7_bear : ByteArray := prog_9_method_37_code
def yX7_bear : MethodName := ⟨RX7, "bear", "(I)I"⟩
abbrev cX7_undo : ByteArray := prog_9_method_38_code
def yX7_undo : MethodName := ⟨RX7, "undo", "()I"⟩
abbrev cX7_best : ByteArray := prog_9_method_39_code
def yX7_best : MethodName := ⟨RX7, "best", "()I"⟩
abbrev cX7_cost : ByteArray := prog_9_method_40_code
def yX7_cost : MethodName := ⟨RX7, "cost", "(I)I"⟩
abbrev cX7_gain : ByteArray := prog_9_method_41_code
def yX7_gain : MethodName := ⟨RX7, "gain", "(II)I"⟩
abbrev cX7_ran : ByteArray := prog_9_method_42_code
def yX7_ran : MethodName := ⟨RX7, "ran", "(I)I"⟩
abbrev cX7_least : ByteArray := prog_9_method_43_code
def yX7_least : MethodName := ⟨RX7, "least", "(I)I"⟩
abbrev cX7_most : ByteArray := prog_9_method_44_code
def yX7_most : MethodName := ⟨RX7, "most", "(I)I"⟩
abbrev cX7_sharesOf : ByteArray := prog_9_method_45_code
def yX7_sharesOf : MethodName := ⟨RX7, "sharesOf", "(II)I"⟩
abbrev cX7_holds : ByteArray := prog_9_method_46_code
def yX7_holds : MethodName := ⟨RX7, "holds", "(I)I"⟩
abbrev cX7_judged : ByteArray := prog_9_method_47_code
def yX7_judged : MethodName := ⟨RX7, "judged", "(IIII)Z"⟩
abbrev cX7_tenThousands : ByteArray := prog_9_method_48_code
def yX7_tenThousands : MethodName := ⟨RX7, "tenThousands", "(I)J"⟩
abbrev cX7_judge : ByteArray := prog_9_method_49_code
def yX7_judge : MethodName := ⟨RX7, "judge", "(IJ)I"⟩
abbrev cX7_makerAt : ByteArray := prog_9_method_50_code
def yX7_makerAt : MethodName := ⟨RX7, "makerAt", "(II)I"⟩
abbrev cX7_isOrder : ByteArray := prog_9_method_51_code
def yX7_isOrder : MethodName := ⟨RX7, "isOrder", "(I)Z"⟩
abbrev cX7_share : ByteArray := prog_9_method_52_code
def yX7_share : MethodName := ⟨RX7, "share", "(IZ)I"⟩
abbrev cX7_see : ByteArray := prog_9_method_53_code
def yX7_see : MethodName := ⟨RX7, "see", "(III)I"⟩
abbrev cX7_unsee : ByteArray := prog_9_method_54_code
def yX7_unsee : MethodName := ⟨RX7, "unsee", "()I"⟩
abbrev cX7_agrees : ByteArray := prog_9_method_55_code
def yX7_agrees : MethodName := ⟨RX7, "agrees", "()Z"⟩
abbrev cX7_which : ByteArray := prog_9_method_56_code
def yX7_which : MethodName := ⟨RX7, "which", "(I)I"⟩
abbrev cX7_gone : ByteArray := prog_9_method_57_code
def yX7_gone : MethodName := ⟨RX7, "gone", "(IZ)I"⟩
abbrev cX7_seed : ByteArray := prog_9_method_58_code
def yX7_seed : MethodName := ⟨RX7, "seed", "(J)J"⟩
abbrev cX7_drawn : ByteArray := prog_9_method_59_code
def yX7_drawn : MethodName := ⟨RX7, "drawn", "(I)I"⟩
abbrev cX7_keep : ByteArray := prog_9_method_60_code
def yX7_keep : MethodName := ⟨RX7, "keep", "(I)I"⟩
abbrev cX7_again : ByteArray := prog_9_method_61_code
def yX7_again : MethodName := ⟨RX7, "again", "(I)I"⟩
def RJ6 : String := "java/lang/Integer"
abbrev cJ6_bitCount_0f7a4 : ByteArray := prog_10_method_49_code
def yJ6_bitCount_0f7a4 : MethodName := ⟨RJ6, "bitCount", "(I)I"⟩
def RL : String := "SkyTendersLaw"
abbrev cL_law : ByteArray := code
theorem iX0 : ∀ w ∈ u_ws RX0 TX0 4, w ∈ lw_tbl := by decide +kernel
theorem iX1 : ∀ w ∈ u_ws RX1 TX1 3, w ∈ lw_tbl := by decide +kernel
theorem iX2 : ∀ w ∈ u_ws RX2 TX2 4, w ∈ lw_tbl := by decide +kernel
theorem iX3 : ∀ w ∈ u_ws RX3 TX3 4, w ∈ lw_tbl := by decide +kernel
theorem iX4 : ∀ w ∈ u_ws RX4 TX4 8, w ∈ lw_tbl := by decide +kernel
theorem iX5 : ∀ w ∈ u_ws RX5 TX5 2, w ∈ lw_tbl := by decide +kernel
theorem iX6 : ∀ w ∈ u_ws RX6 TX6 11, w ∈ lw_tbl := by decide +kernel
theorem iX7 : ∀ w ∈ u_ws RX7 TX7 31, w ∈ lw_tbl := by decide +kernel
abbrev vwCl : List vw_C := [(RX0, TX0, 4), (RX1, TX1, 3), (RX2, TX2, 4), (RX3, TX3, 4), (RX4, TX4, 8), (RX5, TX5, 2), (RX6, TX6, 11), (RX7, TX7, 31)]
end
section
theorem dX0_init_0 : decode cX0_init 0 = .ok (.aload_n 0, 1) := by decide +kernel
theorem dX0_init_1 : decode cX0_init 1 = .ok (.invokespecial 3, 3) := by decide +kernel
theorem dX0_init_4 : decode cX0_init 4 = .ok (.aload_n 0, 1) := by decide +kernel
theorem dX0_init_5 : decode cX0_init 5 = .ok (.iconst 0, 1) := by decide +kernel
theorem dX0_init_6 : decode cX0_init 6 = .ok (.putfield 9, 3) := by decide +kernel
theorem dX0_init_9 : decode cX0_init 9 = .ok (.aload_n 0, 1) := by decide +kernel
theorem dX0_init_10 : decode cX0_init 10 = .ok (.bipush 14, 2) := by decide +kernel
theorem dX0_init_12 : decode cX0_init 12 = .ok (.newarray .int, 2) := by decide +kernel
theorem dX0_init_14 : decode cX0_init 14 = .ok (.putfield 15, 3) := by decide +kernel
theorem dX0_init_17 : decode cX0_init 17 = .ok (.aload_n 0, 1) := by decide +kernel
theorem dX0_init_18 : decode cX0_init 18 = .ok (.bipush 14, 2) := by decide +kernel
theorem dX0_init_20 : decode cX0_init 20 = .ok (.newarray .int, 2) := by decide +kernel
theorem dX0_init_22 : decode cX0_init 22 = .ok (.putfield 19, 3) := by decide +kernel
theorem dX0_init_25 : decode cX0_init 25 = .ok (.aload_n 0, 1) := by decide +kernel
theorem dX0_init_26 : decode cX0_init 26 = .ok (.bipush 14, 2) := by decide +kernel
theorem dX0_init_28 : decode cX0_init 28 = .ok (.newarray .int, 2) := by decide +kernel
theorem dX0_init_30 : decode cX0_init 30 = .ok (.putfield 22, 3) := by decide +kernel
theorem dX0_init_33 : decode cX0_init 33 = .ok (.return_, 1) := by decide +kernel
theorem dX0_add_0 : decode cX0_add 0 = .ok (.aload_n 0, 1) := by decide +kernel
theorem dX0_add_1 : decode cX0_add 1 = .ok (.getfield 9, 3) := by decide +kernel
theorem dX0_add_4 : decode cX0_add 4 = .ok (.bipush 14, 2) := by decide +kernel
theorem dX0_add_6 : decode cX0_add 6 = .ok (.if_icmp .lt 7, 3) := by decide +kernel
theorem dX0_add_9 : decode cX0_add 9 = .ok (.aload_n 0, 1) := by decide +kernel
theorem dX0_add_10 : decode cX0_add 10 = .ok (.invokevirtual 25, 3) := by decide +kernel
theorem dX0_add_13 : decode cX0_add 13 = .ok (.aload_n 0, 1) := by decide +kernel
theorem dX0_add_14 : decode cX0_add 14 = .ok (.getfield 15, 3) := by decide +kernel
theorem dX0_add_17 : decode cX0_add 17 = .ok (.aload_n 0, 1) := by decide +kernel
theorem dX0_add_18 : decode cX0_add 18 = .ok (.getfield 9, 3) := by decide +kernel
theorem dX0_add_21 : decode cX0_add 21 = .ok (.iload_n 1, 1) := by decide +kernel
theorem dX0_add_22 : decode cX0_add 22 = .ok (.iastore, 1) := by decide +kernel
theorem dX0_add_23 : decode cX0_add 23 = .ok (.aload_n 0, 1) := by decide +kernel
theorem dX0_add_24 : decode cX0_add 24 = .ok (.getfield 19, 3) := by decide +kernel
theorem dX0_add_27 : decode cX0_add 27 = .ok (.aload_n 0, 1) := by decide +kernel
theorem dX0_add_28 : decode cX0_add 28 = .ok (.getfield 9, 3) := by decide +kernel
theorem dX0_add_31 : decode cX0_add 31 = .ok (.iload_n 2, 1) := by decide +kernel
theorem dX0_add_32 : decode cX0_add 32 = .ok (.iastore, 1) := by decide +kernel
theorem dX0_add_33 : decode cX0_add 33 = .ok (.aload_n 0, 1) := by decide +kernel
theorem dX0_add_34 : decode cX0_add 34 = .ok (.getfield 22, 3) := by decide +kernel
theorem dX0_add_37 : decode cX0_add 37 = .ok (.aload_n 0, 1) := by decide +kernel
theorem dX0_add_38 : decode cX0_add 38 = .ok (.getfield 9, 3) := by decide +kernel
theorem dX0_add_41 : decode cX0_add 41 = .ok (.iload_n 3, 1) := by decide +kernel
theorem dX0_add_42 : decode cX0_add 42 = .ok (.iastore, 1) := by decide +kernel
theorem dX0_add_43 : decode cX0_add 43 = .ok (.aload_n 0, 1) := by decide +kernel
theorem dX0_add_44 : decode cX0_add 44 = .ok (.dup, 1) := by decide +kernel
theorem dX0_add_45 : decode cX0_add 45 = .ok (.getfield 9, 3) := by decide +kernel
theorem dX0_add_48 : decode cX0_add 48 = .ok (.iconst 1, 1) := by decide +kernel
theorem dX0_add_49 : decode cX0_add 49 = .ok (.iadd, 1) := by decide +kernel
theorem dX0_add_50 : decode cX0_add 50 = .ok (.putfield 9, 3) := by decide +kernel
theorem dX0_add_53 : decode cX0_add 53 = .ok (.return_, 1) := by decide +kernel
theorem dX0_forgetFirst_0 : decode cX0_forgetFirst 0 = .ok (.iconst 1, 1) := by decide +kernel
theorem dX0_forgetFirst_1 : decode cX0_forgetFirst 1 = .ok (.istore_n 1, 1) := by decide +kernel
theorem dX0_forgetFirst_2 : decode cX0_forgetFirst 2 = .ok (.iload_n 1, 1) := by decide +kernel
theorem dX0_forgetFirst_3 : decode cX0_forgetFirst 3 = .ok (.bipush 14, 2) := by decide +kernel
theorem dX0_forgetFirst_5 : decode cX0_forgetFirst 5 = .ok (.if_icmp .ge 51, 3) := by decide +kernel
theorem dX0_forgetFirst_8 : decode cX0_forgetFirst 8 = .ok (.aload_n 0, 1) := by decide +kernel
theorem dX0_forgetFirst_9 : decode cX0_forgetFirst 9 = .ok (.getfield 15, 3) := by decide +kernel
theorem dX0_forgetFirst_12 : decode cX0_forgetFirst 12 = .ok (.iload_n 1, 1) := by decide +kernel
theorem dX0_forgetFirst_13 : decode cX0_forgetFirst 13 = .ok (.iconst 1, 1) := by decide +kernel
theorem dX0_forgetFirst_14 : decode cX0_forgetFirst 14 = .ok (.isub, 1) := by decide +kernel
theorem dX0_forgetFirst_15 : decode cX0_forgetFirst 15 = .ok (.aload_n 0, 1) := by decide +kernel
theorem dX0_forgetFirst_16 : decode cX0_forgetFirst 16 = .ok (.getfield 15, 3) := by decide +kernel
theorem dX0_forgetFirst_19 : decode cX0_forgetFirst 19 = .ok (.iload_n 1, 1) := by decide +kernel
theorem dX0_forgetFirst_20 : decode cX0_forgetFirst 20 = .ok (.iaload, 1) := by decide +kernel
theorem dX0_forgetFirst_21 : decode cX0_forgetFirst 21 = .ok (.iastore, 1) := by decide +kernel
theorem dX0_forgetFirst_22 : decode cX0_forgetFirst 22 = .ok (.aload_n 0, 1) := by decide +kernel
theorem dX0_forgetFirst_23 : decode cX0_forgetFirst 23 = .ok (.getfield 19, 3) := by decide +kernel
theorem dX0_forgetFirst_26 : decode cX0_forgetFirst 26 = .ok (.iload_n 1, 1) := by decide +kernel
theorem dX0_forgetFirst_27 : decode cX0_forgetFirst 27 = .ok (.iconst 1, 1) := by decide +kernel
theorem dX0_forgetFirst_28 : decode cX0_forgetFirst 28 = .ok (.isub, 1) := by decide +kernel
theorem dX0_forgetFirst_29 : decode cX0_forgetFirst 29 = .ok (.aload_n 0, 1) := by decide +kernel
theorem dX0_forgetFirst_30 : decode cX0_forgetFirst 30 = .ok (.getfield 19, 3) := by decide +kernel
theorem dX0_forgetFirst_33 : decode cX0_forgetFirst 33 = .ok (.iload_n 1, 1) := by decide +kernel
theorem dX0_forgetFirst_34 : decode cX0_forgetFirst 34 = .ok (.iaload, 1) := by decide +kernel
theorem dX0_forgetFirst_35 : decode cX0_forgetFirst 35 = .ok (.iastore, 1) := by decide +kernel
theorem dX0_forgetFirst_36 : decode cX0_forgetFirst 36 = .ok (.aload_n 0, 1) := by decide +kernel
theorem dX0_forgetFirst_37 : decode cX0_forgetFirst 37 = .ok (.getfield 22, 3) := by decide +kernel
theorem dX0_forgetFirst_40 : decode cX0_forgetFirst 40 = .ok (.iload_n 1, 1) := by decide +kernel
theorem dX0_forgetFirst_41 : decode cX0_forgetFirst 41 = .ok (.iconst 1, 1) := by decide +kernel
theorem dX0_forgetFirst_42 : decode cX0_forgetFirst 42 = .ok (.isub, 1) := by decide +kernel
theorem dX0_forgetFirst_43 : decode cX0_forgetFirst 43 = .ok (.aload_n 0, 1) := by decide +kernel
theorem dX0_forgetFirst_44 : decode cX0_forgetFirst 44 = .ok (.getfield 22, 3) := by decide +kernel
theorem dX0_forgetFirst_47 : decode cX0_forgetFirst 47 = .ok (.iload_n 1, 1) := by decide +kernel
theorem dX0_forgetFirst_48 : decode cX0_forgetFirst 48 = .ok (.iaload, 1) := by decide +kernel
theorem dX0_forgetFirst_49 : decode cX0_forgetFirst 49 = .ok (.iastore, 1) := by decide +kernel
theorem dX0_forgetFirst_50 : decode cX0_forgetFirst 50 = .ok (.iinc 1 1, 3) := by decide +kernel
theorem dX0_forgetFirst_53 : decode cX0_forgetFirst 53 = .ok (.goto (-51), 3) := by decide +kernel
theorem dX0_forgetFirst_56 : decode cX0_forgetFirst 56 = .ok (.aload_n 0, 1) := by decide +kernel
theorem dX0_forgetFirst_57 : decode cX0_forgetFirst 57 = .ok (.bipush 13, 2) := by decide +kernel
theorem dX0_forgetFirst_59 : decode cX0_forgetFirst 59 = .ok (.putfield 9, 3) := by decide +kernel
theorem dX0_forgetFirst_62 : decode cX0_forgetFirst 62 = .ok (.return_, 1) := by decide +kernel
theorem dX1_init_0 : decode cX1_init 0 = .ok (.aload_n 0, 1) := by decide +kernel
theorem dX1_init_1 : decode cX1_init 1 = .ok (.invokespecial 3, 3) := by decide +kernel
theorem dX1_init_4 : decode cX1_init 4 = .ok (.aload_n 0, 1) := by decide +kernel
theorem dX1_init_5 : decode cX1_init 5 = .ok (.iconst 0, 1) := by decide +kernel
theorem dX1_init_6 : decode cX1_init 6 = .ok (.putfield 9, 3) := by decide +kernel
theorem dX1_init_9 : decode cX1_init 9 = .ok (.aload_n 0, 1) := by decide +kernel
theorem dX1_init_10 : decode cX1_init 10 = .ok (.iconst 0, 1) := by decide +kernel
theorem dX1_init_11 : decode cX1_init 11 = .ok (.putfield 15, 3) := by decide +kernel
theorem dX1_init_14 : decode cX1_init 14 = .ok (.aload_n 0, 1) := by decide +kernel
theorem dX1_init_15 : decode cX1_init 15 = .ok (.bipush (-9), 2) := by decide +kernel
theorem dX1_init_17 : decode cX1_init 17 = .ok (.putfield 18, 3) := by decide +kernel
theorem dX1_init_20 : decode cX1_init 20 = .ok (.return_, 1) := by decide +kernel
theorem dX2_init_0 : decode cX2_init 0 = .ok (.aload_n 0, 1) := by decide +kernel
theorem dX2_init_1 : decode cX2_init 1 = .ok (.invokespecial 3, 3) := by decide +kernel
theorem dX2_init_4 : decode cX2_init 4 = .ok (.aload_n 0, 1) := by decide +kernel
theorem dX2_init_5 : decode cX2_init 5 = .ok (.bipush (-9), 2) := by decide +kernel
theorem dX2_init_7 : decode cX2_init 7 = .ok (.putfield 9, 3) := by decide +kernel
theorem dX2_init_10 : decode cX2_init 10 = .ok (.aload_n 0, 1) := by decide +kernel
theorem dX2_init_11 : decode cX2_init 11 = .ok (.iconst 4, 1) := by decide +kernel
theorem dX2_init_12 : decode cX2_init 12 = .ok (.newarray .int, 2) := by decide +kernel
theorem dX2_init_14 : decode cX2_init 14 = .ok (.putfield 15, 3) := by decide +kernel
theorem dX2_init_17 : decode cX2_init 17 = .ok (.aload_n 0, 1) := by decide +kernel
theorem dX2_init_18 : decode cX2_init 18 = .ok (.iconst 4, 1) := by decide +kernel
theorem dX2_init_19 : decode cX2_init 19 = .ok (.newarray .int, 2) := by decide +kernel
theorem dX2_init_21 : decode cX2_init 21 = .ok (.putfield 19, 3) := by decide +kernel
theorem dX2_init_24 : decode cX2_init 24 = .ok (.aload_n 0, 1) := by decide +kernel
theorem dX2_init_25 : decode cX2_init 25 = .ok (.iconst 4, 1) := by decide +kernel
theorem dX2_init_26 : decode cX2_init 26 = .ok (.newarray .int, 2) := by decide +kernel
theorem dX2_init_28 : decode cX2_init 28 = .ok (.putfield 22, 3) := by decide +kernel
theorem dX2_init_31 : decode cX2_init 31 = .ok (.return_, 1) := by decide +kernel
theorem dX2_stockUp_0 : decode cX2_stockUp 0 = .ok (.iconst 0, 1) := by decide +kernel
theorem dX2_stockUp_1 : decode cX2_stockUp 1 = .ok (.istore_n 3, 1) := by decide +kernel
theorem dX2_stockUp_2 : decode cX2_stockUp 2 = .ok (.iload_n 3, 1) := by decide +kernel
theorem dX2_stockUp_3 : decode cX2_stockUp 3 = .ok (.iconst 4, 1) := by decide +kernel
theorem dX2_stockUp_4 : decode cX2_stockUp 4 = .ok (.if_icmp .ge 42, 3) := by decide +kernel
theorem dX2_stockUp_7 : decode cX2_stockUp 7 = .ok (.aload_n 0, 1) := by decide +kernel
theorem dX2_stockUp_8 : decode cX2_stockUp 8 = .ok (.getfield 22, 3) := by decide +kernel
theorem dX2_stockUp_11 : decode cX2_stockUp 11 = .ok (.iload_n 3, 1) := by decide +kernel
theorem dX2_stockUp_12 : decode cX2_stockUp 12 = .ok (.iload_n 3, 1) := by decide +kernel
theorem dX2_stockUp_13 : decode cX2_stockUp 13 = .ok (.aload_n 1, 1) := by decide +kernel
theorem dX2_stockUp_14 : decode cX2_stockUp 14 = .ok (.getfield 25, 3) := by decide +kernel
theorem dX2_stockUp_17 : decode cX2_stockUp 17 = .ok (.if_icmp .ge 21, 3) := by decide +kernel
theorem dX2_stockUp_20 : decode cX2_stockUp 20 = .ok (.iload_n 2, 1) := by decide +kernel
theorem dX2_stockUp_21 : decode cX2_stockUp 21 = .ok (.iload_n 3, 1) := by decide +kernel
theorem dX2_stockUp_22 : decode cX2_stockUp 22 = .ok (.ishr, 1) := by decide +kernel
theorem dX2_stockUp_23 : decode cX2_stockUp 23 = .ok (.iconst 1, 1) := by decide +kernel
theorem dX2_stockUp_24 : decode cX2_stockUp 24 = .ok (.iand, 1) := by decide +kernel
theorem dX2_stockUp_25 : decode cX2_stockUp 25 = .ok (.iconst 1, 1) := by decide +kernel
theorem dX2_stockUp_26 : decode cX2_stockUp 26 = .ok (.if_icmp .ne 12, 3) := by decide +kernel
theorem dX2_stockUp_29 : decode cX2_stockUp 29 = .ok (.aload_n 1, 1) := by decide +kernel
theorem dX2_stockUp_30 : decode cX2_stockUp 30 = .ok (.getfield 30, 3) := by decide +kernel
theorem dX2_stockUp_33 : decode cX2_stockUp 33 = .ok (.iload_n 3, 1) := by decide +kernel
theorem dX2_stockUp_34 : decode cX2_stockUp 34 = .ok (.iaload, 1) := by decide +kernel
theorem dX2_stockUp_35 : decode cX2_stockUp 35 = .ok (.goto 4, 3) := by decide +kernel
theorem dX2_stockUp_38 : decode cX2_stockUp 38 = .ok (.iconst 0, 1) := by decide +kernel
theorem dX2_stockUp_39 : decode cX2_stockUp 39 = .ok (.iastore, 1) := by decide +kernel
theorem dX2_stockUp_40 : decode cX2_stockUp 40 = .ok (.iinc 3 1, 3) := by decide +kernel
theorem dX2_stockUp_43 : decode cX2_stockUp 43 = .ok (.goto (-41), 3) := by decide +kernel
theorem dX2_stockUp_46 : decode cX2_stockUp 46 = .ok (.return_, 1) := by decide +kernel
theorem dX2_canServe_0 : decode cX2_canServe 0 = .ok (.aload_n 1, 1) := by decide +kernel
theorem dX2_canServe_1 : decode cX2_canServe 1 = .ok (.iload_n 2, 1) := by decide +kernel
theorem dX2_canServe_2 : decode cX2_canServe 2 = .ok (.iload_n 3, 1) := by decide +kernel
theorem dX2_canServe_3 : decode cX2_canServe 3 = .ok (.invokevirtual 33, 3) := by decide +kernel
theorem dX2_canServe_6 : decode cX2_canServe 6 = .ok (.ifCond .eq 22, 3) := by decide +kernel
theorem dX2_canServe_9 : decode cX2_canServe 9 = .ok (.aload_n 0, 1) := by decide +kernel
theorem dX2_canServe_10 : decode cX2_canServe 10 = .ok (.getfield 22, 3) := by decide +kernel
theorem dX2_canServe_13 : decode cX2_canServe 13 = .ok (.iload_n 2, 1) := by decide +kernel
theorem dX2_canServe_14 : decode cX2_canServe 14 = .ok (.iaload, 1) := by decide +kernel
theorem dX2_canServe_15 : decode cX2_canServe 15 = .ok (.aload_n 1, 1) := by decide +kernel
theorem dX2_canServe_16 : decode cX2_canServe 16 = .ok (.getfield 37, 3) := by decide +kernel
theorem dX2_canServe_19 : decode cX2_canServe 19 = .ok (.iload_n 3, 1) := by decide +kernel
theorem dX2_canServe_20 : decode cX2_canServe 20 = .ok (.iaload, 1) := by decide +kernel
theorem dX2_canServe_21 : decode cX2_canServe 21 = .ok (.if_icmp .lt 7, 3) := by decide +kernel
theorem dX2_canServe_24 : decode cX2_canServe 24 = .ok (.iconst 1, 1) := by decide +kernel
theorem dX2_canServe_25 : decode cX2_canServe 25 = .ok (.goto 4, 3) := by decide +kernel
theorem dX2_canServe_28 : decode cX2_canServe 28 = .ok (.iconst 0, 1) := by decide +kernel
theorem dX2_canServe_29 : decode cX2_canServe 29 = .ok (.ireturn, 1) := by decide +kernel
theorem dX2_takeTried_0 : decode cX2_takeTried 0 = .ok (.aload_n 0, 1) := by decide +kernel
theorem dX2_takeTried_1 : decode cX2_takeTried 1 = .ok (.iload_n 2, 1) := by decide +kernel
theorem dX2_takeTried_2 : decode cX2_takeTried 2 = .ok (.putfield 9, 3) := by decide +kernel
theorem dX2_takeTried_5 : decode cX2_takeTried 5 = .ok (.iconst 0, 1) := by decide +kernel
theorem dX2_takeTried_6 : decode cX2_takeTried 6 = .ok (.istore_n 3, 1) := by decide +kernel
theorem dX2_takeTried_7 : decode cX2_takeTried 7 = .ok (.iload_n 3, 1) := by decide +kernel
theorem dX2_takeTried_8 : decode cX2_takeTried 8 = .ok (.iload_n 1, 1) := by decide +kernel
theorem dX2_takeTried_9 : decode cX2_takeTried 9 = .ok (.if_icmp .ge 21, 3) := by decide +kernel
theorem dX2_takeTried_12 : decode cX2_takeTried 12 = .ok (.aload_n 0, 1) := by decide +kernel
theorem dX2_takeTried_13 : decode cX2_takeTried 13 = .ok (.getfield 15, 3) := by decide +kernel
theorem dX2_takeTried_16 : decode cX2_takeTried 16 = .ok (.iload_n 3, 1) := by decide +kernel
theorem dX2_takeTried_17 : decode cX2_takeTried 17 = .ok (.aload_n 0, 1) := by decide +kernel
theorem dX2_takeTried_18 : decode cX2_takeTried 18 = .ok (.getfield 19, 3) := by decide +kernel
theorem dX2_takeTried_21 : decode cX2_takeTried 21 = .ok (.iload_n 3, 1) := by decide +kernel
theorem dX2_takeTried_22 : decode cX2_takeTried 22 = .ok (.iaload, 1) := by decide +kernel
theorem dX2_takeTried_23 : decode cX2_takeTried 23 = .ok (.iastore, 1) := by decide +kernel
theorem dX2_takeTried_24 : decode cX2_takeTried 24 = .ok (.iinc 3 1, 3) := by decide +kernel
theorem dX2_takeTried_27 : decode cX2_takeTried 27 = .ok (.goto (-20), 3) := by decide +kernel
theorem dX2_takeTried_30 : decode cX2_takeTried 30 = .ok (.return_, 1) := by decide +kernel
theorem dX2_unitsBy_0 : decode cX2_unitsBy 0 = .ok (.iconst 0, 1) := by decide +kernel
theorem dX2_unitsBy_1 : decode cX2_unitsBy 1 = .ok (.istore_n 3, 1) := by decide +kernel
theorem dX2_unitsBy_2 : decode cX2_unitsBy 2 = .ok (.iconst 0, 1) := by decide +kernel
theorem dX2_unitsBy_3 : decode cX2_unitsBy 3 = .ok (.istore 4, 2) := by decide +kernel
theorem dX2_unitsBy_5 : decode cX2_unitsBy 5 = .ok (.iload 4, 2) := by decide +kernel
theorem dX2_unitsBy_7 : decode cX2_unitsBy 7 = .ok (.aload_n 1, 1) := by decide +kernel
theorem dX2_unitsBy_8 : decode cX2_unitsBy 8 = .ok (.getfield 40, 3) := by decide +kernel
theorem dX2_unitsBy_11 : decode cX2_unitsBy 11 = .ok (.if_icmp .ge 34, 3) := by decide +kernel
theorem dX2_unitsBy_14 : decode cX2_unitsBy 14 = .ok (.iload_n 3, 1) := by decide +kernel
theorem dX2_unitsBy_15 : decode cX2_unitsBy 15 = .ok (.aload_n 0, 1) := by decide +kernel
theorem dX2_unitsBy_16 : decode cX2_unitsBy 16 = .ok (.getfield 15, 3) := by decide +kernel
theorem dX2_unitsBy_19 : decode cX2_unitsBy 19 = .ok (.iload 4, 2) := by decide +kernel
theorem dX2_unitsBy_21 : decode cX2_unitsBy 21 = .ok (.iaload, 1) := by decide +kernel
theorem dX2_unitsBy_22 : decode cX2_unitsBy 22 = .ok (.iload_n 2, 1) := by decide +kernel
theorem dX2_unitsBy_23 : decode cX2_unitsBy 23 = .ok (.if_icmp .ne 13, 3) := by decide +kernel
theorem dX2_unitsBy_26 : decode cX2_unitsBy 26 = .ok (.aload_n 1, 1) := by decide +kernel
theorem dX2_unitsBy_27 : decode cX2_unitsBy 27 = .ok (.getfield 37, 3) := by decide +kernel
theorem dX2_unitsBy_30 : decode cX2_unitsBy 30 = .ok (.iload 4, 2) := by decide +kernel
theorem dX2_unitsBy_32 : decode cX2_unitsBy 32 = .ok (.iaload, 1) := by decide +kernel
theorem dX2_unitsBy_33 : decode cX2_unitsBy 33 = .ok (.goto 4, 3) := by decide +kernel
theorem dX2_unitsBy_36 : decode cX2_unitsBy 36 = .ok (.iconst 0, 1) := by decide +kernel
theorem dX2_unitsBy_37 : decode cX2_unitsBy 37 = .ok (.iadd, 1) := by decide +kernel
theorem dX2_unitsBy_38 : decode cX2_unitsBy 38 = .ok (.istore_n 3, 1) := by decide +kernel
theorem dX2_unitsBy_39 : decode cX2_unitsBy 39 = .ok (.iinc 4 1, 3) := by decide +kernel
theorem dX2_unitsBy_42 : decode cX2_unitsBy 42 = .ok (.goto (-37), 3) := by decide +kernel
theorem dX2_unitsBy_45 : decode cX2_unitsBy 45 = .ok (.iload_n 3, 1) := by decide +kernel
theorem dX2_unitsBy_46 : decode cX2_unitsBy 46 = .ok (.ireturn, 1) := by decide +kernel
theorem dX2_smells_0 : decode cX2_smells 0 = .ok (.iconst 0, 1) := by decide +kernel
theorem dX2_smells_1 : decode cX2_smells 1 = .ok (.istore_n 2, 1) := by decide +kernel
theorem dX2_smells_2 : decode cX2_smells 2 = .ok (.iload_n 2, 1) := by decide +kernel
theorem dX2_smells_3 : decode cX2_smells 3 = .ok (.aload_n 1, 1) := by decide +kernel
theorem dX2_smells_4 : decode cX2_smells 4 = .ok (.getfield 40, 3) := by decide +kernel
theorem dX2_smells_7 : decode cX2_smells 7 = .ok (.if_icmp .ge 22, 3) := by decide +kernel
theorem dX2_smells_10 : decode cX2_smells 10 = .ok (.aload_n 0, 1) := by decide +kernel
theorem dX2_smells_11 : decode cX2_smells 11 = .ok (.getfield 15, 3) := by decide +kernel
theorem dX2_smells_14 : decode cX2_smells 14 = .ok (.iload_n 2, 1) := by decide +kernel
theorem dX2_smells_15 : decode cX2_smells 15 = .ok (.iaload, 1) := by decide +kernel
theorem dX2_smells_16 : decode cX2_smells 16 = .ok (.bipush 9, 2) := by decide +kernel
theorem dX2_smells_18 : decode cX2_smells 18 = .ok (.if_icmp .ne 5, 3) := by decide +kernel
theorem dX2_smells_21 : decode cX2_smells 21 = .ok (.iconst 1, 1) := by decide +kernel
theorem dX2_smells_22 : decode cX2_smells 22 = .ok (.ireturn, 1) := by decide +kernel
theorem dX2_smells_23 : decode cX2_smells 23 = .ok (.iinc 2 1, 3) := by decide +kernel
theorem dX2_smells_26 : decode cX2_smells 26 = .ok (.goto (-24), 3) := by decide +kernel
theorem dX2_smells_29 : decode cX2_smells 29 = .ok (.iconst 0, 1) := by decide +kernel
theorem dX2_smells_30 : decode cX2_smells 30 = .ok (.ireturn, 1) := by decide +kernel
theorem dX3_init_0 : decode cX3_init 0 = .ok (.aload_n 0, 1) := by decide +kernel
theorem dX3_init_1 : decode cX3_init 1 = .ok (.invokespecial 3, 3) := by decide +kernel
theorem dX3_init_4 : decode cX3_init 4 = .ok (.aload_n 0, 1) := by decide +kernel
theorem dX3_init_5 : decode cX3_init 5 = .ok (.iconst 0, 1) := by decide +kernel
theorem dX3_init_6 : decode cX3_init 6 = .ok (.putfield 9, 3) := by decide +kernel
theorem dX3_init_9 : decode cX3_init 9 = .ok (.aload_n 0, 1) := by decide +kernel
theorem dX3_init_10 : decode cX3_init 10 = .ok (.bipush 6, 2) := by decide +kernel
theorem dX3_init_12 : decode cX3_init 12 = .ok (.newarray .int, 2) := by decide +kernel
theorem dX3_init_14 : decode cX3_init 14 = .ok (.putfield 15, 3) := by decide +kernel
theorem dX3_init_17 : decode cX3_init 17 = .ok (.aload_n 0, 1) := by decide +kernel
theorem dX3_init_18 : decode cX3_init 18 = .ok (.bipush 6, 2) := by decide +kernel
theorem dX3_init_20 : decode cX3_init 20 = .ok (.newarray .int, 2) := by decide +kernel
theorem dX3_init_22 : decode cX3_init 22 = .ok (.putfield 19, 3) := by decide +kernel
theorem dX3_init_25 : decode cX3_init 25 = .ok (.aload_n 0, 1) := by decide +kernel
theorem dX3_init_26 : decode cX3_init 26 = .ok (.bipush 6, 2) := by decide +kernel
theorem dX3_init_28 : decode cX3_init 28 = .ok (.newarray .boolean, 2) := by decide +kernel
theorem dX3_init_30 : decode cX3_init 30 = .ok (.putfield 22, 3) := by decide +kernel
theorem dX3_init_33 : decode cX3_init 33 = .ok (.return_, 1) := by decide +kernel
theorem dX3_add_0 : decode cX3_add 0 = .ok (.aload_n 0, 1) := by decide +kernel
theorem dX3_add_1 : decode cX3_add 1 = .ok (.getfield 9, 3) := by decide +kernel
theorem dX3_add_4 : decode cX3_add 4 = .ok (.bipush 6, 2) := by decide +kernel
theorem dX3_add_6 : decode cX3_add 6 = .ok (.if_icmp .lt 5, 3) := by decide +kernel
theorem dX3_add_9 : decode cX3_add 9 = .ok (.iconst 0, 1) := by decide +kernel
theorem dX3_add_10 : decode cX3_add 10 = .ok (.ireturn, 1) := by decide +kernel
theorem dX3_add_11 : decode cX3_add 11 = .ok (.aload_n 0, 1) := by decide +kernel
theorem dX3_add_12 : decode cX3_add 12 = .ok (.getfield 15, 3) := by decide +kernel
theorem dX3_add_15 : decode cX3_add 15 = .ok (.aload_n 0, 1) := by decide +kernel
theorem dX3_add_16 : decode cX3_add 16 = .ok (.getfield 9, 3) := by decide +kernel
theorem dX3_add_19 : decode cX3_add 19 = .ok (.iload_n 1, 1) := by decide +kernel
theorem dX3_add_20 : decode cX3_add 20 = .ok (.iastore, 1) := by decide +kernel
theorem dX3_add_21 : decode cX3_add 21 = .ok (.aload_n 0, 1) := by decide +kernel
theorem dX3_add_22 : decode cX3_add 22 = .ok (.getfield 19, 3) := by decide +kernel
theorem dX3_add_25 : decode cX3_add 25 = .ok (.aload_n 0, 1) := by decide +kernel
theorem dX3_add_26 : decode cX3_add 26 = .ok (.getfield 9, 3) := by decide +kernel
theorem dX3_add_29 : decode cX3_add 29 = .ok (.iload_n 2, 1) := by decide +kernel
theorem dX3_add_30 : decode cX3_add 30 = .ok (.iastore, 1) := by decide +kernel
theorem dX3_add_31 : decode cX3_add 31 = .ok (.aload_n 0, 1) := by decide +kernel
theorem dX3_add_32 : decode cX3_add 32 = .ok (.getfield 22, 3) := by decide +kernel
theorem dX3_add_35 : decode cX3_add 35 = .ok (.aload_n 0, 1) := by decide +kernel
theorem dX3_add_36 : decode cX3_add 36 = .ok (.getfield 9, 3) := by decide +kernel
theorem dX3_add_39 : decode cX3_add 39 = .ok (.iload_n 3, 1) := by decide +kernel
theorem dX3_add_40 : decode cX3_add 40 = .ok (.bastore, 1) := by decide +kernel
theorem dX3_add_41 : decode cX3_add 41 = .ok (.aload_n 0, 1) := by decide +kernel
theorem dX3_add_42 : decode cX3_add 42 = .ok (.dup, 1) := by decide +kernel
theorem dX3_add_43 : decode cX3_add 43 = .ok (.getfield 9, 3) := by decide +kernel
theorem dX3_add_46 : decode cX3_add 46 = .ok (.iconst 1, 1) := by decide +kernel
theorem dX3_add_47 : decode cX3_add 47 = .ok (.iadd, 1) := by decide +kernel
theorem dX3_add_48 : decode cX3_add 48 = .ok (.putfield 9, 3) := by decide +kernel
theorem dX3_add_51 : decode cX3_add 51 = .ok (.iconst 1, 1) := by decide +kernel
theorem dX3_add_52 : decode cX3_add 52 = .ok (.ireturn, 1) := by decide +kernel
theorem dX4_init_0 : decode cX4_init 0 = .ok (.aload_n 0, 1) := by decide +kernel
theorem dX4_init_1 : decode cX4_init 1 = .ok (.invokespecial 3, 3) := by decide +kernel
theorem dX4_init_4 : decode cX4_init 4 = .ok (.aload_n 0, 1) := by decide +kernel
theorem dX4_init_5 : decode cX4_init 5 = .ok (.iconst 0, 1) := by decide +kernel
theorem dX4_init_6 : decode cX4_init 6 = .ok (.putfield 9, 3) := by decide +kernel
theorem dX4_init_9 : decode cX4_init 9 = .ok (.aload_n 0, 1) := by decide +kernel
theorem dX4_init_10 : decode cX4_init 10 = .ok (.iconst 0, 1) := by decide +kernel
theorem dX4_init_11 : decode cX4_init 11 = .ok (.putfield 15, 3) := by decide +kernel
theorem dX4_init_14 : decode cX4_init 14 = .ok (.aload_n 0, 1) := by decide +kernel
theorem dX4_init_15 : decode cX4_init 15 = .ok (.iconst 1, 1) := by decide +kernel
theorem dX4_init_16 : decode cX4_init 16 = .ok (.putfield 18, 3) := by decide +kernel
theorem dX4_init_19 : decode cX4_init 19 = .ok (.aload_n 0, 1) := by decide +kernel
theorem dX4_init_20 : decode cX4_init 20 = .ok (.iconst 4, 1) := by decide +kernel
theorem dX4_init_21 : decode cX4_init 21 = .ok (.newarray .int, 2) := by decide +kernel
theorem dX4_init_23 : decode cX4_init 23 = .ok (.putfield 21, 3) := by decide +kernel
theorem dX4_init_26 : decode cX4_init 26 = .ok (.aload_n 0, 1) := by decide +kernel
theorem dX4_init_27 : decode cX4_init 27 = .ok (.iconst 4, 1) := by decide +kernel
theorem dX4_init_28 : decode cX4_init 28 = .ok (.newarray .int, 2) := by decide +kernel
theorem dX4_init_30 : decode cX4_init 30 = .ok (.putfield 25, 3) := by decide +kernel
theorem dX4_init_33 : decode cX4_init 33 = .ok (.aload_n 0, 1) := by decide +kernel
theorem dX4_init_34 : decode cX4_init 34 = .ok (.iconst 4, 1) := by decide +kernel
theorem dX4_init_35 : decode cX4_init 35 = .ok (.newarray .int, 2) := by decide +kernel
theorem dX4_init_37 : decode cX4_init 37 = .ok (.putfield 28, 3) := by decide +kernel
theorem dX4_init_40 : decode cX4_init 40 = .ok (.aload_n 0, 1) := by decide +kernel
theorem dX4_init_41 : decode cX4_init 41 = .ok (.iconst 4, 1) := by decide +kernel
theorem dX4_init_42 : decode cX4_init 42 = .ok (.newarray .int, 2) := by decide +kernel
theorem dX4_init_44 : decode cX4_init 44 = .ok (.putfield 31, 3) := by decide +kernel
theorem dX4_init_47 : decode cX4_init 47 = .ok (.aload_n 0, 1) := by decide +kernel
theorem dX4_init_48 : decode cX4_init 48 = .ok (.iconst 4, 1) := by decide +kernel
theorem dX4_init_49 : decode cX4_init 49 = .ok (.newarray .int, 2) := by decide +kernel
theorem dX4_init_51 : decode cX4_init 51 = .ok (.putfield 34, 3) := by decide +kernel
theorem dX4_init_54 : decode cX4_init 54 = .ok (.return_, 1) := by decide +kernel
theorem dX4_become_0 : decode cX4_become 0 = .ok (.aload_n 0, 1) := by decide +kernel
theorem dX4_become_1 : decode cX4_become 1 = .ok (.aload_n 1, 1) := by decide +kernel
theorem dX4_become_2 : decode cX4_become 2 = .ok (.getfield 9, 3) := by decide +kernel
theorem dX4_become_5 : decode cX4_become 5 = .ok (.putfield 9, 3) := by decide +kernel
theorem dX4_become_8 : decode cX4_become 8 = .ok (.aload_n 0, 1) := by decide +kernel
theorem dX4_become_9 : decode cX4_become 9 = .ok (.aload_n 1, 1) := by decide +kernel
theorem dX4_become_10 : decode cX4_become 10 = .ok (.getfield 15, 3) := by decide +kernel
theorem dX4_become_13 : decode cX4_become 13 = .ok (.putfield 15, 3) := by decide +kernel
theorem dX4_become_16 : decode cX4_become 16 = .ok (.aload_n 0, 1) := by decide +kernel
theorem dX4_become_17 : decode cX4_become 17 = .ok (.aload_n 1, 1) := by decide +kernel
theorem dX4_become_18 : decode cX4_become 18 = .ok (.getfield 18, 3) := by decide +kernel
theorem dX4_become_21 : decode cX4_become 21 = .ok (.putfield 18, 3) := by decide +kernel
theorem dX4_become_24 : decode cX4_become 24 = .ok (.iconst 0, 1) := by decide +kernel
theorem dX4_become_25 : decode cX4_become 25 = .ok (.istore_n 2, 1) := by decide +kernel
theorem dX4_become_26 : decode cX4_become 26 = .ok (.iload_n 2, 1) := by decide +kernel
theorem dX4_become_27 : decode cX4_become 27 = .ok (.iconst 4, 1) := by decide +kernel
theorem dX4_become_28 : decode cX4_become 28 = .ok (.if_icmp .ge 33, 3) := by decide +kernel
theorem dX4_become_31 : decode cX4_become 31 = .ok (.aload_n 0, 1) := by decide +kernel
theorem dX4_become_32 : decode cX4_become 32 = .ok (.getfield 21, 3) := by decide +kernel
theorem dX4_become_35 : decode cX4_become 35 = .ok (.iload_n 2, 1) := by decide +kernel
theorem dX4_become_36 : decode cX4_become 36 = .ok (.aload_n 1, 1) := by decide +kernel
theorem dX4_become_37 : decode cX4_become 37 = .ok (.getfield 21, 3) := by decide +kernel
theorem dX4_become_40 : decode cX4_become 40 = .ok (.iload_n 2, 1) := by decide +kernel
theorem dX4_become_41 : decode cX4_become 41 = .ok (.iaload, 1) := by decide +kernel
theorem dX4_become_42 : decode cX4_become 42 = .ok (.iastore, 1) := by decide +kernel
theorem dX4_become_43 : decode cX4_become 43 = .ok (.aload_n 0, 1) := by decide +kernel
theorem dX4_become_44 : decode cX4_become 44 = .ok (.getfield 25, 3) := by decide +kernel
theorem dX4_become_47 : decode cX4_become 47 = .ok (.iload_n 2, 1) := by decide +kernel
theorem dX4_become_48 : decode cX4_become 48 = .ok (.aload_n 1, 1) := by decide +kernel
theorem dX4_become_49 : decode cX4_become 49 = .ok (.getfield 25, 3) := by decide +kernel
theorem dX4_become_52 : decode cX4_become 52 = .ok (.iload_n 2, 1) := by decide +kernel
theorem dX4_become_53 : decode cX4_become 53 = .ok (.iaload, 1) := by decide +kernel
theorem dX4_become_54 : decode cX4_become 54 = .ok (.iastore, 1) := by decide +kernel
theorem dX4_become_55 : decode cX4_become 55 = .ok (.iinc 2 1, 3) := by decide +kernel
theorem dX4_become_58 : decode cX4_become 58 = .ok (.goto (-32), 3) := by decide +kernel
theorem dX4_become_61 : decode cX4_become 61 = .ok (.iconst 0, 1) := by decide +kernel
theorem dX4_become_62 : decode cX4_become 62 = .ok (.istore_n 2, 1) := by decide +kernel
theorem dX4_become_63 : decode cX4_become 63 = .ok (.iload_n 2, 1) := by decide +kernel
theorem dX4_become_64 : decode cX4_become 64 = .ok (.iconst 4, 1) := by decide +kernel
theorem dX4_become_65 : decode cX4_become 65 = .ok (.if_icmp .ge 45, 3) := by decide +kernel
theorem dX4_become_68 : decode cX4_become 68 = .ok (.aload_n 0, 1) := by decide +kernel
theorem dX4_become_69 : decode cX4_become 69 = .ok (.getfield 28, 3) := by decide +kernel
theorem dX4_become_72 : decode cX4_become 72 = .ok (.iload_n 2, 1) := by decide +kernel
theorem dX4_become_73 : decode cX4_become 73 = .ok (.aload_n 1, 1) := by decide +kernel
theorem dX4_become_74 : decode cX4_become 74 = .ok (.getfield 28, 3) := by decide +kernel
theorem dX4_become_77 : decode cX4_become 77 = .ok (.iload_n 2, 1) := by decide +kernel
theorem dX4_become_78 : decode cX4_become 78 = .ok (.iaload, 1) := by decide +kernel
theorem dX4_become_79 : decode cX4_become 79 = .ok (.iastore, 1) := by decide +kernel
theorem dX4_become_80 : decode cX4_become 80 = .ok (.aload_n 0, 1) := by decide +kernel
theorem dX4_become_81 : decode cX4_become 81 = .ok (.getfield 31, 3) := by decide +kernel
theorem dX4_become_84 : decode cX4_become 84 = .ok (.iload_n 2, 1) := by decide +kernel
theorem dX4_become_85 : decode cX4_become 85 = .ok (.aload_n 1, 1) := by decide +kernel
theorem dX4_become_86 : decode cX4_become 86 = .ok (.getfield 31, 3) := by decide +kernel
theorem dX4_become_89 : decode cX4_become 89 = .ok (.iload_n 2, 1) := by decide +kernel
theorem dX4_become_90 : decode cX4_become 90 = .ok (.iaload, 1) := by decide +kernel
theorem dX4_become_91 : decode cX4_become 91 = .ok (.iastore, 1) := by decide +kernel
theorem dX4_become_92 : decode cX4_become 92 = .ok (.aload_n 0, 1) := by decide +kernel
theorem dX4_become_93 : decode cX4_become 93 = .ok (.getfield 34, 3) := by decide +kernel
theorem dX4_become_96 : decode cX4_become 96 = .ok (.iload_n 2, 1) := by decide +kernel
theorem dX4_become_97 : decode cX4_become 97 = .ok (.aload_n 1, 1) := by decide +kernel
theorem dX4_become_98 : decode cX4_become 98 = .ok (.getfield 34, 3) := by decide +kernel
theorem dX4_become_101 : decode cX4_become 101 = .ok (.iload_n 2, 1) := by decide +kernel
theorem dX4_become_102 : decode cX4_become 102 = .ok (.iaload, 1) := by decide +kernel
theorem dX4_become_103 : decode cX4_become 103 = .ok (.iastore, 1) := by decide +kernel
theorem dX4_become_104 : decode cX4_become 104 = .ok (.iinc 2 1, 3) := by decide +kernel
theorem dX4_become_107 : decode cX4_become 107 = .ok (.goto (-44), 3) := by decide +kernel
theorem dX4_become_110 : decode cX4_become 110 = .ok (.return_, 1) := by decide +kernel
theorem dX4_hasField_0 : decode cX4_hasField 0 = .ok (.iload_n 1, 1) := by decide +kernel
theorem dX4_hasField_1 : decode cX4_hasField 1 = .ok (.ifCond .lt 15, 3) := by decide +kernel
theorem dX4_hasField_4 : decode cX4_hasField 4 = .ok (.iload_n 1, 1) := by decide +kernel
theorem dX4_hasField_5 : decode cX4_hasField 5 = .ok (.aload_n 0, 1) := by decide +kernel
theorem dX4_hasField_6 : decode cX4_hasField 6 = .ok (.getfield 9, 3) := by decide +kernel
theorem dX4_hasField_9 : decode cX4_hasField 9 = .ok (.if_icmp .ge 7, 3) := by decide +kernel
theorem dX4_hasField_12 : decode cX4_hasField 12 = .ok (.iconst 1, 1) := by decide +kernel
theorem dX4_hasField_13 : decode cX4_hasField 13 = .ok (.goto 4, 3) := by decide +kernel
theorem dX4_hasField_16 : decode cX4_hasField 16 = .ok (.iconst 0, 1) := by decide +kernel
theorem dX4_hasField_17 : decode cX4_hasField 17 = .ok (.ireturn, 1) := by decide +kernel
theorem dX4_hasMaker_0 : decode cX4_hasMaker 0 = .ok (.iload_n 1, 1) := by decide +kernel
theorem dX4_hasMaker_1 : decode cX4_hasMaker 1 = .ok (.ifCond .lt 15, 3) := by decide +kernel
theorem dX4_hasMaker_4 : decode cX4_hasMaker 4 = .ok (.iload_n 1, 1) := by decide +kernel
theorem dX4_hasMaker_5 : decode cX4_hasMaker 5 = .ok (.aload_n 0, 1) := by decide +kernel
theorem dX4_hasMaker_6 : decode cX4_hasMaker 6 = .ok (.getfield 15, 3) := by decide +kernel
theorem dX4_hasMaker_9 : decode cX4_hasMaker 9 = .ok (.if_icmp .ge 7, 3) := by decide +kernel
theorem dX4_hasMaker_12 : decode cX4_hasMaker 12 = .ok (.iconst 1, 1) := by decide +kernel
theorem dX4_hasMaker_13 : decode cX4_hasMaker 13 = .ok (.goto 4, 3) := by decide +kernel
theorem dX4_hasMaker_16 : decode cX4_hasMaker 16 = .ok (.iconst 0, 1) := by decide +kernel
theorem dX4_hasMaker_17 : decode cX4_hasMaker 17 = .ok (.ireturn, 1) := by decide +kernel
theorem dX4_hasLeague_0 : decode cX4_hasLeague 0 = .ok (.iload_n 1, 1) := by decide +kernel
theorem dX4_hasLeague_1 : decode cX4_hasLeague 1 = .ok (.ifCond .lt 15, 3) := by decide +kernel
theorem dX4_hasLeague_4 : decode cX4_hasLeague 4 = .ok (.iload_n 1, 1) := by decide +kernel
theorem dX4_hasLeague_5 : decode cX4_hasLeague 5 = .ok (.aload_n 0, 1) := by decide +kernel
theorem dX4_hasLeague_6 : decode cX4_hasLeague 6 = .ok (.invokevirtual 37, 3) := by decide +kernel
theorem dX4_hasLeague_9 : decode cX4_hasLeague 9 = .ok (.if_icmp .gt 7, 3) := by decide +kernel
theorem dX4_hasLeague_12 : decode cX4_hasLeague 12 = .ok (.iconst 1, 1) := by decide +kernel
theorem dX4_hasLeague_13 : decode cX4_hasLeague 13 = .ok (.goto 4, 3) := by decide +kernel
theorem dX4_hasLeague_16 : decode cX4_hasLeague 16 = .ok (.iconst 0, 1) := by decide +kernel
theorem dX4_hasLeague_17 : decode cX4_hasLeague 17 = .ok (.ireturn, 1) := by decide +kernel
theorem dX4_allMakers_0 : decode cX4_allMakers 0 = .ok (.iconst 1, 1) := by decide +kernel
theorem dX4_allMakers_1 : decode cX4_allMakers 1 = .ok (.aload_n 0, 1) := by decide +kernel
theorem dX4_allMakers_2 : decode cX4_allMakers 2 = .ok (.getfield 15, 3) := by decide +kernel
theorem dX4_allMakers_5 : decode cX4_allMakers 5 = .ok (.ishl, 1) := by decide +kernel
theorem dX4_allMakers_6 : decode cX4_allMakers 6 = .ok (.iconst 1, 1) := by decide +kernel
theorem dX4_allMakers_7 : decode cX4_allMakers 7 = .ok (.isub, 1) := by decide +kernel
theorem dX4_allMakers_8 : decode cX4_allMakers 8 = .ok (.ireturn, 1) := by decide +kernel
theorem dX4_makes_0 : decode cX4_makes 0 = .ok (.aload_n 0, 1) := by decide +kernel
theorem dX4_makes_1 : decode cX4_makes 1 = .ok (.getfield 28, 3) := by decide +kernel
theorem dX4_makes_4 : decode cX4_makes 4 = .ok (.iload_n 1, 1) := by decide +kernel
theorem dX4_makes_5 : decode cX4_makes 5 = .ok (.iaload, 1) := by decide +kernel
theorem dX4_makes_6 : decode cX4_makes 6 = .ok (.aload_n 0, 1) := by decide +kernel
theorem dX4_makes_7 : decode cX4_makes 7 = .ok (.getfield 21, 3) := by decide +kernel
theorem dX4_makes_10 : decode cX4_makes 10 = .ok (.iload_n 2, 1) := by decide +kernel
theorem dX4_makes_11 : decode cX4_makes 11 = .ok (.iaload, 1) := by decide +kernel
theorem dX4_makes_12 : decode cX4_makes 12 = .ok (.ishr, 1) := by decide +kernel
theorem dX4_makes_13 : decode cX4_makes 13 = .ok (.iconst 1, 1) := by decide +kernel
theorem dX4_makes_14 : decode cX4_makes 14 = .ok (.iand, 1) := by decide +kernel
theorem dX4_makes_15 : decode cX4_makes 15 = .ok (.iconst 1, 1) := by decide +kernel
theorem dX4_makes_16 : decode cX4_makes 16 = .ok (.if_icmp .ne 7, 3) := by decide +kernel
theorem dX4_makes_19 : decode cX4_makes 19 = .ok (.iconst 1, 1) := by decide +kernel
theorem dX4_makes_20 : decode cX4_makes 20 = .ok (.goto 4, 3) := by decide +kernel
theorem dX4_makes_23 : decode cX4_makes 23 = .ok (.iconst 0, 1) := by decide +kernel
theorem dX4_makes_24 : decode cX4_makes 24 = .ok (.ireturn, 1) := by decide +kernel
theorem dX4_couldBeSecondHand_0 : decode cX4_couldBeSecondHand 0 = .ok (.iload_n 1, 1) := by decide +kernel
theorem dX4_couldBeSecondHand_1 : decode cX4_couldBeSecondHand 1 = .ok (.ifCond .le 41, 3) := by decide +kernel
theorem dX4_couldBeSecondHand_4 : decode cX4_couldBeSecondHand 4 = .ok (.aload_n 0, 1) := by decide +kernel
theorem dX4_couldBeSecondHand_5 : decode cX4_couldBeSecondHand 5 = .ok (.getfield 21, 3) := by decide +kernel
theorem dX4_couldBeSecondHand_8 : decode cX4_couldBeSecondHand 8 = .ok (.iload_n 1, 1) := by decide +kernel
theorem dX4_couldBeSecondHand_9 : decode cX4_couldBeSecondHand 9 = .ok (.iconst 1, 1) := by decide +kernel
theorem dX4_couldBeSecondHand_10 : decode cX4_couldBeSecondHand 10 = .ok (.isub, 1) := by decide +kernel
theorem dX4_couldBeSecondHand_11 : decode cX4_couldBeSecondHand 11 = .ok (.iaload, 1) := by decide +kernel
theorem dX4_couldBeSecondHand_12 : decode cX4_couldBeSecondHand 12 = .ok (.aload_n 0, 1) := by decide +kernel
theorem dX4_couldBeSecondHand_13 : decode cX4_couldBeSecondHand 13 = .ok (.getfield 21, 3) := by decide +kernel
theorem dX4_couldBeSecondHand_16 : decode cX4_couldBeSecondHand 16 = .ok (.iload_n 1, 1) := by decide +kernel
theorem dX4_couldBeSecondHand_17 : decode cX4_couldBeSecondHand 17 = .ok (.iaload, 1) := by decide +kernel
theorem dX4_couldBeSecondHand_18 : decode cX4_couldBeSecondHand 18 = .ok (.if_icmp .ne 24, 3) := by decide +kernel
theorem dX4_couldBeSecondHand_21 : decode cX4_couldBeSecondHand 21 = .ok (.aload_n 0, 1) := by decide +kernel
theorem dX4_couldBeSecondHand_22 : decode cX4_couldBeSecondHand 22 = .ok (.getfield 25, 3) := by decide +kernel
theorem dX4_couldBeSecondHand_25 : decode cX4_couldBeSecondHand 25 = .ok (.iload_n 1, 1) := by decide +kernel
theorem dX4_couldBeSecondHand_26 : decode cX4_couldBeSecondHand 26 = .ok (.iconst 1, 1) := by decide +kernel
theorem dX4_couldBeSecondHand_27 : decode cX4_couldBeSecondHand 27 = .ok (.isub, 1) := by decide +kernel
theorem dX4_couldBeSecondHand_28 : decode cX4_couldBeSecondHand 28 = .ok (.iaload, 1) := by decide +kernel
theorem dX4_couldBeSecondHand_29 : decode cX4_couldBeSecondHand 29 = .ok (.aload_n 0, 1) := by decide +kernel
theorem dX4_couldBeSecondHand_30 : decode cX4_couldBeSecondHand 30 = .ok (.getfield 25, 3) := by decide +kernel
theorem dX4_couldBeSecondHand_33 : decode cX4_couldBeSecondHand 33 = .ok (.iload_n 1, 1) := by decide +kernel
theorem dX4_couldBeSecondHand_34 : decode cX4_couldBeSecondHand 34 = .ok (.iaload, 1) := by decide +kernel
theorem dX4_couldBeSecondHand_35 : decode cX4_couldBeSecondHand 35 = .ok (.if_icmp .lt 7, 3) := by decide +kernel
theorem dX4_couldBeSecondHand_38 : decode cX4_couldBeSecondHand 38 = .ok (.iconst 1, 1) := by decide +kernel
theorem dX4_couldBeSecondHand_39 : decode cX4_couldBeSecondHand 39 = .ok (.goto 4, 3) := by decide +kernel
theorem dX4_couldBeSecondHand_42 : decode cX4_couldBeSecondHand 42 = .ok (.iconst 0, 1) := by decide +kernel
theorem dX4_couldBeSecondHand_43 : decode cX4_couldBeSecondHand 43 = .ok (.ireturn, 1) := by decide +kernel
theorem dX4_refusal_0 : decode cX4_refusal 0 = .ok (.iload_n 1, 1) := by decide +kernel
theorem dX4_refusal_1 : decode cX4_refusal 1 = .ok (.tableswitch 85 1 3 #[27, 27, 56], 27) := by decide +kernel
theorem dX4_refusal_28 : decode cX4_refusal 28 = .ok (.aload_n 0, 1) := by decide +kernel
theorem dX4_refusal_29 : decode cX4_refusal 29 = .ok (.iload_n 2, 1) := by decide +kernel
theorem dX4_refusal_30 : decode cX4_refusal 30 = .ok (.invokevirtual 41, 3) := by decide +kernel
theorem dX4_refusal_33 : decode cX4_refusal 33 = .ok (.ifCond .ne 7, 3) := by decide +kernel
theorem dX4_refusal_36 : decode cX4_refusal 36 = .ok (.iconst (-1), 1) := by decide +kernel
theorem dX4_refusal_37 : decode cX4_refusal 37 = .ok (.goto 19, 3) := by decide +kernel
theorem dX4_refusal_40 : decode cX4_refusal 40 = .ok (.iload_n 3, 1) := by decide +kernel
theorem dX4_refusal_41 : decode cX4_refusal 41 = .ok (.ifCond .lt 9, 3) := by decide +kernel
theorem dX4_refusal_44 : decode cX4_refusal 44 = .ok (.iload_n 3, 1) := by decide +kernel
theorem dX4_refusal_45 : decode cX4_refusal 45 = .ok (.bipush 9, 2) := by decide +kernel
theorem dX4_refusal_47 : decode cX4_refusal 47 = .ok (.if_icmp .le 8, 3) := by decide +kernel
theorem dX4_refusal_50 : decode cX4_refusal 50 = .ok (.bipush (-2), 2) := by decide +kernel
theorem dX4_refusal_52 : decode cX4_refusal 52 = .ok (.goto 4, 3) := by decide +kernel
theorem dX4_refusal_55 : decode cX4_refusal 55 = .ok (.iconst 0, 1) := by decide +kernel
theorem dX4_refusal_56 : decode cX4_refusal 56 = .ok (.ireturn, 1) := by decide +kernel
theorem dX4_refusal_57 : decode cX4_refusal 57 = .ok (.aload_n 0, 1) := by decide +kernel
theorem dX4_refusal_58 : decode cX4_refusal 58 = .ok (.iload_n 2, 1) := by decide +kernel
theorem dX4_refusal_59 : decode cX4_refusal 59 = .ok (.invokevirtual 45, 3) := by decide +kernel
theorem dX4_refusal_62 : decode cX4_refusal 62 = .ok (.ifCond .ne 7, 3) := by decide +kernel
theorem dX4_refusal_65 : decode cX4_refusal 65 = .ok (.iconst (-1), 1) := by decide +kernel
theorem dX4_refusal_66 : decode cX4_refusal 66 = .ok (.goto 19, 3) := by decide +kernel
theorem dX4_refusal_69 : decode cX4_refusal 69 = .ok (.iload_n 3, 1) := by decide +kernel
theorem dX4_refusal_70 : decode cX4_refusal 70 = .ok (.iconst 1, 1) := by decide +kernel
theorem dX4_refusal_71 : decode cX4_refusal 71 = .ok (.if_icmp .lt 8, 3) := by decide +kernel
theorem dX4_refusal_74 : decode cX4_refusal 74 = .ok (.iload_n 3, 1) := by decide +kernel
theorem dX4_refusal_75 : decode cX4_refusal 75 = .ok (.iconst 5, 1) := by decide +kernel
theorem dX4_refusal_76 : decode cX4_refusal 76 = .ok (.if_icmp .le 8, 3) := by decide +kernel
theorem dX4_refusal_79 : decode cX4_refusal 79 = .ok (.bipush (-2), 2) := by decide +kernel
theorem dX4_refusal_81 : decode cX4_refusal 81 = .ok (.goto 4, 3) := by decide +kernel
theorem dX4_refusal_84 : decode cX4_refusal 84 = .ok (.iconst 0, 1) := by decide +kernel
theorem dX4_refusal_85 : decode cX4_refusal 85 = .ok (.ireturn, 1) := by decide +kernel
theorem dX4_refusal_86 : decode cX4_refusal 86 = .ok (.iload_n 3, 1) := by decide +kernel
theorem dX4_refusal_87 : decode cX4_refusal 87 = .ok (.ifCond .lt 8, 3) := by decide +kernel
theorem dX4_refusal_90 : decode cX4_refusal 90 = .ok (.iload_n 3, 1) := by decide +kernel
theorem dX4_refusal_91 : decode cX4_refusal 91 = .ok (.iconst 4, 1) := by decide +kernel
theorem dX4_refusal_92 : decode cX4_refusal 92 = .ok (.if_icmp .le 8, 3) := by decide +kernel
theorem dX4_refusal_95 : decode cX4_refusal 95 = .ok (.bipush (-2), 2) := by decide +kernel
theorem dX4_refusal_97 : decode cX4_refusal 97 = .ok (.goto 4, 3) := by decide +kernel
theorem dX4_refusal_100 : decode cX4_refusal 100 = .ok (.iconst 0, 1) := by decide +kernel
theorem dX4_refusal_101 : decode cX4_refusal 101 = .ok (.ireturn, 1) := by decide +kernel
theorem dX4_change_0 : decode cX4_change 0 = .ok (.iload_n 1, 1) := by decide +kernel
theorem dX4_change_1 : decode cX4_change 1 = .ok (.tableswitch 81 1 3 #[27, 45, 63], 27) := by decide +kernel
theorem dX4_change_28 : decode cX4_change 28 = .ok (.aload_n 0, 1) := by decide +kernel
theorem dX4_change_29 : decode cX4_change 29 = .ok (.getfield 34, 3) := by decide +kernel
theorem dX4_change_32 : decode cX4_change 32 = .ok (.iload_n 2, 1) := by decide +kernel
theorem dX4_change_33 : decode cX4_change 33 = .ok (.iaload, 1) := by decide +kernel
theorem dX4_change_34 : decode cX4_change 34 = .ok (.istore 4, 2) := by decide +kernel
theorem dX4_change_36 : decode cX4_change 36 = .ok (.aload_n 0, 1) := by decide +kernel
theorem dX4_change_37 : decode cX4_change 37 = .ok (.getfield 34, 3) := by decide +kernel
theorem dX4_change_40 : decode cX4_change 40 = .ok (.iload_n 2, 1) := by decide +kernel
theorem dX4_change_41 : decode cX4_change 41 = .ok (.iload_n 3, 1) := by decide +kernel
theorem dX4_change_42 : decode cX4_change 42 = .ok (.iastore, 1) := by decide +kernel
theorem dX4_change_43 : decode cX4_change 43 = .ok (.iload 4, 2) := by decide +kernel
theorem dX4_change_45 : decode cX4_change 45 = .ok (.ireturn, 1) := by decide +kernel
theorem dX4_change_46 : decode cX4_change 46 = .ok (.aload_n 0, 1) := by decide +kernel
theorem dX4_change_47 : decode cX4_change 47 = .ok (.getfield 31, 3) := by decide +kernel
theorem dX4_change_50 : decode cX4_change 50 = .ok (.iload_n 2, 1) := by decide +kernel
theorem dX4_change_51 : decode cX4_change 51 = .ok (.iaload, 1) := by decide +kernel
theorem dX4_change_52 : decode cX4_change 52 = .ok (.istore 4, 2) := by decide +kernel
theorem dX4_change_54 : decode cX4_change 54 = .ok (.aload_n 0, 1) := by decide +kernel
theorem dX4_change_55 : decode cX4_change 55 = .ok (.getfield 31, 3) := by decide +kernel
theorem dX4_change_58 : decode cX4_change 58 = .ok (.iload_n 2, 1) := by decide +kernel
theorem dX4_change_59 : decode cX4_change 59 = .ok (.iload_n 3, 1) := by decide +kernel
theorem dX4_change_60 : decode cX4_change 60 = .ok (.iastore, 1) := by decide +kernel
theorem dX4_change_61 : decode cX4_change 61 = .ok (.iload 4, 2) := by decide +kernel
theorem dX4_change_63 : decode cX4_change 63 = .ok (.ireturn, 1) := by decide +kernel
theorem dX4_change_64 : decode cX4_change 64 = .ok (.aload_n 0, 1) := by decide +kernel
theorem dX4_change_65 : decode cX4_change 65 = .ok (.getfield 25, 3) := by decide +kernel
theorem dX4_change_68 : decode cX4_change 68 = .ok (.iload_n 2, 1) := by decide +kernel
theorem dX4_change_69 : decode cX4_change 69 = .ok (.iaload, 1) := by decide +kernel
theorem dX4_change_70 : decode cX4_change 70 = .ok (.istore 4, 2) := by decide +kernel
theorem dX4_change_72 : decode cX4_change 72 = .ok (.aload_n 0, 1) := by decide +kernel
theorem dX4_change_73 : decode cX4_change 73 = .ok (.getfield 25, 3) := by decide +kernel
theorem dX4_change_76 : decode cX4_change 76 = .ok (.iload_n 2, 1) := by decide +kernel
theorem dX4_change_77 : decode cX4_change 77 = .ok (.iload_n 3, 1) := by decide +kernel
theorem dX4_change_78 : decode cX4_change 78 = .ok (.iastore, 1) := by decide +kernel
theorem dX4_change_79 : decode cX4_change 79 = .ok (.iload 4, 2) := by decide +kernel
theorem dX4_change_81 : decode cX4_change 81 = .ok (.ireturn, 1) := by decide +kernel
theorem dX4_change_82 : decode cX4_change 82 = .ok (.aload_n 0, 1) := by decide +kernel
theorem dX4_change_83 : decode cX4_change 83 = .ok (.getfield 18, 3) := by decide +kernel
theorem dX4_change_86 : decode cX4_change 86 = .ok (.istore 4, 2) := by decide +kernel
theorem dX4_change_88 : decode cX4_change 88 = .ok (.aload_n 0, 1) := by decide +kernel
theorem dX4_change_89 : decode cX4_change 89 = .ok (.iload_n 3, 1) := by decide +kernel
theorem dX4_change_90 : decode cX4_change 90 = .ok (.putfield 18, 3) := by decide +kernel
theorem dX4_change_93 : decode cX4_change 93 = .ok (.iload 4, 2) := by decide +kernel
theorem dX4_change_95 : decode cX4_change 95 = .ok (.ireturn, 1) := by decide +kernel
theorem dX5_init_0 : decode cX5_init 0 = .ok (.aload_n 0, 1) := by decide +kernel
theorem dX5_init_1 : decode cX5_init 1 = .ok (.invokespecial 3, 3) := by decide +kernel
theorem dX5_init_4 : decode cX5_init 4 = .ok (.aload_n 0, 1) := by decide +kernel
theorem dX5_init_5 : decode cX5_init 5 = .ok (.iconst 0, 1) := by decide +kernel
theorem dX5_init_6 : decode cX5_init 6 = .ok (.putfield 9, 3) := by decide +kernel
theorem dX5_init_9 : decode cX5_init 9 = .ok (.aload_n 0, 1) := by decide +kernel
theorem dX5_init_10 : decode cX5_init 10 = .ok (.bipush 60, 2) := by decide +kernel
theorem dX5_init_12 : decode cX5_init 12 = .ok (.newarray .int, 2) := by decide +kernel
theorem dX5_init_14 : decode cX5_init 14 = .ok (.putfield 15, 3) := by decide +kernel
theorem dX5_init_17 : decode cX5_init 17 = .ok (.return_, 1) := by decide +kernel
theorem dX5_append_0 : decode cX5_append 0 = .ok (.aload_n 0, 1) := by decide +kernel
theorem dX5_append_1 : decode cX5_append 1 = .ok (.getfield 9, 3) := by decide +kernel
theorem dX5_append_4 : decode cX5_append 4 = .ok (.bipush 60, 2) := by decide +kernel
theorem dX5_append_6 : decode cX5_append 6 = .ok (.if_icmp .lt 5, 3) := by decide +kernel
theorem dX5_append_9 : decode cX5_append 9 = .ok (.iconst 0, 1) := by decide +kernel
theorem dX5_append_10 : decode cX5_append 10 = .ok (.ireturn, 1) := by decide +kernel
theorem dX5_append_11 : decode cX5_append 11 = .ok (.aload_n 0, 1) := by decide +kernel
theorem dX5_append_12 : decode cX5_append 12 = .ok (.getfield 15, 3) := by decide +kernel
theorem dX5_append_15 : decode cX5_append 15 = .ok (.aload_n 0, 1) := by decide +kernel
theorem dX5_append_16 : decode cX5_append 16 = .ok (.getfield 9, 3) := by decide +kernel
theorem dX5_append_19 : decode cX5_append 19 = .ok (.iload_n 1, 1) := by decide +kernel
theorem dX5_append_20 : decode cX5_append 20 = .ok (.iastore, 1) := by decide +kernel
theorem dX5_append_21 : decode cX5_append 21 = .ok (.aload_n 0, 1) := by decide +kernel
theorem dX5_append_22 : decode cX5_append 22 = .ok (.dup, 1) := by decide +kernel
theorem dX5_append_23 : decode cX5_append 23 = .ok (.getfield 9, 3) := by decide +kernel
theorem dX5_append_26 : decode cX5_append 26 = .ok (.iconst 1, 1) := by decide +kernel
theorem dX5_append_27 : decode cX5_append 27 = .ok (.iadd, 1) := by decide +kernel
theorem dX5_append_28 : decode cX5_append 28 = .ok (.putfield 9, 3) := by decide +kernel
theorem dX5_append_31 : decode cX5_append 31 = .ok (.iconst 1, 1) := by decide +kernel
theorem dX5_append_32 : decode cX5_append 32 = .ok (.ireturn, 1) := by decide +kernel
theorem dX5_readInto_0 : decode cX5_readInto 0 = .ok (.aload_n 1, 1) := by decide +kernel
theorem dX5_readInto_1 : decode cX5_readInto 1 = .ok (.iconst 0, 1) := by decide +kernel
theorem dX5_readInto_2 : decode cX5_readInto 2 = .ok (.putfield 19, 3) := by decide +kernel
theorem dX5_readInto_5 : decode cX5_readInto 5 = .ok (.aload_n 1, 1) := by decide +kernel
theorem dX5_readInto_6 : decode cX5_readInto 6 = .ok (.iconst 0, 1) := by decide +kernel
theorem dX5_readInto_7 : decode cX5_readInto 7 = .ok (.putfield 24, 3) := by decide +kernel
theorem dX5_readInto_10 : decode cX5_readInto 10 = .ok (.iconst 0, 1) := by decide +kernel
theorem dX5_readInto_11 : decode cX5_readInto 11 = .ok (.istore_n 2, 1) := by decide +kernel
theorem dX5_readInto_12 : decode cX5_readInto 12 = .ok (.iconst 0, 1) := by decide +kernel
theorem dX5_readInto_13 : decode cX5_readInto 13 = .ok (.istore_n 3, 1) := by decide +kernel
theorem dX5_readInto_14 : decode cX5_readInto 14 = .ok (.iload_n 3, 1) := by decide +kernel
theorem dX5_readInto_15 : decode cX5_readInto 15 = .ok (.aload_n 0, 1) := by decide +kernel
theorem dX5_readInto_16 : decode cX5_readInto 16 = .ok (.getfield 9, 3) := by decide +kernel
theorem dX5_readInto_19 : decode cX5_readInto 19 = .ok (.if_icmp .ge 28, 3) := by decide +kernel
theorem dX5_readInto_22 : decode cX5_readInto 22 = .ok (.iload_n 2, 1) := by decide +kernel
theorem dX5_readInto_23 : decode cX5_readInto 23 = .ok (.aload_n 0, 1) := by decide +kernel
theorem dX5_readInto_24 : decode cX5_readInto 24 = .ok (.getfield 15, 3) := by decide +kernel
theorem dX5_readInto_27 : decode cX5_readInto 27 = .ok (.iload_n 3, 1) := by decide +kernel
theorem dX5_readInto_28 : decode cX5_readInto 28 = .ok (.iaload, 1) := by decide +kernel
theorem dX5_readInto_29 : decode cX5_readInto 29 = .ok (.aload_n 1, 1) := by decide +kernel
theorem dX5_readInto_30 : decode cX5_readInto 30 = .ok (.invokestatic 27, 3) := by decide +kernel
theorem dX5_readInto_33 : decode cX5_readInto 33 = .ok (.istore_n 2, 1) := by decide +kernel
theorem dX5_readInto_34 : decode cX5_readInto 34 = .ok (.iload_n 2, 1) := by decide +kernel
theorem dX5_readInto_35 : decode cX5_readInto 35 = .ok (.iconst 5, 1) := by decide +kernel
theorem dX5_readInto_36 : decode cX5_readInto 36 = .ok (.if_icmp .ne 5, 3) := by decide +kernel
theorem dX5_readInto_39 : decode cX5_readInto 39 = .ok (.iload_n 3, 1) := by decide +kernel
theorem dX5_readInto_40 : decode cX5_readInto 40 = .ok (.ireturn, 1) := by decide +kernel
theorem dX5_readInto_41 : decode cX5_readInto 41 = .ok (.iinc 3 1, 3) := by decide +kernel
theorem dX5_readInto_44 : decode cX5_readInto 44 = .ok (.goto (-30), 3) := by decide +kernel
theorem dX5_readInto_47 : decode cX5_readInto 47 = .ok (.iload_n 2, 1) := by decide +kernel
theorem dX5_readInto_48 : decode cX5_readInto 48 = .ok (.ifCond .ne 8, 3) := by decide +kernel
theorem dX5_readInto_51 : decode cX5_readInto 51 = .ok (.bipush (-9), 2) := by decide +kernel
theorem dX5_readInto_53 : decode cX5_readInto 53 = .ok (.goto 7, 3) := by decide +kernel
theorem dX5_readInto_56 : decode cX5_readInto 56 = .ok (.aload_n 0, 1) := by decide +kernel
theorem dX5_readInto_57 : decode cX5_readInto 57 = .ok (.getfield 9, 3) := by decide +kernel
theorem dX5_readInto_60 : decode cX5_readInto 60 = .ok (.ireturn, 1) := by decide +kernel
theorem dX5_behind_0 : decode cX5_behind 0 = .ok (.iload_n 0, 1) := by decide +kernel
theorem dX5_behind_1 : decode cX5_behind 1 = .ok (.tableswitch 65 0 4 #[35, 41, 47, 53, 59], 35) := by decide +kernel
theorem dX5_behind_36 : decode cX5_behind 36 = .ok (.iload_n 1, 1) := by decide +kernel
theorem dX5_behind_37 : decode cX5_behind 37 = .ok (.aload_n 2, 1) := by decide +kernel
theorem dX5_behind_38 : decode cX5_behind 38 = .ok (.invokestatic 31, 3) := by decide +kernel
theorem dX5_behind_41 : decode cX5_behind 41 = .ok (.ireturn, 1) := by decide +kernel
theorem dX5_behind_42 : decode cX5_behind 42 = .ok (.iload_n 1, 1) := by decide +kernel
theorem dX5_behind_43 : decode cX5_behind 43 = .ok (.aload_n 2, 1) := by decide +kernel
theorem dX5_behind_44 : decode cX5_behind 44 = .ok (.invokestatic 35, 3) := by decide +kernel
theorem dX5_behind_47 : decode cX5_behind 47 = .ok (.ireturn, 1) := by decide +kernel
theorem dX5_behind_48 : decode cX5_behind 48 = .ok (.iload_n 1, 1) := by decide +kernel
theorem dX5_behind_49 : decode cX5_behind 49 = .ok (.aload_n 2, 1) := by decide +kernel
theorem dX5_behind_50 : decode cX5_behind 50 = .ok (.invokestatic 38, 3) := by decide +kernel
theorem dX5_behind_53 : decode cX5_behind 53 = .ok (.ireturn, 1) := by decide +kernel
theorem dX5_behind_54 : decode cX5_behind 54 = .ok (.iload_n 1, 1) := by decide +kernel
theorem dX5_behind_55 : decode cX5_behind 55 = .ok (.aload_n 2, 1) := by decide +kernel
theorem dX5_behind_56 : decode cX5_behind 56 = .ok (.invokestatic 41, 3) := by decide +kernel
theorem dX5_behind_59 : decode cX5_behind 59 = .ok (.ireturn, 1) := by decide +kernel
theorem dX5_behind_60 : decode cX5_behind 60 = .ok (.iload_n 1, 1) := by decide +kernel
theorem dX5_behind_61 : decode cX5_behind 61 = .ok (.aload_n 2, 1) := by decide +kernel
theorem dX5_behind_62 : decode cX5_behind 62 = .ok (.invokestatic 44, 3) := by decide +kernel
theorem dX5_behind_65 : decode cX5_behind 65 = .ok (.ireturn, 1) := by decide +kernel
theorem dX5_behind_66 : decode cX5_behind 66 = .ok (.iconst 5, 1) := by decide +kernel
theorem dX5_behind_67 : decode cX5_behind 67 = .ok (.ireturn, 1) := by decide +kernel
theorem dX5_behindHead_0 : decode cX5_behindHead 0 = .ok (.iload_n 0, 1) := by decide +kernel
theorem dX5_behindHead_1 : decode cX5_behindHead 1 = .ok (.bipush 70, 2) := by decide +kernel
theorem dX5_behindHead_3 : decode cX5_behindHead 3 = .ok (.if_icmp .ne 13, 3) := by decide +kernel
theorem dX5_behindHead_6 : decode cX5_behindHead 6 = .ok (.aload_n 1, 1) := by decide +kernel
theorem dX5_behindHead_7 : decode cX5_behindHead 7 = .ok (.getfield 19, 3) := by decide +kernel
theorem dX5_behindHead_10 : decode cX5_behindHead 10 = .ok (.iconst 4, 1) := by decide +kernel
theorem dX5_behindHead_11 : decode cX5_behindHead 11 = .ok (.if_icmp .ge 5, 3) := by decide +kernel
theorem dX5_behindHead_14 : decode cX5_behindHead 14 = .ok (.iconst 1, 1) := by decide +kernel
theorem dX5_behindHead_15 : decode cX5_behindHead 15 = .ok (.ireturn, 1) := by decide +kernel
theorem dX5_behindHead_16 : decode cX5_behindHead 16 = .ok (.iload_n 0, 1) := by decide +kernel
theorem dX5_behindHead_17 : decode cX5_behindHead 17 = .ok (.bipush 77, 2) := by decide +kernel
theorem dX5_behindHead_19 : decode cX5_behindHead 19 = .ok (.if_icmp .ne 23, 3) := by decide +kernel
theorem dX5_behindHead_22 : decode cX5_behindHead 22 = .ok (.aload_n 1, 1) := by decide +kernel
theorem dX5_behindHead_23 : decode cX5_behindHead 23 = .ok (.getfield 24, 3) := by decide +kernel
theorem dX5_behindHead_26 : decode cX5_behindHead 26 = .ok (.iconst 4, 1) := by decide +kernel
theorem dX5_behindHead_27 : decode cX5_behindHead 27 = .ok (.if_icmp .ge 15, 3) := by decide +kernel
theorem dX5_behindHead_30 : decode cX5_behindHead 30 = .ok (.aload_n 1, 1) := by decide +kernel
theorem dX5_behindHead_31 : decode cX5_behindHead 31 = .ok (.getfield 47, 3) := by decide +kernel
theorem dX5_behindHead_34 : decode cX5_behindHead 34 = .ok (.aload_n 1, 1) := by decide +kernel
theorem dX5_behindHead_35 : decode cX5_behindHead 35 = .ok (.getfield 24, 3) := by decide +kernel
theorem dX5_behindHead_38 : decode cX5_behindHead 38 = .ok (.iconst 0, 1) := by decide +kernel
theorem dX5_behindHead_39 : decode cX5_behindHead 39 = .ok (.iastore, 1) := by decide +kernel
theorem dX5_behindHead_40 : decode cX5_behindHead 40 = .ok (.iconst 3, 1) := by decide +kernel
theorem dX5_behindHead_41 : decode cX5_behindHead 41 = .ok (.ireturn, 1) := by decide +kernel
theorem dX5_behindHead_42 : decode cX5_behindHead 42 = .ok (.iconst 5, 1) := by decide +kernel
theorem dX5_behindHead_43 : decode cX5_behindHead 43 = .ok (.ireturn, 1) := by decide +kernel
theorem dX5_behindFieldWeather_0 : decode cX5_behindFieldWeather 0 = .ok (.iload_n 0, 1) := by decide +kernel
theorem dX5_behindFieldWeather_1 : decode cX5_behindFieldWeather 1 = .ok (.invokestatic 50, 3) := by decide +kernel
theorem dX5_behindFieldWeather_4 : decode cX5_behindFieldWeather 4 = .ok (.istore_n 2, 1) := by decide +kernel
theorem dX5_behindFieldWeather_5 : decode cX5_behindFieldWeather 5 = .ok (.iload_n 2, 1) := by decide +kernel
theorem dX5_behindFieldWeather_6 : decode cX5_behindFieldWeather 6 = .ok (.ifCond .ge 5, 3) := by decide +kernel
theorem dX5_behindFieldWeather_9 : decode cX5_behindFieldWeather 9 = .ok (.iconst 5, 1) := by decide +kernel
theorem dX5_behindFieldWeather_10 : decode cX5_behindFieldWeather 10 = .ok (.ireturn, 1) := by decide +kernel
theorem dX5_behindFieldWeather_11 : decode cX5_behindFieldWeather 11 = .ok (.aload_n 1, 1) := by decide +kernel
theorem dX5_behindFieldWeather_12 : decode cX5_behindFieldWeather 12 = .ok (.getfield 54, 3) := by decide +kernel
theorem dX5_behindFieldWeather_15 : decode cX5_behindFieldWeather 15 = .ok (.aload_n 1, 1) := by decide +kernel
theorem dX5_behindFieldWeather_16 : decode cX5_behindFieldWeather 16 = .ok (.getfield 19, 3) := by decide +kernel
theorem dX5_behindFieldWeather_19 : decode cX5_behindFieldWeather 19 = .ok (.iload_n 2, 1) := by decide +kernel
theorem dX5_behindFieldWeather_20 : decode cX5_behindFieldWeather 20 = .ok (.iastore, 1) := by decide +kernel
theorem dX5_behindFieldWeather_21 : decode cX5_behindFieldWeather 21 = .ok (.iconst 2, 1) := by decide +kernel
theorem dX5_behindFieldWeather_22 : decode cX5_behindFieldWeather 22 = .ok (.ireturn, 1) := by decide +kernel
theorem dX5_behindFieldUnits_0 : decode cX5_behindFieldUnits 0 = .ok (.iload_n 0, 1) := by decide +kernel
theorem dX5_behindFieldUnits_1 : decode cX5_behindFieldUnits 1 = .ok (.bipush 48, 2) := by decide +kernel
theorem dX5_behindFieldUnits_3 : decode cX5_behindFieldUnits 3 = .ok (.isub, 1) := by decide +kernel
theorem dX5_behindFieldUnits_4 : decode cX5_behindFieldUnits 4 = .ok (.istore_n 2, 1) := by decide +kernel
theorem dX5_behindFieldUnits_5 : decode cX5_behindFieldUnits 5 = .ok (.iload_n 2, 1) := by decide +kernel
theorem dX5_behindFieldUnits_6 : decode cX5_behindFieldUnits 6 = .ok (.iconst 1, 1) := by decide +kernel
theorem dX5_behindFieldUnits_7 : decode cX5_behindFieldUnits 7 = .ok (.if_icmp .lt 8, 3) := by decide +kernel
theorem dX5_behindFieldUnits_10 : decode cX5_behindFieldUnits 10 = .ok (.iload_n 2, 1) := by decide +kernel
theorem dX5_behindFieldUnits_11 : decode cX5_behindFieldUnits 11 = .ok (.iconst 5, 1) := by decide +kernel
theorem dX5_behindFieldUnits_12 : decode cX5_behindFieldUnits 12 = .ok (.if_icmp .le 5, 3) := by decide +kernel
theorem dX5_behindFieldUnits_15 : decode cX5_behindFieldUnits 15 = .ok (.iconst 5, 1) := by decide +kernel
theorem dX5_behindFieldUnits_16 : decode cX5_behindFieldUnits 16 = .ok (.ireturn, 1) := by decide +kernel
theorem dX5_behindFieldUnits_17 : decode cX5_behindFieldUnits 17 = .ok (.aload_n 1, 1) := by decide +kernel
theorem dX5_behindFieldUnits_18 : decode cX5_behindFieldUnits 18 = .ok (.getfield 57, 3) := by decide +kernel
theorem dX5_behindFieldUnits_21 : decode cX5_behindFieldUnits 21 = .ok (.aload_n 1, 1) := by decide +kernel
theorem dX5_behindFieldUnits_22 : decode cX5_behindFieldUnits 22 = .ok (.getfield 19, 3) := by decide +kernel
theorem dX5_behindFieldUnits_25 : decode cX5_behindFieldUnits 25 = .ok (.iload_n 2, 1) := by decide +kernel
theorem dX5_behindFieldUnits_26 : decode cX5_behindFieldUnits 26 = .ok (.iastore, 1) := by decide +kernel
theorem dX5_behindFieldUnits_27 : decode cX5_behindFieldUnits 27 = .ok (.aload_n 1, 1) := by decide +kernel
theorem dX5_behindFieldUnits_28 : decode cX5_behindFieldUnits 28 = .ok (.dup, 1) := by decide +kernel
theorem dX5_behindFieldUnits_29 : decode cX5_behindFieldUnits 29 = .ok (.getfield 19, 3) := by decide +kernel
theorem dX5_behindFieldUnits_32 : decode cX5_behindFieldUnits 32 = .ok (.iconst 1, 1) := by decide +kernel
theorem dX5_behindFieldUnits_33 : decode cX5_behindFieldUnits 33 = .ok (.iadd, 1) := by decide +kernel
theorem dX5_behindFieldUnits_34 : decode cX5_behindFieldUnits 34 = .ok (.putfield 19, 3) := by decide +kernel
theorem dX5_behindFieldUnits_37 : decode cX5_behindFieldUnits 37 = .ok (.iconst 0, 1) := by decide +kernel
theorem dX5_behindFieldUnits_38 : decode cX5_behindFieldUnits 38 = .ok (.ireturn, 1) := by decide +kernel
theorem dX5_behindMakerWeatherOrStock_0 : decode cX5_behindMakerWeatherOrStock 0 = .ok (.aload_n 1, 1) := by decide +kernel
theorem dX5_behindMakerWeatherOrStock_1 : decode cX5_behindMakerWeatherOrStock 1 = .ok (.getfield 47, 3) := by decide +kernel
theorem dX5_behindMakerWeatherOrStock_4 : decode cX5_behindMakerWeatherOrStock 4 = .ok (.aload_n 1, 1) := by decide +kernel
theorem dX5_behindMakerWeatherOrStock_5 : decode cX5_behindMakerWeatherOrStock 5 = .ok (.getfield 24, 3) := by decide +kernel
theorem dX5_behindMakerWeatherOrStock_8 : decode cX5_behindMakerWeatherOrStock 8 = .ok (.iaload, 1) := by decide +kernel
theorem dX5_behindMakerWeatherOrStock_9 : decode cX5_behindMakerWeatherOrStock 9 = .ok (.istore_n 2, 1) := by decide +kernel
theorem dX5_behindMakerWeatherOrStock_10 : decode cX5_behindMakerWeatherOrStock 10 = .ok (.iload_n 0, 1) := by decide +kernel
theorem dX5_behindMakerWeatherOrStock_11 : decode cX5_behindMakerWeatherOrStock 11 = .ok (.invokestatic 50, 3) := by decide +kernel
theorem dX5_behindMakerWeatherOrStock_14 : decode cX5_behindMakerWeatherOrStock 14 = .ok (.istore_n 3, 1) := by decide +kernel
theorem dX5_behindMakerWeatherOrStock_15 : decode cX5_behindMakerWeatherOrStock 15 = .ok (.iload_n 3, 1) := by decide +kernel
theorem dX5_behindMakerWeatherOrStock_16 : decode cX5_behindMakerWeatherOrStock 16 = .ok (.ifCond .lt 26, 3) := by decide +kernel
theorem dX5_behindMakerWeatherOrStock_19 : decode cX5_behindMakerWeatherOrStock 19 = .ok (.iconst 1, 1) := by decide +kernel
theorem dX5_behindMakerWeatherOrStock_20 : decode cX5_behindMakerWeatherOrStock 20 = .ok (.iload_n 3, 1) := by decide +kernel
theorem dX5_behindMakerWeatherOrStock_21 : decode cX5_behindMakerWeatherOrStock 21 = .ok (.ishl, 1) := by decide +kernel
theorem dX5_behindMakerWeatherOrStock_22 : decode cX5_behindMakerWeatherOrStock 22 = .ok (.iload_n 2, 1) := by decide +kernel
theorem dX5_behindMakerWeatherOrStock_23 : decode cX5_behindMakerWeatherOrStock 23 = .ok (.if_icmp .le 19, 3) := by decide +kernel
theorem dX5_behindMakerWeatherOrStock_26 : decode cX5_behindMakerWeatherOrStock 26 = .ok (.aload_n 1, 1) := by decide +kernel
theorem dX5_behindMakerWeatherOrStock_27 : decode cX5_behindMakerWeatherOrStock 27 = .ok (.getfield 47, 3) := by decide +kernel
theorem dX5_behindMakerWeatherOrStock_30 : decode cX5_behindMakerWeatherOrStock 30 = .ok (.aload_n 1, 1) := by decide +kernel
theorem dX5_behindMakerWeatherOrStock_31 : decode cX5_behindMakerWeatherOrStock 31 = .ok (.getfield 24, 3) := by decide +kernel
theorem dX5_behindMakerWeatherOrStock_34 : decode cX5_behindMakerWeatherOrStock 34 = .ok (.iload_n 2, 1) := by decide +kernel
theorem dX5_behindMakerWeatherOrStock_35 : decode cX5_behindMakerWeatherOrStock 35 = .ok (.iconst 1, 1) := by decide +kernel
theorem dX5_behindMakerWeatherOrStock_36 : decode cX5_behindMakerWeatherOrStock 36 = .ok (.iload_n 3, 1) := by decide +kernel
theorem dX5_behindMakerWeatherOrStock_37 : decode cX5_behindMakerWeatherOrStock 37 = .ok (.ishl, 1) := by decide +kernel
theorem dX5_behindMakerWeatherOrStock_38 : decode cX5_behindMakerWeatherOrStock 38 = .ok (.ior, 1) := by decide +kernel
theorem dX5_behindMakerWeatherOrStock_39 : decode cX5_behindMakerWeatherOrStock 39 = .ok (.iastore, 1) := by decide +kernel
theorem dX5_behindMakerWeatherOrStock_40 : decode cX5_behindMakerWeatherOrStock 40 = .ok (.iconst 3, 1) := by decide +kernel
theorem dX5_behindMakerWeatherOrStock_41 : decode cX5_behindMakerWeatherOrStock 41 = .ok (.ireturn, 1) := by decide +kernel
theorem dX5_behindMakerWeatherOrStock_42 : decode cX5_behindMakerWeatherOrStock 42 = .ok (.iload_n 2, 1) := by decide +kernel
theorem dX5_behindMakerWeatherOrStock_43 : decode cX5_behindMakerWeatherOrStock 43 = .ok (.ifCond .eq 10, 3) := by decide +kernel
theorem dX5_behindMakerWeatherOrStock_46 : decode cX5_behindMakerWeatherOrStock 46 = .ok (.iload_n 0, 1) := by decide +kernel
theorem dX5_behindMakerWeatherOrStock_47 : decode cX5_behindMakerWeatherOrStock 47 = .ok (.invokestatic 60, 3) := by decide +kernel
theorem dX5_behindMakerWeatherOrStock_50 : decode cX5_behindMakerWeatherOrStock 50 = .ok (.ifCond .ne 5, 3) := by decide +kernel
theorem dX5_behindMakerWeatherOrStock_53 : decode cX5_behindMakerWeatherOrStock 53 = .ok (.iconst 5, 1) := by decide +kernel
theorem dX5_behindMakerWeatherOrStock_54 : decode cX5_behindMakerWeatherOrStock 54 = .ok (.ireturn, 1) := by decide +kernel
theorem dX5_behindMakerWeatherOrStock_55 : decode cX5_behindMakerWeatherOrStock 55 = .ok (.aload_n 1, 1) := by decide +kernel
theorem dX5_behindMakerWeatherOrStock_56 : decode cX5_behindMakerWeatherOrStock 56 = .ok (.getfield 64, 3) := by decide +kernel
theorem dX5_behindMakerWeatherOrStock_59 : decode cX5_behindMakerWeatherOrStock 59 = .ok (.aload_n 1, 1) := by decide +kernel
theorem dX5_behindMakerWeatherOrStock_60 : decode cX5_behindMakerWeatherOrStock 60 = .ok (.getfield 24, 3) := by decide +kernel
theorem dX5_behindMakerWeatherOrStock_63 : decode cX5_behindMakerWeatherOrStock 63 = .ok (.iload_n 0, 1) := by decide +kernel
theorem dX5_behindMakerWeatherOrStock_64 : decode cX5_behindMakerWeatherOrStock 64 = .ok (.bipush 48, 2) := by decide +kernel
theorem dX5_behindMakerWeatherOrStock_66 : decode cX5_behindMakerWeatherOrStock 66 = .ok (.isub, 1) := by decide +kernel
theorem dX5_behindMakerWeatherOrStock_67 : decode cX5_behindMakerWeatherOrStock 67 = .ok (.iastore, 1) := by decide +kernel
theorem dX5_behindMakerWeatherOrStock_68 : decode cX5_behindMakerWeatherOrStock 68 = .ok (.iconst 4, 1) := by decide +kernel
theorem dX5_behindMakerWeatherOrStock_69 : decode cX5_behindMakerWeatherOrStock 69 = .ok (.ireturn, 1) := by decide +kernel
theorem dX5_behindMakerPrice_0 : decode cX5_behindMakerPrice 0 = .ok (.iload_n 0, 1) := by decide +kernel
theorem dX5_behindMakerPrice_1 : decode cX5_behindMakerPrice 1 = .ok (.invokestatic 60, 3) := by decide +kernel
theorem dX5_behindMakerPrice_4 : decode cX5_behindMakerPrice 4 = .ok (.ifCond .ne 5, 3) := by decide +kernel
theorem dX5_behindMakerPrice_7 : decode cX5_behindMakerPrice 7 = .ok (.iconst 5, 1) := by decide +kernel
theorem dX5_behindMakerPrice_8 : decode cX5_behindMakerPrice 8 = .ok (.ireturn, 1) := by decide +kernel
theorem dX5_behindMakerPrice_9 : decode cX5_behindMakerPrice 9 = .ok (.aload_n 1, 1) := by decide +kernel
theorem dX5_behindMakerPrice_10 : decode cX5_behindMakerPrice 10 = .ok (.getfield 67, 3) := by decide +kernel
theorem dX5_behindMakerPrice_13 : decode cX5_behindMakerPrice 13 = .ok (.aload_n 1, 1) := by decide +kernel
theorem dX5_behindMakerPrice_14 : decode cX5_behindMakerPrice 14 = .ok (.getfield 24, 3) := by decide +kernel
theorem dX5_behindMakerPrice_17 : decode cX5_behindMakerPrice 17 = .ok (.iload_n 0, 1) := by decide +kernel
theorem dX5_behindMakerPrice_18 : decode cX5_behindMakerPrice 18 = .ok (.bipush 48, 2) := by decide +kernel
theorem dX5_behindMakerPrice_20 : decode cX5_behindMakerPrice 20 = .ok (.isub, 1) := by decide +kernel
theorem dX5_behindMakerPrice_21 : decode cX5_behindMakerPrice 21 = .ok (.iastore, 1) := by decide +kernel
theorem dX5_behindMakerPrice_22 : decode cX5_behindMakerPrice 22 = .ok (.aload_n 1, 1) := by decide +kernel
theorem dX5_behindMakerPrice_23 : decode cX5_behindMakerPrice 23 = .ok (.dup, 1) := by decide +kernel
theorem dX5_behindMakerPrice_24 : decode cX5_behindMakerPrice 24 = .ok (.getfield 24, 3) := by decide +kernel
theorem dX5_behindMakerPrice_27 : decode cX5_behindMakerPrice 27 = .ok (.iconst 1, 1) := by decide +kernel
theorem dX5_behindMakerPrice_28 : decode cX5_behindMakerPrice 28 = .ok (.iadd, 1) := by decide +kernel
theorem dX5_behindMakerPrice_29 : decode cX5_behindMakerPrice 29 = .ok (.putfield 24, 3) := by decide +kernel
theorem dX5_behindMakerPrice_32 : decode cX5_behindMakerPrice 32 = .ok (.iconst 0, 1) := by decide +kernel
theorem dX5_behindMakerPrice_33 : decode cX5_behindMakerPrice 33 = .ok (.ireturn, 1) := by decide +kernel
theorem dX5_isFigure_0 : decode cX5_isFigure 0 = .ok (.iload_n 0, 1) := by decide +kernel
theorem dX5_isFigure_1 : decode cX5_isFigure 1 = .ok (.bipush 48, 2) := by decide +kernel
theorem dX5_isFigure_3 : decode cX5_isFigure 3 = .ok (.if_icmp .lt 13, 3) := by decide +kernel
theorem dX5_isFigure_6 : decode cX5_isFigure 6 = .ok (.iload_n 0, 1) := by decide +kernel
theorem dX5_isFigure_7 : decode cX5_isFigure 7 = .ok (.bipush 57, 2) := by decide +kernel
theorem dX5_isFigure_9 : decode cX5_isFigure 9 = .ok (.if_icmp .gt 7, 3) := by decide +kernel
theorem dX5_isFigure_12 : decode cX5_isFigure 12 = .ok (.iconst 1, 1) := by decide +kernel
theorem dX5_isFigure_13 : decode cX5_isFigure 13 = .ok (.goto 4, 3) := by decide +kernel
theorem dX5_isFigure_16 : decode cX5_isFigure 16 = .ok (.iconst 0, 1) := by decide +kernel
theorem dX5_isFigure_17 : decode cX5_isFigure 17 = .ok (.ireturn, 1) := by decide +kernel
theorem dX5_weatherOf_0 : decode cX5_weatherOf 0 = .ok (.iload_n 0, 1) := by decide +kernel
theorem dX5_weatherOf_1 : decode cX5_weatherOf 1 = .ok (.lookupswitch 41 #[(114, 35), (115, 39), (119, 37)], 35) := by decide +kernel
theorem dX5_weatherOf_36 : decode cX5_weatherOf 36 = .ok (.iconst 0, 1) := by decide +kernel
theorem dX5_weatherOf_37 : decode cX5_weatherOf 37 = .ok (.ireturn, 1) := by decide +kernel
theorem dX5_weatherOf_38 : decode cX5_weatherOf 38 = .ok (.iconst 1, 1) := by decide +kernel
theorem dX5_weatherOf_39 : decode cX5_weatherOf 39 = .ok (.ireturn, 1) := by decide +kernel
theorem dX5_weatherOf_40 : decode cX5_weatherOf 40 = .ok (.iconst 2, 1) := by decide +kernel
theorem dX5_weatherOf_41 : decode cX5_weatherOf 41 = .ok (.ireturn, 1) := by decide +kernel
theorem dX5_weatherOf_42 : decode cX5_weatherOf 42 = .ok (.iconst (-1), 1) := by decide +kernel
theorem dX5_weatherOf_43 : decode cX5_weatherOf 43 = .ok (.ireturn, 1) := by decide +kernel
theorem dX6_init_0 : decode cX6_init 0 = .ok (.aload_n 0, 1) := by decide +kernel
theorem dX6_init_1 : decode cX6_init 1 = .ok (.invokespecial 3, 3) := by decide +kernel
theorem dX6_init_4 : decode cX6_init 4 = .ok (.aload_n 0, 1) := by decide +kernel
theorem dX6_init_5 : decode cX6_init 5 = .ok (.new 9, 3) := by decide +kernel
theorem dX6_init_8 : decode cX6_init 8 = .ok (.dup, 1) := by decide +kernel
theorem dX6_init_9 : decode cX6_init 9 = .ok (.invokespecial 11, 3) := by decide +kernel
theorem dX6_init_12 : decode cX6_init 12 = .ok (.putfield 12, 3) := by decide +kernel
theorem dX6_init_15 : decode cX6_init 15 = .ok (.aload_n 0, 1) := by decide +kernel
theorem dX6_init_16 : decode cX6_init 16 = .ok (.new 16, 3) := by decide +kernel
theorem dX6_init_19 : decode cX6_init 19 = .ok (.dup, 1) := by decide +kernel
theorem dX6_init_20 : decode cX6_init 20 = .ok (.invokespecial 18, 3) := by decide +kernel
theorem dX6_init_23 : decode cX6_init 23 = .ok (.putfield 19, 3) := by decide +kernel
theorem dX6_init_26 : decode cX6_init 26 = .ok (.aload_n 0, 1) := by decide +kernel
theorem dX6_init_27 : decode cX6_init 27 = .ok (.new 16, 3) := by decide +kernel
theorem dX6_init_30 : decode cX6_init 30 = .ok (.dup, 1) := by decide +kernel
theorem dX6_init_31 : decode cX6_init 31 = .ok (.invokespecial 18, 3) := by decide +kernel
theorem dX6_init_34 : decode cX6_init 34 = .ok (.putfield 23, 3) := by decide +kernel
theorem dX6_init_37 : decode cX6_init 37 = .ok (.aload_n 0, 1) := by decide +kernel
theorem dX6_init_38 : decode cX6_init 38 = .ok (.new 26, 3) := by decide +kernel
theorem dX6_init_41 : decode cX6_init 41 = .ok (.dup, 1) := by decide +kernel
theorem dX6_init_42 : decode cX6_init 42 = .ok (.invokespecial 28, 3) := by decide +kernel
theorem dX6_init_45 : decode cX6_init 45 = .ok (.putfield 29, 3) := by decide +kernel
theorem dX6_init_48 : decode cX6_init 48 = .ok (.aload_n 0, 1) := by decide +kernel
theorem dX6_init_49 : decode cX6_init 49 = .ok (.new 33, 3) := by decide +kernel
theorem dX6_init_52 : decode cX6_init 52 = .ok (.dup, 1) := by decide +kernel
theorem dX6_init_53 : decode cX6_init 53 = .ok (.invokespecial 35, 3) := by decide +kernel
theorem dX6_init_56 : decode cX6_init 56 = .ok (.putfield 36, 3) := by decide +kernel
theorem dX6_init_59 : decode cX6_init 59 = .ok (.aload_n 0, 1) := by decide +kernel
theorem dX6_init_60 : decode cX6_init 60 = .ok (.new 40, 3) := by decide +kernel
theorem dX6_init_63 : decode cX6_init 63 = .ok (.dup, 1) := by decide +kernel
theorem dX6_init_64 : decode cX6_init 64 = .ok (.invokespecial 42, 3) := by decide +kernel
theorem dX6_init_67 : decode cX6_init 67 = .ok (.putfield 43, 3) := by decide +kernel
theorem dX6_init_70 : decode cX6_init 70 = .ok (.aload_n 0, 1) := by decide +kernel
theorem dX6_init_71 : decode cX6_init 71 = .ok (.new 47, 3) := by decide +kernel
theorem dX6_init_74 : decode cX6_init 74 = .ok (.dup, 1) := by decide +kernel
theorem dX6_init_75 : decode cX6_init 75 = .ok (.invokespecial 49, 3) := by decide +kernel
theorem dX6_init_78 : decode cX6_init 78 = .ok (.putfield 50, 3) := by decide +kernel
theorem dX6_init_81 : decode cX6_init 81 = .ok (.aload_n 0, 1) := by decide +kernel
theorem dX6_init_82 : decode cX6_init 82 = .ok (.iconst 2, 1) := by decide +kernel
theorem dX6_init_83 : decode cX6_init 83 = .ok (.anewarray 16, 3) := by decide +kernel
theorem dX6_init_86 : decode cX6_init 86 = .ok (.putfield 54, 3) := by decide +kernel
theorem dX6_init_89 : decode cX6_init 89 = .ok (.aload_n 0, 1) := by decide +kernel
theorem dX6_init_90 : decode cX6_init 90 = .ok (.bipush 16, 2) := by decide +kernel
theorem dX6_init_92 : decode cX6_init 92 = .ok (.newarray .int, 2) := by decide +kernel
theorem dX6_init_94 : decode cX6_init 94 = .ok (.putfield 58, 3) := by decide +kernel
theorem dX6_init_97 : decode cX6_init 97 = .ok (.aload_n 0, 1) := by decide +kernel
theorem dX6_init_98 : decode cX6_init 98 = .ok (.iconst 0, 1) := by decide +kernel
theorem dX6_init_99 : decode cX6_init 99 = .ok (.putfield 62, 3) := by decide +kernel
theorem dX6_init_102 : decode cX6_init 102 = .ok (.aload_n 0, 1) := by decide +kernel
theorem dX6_init_103 : decode cX6_init 103 = .ok (.lconst 0, 1) := by decide +kernel
theorem dX6_init_104 : decode cX6_init 104 = .ok (.putfield 66, 3) := by decide +kernel
theorem dX6_init_107 : decode cX6_init 107 = .ok (.iconst 0, 1) := by decide +kernel
theorem dX6_init_108 : decode cX6_init 108 = .ok (.istore_n 1, 1) := by decide +kernel
theorem dX6_init_109 : decode cX6_init 109 = .ok (.iload_n 1, 1) := by decide +kernel
theorem dX6_init_110 : decode cX6_init 110 = .ok (.iconst 2, 1) := by decide +kernel
theorem dX6_init_111 : decode cX6_init 111 = .ok (.if_icmp .ge 22, 3) := by decide +kernel
theorem dX6_init_114 : decode cX6_init 114 = .ok (.aload_n 0, 1) := by decide +kernel
theorem dX6_init_115 : decode cX6_init 115 = .ok (.getfield 54, 3) := by decide +kernel
theorem dX6_init_118 : decode cX6_init 118 = .ok (.iload_n 1, 1) := by decide +kernel
theorem dX6_init_119 : decode cX6_init 119 = .ok (.new 16, 3) := by decide +kernel
theorem dX6_init_122 : decode cX6_init 122 = .ok (.dup, 1) := by decide +kernel
theorem dX6_init_123 : decode cX6_init 123 = .ok (.invokespecial 18, 3) := by decide +kernel
theorem dX6_init_126 : decode cX6_init 126 = .ok (.aastore, 1) := by decide +kernel
theorem dX6_init_127 : decode cX6_init 127 = .ok (.iinc 1 1, 3) := by decide +kernel
theorem dX6_init_130 : decode cX6_init 130 = .ok (.goto (-21), 3) := by decide +kernel
theorem dX6_init_133 : decode cX6_init 133 = .ok (.return_, 1) := by decide +kernel
theorem dX6_write_0 : decode cX6_write 0 = .ok (.iload_n 1, 1) := by decide +kernel
theorem dX6_write_1 : decode cX6_write 1 = .ok (.ifCond .lt 10, 3) := by decide +kernel
theorem dX6_write_4 : decode cX6_write 4 = .ok (.iload_n 1, 1) := by decide +kernel
theorem dX6_write_5 : decode cX6_write 5 = .ok (.sipush 255, 3) := by decide +kernel
theorem dX6_write_8 : decode cX6_write 8 = .ok (.if_icmp .le 6, 3) := by decide +kernel
theorem dX6_write_11 : decode cX6_write 11 = .ok (.bipush (-2), 2) := by decide +kernel
theorem dX6_write_13 : decode cX6_write 13 = .ok (.ireturn, 1) := by decide +kernel
theorem dX6_write_14 : decode cX6_write 14 = .ok (.aload_n 0, 1) := by decide +kernel
theorem dX6_write_15 : decode cX6_write 15 = .ok (.getfield 12, 3) := by decide +kernel
theorem dX6_write_18 : decode cX6_write 18 = .ok (.iload_n 1, 1) := by decide +kernel
theorem dX6_write_19 : decode cX6_write 19 = .ok (.invokevirtual 70, 3) := by decide +kernel
theorem dX6_write_22 : decode cX6_write 22 = .ok (.ifCond .eq 13, 3) := by decide +kernel
theorem dX6_write_25 : decode cX6_write 25 = .ok (.aload_n 0, 1) := by decide +kernel
theorem dX6_write_26 : decode cX6_write 26 = .ok (.getfield 12, 3) := by decide +kernel
theorem dX6_write_29 : decode cX6_write 29 = .ok (.getfield 74, 3) := by decide +kernel
theorem dX6_write_32 : decode cX6_write 32 = .ok (.goto 5, 3) := by decide +kernel
theorem dX6_write_35 : decode cX6_write 35 = .ok (.bipush (-4), 2) := by decide +kernel
theorem dX6_write_37 : decode cX6_write 37 = .ok (.ireturn, 1) := by decide +kernel
theorem dX6_wipe_0 : decode cX6_wipe 0 = .ok (.aload_n 0, 1) := by decide +kernel
theorem dX6_wipe_1 : decode cX6_wipe 1 = .ok (.getfield 12, 3) := by decide +kernel
theorem dX6_wipe_4 : decode cX6_wipe 4 = .ok (.getfield 74, 3) := by decide +kernel
theorem dX6_wipe_7 : decode cX6_wipe 7 = .ok (.istore_n 1, 1) := by decide +kernel
theorem dX6_wipe_8 : decode cX6_wipe 8 = .ok (.aload_n 0, 1) := by decide +kernel
theorem dX6_wipe_9 : decode cX6_wipe 9 = .ok (.getfield 12, 3) := by decide +kernel
theorem dX6_wipe_12 : decode cX6_wipe 12 = .ok (.iconst 0, 1) := by decide +kernel
theorem dX6_wipe_13 : decode cX6_wipe 13 = .ok (.putfield 74, 3) := by decide +kernel
theorem dX6_wipe_16 : decode cX6_wipe 16 = .ok (.iload_n 1, 1) := by decide +kernel
theorem dX6_wipe_17 : decode cX6_wipe 17 = .ok (.ireturn, 1) := by decide +kernel
theorem dX6_fault_0 : decode cX6_fault 0 = .ok (.aload_n 0, 1) := by decide +kernel
theorem dX6_fault_1 : decode cX6_fault 1 = .ok (.getfield 12, 3) := by decide +kernel
theorem dX6_fault_4 : decode cX6_fault 4 = .ok (.aload_n 0, 1) := by decide +kernel
theorem dX6_fault_5 : decode cX6_fault 5 = .ok (.getfield 23, 3) := by decide +kernel
theorem dX6_fault_8 : decode cX6_fault 8 = .ok (.invokevirtual 77, 3) := by decide +kernel
theorem dX6_fault_11 : decode cX6_fault 11 = .ok (.ireturn, 1) := by decide +kernel
theorem dX6_tender_0 : decode cX6_tender 0 = .ok (.aload_n 0, 1) := by decide +kernel
theorem dX6_tender_1 : decode cX6_tender 1 = .ok (.getfield 12, 3) := by decide +kernel
theorem dX6_tender_4 : decode cX6_tender 4 = .ok (.aload_n 0, 1) := by decide +kernel
theorem dX6_tender_5 : decode cX6_tender 5 = .ok (.getfield 23, 3) := by decide +kernel
theorem dX6_tender_8 : decode cX6_tender 8 = .ok (.invokevirtual 77, 3) := by decide +kernel
theorem dX6_tender_11 : decode cX6_tender 11 = .ok (.bipush (-9), 2) := by decide +kernel
theorem dX6_tender_13 : decode cX6_tender 13 = .ok (.if_icmp .eq 6, 3) := by decide +kernel
theorem dX6_tender_16 : decode cX6_tender 16 = .ok (.bipush (-3), 2) := by decide +kernel
theorem dX6_tender_18 : decode cX6_tender 18 = .ok (.ireturn, 1) := by decide +kernel
theorem dX6_tender_19 : decode cX6_tender 19 = .ok (.aload_n 0, 1) := by decide +kernel
theorem dX6_tender_20 : decode cX6_tender 20 = .ok (.getfield 23, 3) := by decide +kernel
theorem dX6_tender_23 : decode cX6_tender 23 = .ok (.aload_n 0, 1) := by decide +kernel
theorem dX6_tender_24 : decode cX6_tender 24 = .ok (.getfield 19, 3) := by decide +kernel
theorem dX6_tender_27 : decode cX6_tender 27 = .ok (.getfield 81, 3) := by decide +kernel
theorem dX6_tender_30 : decode cX6_tender 30 = .ok (.putfield 81, 3) := by decide +kernel
theorem dX6_tender_33 : decode cX6_tender 33 = .ok (.aload_n 0, 1) := by decide +kernel
theorem dX6_tender_34 : decode cX6_tender 34 = .ok (.getfield 19, 3) := by decide +kernel
theorem dX6_tender_37 : decode cX6_tender 37 = .ok (.aload_n 0, 1) := by decide +kernel
theorem dX6_tender_38 : decode cX6_tender 38 = .ok (.getfield 23, 3) := by decide +kernel
theorem dX6_tender_41 : decode cX6_tender 41 = .ok (.invokevirtual 84, 3) := by decide +kernel
theorem dX6_tender_44 : decode cX6_tender 44 = .ok (.aload_n 0, 1) := by decide +kernel
theorem dX6_tender_45 : decode cX6_tender 45 = .ok (.getfield 43, 3) := by decide +kernel
theorem dX6_tender_48 : decode cX6_tender 48 = .ok (.iconst 0, 1) := by decide +kernel
theorem dX6_tender_49 : decode cX6_tender 49 = .ok (.putfield 88, 3) := by decide +kernel
theorem dX6_tender_52 : decode cX6_tender 52 = .ok (.aload_n 0, 1) := by decide +kernel
theorem dX6_tender_53 : decode cX6_tender 53 = .ok (.iconst 0, 1) := by decide +kernel
theorem dX6_tender_54 : decode cX6_tender 54 = .ok (.putfield 62, 3) := by decide +kernel
theorem dX6_tender_57 : decode cX6_tender 57 = .ok (.aload_n 0, 1) := by decide +kernel
theorem dX6_tender_58 : decode cX6_tender 58 = .ok (.getfield 19, 3) := by decide +kernel
theorem dX6_tender_61 : decode cX6_tender 61 = .ok (.getfield 91, 3) := by decide +kernel
theorem dX6_tender_64 : decode cX6_tender 64 = .ok (.ireturn, 1) := by decide +kernel
theorem dX6_about_0 : decode cX6_about 0 = .ok (.iload_n 1, 1) := by decide +kernel
theorem dX6_about_1 : decode cX6_about 1 = .ok (.tableswitch 143 0 8 #[51, 59, 67, 75, 91, 107, 119, 127, 135], 51) := by decide +kernel
theorem dX6_about_52 : decode cX6_about 52 = .ok (.aload_n 0, 1) := by decide +kernel
theorem dX6_about_53 : decode cX6_about 53 = .ok (.getfield 19, 3) := by decide +kernel
theorem dX6_about_56 : decode cX6_about 56 = .ok (.getfield 94, 3) := by decide +kernel
theorem dX6_about_59 : decode cX6_about 59 = .ok (.ireturn, 1) := by decide +kernel
theorem dX6_about_60 : decode cX6_about 60 = .ok (.aload_n 0, 1) := by decide +kernel
theorem dX6_about_61 : decode cX6_about 61 = .ok (.getfield 19, 3) := by decide +kernel
theorem dX6_about_64 : decode cX6_about 64 = .ok (.getfield 91, 3) := by decide +kernel
theorem dX6_about_67 : decode cX6_about 67 = .ok (.ireturn, 1) := by decide +kernel
theorem dX6_about_68 : decode cX6_about 68 = .ok (.aload_n 0, 1) := by decide +kernel
theorem dX6_about_69 : decode cX6_about 69 = .ok (.getfield 19, 3) := by decide +kernel
theorem dX6_about_72 : decode cX6_about 72 = .ok (.getfield 81, 3) := by decide +kernel
theorem dX6_about_75 : decode cX6_about 75 = .ok (.ireturn, 1) := by decide +kernel
theorem dX6_about_76 : decode cX6_about 76 = .ok (.aload_n 0, 1) := by decide +kernel
theorem dX6_about_77 : decode cX6_about 77 = .ok (.aload_n 0, 1) := by decide +kernel
theorem dX6_about_78 : decode cX6_about 78 = .ok (.getfield 19, 3) := by decide +kernel
theorem dX6_about_81 : decode cX6_about 81 = .ok (.aload_n 0, 1) := by decide +kernel
theorem dX6_about_82 : decode cX6_about 82 = .ok (.getfield 19, 3) := by decide +kernel
theorem dX6_about_85 : decode cX6_about 85 = .ok (.invokevirtual 97, 3) := by decide +kernel
theorem dX6_about_88 : decode cX6_about 88 = .ok (.invokevirtual 101, 3) := by decide +kernel
theorem dX6_about_91 : decode cX6_about 91 = .ok (.ireturn, 1) := by decide +kernel
theorem dX6_about_92 : decode cX6_about 92 = .ok (.aload_n 0, 1) := by decide +kernel
theorem dX6_about_93 : decode cX6_about 93 = .ok (.aload_n 0, 1) := by decide +kernel
theorem dX6_about_94 : decode cX6_about 94 = .ok (.getfield 19, 3) := by decide +kernel
theorem dX6_about_97 : decode cX6_about 97 = .ok (.aload_n 0, 1) := by decide +kernel
theorem dX6_about_98 : decode cX6_about 98 = .ok (.getfield 19, 3) := by decide +kernel
theorem dX6_about_101 : decode cX6_about 101 = .ok (.invokevirtual 97, 3) := by decide +kernel
theorem dX6_about_104 : decode cX6_about 104 = .ok (.invokevirtual 105, 3) := by decide +kernel
theorem dX6_about_107 : decode cX6_about 107 = .ok (.ireturn, 1) := by decide +kernel
theorem dX6_about_108 : decode cX6_about 108 = .ok (.aload_n 0, 1) := by decide +kernel
theorem dX6_about_109 : decode cX6_about 109 = .ok (.invokevirtual 108, 3) := by decide +kernel
theorem dX6_about_112 : decode cX6_about 112 = .ok (.aload_n 0, 1) := by decide +kernel
theorem dX6_about_113 : decode cX6_about 113 = .ok (.getfield 36, 3) := by decide +kernel
theorem dX6_about_116 : decode cX6_about 116 = .ok (.getfield 111, 3) := by decide +kernel
theorem dX6_about_119 : decode cX6_about 119 = .ok (.ireturn, 1) := by decide +kernel
theorem dX6_about_120 : decode cX6_about 120 = .ok (.aload_n 0, 1) := by decide +kernel
theorem dX6_about_121 : decode cX6_about 121 = .ok (.getfield 43, 3) := by decide +kernel
theorem dX6_about_124 : decode cX6_about 124 = .ok (.getfield 88, 3) := by decide +kernel
theorem dX6_about_127 : decode cX6_about 127 = .ok (.ireturn, 1) := by decide +kernel
theorem dX6_about_128 : decode cX6_about 128 = .ok (.aload_n 0, 1) := by decide +kernel
theorem dX6_about_129 : decode cX6_about 129 = .ok (.getfield 50, 3) := by decide +kernel
theorem dX6_about_132 : decode cX6_about 132 = .ok (.getfield 114, 3) := by decide +kernel
theorem dX6_about_135 : decode cX6_about 135 = .ok (.ireturn, 1) := by decide +kernel
theorem dX6_about_136 : decode cX6_about 136 = .ok (.aload_n 0, 1) := by decide +kernel
theorem dX6_about_137 : decode cX6_about 137 = .ok (.getfield 12, 3) := by decide +kernel
theorem dX6_about_140 : decode cX6_about 140 = .ok (.getfield 74, 3) := by decide +kernel
theorem dX6_about_143 : decode cX6_about 143 = .ok (.ireturn, 1) := by decide +kernel
theorem dX6_about_144 : decode cX6_about 144 = .ok (.bipush (-2), 2) := by decide +kernel
theorem dX6_about_146 : decode cX6_about 146 = .ok (.ireturn, 1) := by decide +kernel
theorem dX6_field_0 : decode cX6_field 0 = .ok (.aload_n 0, 1) := by decide +kernel
theorem dX6_field_1 : decode cX6_field 1 = .ok (.getfield 19, 3) := by decide +kernel
theorem dX6_field_4 : decode cX6_field 4 = .ok (.iload_n 1, 1) := by decide +kernel
theorem dX6_field_5 : decode cX6_field 5 = .ok (.invokevirtual 115, 3) := by decide +kernel
theorem dX6_field_8 : decode cX6_field 8 = .ok (.ifCond .ne 5, 3) := by decide +kernel
theorem dX6_field_11 : decode cX6_field 11 = .ok (.iconst (-1), 1) := by decide +kernel
theorem dX6_field_12 : decode cX6_field 12 = .ok (.ireturn, 1) := by decide +kernel
theorem dX6_field_13 : decode cX6_field 13 = .ok (.iload_n 2, 1) := by decide +kernel
theorem dX6_field_14 : decode cX6_field 14 = .ok (.tableswitch 81 0 2 #[26, 36, 46], 26) := by decide +kernel
theorem dX6_field_40 : decode cX6_field 40 = .ok (.aload_n 0, 1) := by decide +kernel
theorem dX6_field_41 : decode cX6_field 41 = .ok (.getfield 19, 3) := by decide +kernel
theorem dX6_field_44 : decode cX6_field 44 = .ok (.getfield 118, 3) := by decide +kernel
theorem dX6_field_47 : decode cX6_field 47 = .ok (.iload_n 1, 1) := by decide +kernel
theorem dX6_field_48 : decode cX6_field 48 = .ok (.iaload, 1) := by decide +kernel
theorem dX6_field_49 : decode cX6_field 49 = .ok (.ireturn, 1) := by decide +kernel
theorem dX6_field_50 : decode cX6_field 50 = .ok (.aload_n 0, 1) := by decide +kernel
theorem dX6_field_51 : decode cX6_field 51 = .ok (.getfield 19, 3) := by decide +kernel
theorem dX6_field_54 : decode cX6_field 54 = .ok (.getfield 121, 3) := by decide +kernel
theorem dX6_field_57 : decode cX6_field 57 = .ok (.iload_n 1, 1) := by decide +kernel
theorem dX6_field_58 : decode cX6_field 58 = .ok (.iaload, 1) := by decide +kernel
theorem dX6_field_59 : decode cX6_field 59 = .ok (.ireturn, 1) := by decide +kernel
theorem dX6_field_60 : decode cX6_field 60 = .ok (.aload_n 0, 1) := by decide +kernel
theorem dX6_field_61 : decode cX6_field 61 = .ok (.aload_n 0, 1) := by decide +kernel
theorem dX6_field_62 : decode cX6_field 62 = .ok (.getfield 19, 3) := by decide +kernel
theorem dX6_field_65 : decode cX6_field 65 = .ok (.aload_n 0, 1) := by decide +kernel
theorem dX6_field_66 : decode cX6_field 66 = .ok (.getfield 19, 3) := by decide +kernel
theorem dX6_field_69 : decode cX6_field 69 = .ok (.invokevirtual 97, 3) := by decide +kernel
theorem dX6_field_72 : decode cX6_field 72 = .ok (.invokevirtual 101, 3) := by decide +kernel
theorem dX6_field_75 : decode cX6_field 75 = .ok (.bipush (-9), 2) := by decide +kernel
theorem dX6_field_77 : decode cX6_field 77 = .ok (.if_icmp .ne 8, 3) := by decide +kernel
theorem dX6_field_80 : decode cX6_field 80 = .ok (.bipush (-9), 2) := by decide +kernel
theorem dX6_field_82 : decode cX6_field 82 = .ok (.goto 12, 3) := by decide +kernel
theorem dX6_field_85 : decode cX6_field 85 = .ok (.aload_n 0, 1) := by decide +kernel
theorem dX6_field_86 : decode cX6_field 86 = .ok (.getfield 29, 3) := by decide +kernel
theorem dX6_field_89 : decode cX6_field 89 = .ok (.getfield 124, 3) := by decide +kernel
theorem dX6_field_92 : decode cX6_field 92 = .ok (.iload_n 1, 1) := by decide +kernel
theorem dX6_field_93 : decode cX6_field 93 = .ok (.iaload, 1) := by decide +kernel
theorem dX6_field_94 : decode cX6_field 94 = .ok (.ireturn, 1) := by decide +kernel
theorem dX6_field_95 : decode cX6_field 95 = .ok (.bipush (-2), 2) := by decide +kernel
theorem dX6_field_97 : decode cX6_field 97 = .ok (.ireturn, 1) := by decide +kernel
theorem dX6_maker_0 : decode cX6_maker 0 = .ok (.aload_n 0, 1) := by decide +kernel
theorem dX6_maker_1 : decode cX6_maker 1 = .ok (.getfield 19, 3) := by decide +kernel
theorem dX6_maker_4 : decode cX6_maker 4 = .ok (.iload_n 1, 1) := by decide +kernel
theorem dX6_maker_5 : decode cX6_maker 5 = .ok (.invokevirtual 127, 3) := by decide +kernel
theorem dX6_maker_8 : decode cX6_maker 8 = .ok (.ifCond .ne 5, 3) := by decide +kernel
theorem dX6_maker_11 : decode cX6_maker 11 = .ok (.iconst (-1), 1) := by decide +kernel
theorem dX6_maker_12 : decode cX6_maker 12 = .ok (.ireturn, 1) := by decide +kernel
theorem dX6_maker_13 : decode cX6_maker 13 = .ok (.iload_n 2, 1) := by decide +kernel
theorem dX6_maker_14 : decode cX6_maker 14 = .ok (.tableswitch 84 0 4 #[34, 44, 54, 64, 74], 34) := by decide +kernel
theorem dX6_maker_48 : decode cX6_maker 48 = .ok (.aload_n 0, 1) := by decide +kernel
theorem dX6_maker_49 : decode cX6_maker 49 = .ok (.getfield 19, 3) := by decide +kernel
theorem dX6_maker_52 : decode cX6_maker 52 = .ok (.getfield 130, 3) := by decide +kernel
theorem dX6_maker_55 : decode cX6_maker 55 = .ok (.iload_n 1, 1) := by decide +kernel
theorem dX6_maker_56 : decode cX6_maker 56 = .ok (.iaload, 1) := by decide +kernel
theorem dX6_maker_57 : decode cX6_maker 57 = .ok (.ireturn, 1) := by decide +kernel
theorem dX6_maker_58 : decode cX6_maker 58 = .ok (.aload_n 0, 1) := by decide +kernel
theorem dX6_maker_59 : decode cX6_maker 59 = .ok (.getfield 19, 3) := by decide +kernel
theorem dX6_maker_62 : decode cX6_maker 62 = .ok (.getfield 133, 3) := by decide +kernel
theorem dX6_maker_65 : decode cX6_maker 65 = .ok (.iload_n 1, 1) := by decide +kernel
theorem dX6_maker_66 : decode cX6_maker 66 = .ok (.iaload, 1) := by decide +kernel
theorem dX6_maker_67 : decode cX6_maker 67 = .ok (.ireturn, 1) := by decide +kernel
theorem dX6_maker_68 : decode cX6_maker 68 = .ok (.aload_n 0, 1) := by decide +kernel
theorem dX6_maker_69 : decode cX6_maker 69 = .ok (.getfield 19, 3) := by decide +kernel
theorem dX6_maker_72 : decode cX6_maker 72 = .ok (.getfield 136, 3) := by decide +kernel
theorem dX6_maker_75 : decode cX6_maker 75 = .ok (.iload_n 1, 1) := by decide +kernel
theorem dX6_maker_76 : decode cX6_maker 76 = .ok (.iaload, 1) := by decide +kernel
theorem dX6_maker_77 : decode cX6_maker 77 = .ok (.ireturn, 1) := by decide +kernel
theorem dX6_maker_78 : decode cX6_maker 78 = .ok (.aload_n 0, 1) := by decide +kernel
theorem dX6_maker_79 : decode cX6_maker 79 = .ok (.aload_n 0, 1) := by decide +kernel
theorem dX6_maker_80 : decode cX6_maker 80 = .ok (.getfield 19, 3) := by decide +kernel
theorem dX6_maker_83 : decode cX6_maker 83 = .ok (.iload_n 1, 1) := by decide +kernel
theorem dX6_maker_84 : decode cX6_maker 84 = .ok (.invokevirtual 139, 3) := by decide +kernel
theorem dX6_maker_87 : decode cX6_maker 87 = .ok (.ireturn, 1) := by decide +kernel
theorem dX6_maker_88 : decode cX6_maker 88 = .ok (.aload_n 0, 1) := by decide +kernel
theorem dX6_maker_89 : decode cX6_maker 89 = .ok (.aload_n 0, 1) := by decide +kernel
theorem dX6_maker_90 : decode cX6_maker 90 = .ok (.getfield 19, 3) := by decide +kernel
theorem dX6_maker_93 : decode cX6_maker 93 = .ok (.iload_n 1, 1) := by decide +kernel
theorem dX6_maker_94 : decode cX6_maker 94 = .ok (.invokevirtual 142, 3) := by decide +kernel
theorem dX6_maker_97 : decode cX6_maker 97 = .ok (.ireturn, 1) := by decide +kernel
theorem dX6_maker_98 : decode cX6_maker 98 = .ok (.bipush (-2), 2) := by decide +kernel
theorem dX6_maker_100 : decode cX6_maker 100 = .ok (.ireturn, 1) := by decide +kernel
theorem dX6_reprice_0 : decode cX6_reprice 0 = .ok (.aload_n 0, 1) := by decide +kernel
theorem dX6_reprice_1 : decode cX6_reprice 1 = .ok (.iconst 1, 1) := by decide +kernel
theorem dX6_reprice_2 : decode cX6_reprice 2 = .ok (.iload_n 1, 1) := by decide +kernel
theorem dX6_reprice_3 : decode cX6_reprice 3 = .ok (.iload_n 2, 1) := by decide +kernel
theorem dX6_reprice_4 : decode cX6_reprice 4 = .ok (.invokevirtual 145, 3) := by decide +kernel
theorem dX6_reprice_7 : decode cX6_reprice 7 = .ok (.ireturn, 1) := by decide +kernel
theorem dX6_restock_0 : decode cX6_restock 0 = .ok (.aload_n 0, 1) := by decide +kernel
theorem dX6_restock_1 : decode cX6_restock 1 = .ok (.iconst 2, 1) := by decide +kernel
theorem dX6_restock_2 : decode cX6_restock 2 = .ok (.iload_n 1, 1) := by decide +kernel
theorem dX6_restock_3 : decode cX6_restock 3 = .ok (.iload_n 2, 1) := by decide +kernel
theorem dX6_restock_4 : decode cX6_restock 4 = .ok (.invokevirtual 145, 3) := by decide +kernel
theorem dX6_restock_7 : decode cX6_restock 7 = .ok (.ireturn, 1) := by decide +kernel
theorem dX6_want_0 : decode cX6_want 0 = .ok (.aload_n 0, 1) := by decide +kernel
theorem dX6_want_1 : decode cX6_want 1 = .ok (.iconst 3, 1) := by decide +kernel
theorem dX6_want_2 : decode cX6_want 2 = .ok (.iload_n 1, 1) := by decide +kernel
theorem dX6_want_3 : decode cX6_want 3 = .ok (.iload_n 2, 1) := by decide +kernel
theorem dX6_want_4 : decode cX6_want 4 = .ok (.invokevirtual 145, 3) := by decide +kernel
theorem dX6_want_7 : decode cX6_want 7 = .ok (.ireturn, 1) := by decide +kernel
theorem dX6_bear_0 : decode cX6_bear 0 = .ok (.aload_n 0, 1) := by decide +kernel
theorem dX6_bear_1 : decode cX6_bear 1 = .ok (.iconst 4, 1) := by decide +kernel
theorem dX6_bear_2 : decode cX6_bear 2 = .ok (.iconst 0, 1) := by decide +kernel
theorem dX6_bear_3 : decode cX6_bear 3 = .ok (.iload_n 1, 1) := by decide +kernel
theorem dX6_bear_4 : decode cX6_bear 4 = .ok (.invokevirtual 145, 3) := by decide +kernel
theorem dX6_bear_7 : decode cX6_bear 7 = .ok (.ireturn, 1) := by decide +kernel
theorem dX6_undo_0 : decode cX6_undo 0 = .ok (.aload_n 0, 1) := by decide +kernel
theorem dX6_undo_1 : decode cX6_undo 1 = .ok (.getfield 43, 3) := by decide +kernel
theorem dX6_undo_4 : decode cX6_undo 4 = .ok (.getfield 88, 3) := by decide +kernel
theorem dX6_undo_7 : decode cX6_undo 7 = .ok (.ifCond .gt 6, 3) := by decide +kernel
theorem dX6_undo_10 : decode cX6_undo 10 = .ok (.bipush (-3), 2) := by decide +kernel
theorem dX6_undo_12 : decode cX6_undo 12 = .ok (.ireturn, 1) := by decide +kernel
theorem dX6_undo_13 : decode cX6_undo 13 = .ok (.aload_n 0, 1) := by decide +kernel
theorem dX6_undo_14 : decode cX6_undo 14 = .ok (.getfield 43, 3) := by decide +kernel
theorem dX6_undo_17 : decode cX6_undo 17 = .ok (.dup, 1) := by decide +kernel
theorem dX6_undo_18 : decode cX6_undo 18 = .ok (.getfield 88, 3) := by decide +kernel
theorem dX6_undo_21 : decode cX6_undo 21 = .ok (.iconst 1, 1) := by decide +kernel
theorem dX6_undo_22 : decode cX6_undo 22 = .ok (.isub, 1) := by decide +kernel
theorem dX6_undo_23 : decode cX6_undo 23 = .ok (.putfield 88, 3) := by decide +kernel
theorem dX6_undo_26 : decode cX6_undo 26 = .ok (.aload_n 0, 1) := by decide +kernel
theorem dX6_undo_27 : decode cX6_undo 27 = .ok (.getfield 43, 3) := by decide +kernel
theorem dX6_undo_30 : decode cX6_undo 30 = .ok (.getfield 88, 3) := by decide +kernel
theorem dX6_undo_33 : decode cX6_undo 33 = .ok (.istore_n 1, 1) := by decide +kernel
theorem dX6_undo_34 : decode cX6_undo 34 = .ok (.aload_n 0, 1) := by decide +kernel
theorem dX6_undo_35 : decode cX6_undo 35 = .ok (.getfield 19, 3) := by decide +kernel
theorem dX6_undo_38 : decode cX6_undo 38 = .ok (.aload_n 0, 1) := by decide +kernel
theorem dX6_undo_39 : decode cX6_undo 39 = .ok (.getfield 43, 3) := by decide +kernel
theorem dX6_undo_42 : decode cX6_undo 42 = .ok (.getfield 149, 3) := by decide +kernel
theorem dX6_undo_45 : decode cX6_undo 45 = .ok (.iload_n 1, 1) := by decide +kernel
theorem dX6_undo_46 : decode cX6_undo 46 = .ok (.iaload, 1) := by decide +kernel
theorem dX6_undo_47 : decode cX6_undo 47 = .ok (.aload_n 0, 1) := by decide +kernel
theorem dX6_undo_48 : decode cX6_undo 48 = .ok (.getfield 43, 3) := by decide +kernel
theorem dX6_undo_51 : decode cX6_undo 51 = .ok (.getfield 152, 3) := by decide +kernel
theorem dX6_undo_54 : decode cX6_undo 54 = .ok (.iload_n 1, 1) := by decide +kernel
theorem dX6_undo_55 : decode cX6_undo 55 = .ok (.iaload, 1) := by decide +kernel
theorem dX6_undo_56 : decode cX6_undo 56 = .ok (.aload_n 0, 1) := by decide +kernel
theorem dX6_undo_57 : decode cX6_undo 57 = .ok (.getfield 43, 3) := by decide +kernel
theorem dX6_undo_60 : decode cX6_undo 60 = .ok (.getfield 155, 3) := by decide +kernel
theorem dX6_undo_63 : decode cX6_undo 63 = .ok (.iload_n 1, 1) := by decide +kernel
theorem dX6_undo_64 : decode cX6_undo 64 = .ok (.iaload, 1) := by decide +kernel
theorem dX6_undo_65 : decode cX6_undo 65 = .ok (.invokevirtual 158, 3) := by decide +kernel
theorem dX6_undo_68 : decode cX6_undo 68 = .ok (.pop, 1) := by decide +kernel
theorem dX6_undo_69 : decode cX6_undo 69 = .ok (.aload_n 0, 1) := by decide +kernel
theorem dX6_undo_70 : decode cX6_undo 70 = .ok (.getfield 43, 3) := by decide +kernel
theorem dX6_undo_73 : decode cX6_undo 73 = .ok (.getfield 88, 3) := by decide +kernel
theorem dX6_undo_76 : decode cX6_undo 76 = .ok (.ireturn, 1) := by decide +kernel
theorem dX6_doNow_0 : decode cX6_doNow 0 = .ok (.aload_n 0, 1) := by decide +kernel
theorem dX6_doNow_1 : decode cX6_doNow 1 = .ok (.getfield 19, 3) := by decide +kernel
theorem dX6_doNow_4 : decode cX6_doNow 4 = .ok (.iload_n 1, 1) := by decide +kernel
theorem dX6_doNow_5 : decode cX6_doNow 5 = .ok (.iload_n 2, 1) := by decide +kernel
theorem dX6_doNow_6 : decode cX6_doNow 6 = .ok (.iload_n 3, 1) := by decide +kernel
theorem dX6_doNow_7 : decode cX6_doNow 7 = .ok (.invokevirtual 161, 3) := by decide +kernel
theorem dX6_doNow_10 : decode cX6_doNow 10 = .ok (.istore 4, 2) := by decide +kernel
theorem dX6_doNow_12 : decode cX6_doNow 12 = .ok (.iload 4, 2) := by decide +kernel
theorem dX6_doNow_14 : decode cX6_doNow 14 = .ok (.ifCond .eq 6, 3) := by decide +kernel
theorem dX6_doNow_17 : decode cX6_doNow 17 = .ok (.iload 4, 2) := by decide +kernel
theorem dX6_doNow_19 : decode cX6_doNow 19 = .ok (.ireturn, 1) := by decide +kernel
theorem dX6_doNow_20 : decode cX6_doNow 20 = .ok (.aload_n 0, 1) := by decide +kernel
theorem dX6_doNow_21 : decode cX6_doNow 21 = .ok (.getfield 19, 3) := by decide +kernel
theorem dX6_doNow_24 : decode cX6_doNow 24 = .ok (.iload_n 1, 1) := by decide +kernel
theorem dX6_doNow_25 : decode cX6_doNow 25 = .ok (.iload_n 2, 1) := by decide +kernel
theorem dX6_doNow_26 : decode cX6_doNow 26 = .ok (.iload_n 3, 1) := by decide +kernel
theorem dX6_doNow_27 : decode cX6_doNow 27 = .ok (.invokevirtual 158, 3) := by decide +kernel
theorem dX6_doNow_30 : decode cX6_doNow 30 = .ok (.istore 5, 2) := by decide +kernel
theorem dX6_doNow_32 : decode cX6_doNow 32 = .ok (.aload_n 0, 1) := by decide +kernel
theorem dX6_doNow_33 : decode cX6_doNow 33 = .ok (.getfield 43, 3) := by decide +kernel
theorem dX6_doNow_36 : decode cX6_doNow 36 = .ok (.iload_n 1, 1) := by decide +kernel
theorem dX6_doNow_37 : decode cX6_doNow 37 = .ok (.iload_n 2, 1) := by decide +kernel
theorem dX6_doNow_38 : decode cX6_doNow 38 = .ok (.iload 5, 2) := by decide +kernel
theorem dX6_doNow_40 : decode cX6_doNow 40 = .ok (.invokevirtual 164, 3) := by decide +kernel
theorem dX6_doNow_43 : decode cX6_doNow 43 = .ok (.iload 5, 2) := by decide +kernel
theorem dX6_doNow_45 : decode cX6_doNow 45 = .ok (.ireturn, 1) := by decide +kernel
theorem dX6_best_0 : decode cX6_best 0 = .ok (.aload_n 0, 1) := by decide +kernel
theorem dX6_best_1 : decode cX6_best 1 = .ok (.aload_n 0, 1) := by decide +kernel
theorem dX6_best_2 : decode cX6_best 2 = .ok (.getfield 19, 3) := by decide +kernel
theorem dX6_best_5 : decode cX6_best 5 = .ok (.aload_n 0, 1) := by decide +kernel
theorem dX6_best_6 : decode cX6_best 6 = .ok (.getfield 19, 3) := by decide +kernel
theorem dX6_best_9 : decode cX6_best 9 = .ok (.invokevirtual 97, 3) := by decide +kernel
theorem dX6_best_12 : decode cX6_best 12 = .ok (.invokevirtual 101, 3) := by decide +kernel
theorem dX6_best_15 : decode cX6_best 15 = .ok (.bipush (-9), 2) := by decide +kernel
theorem dX6_best_17 : decode cX6_best 17 = .ok (.if_icmp .ne 6, 3) := by decide +kernel
theorem dX6_best_20 : decode cX6_best 20 = .ok (.bipush (-9), 2) := by decide +kernel
theorem dX6_best_22 : decode cX6_best 22 = .ok (.ireturn, 1) := by decide +kernel
theorem dX6_best_23 : decode cX6_best 23 = .ok (.aload_n 0, 1) := by decide +kernel
theorem dX6_best_24 : decode cX6_best 24 = .ok (.getfield 29, 3) := by decide +kernel
theorem dX6_best_27 : decode cX6_best 27 = .ok (.getfield 124, 3) := by decide +kernel
theorem dX6_best_30 : decode cX6_best 30 = .ok (.aload_n 0, 1) := by decide +kernel
theorem dX6_best_31 : decode cX6_best 31 = .ok (.getfield 19, 3) := by decide +kernel
theorem dX6_best_34 : decode cX6_best 34 = .ok (.getfield 94, 3) := by decide +kernel
theorem dX6_best_37 : decode cX6_best 37 = .ok (.invokestatic 168, 3) := by decide +kernel
theorem dX6_best_40 : decode cX6_best 40 = .ok (.ireturn, 1) := by decide +kernel
theorem dX6_cost_0 : decode cX6_cost 0 = .ok (.aload_n 0, 1) := by decide +kernel
theorem dX6_cost_1 : decode cX6_cost 1 = .ok (.iload_n 1, 1) := by decide +kernel
theorem dX6_cost_2 : decode cX6_cost 2 = .ok (.i2l, 1) := by decide +kernel
theorem dX6_cost_3 : decode cX6_cost 3 = .ok (.aload_n 0, 1) := by decide +kernel
theorem dX6_cost_4 : decode cX6_cost 4 = .ok (.getfield 19, 3) := by decide +kernel
theorem dX6_cost_7 : decode cX6_cost 7 = .ok (.getfield 94, 3) := by decide +kernel
theorem dX6_cost_10 : decode cX6_cost 10 = .ok (.invokevirtual 172, 3) := by decide +kernel
theorem dX6_cost_13 : decode cX6_cost 13 = .ok (.ifCond .ne 6, 3) := by decide +kernel
theorem dX6_cost_16 : decode cX6_cost 16 = .ok (.bipush (-2), 2) := by decide +kernel
theorem dX6_cost_18 : decode cX6_cost 18 = .ok (.ireturn, 1) := by decide +kernel
theorem dX6_cost_19 : decode cX6_cost 19 = .ok (.aload_n 0, 1) := by decide +kernel
theorem dX6_cost_20 : decode cX6_cost 20 = .ok (.getfield 29, 3) := by decide +kernel
theorem dX6_cost_23 : decode cX6_cost 23 = .ok (.aload_n 0, 1) := by decide +kernel
theorem dX6_cost_24 : decode cX6_cost 24 = .ok (.getfield 19, 3) := by decide +kernel
theorem dX6_cost_27 : decode cX6_cost 27 = .ok (.aload_n 0, 1) := by decide +kernel
theorem dX6_cost_28 : decode cX6_cost 28 = .ok (.getfield 19, 3) := by decide +kernel
theorem dX6_cost_31 : decode cX6_cost 31 = .ok (.invokevirtual 97, 3) := by decide +kernel
theorem dX6_cost_34 : decode cX6_cost 34 = .ok (.invokevirtual 176, 3) := by decide +kernel
theorem dX6_cost_37 : decode cX6_cost 37 = .ok (.iconst 0, 1) := by decide +kernel
theorem dX6_cost_38 : decode cX6_cost 38 = .ok (.istore_n 2, 1) := by decide +kernel
theorem dX6_cost_39 : decode cX6_cost 39 = .ok (.iconst 0, 1) := by decide +kernel
theorem dX6_cost_40 : decode cX6_cost 40 = .ok (.istore_n 3, 1) := by decide +kernel
theorem dX6_cost_41 : decode cX6_cost 41 = .ok (.iconst 0, 1) := by decide +kernel
theorem dX6_cost_42 : decode cX6_cost 42 = .ok (.istore 4, 2) := by decide +kernel
theorem dX6_cost_44 : decode cX6_cost 44 = .ok (.iload 4, 2) := by decide +kernel
theorem dX6_cost_46 : decode cX6_cost 46 = .ok (.aload_n 0, 1) := by decide +kernel
theorem dX6_cost_47 : decode cX6_cost 47 = .ok (.getfield 19, 3) := by decide +kernel
theorem dX6_cost_50 : decode cX6_cost 50 = .ok (.getfield 94, 3) := by decide +kernel
theorem dX6_cost_53 : decode cX6_cost 53 = .ok (.if_icmp .ge 134, 3) := by decide +kernel
theorem dX6_cost_56 : decode cX6_cost 56 = .ok (.aload_n 0, 1) := by decide +kernel
theorem dX6_cost_57 : decode cX6_cost 57 = .ok (.getfield 58, 3) := by decide +kernel
theorem dX6_cost_60 : decode cX6_cost 60 = .ok (.iload 4, 2) := by decide +kernel
theorem dX6_cost_62 : decode cX6_cost 62 = .ok (.iaload, 1) := by decide +kernel
theorem dX6_cost_63 : decode cX6_cost 63 = .ok (.istore 5, 2) := by decide +kernel
theorem dX6_cost_65 : decode cX6_cost 65 = .ok (.iload 5, 2) := by decide +kernel
theorem dX6_cost_67 : decode cX6_cost 67 = .ok (.bipush 9, 2) := by decide +kernel
theorem dX6_cost_69 : decode cX6_cost 69 = .ok (.if_icmp .ne 32, 3) := by decide +kernel
theorem dX6_cost_72 : decode cX6_cost 72 = .ok (.iinc 3 1, 3) := by decide +kernel
theorem dX6_cost_75 : decode cX6_cost 75 = .ok (.iload_n 3, 1) := by decide +kernel
theorem dX6_cost_76 : decode cX6_cost 76 = .ok (.aload_n 0, 1) := by decide +kernel
theorem dX6_cost_77 : decode cX6_cost 77 = .ok (.getfield 19, 3) := by decide +kernel
theorem dX6_cost_80 : decode cX6_cost 80 = .ok (.getfield 81, 3) := by decide +kernel
theorem dX6_cost_83 : decode cX6_cost 83 = .ok (.if_icmp .gt 15, 3) := by decide +kernel
theorem dX6_cost_86 : decode cX6_cost 86 = .ok (.aload_n 0, 1) := by decide +kernel
theorem dX6_cost_87 : decode cX6_cost 87 = .ok (.getfield 19, 3) := by decide +kernel
theorem dX6_cost_90 : decode cX6_cost 90 = .ok (.iload 4, 2) := by decide +kernel
theorem dX6_cost_92 : decode cX6_cost 92 = .ok (.invokevirtual 180, 3) := by decide +kernel
theorem dX6_cost_95 : decode cX6_cost 95 = .ok (.ifCond .ne 86, 3) := by decide +kernel
theorem dX6_cost_98 : decode cX6_cost 98 = .ok (.bipush (-9), 2) := by decide +kernel
theorem dX6_cost_100 : decode cX6_cost 100 = .ok (.ireturn, 1) := by decide +kernel
theorem dX6_cost_101 : decode cX6_cost 101 = .ok (.aload_n 0, 1) := by decide +kernel
theorem dX6_cost_102 : decode cX6_cost 102 = .ok (.getfield 19, 3) := by decide +kernel
theorem dX6_cost_105 : decode cX6_cost 105 = .ok (.iload 5, 2) := by decide +kernel
theorem dX6_cost_107 : decode cX6_cost 107 = .ok (.invokevirtual 127, 3) := by decide +kernel
theorem dX6_cost_110 : decode cX6_cost 110 = .ok (.ifCond .eq 21, 3) := by decide +kernel
theorem dX6_cost_113 : decode cX6_cost 113 = .ok (.aload_n 0, 1) := by decide +kernel
theorem dX6_cost_114 : decode cX6_cost 114 = .ok (.getfield 29, 3) := by decide +kernel
theorem dX6_cost_117 : decode cX6_cost 117 = .ok (.aload_n 0, 1) := by decide +kernel
theorem dX6_cost_118 : decode cX6_cost 118 = .ok (.getfield 19, 3) := by decide +kernel
theorem dX6_cost_121 : decode cX6_cost 121 = .ok (.iload 5, 2) := by decide +kernel
theorem dX6_cost_123 : decode cX6_cost 123 = .ok (.iload 4, 2) := by decide +kernel
theorem dX6_cost_125 : decode cX6_cost 125 = .ok (.invokevirtual 183, 3) := by decide +kernel
theorem dX6_cost_128 : decode cX6_cost 128 = .ok (.ifCond .ne 6, 3) := by decide +kernel
theorem dX6_cost_131 : decode cX6_cost 131 = .ok (.bipush (-9), 2) := by decide +kernel
theorem dX6_cost_133 : decode cX6_cost 133 = .ok (.ireturn, 1) := by decide +kernel
theorem dX6_cost_134 : decode cX6_cost 134 = .ok (.aload_n 0, 1) := by decide +kernel
theorem dX6_cost_135 : decode cX6_cost 135 = .ok (.getfield 29, 3) := by decide +kernel
theorem dX6_cost_138 : decode cX6_cost 138 = .ok (.getfield 187, 3) := by decide +kernel
theorem dX6_cost_141 : decode cX6_cost 141 = .ok (.iload 5, 2) := by decide +kernel
theorem dX6_cost_143 : decode cX6_cost 143 = .ok (.dup2, 1) := by decide +kernel
theorem dX6_cost_144 : decode cX6_cost 144 = .ok (.iaload, 1) := by decide +kernel
theorem dX6_cost_145 : decode cX6_cost 145 = .ok (.aload_n 0, 1) := by decide +kernel
theorem dX6_cost_146 : decode cX6_cost 146 = .ok (.getfield 19, 3) := by decide +kernel
theorem dX6_cost_149 : decode cX6_cost 149 = .ok (.getfield 121, 3) := by decide +kernel
theorem dX6_cost_152 : decode cX6_cost 152 = .ok (.iload 4, 2) := by decide +kernel
theorem dX6_cost_154 : decode cX6_cost 154 = .ok (.iaload, 1) := by decide +kernel
theorem dX6_cost_155 : decode cX6_cost 155 = .ok (.isub, 1) := by decide +kernel
theorem dX6_cost_156 : decode cX6_cost 156 = .ok (.iastore, 1) := by decide +kernel
theorem dX6_cost_157 : decode cX6_cost 157 = .ok (.iload_n 2, 1) := by decide +kernel
theorem dX6_cost_158 : decode cX6_cost 158 = .ok (.aload_n 0, 1) := by decide +kernel
theorem dX6_cost_159 : decode cX6_cost 159 = .ok (.getfield 19, 3) := by decide +kernel
theorem dX6_cost_162 : decode cX6_cost 162 = .ok (.getfield 121, 3) := by decide +kernel
theorem dX6_cost_165 : decode cX6_cost 165 = .ok (.iload 4, 2) := by decide +kernel
theorem dX6_cost_167 : decode cX6_cost 167 = .ok (.iaload, 1) := by decide +kernel
theorem dX6_cost_168 : decode cX6_cost 168 = .ok (.aload_n 0, 1) := by decide +kernel
theorem dX6_cost_169 : decode cX6_cost 169 = .ok (.getfield 19, 3) := by decide +kernel
theorem dX6_cost_172 : decode cX6_cost 172 = .ok (.getfield 136, 3) := by decide +kernel
theorem dX6_cost_175 : decode cX6_cost 175 = .ok (.iload 5, 2) := by decide +kernel
theorem dX6_cost_177 : decode cX6_cost 177 = .ok (.iaload, 1) := by decide +kernel
theorem dX6_cost_178 : decode cX6_cost 178 = .ok (.imul, 1) := by decide +kernel
theorem dX6_cost_179 : decode cX6_cost 179 = .ok (.iadd, 1) := by decide +kernel
theorem dX6_cost_180 : decode cX6_cost 180 = .ok (.istore_n 2, 1) := by decide +kernel
theorem dX6_cost_181 : decode cX6_cost 181 = .ok (.iinc 4 1, 3) := by decide +kernel
theorem dX6_cost_184 : decode cX6_cost 184 = .ok (.goto (-140), 3) := by decide +kernel
theorem dX6_cost_187 : decode cX6_cost 187 = .ok (.iload_n 2, 1) := by decide +kernel
theorem dX6_cost_188 : decode cX6_cost 188 = .ok (.ireturn, 1) := by decide +kernel
theorem dX6_gain_0 : decode cX6_gain 0 = .ok (.aload_n 0, 1) := by decide +kernel
theorem dX6_gain_1 : decode cX6_gain 1 = .ok (.getfield 19, 3) := by decide +kernel
theorem dX6_gain_4 : decode cX6_gain 4 = .ok (.iconst 1, 1) := by decide +kernel
theorem dX6_gain_5 : decode cX6_gain 5 = .ok (.iload_n 1, 1) := by decide +kernel
theorem dX6_gain_6 : decode cX6_gain 6 = .ok (.iload_n 2, 1) := by decide +kernel
theorem dX6_gain_7 : decode cX6_gain 7 = .ok (.invokevirtual 161, 3) := by decide +kernel
theorem dX6_gain_10 : decode cX6_gain 10 = .ok (.istore_n 3, 1) := by decide +kernel
theorem dX6_gain_11 : decode cX6_gain 11 = .ok (.iload_n 3, 1) := by decide +kernel
theorem dX6_gain_12 : decode cX6_gain 12 = .ok (.ifCond .eq 5, 3) := by decide +kernel
theorem dX6_gain_15 : decode cX6_gain 15 = .ok (.iload_n 3, 1) := by decide +kernel
theorem dX6_gain_16 : decode cX6_gain 16 = .ok (.ireturn, 1) := by decide +kernel
theorem dX6_gain_17 : decode cX6_gain 17 = .ok (.aload_n 0, 1) := by decide +kernel
theorem dX6_gain_18 : decode cX6_gain 18 = .ok (.getfield 23, 3) := by decide +kernel
theorem dX6_gain_21 : decode cX6_gain 21 = .ok (.aload_n 0, 1) := by decide +kernel
theorem dX6_gain_22 : decode cX6_gain 22 = .ok (.getfield 19, 3) := by decide +kernel
theorem dX6_gain_25 : decode cX6_gain 25 = .ok (.invokevirtual 84, 3) := by decide +kernel
theorem dX6_gain_28 : decode cX6_gain 28 = .ok (.aload_n 0, 1) := by decide +kernel
theorem dX6_gain_29 : decode cX6_gain 29 = .ok (.getfield 23, 3) := by decide +kernel
theorem dX6_gain_32 : decode cX6_gain 32 = .ok (.iconst 1, 1) := by decide +kernel
theorem dX6_gain_33 : decode cX6_gain 33 = .ok (.iload_n 1, 1) := by decide +kernel
theorem dX6_gain_34 : decode cX6_gain 34 = .ok (.iload_n 2, 1) := by decide +kernel
theorem dX6_gain_35 : decode cX6_gain 35 = .ok (.invokevirtual 158, 3) := by decide +kernel
theorem dX6_gain_38 : decode cX6_gain 38 = .ok (.pop, 1) := by decide +kernel
theorem dX6_gain_39 : decode cX6_gain 39 = .ok (.aload_n 0, 1) := by decide +kernel
theorem dX6_gain_40 : decode cX6_gain 40 = .ok (.aload_n 0, 1) := by decide +kernel
theorem dX6_gain_41 : decode cX6_gain 41 = .ok (.getfield 23, 3) := by decide +kernel
theorem dX6_gain_44 : decode cX6_gain 44 = .ok (.iload_n 1, 1) := by decide +kernel
theorem dX6_gain_45 : decode cX6_gain 45 = .ok (.invokevirtual 142, 3) := by decide +kernel
theorem dX6_gain_48 : decode cX6_gain 48 = .ok (.istore 4, 2) := by decide +kernel
theorem dX6_gain_50 : decode cX6_gain 50 = .ok (.iload 4, 2) := by decide +kernel
theorem dX6_gain_52 : decode cX6_gain 52 = .ok (.bipush (-9), 2) := by decide +kernel
theorem dX6_gain_54 : decode cX6_gain 54 = .ok (.if_icmp .ne 6, 3) := by decide +kernel
theorem dX6_gain_57 : decode cX6_gain 57 = .ok (.bipush (-9), 2) := by decide +kernel
theorem dX6_gain_59 : decode cX6_gain 59 = .ok (.ireturn, 1) := by decide +kernel
theorem dX6_gain_60 : decode cX6_gain 60 = .ok (.iload 4, 2) := by decide +kernel
theorem dX6_gain_62 : decode cX6_gain 62 = .ok (.aload_n 0, 1) := by decide +kernel
theorem dX6_gain_63 : decode cX6_gain 63 = .ok (.aload_n 0, 1) := by decide +kernel
theorem dX6_gain_64 : decode cX6_gain 64 = .ok (.getfield 23, 3) := by decide +kernel
theorem dX6_gain_67 : decode cX6_gain 67 = .ok (.iload_n 1, 1) := by decide +kernel
theorem dX6_gain_68 : decode cX6_gain 68 = .ok (.invokevirtual 139, 3) := by decide +kernel
theorem dX6_gain_71 : decode cX6_gain 71 = .ok (.aload_n 0, 1) := by decide +kernel
theorem dX6_gain_72 : decode cX6_gain 72 = .ok (.getfield 19, 3) := by decide +kernel
theorem dX6_gain_75 : decode cX6_gain 75 = .ok (.getfield 136, 3) := by decide +kernel
theorem dX6_gain_78 : decode cX6_gain 78 = .ok (.iload_n 1, 1) := by decide +kernel
theorem dX6_gain_79 : decode cX6_gain 79 = .ok (.iaload, 1) := by decide +kernel
theorem dX6_gain_80 : decode cX6_gain 80 = .ok (.imul, 1) := by decide +kernel
theorem dX6_gain_81 : decode cX6_gain 81 = .ok (.isub, 1) := by decide +kernel
theorem dX6_gain_82 : decode cX6_gain 82 = .ok (.ireturn, 1) := by decide +kernel
theorem dX6_ran_0 : decode cX6_ran 0 = .ok (.iload_n 1, 1) := by decide +kernel
theorem dX6_ran_1 : decode cX6_ran 1 = .ok (.ifCond .lt 8, 3) := by decide +kernel
theorem dX6_ran_4 : decode cX6_ran 4 = .ok (.iload_n 1, 1) := by decide +kernel
theorem dX6_ran_5 : decode cX6_ran 5 = .ok (.iconst 2, 1) := by decide +kernel
theorem dX6_ran_6 : decode cX6_ran 6 = .ok (.if_icmp .le 6, 3) := by decide +kernel
theorem dX6_ran_9 : decode cX6_ran 9 = .ok (.bipush (-2), 2) := by decide +kernel
theorem dX6_ran_11 : decode cX6_ran 11 = .ok (.ireturn, 1) := by decide +kernel
theorem dX6_ran_12 : decode cX6_ran 12 = .ok (.aload_n 0, 1) := by decide +kernel
theorem dX6_ran_13 : decode cX6_ran 13 = .ok (.invokevirtual 108, 3) := by decide +kernel
theorem dX6_ran_16 : decode cX6_ran 16 = .ok (.iload_n 1, 1) := by decide +kernel
theorem dX6_ran_17 : decode cX6_ran 17 = .ok (.lookupswitch 43 #[(0, 27), (1, 35)], 27) := by decide +kernel
theorem dX6_ran_44 : decode cX6_ran 44 = .ok (.aload_n 0, 1) := by decide +kernel
theorem dX6_ran_45 : decode cX6_ran 45 = .ok (.getfield 36, 3) := by decide +kernel
theorem dX6_ran_48 : decode cX6_ran 48 = .ok (.getfield 190, 3) := by decide +kernel
theorem dX6_ran_51 : decode cX6_ran 51 = .ok (.ireturn, 1) := by decide +kernel
theorem dX6_ran_52 : decode cX6_ran 52 = .ok (.aload_n 0, 1) := by decide +kernel
theorem dX6_ran_53 : decode cX6_ran 53 = .ok (.getfield 36, 3) := by decide +kernel
theorem dX6_ran_56 : decode cX6_ran 56 = .ok (.getfield 193, 3) := by decide +kernel
theorem dX6_ran_59 : decode cX6_ran 59 = .ok (.ireturn, 1) := by decide +kernel
theorem dX6_ran_60 : decode cX6_ran 60 = .ok (.aload_n 0, 1) := by decide +kernel
theorem dX6_ran_61 : decode cX6_ran 61 = .ok (.getfield 23, 3) := by decide +kernel
theorem dX6_ran_64 : decode cX6_ran 64 = .ok (.getfield 133, 3) := by decide +kernel
theorem dX6_ran_67 : decode cX6_ran 67 = .ok (.aload_n 0, 1) := by decide +kernel
theorem dX6_ran_68 : decode cX6_ran 68 = .ok (.getfield 23, 3) := by decide +kernel
theorem dX6_ran_71 : decode cX6_ran 71 = .ok (.getfield 91, 3) := by decide +kernel
theorem dX6_ran_74 : decode cX6_ran 74 = .ok (.invokestatic 168, 3) := by decide +kernel
theorem dX6_ran_77 : decode cX6_ran 77 = .ok (.ireturn, 1) := by decide +kernel
theorem dX6_least_0 : decode cX6_least 0 = .ok (.aload_n 0, 1) := by decide +kernel
theorem dX6_least_1 : decode cX6_least 1 = .ok (.getfield 19, 3) := by decide +kernel
theorem dX6_least_4 : decode cX6_least 4 = .ok (.iload_n 1, 1) := by decide +kernel
theorem dX6_least_5 : decode cX6_least 5 = .ok (.invokevirtual 196, 3) := by decide +kernel
theorem dX6_least_8 : decode cX6_least 8 = .ok (.ifCond .eq 15, 3) := by decide +kernel
theorem dX6_least_11 : decode cX6_least 11 = .ok (.aload_n 0, 1) := by decide +kernel
theorem dX6_least_12 : decode cX6_least 12 = .ok (.aload_n 0, 1) := by decide +kernel
theorem dX6_least_13 : decode cX6_least 13 = .ok (.getfield 19, 3) := by decide +kernel
theorem dX6_least_16 : decode cX6_least 16 = .ok (.iload_n 1, 1) := by decide +kernel
theorem dX6_least_17 : decode cX6_least 17 = .ok (.invokevirtual 101, 3) := by decide +kernel
theorem dX6_least_20 : decode cX6_least 20 = .ok (.goto 5, 3) := by decide +kernel
theorem dX6_least_23 : decode cX6_least 23 = .ok (.bipush (-2), 2) := by decide +kernel
theorem dX6_least_25 : decode cX6_least 25 = .ok (.ireturn, 1) := by decide +kernel
theorem dX6_most_0 : decode cX6_most 0 = .ok (.aload_n 0, 1) := by decide +kernel
theorem dX6_most_1 : decode cX6_most 1 = .ok (.getfield 19, 3) := by decide +kernel
theorem dX6_most_4 : decode cX6_most 4 = .ok (.iload_n 1, 1) := by decide +kernel
theorem dX6_most_5 : decode cX6_most 5 = .ok (.invokevirtual 196, 3) := by decide +kernel
theorem dX6_most_8 : decode cX6_most 8 = .ok (.ifCond .eq 15, 3) := by decide +kernel
theorem dX6_most_11 : decode cX6_most 11 = .ok (.aload_n 0, 1) := by decide +kernel
theorem dX6_most_12 : decode cX6_most 12 = .ok (.aload_n 0, 1) := by decide +kernel
theorem dX6_most_13 : decode cX6_most 13 = .ok (.getfield 19, 3) := by decide +kernel
theorem dX6_most_16 : decode cX6_most 16 = .ok (.iload_n 1, 1) := by decide +kernel
theorem dX6_most_17 : decode cX6_most 17 = .ok (.invokevirtual 105, 3) := by decide +kernel
theorem dX6_most_20 : decode cX6_most 20 = .ok (.goto 5, 3) := by decide +kernel
theorem dX6_most_23 : decode cX6_most 23 = .ok (.bipush (-2), 2) := by decide +kernel
theorem dX6_most_25 : decode cX6_most 25 = .ok (.ireturn, 1) := by decide +kernel
theorem dX6_holds_0 : decode cX6_holds 0 = .ok (.aload_n 0, 1) := by decide +kernel
theorem dX6_holds_1 : decode cX6_holds 1 = .ok (.iload_n 1, 1) := by decide +kernel
theorem dX6_holds_2 : decode cX6_holds 2 = .ok (.i2l, 1) := by decide +kernel
theorem dX6_holds_3 : decode cX6_holds 3 = .ok (.aload_n 0, 1) := by decide +kernel
theorem dX6_holds_4 : decode cX6_holds 4 = .ok (.getfield 19, 3) := by decide +kernel
theorem dX6_holds_7 : decode cX6_holds 7 = .ok (.getfield 91, 3) := by decide +kernel
theorem dX6_holds_10 : decode cX6_holds 10 = .ok (.invokevirtual 172, 3) := by decide +kernel
theorem dX6_holds_13 : decode cX6_holds 13 = .ok (.ifCond .ne 6, 3) := by decide +kernel
theorem dX6_holds_16 : decode cX6_holds 16 = .ok (.bipush (-2), 2) := by decide +kernel
theorem dX6_holds_18 : decode cX6_holds 18 = .ok (.ireturn, 1) := by decide +kernel
theorem dX6_holds_19 : decode cX6_holds 19 = .ok (.aload_n 0, 1) := by decide +kernel
theorem dX6_holds_20 : decode cX6_holds 20 = .ok (.getfield 19, 3) := by decide +kernel
theorem dX6_holds_23 : decode cX6_holds 23 = .ok (.invokevirtual 97, 3) := by decide +kernel
theorem dX6_holds_26 : decode cX6_holds 26 = .ok (.istore_n 2, 1) := by decide +kernel
theorem dX6_holds_27 : decode cX6_holds 27 = .ok (.aload_n 0, 1) := by decide +kernel
theorem dX6_holds_28 : decode cX6_holds 28 = .ok (.iload_n 2, 1) := by decide +kernel
theorem dX6_holds_29 : decode cX6_holds 29 = .ok (.invokevirtual 199, 3) := by decide +kernel
theorem dX6_holds_32 : decode cX6_holds 32 = .ok (.aload_n 0, 1) := by decide +kernel
theorem dX6_holds_33 : decode cX6_holds 33 = .ok (.aload_n 0, 1) := by decide +kernel
theorem dX6_holds_34 : decode cX6_holds 34 = .ok (.getfield 19, 3) := by decide +kernel
theorem dX6_holds_37 : decode cX6_holds 37 = .ok (.iload_n 2, 1) := by decide +kernel
theorem dX6_holds_38 : decode cX6_holds 38 = .ok (.invokevirtual 105, 3) := by decide +kernel
theorem dX6_holds_41 : decode cX6_holds 41 = .ok (.if_icmp .eq 6, 3) := by decide +kernel
theorem dX6_holds_44 : decode cX6_holds 44 = .ok (.bipush (-3), 2) := by decide +kernel
theorem dX6_holds_46 : decode cX6_holds 46 = .ok (.ireturn, 1) := by decide +kernel
theorem dX6_holds_47 : decode cX6_holds 47 = .ok (.iconst 1, 1) := by decide +kernel
theorem dX6_holds_48 : decode cX6_holds 48 = .ok (.istore_n 3, 1) := by decide +kernel
theorem dX6_holds_49 : decode cX6_holds 49 = .ok (.iload_n 3, 1) := by decide +kernel
theorem dX6_holds_50 : decode cX6_holds 50 = .ok (.iload_n 2, 1) := by decide +kernel
theorem dX6_holds_51 : decode cX6_holds 51 = .ok (.if_icmp .gt 28, 3) := by decide +kernel
theorem dX6_holds_54 : decode cX6_holds 54 = .ok (.aload_n 0, 1) := by decide +kernel
theorem dX6_holds_55 : decode cX6_holds 55 = .ok (.iload_n 3, 1) := by decide +kernel
theorem dX6_holds_56 : decode cX6_holds 56 = .ok (.invokevirtual 199, 3) := by decide +kernel
theorem dX6_holds_59 : decode cX6_holds 59 = .ok (.aload_n 0, 1) := by decide +kernel
theorem dX6_holds_60 : decode cX6_holds 60 = .ok (.aload_n 0, 1) := by decide +kernel
theorem dX6_holds_61 : decode cX6_holds 61 = .ok (.getfield 19, 3) := by decide +kernel
theorem dX6_holds_64 : decode cX6_holds 64 = .ok (.iload_n 3, 1) := by decide +kernel
theorem dX6_holds_65 : decode cX6_holds 65 = .ok (.invokevirtual 105, 3) := by decide +kernel
theorem dX6_holds_68 : decode cX6_holds 68 = .ok (.if_icmp .ge 5, 3) := by decide +kernel
theorem dX6_holds_71 : decode cX6_holds 71 = .ok (.iload_n 3, 1) := by decide +kernel
theorem dX6_holds_72 : decode cX6_holds 72 = .ok (.ireturn, 1) := by decide +kernel
theorem dX6_holds_73 : decode cX6_holds 73 = .ok (.iinc 3 1, 3) := by decide +kernel
theorem dX6_holds_76 : decode cX6_holds 76 = .ok (.goto (-27), 3) := by decide +kernel
theorem dX6_holds_79 : decode cX6_holds 79 = .ok (.bipush (-9), 2) := by decide +kernel
theorem dX6_holds_81 : decode cX6_holds 81 = .ok (.ireturn, 1) := by decide +kernel
theorem dX6_judge_0 : decode cX6_judge 0 = .ok (.iload_n 1, 1) := by decide +kernel
theorem dX6_judge_1 : decode cX6_judge 1 = .ok (.iconst 1, 1) := by decide +kernel
theorem dX6_judge_2 : decode cX6_judge 2 = .ok (.if_icmp .lt 19, 3) := by decide +kernel
theorem dX6_judge_5 : decode cX6_judge 5 = .ok (.iload_n 1, 1) := by decide +kernel
theorem dX6_judge_6 : decode cX6_judge 6 = .ok (.iconst 4, 1) := by decide +kernel
theorem dX6_judge_7 : decode cX6_judge 7 = .ok (.if_icmp .gt 14, 3) := by decide +kernel
theorem dX6_judge_10 : decode cX6_judge 10 = .ok (.aload_n 0, 1) := by decide +kernel
theorem dX6_judge_11 : decode cX6_judge 11 = .ok (.lload_n 2, 1) := by decide +kernel
theorem dX6_judge_12 : decode cX6_judge 12 = .ok (.iload_n 1, 1) := by decide +kernel
theorem dX6_judge_13 : decode cX6_judge 13 = .ok (.iconst 4, 1) := by decide +kernel
theorem dX6_judge_14 : decode cX6_judge 14 = .ok (.imul, 1) := by decide +kernel
theorem dX6_judge_15 : decode cX6_judge 15 = .ok (.invokevirtual 172, 3) := by decide +kernel
theorem dX6_judge_18 : decode cX6_judge 18 = .ok (.ifCond .ne 6, 3) := by decide +kernel
theorem dX6_judge_21 : decode cX6_judge 21 = .ok (.bipush (-2), 2) := by decide +kernel
theorem dX6_judge_23 : decode cX6_judge 23 = .ok (.ireturn, 1) := by decide +kernel
theorem dX6_judge_24 : decode cX6_judge 24 = .ok (.aload_n 0, 1) := by decide +kernel
theorem dX6_judge_25 : decode cX6_judge 25 = .ok (.getfield 23, 3) := by decide +kernel
theorem dX6_judge_28 : decode cX6_judge 28 = .ok (.aload_n 0, 1) := by decide +kernel
theorem dX6_judge_29 : decode cX6_judge 29 = .ok (.getfield 19, 3) := by decide +kernel
theorem dX6_judge_32 : decode cX6_judge 32 = .ok (.invokevirtual 84, 3) := by decide +kernel
theorem dX6_judge_35 : decode cX6_judge 35 = .ok (.iconst 0, 1) := by decide +kernel
theorem dX6_judge_36 : decode cX6_judge 36 = .ok (.istore 4, 2) := by decide +kernel
theorem dX6_judge_38 : decode cX6_judge 38 = .ok (.iload 4, 2) := by decide +kernel
theorem dX6_judge_40 : decode cX6_judge 40 = .ok (.iload_n 1, 1) := by decide +kernel
theorem dX6_judge_41 : decode cX6_judge 41 = .ok (.if_icmp .ge 23, 3) := by decide +kernel
theorem dX6_judge_44 : decode cX6_judge 44 = .ok (.aload_n 0, 1) := by decide +kernel
theorem dX6_judge_45 : decode cX6_judge 45 = .ok (.iload 4, 2) := by decide +kernel
theorem dX6_judge_47 : decode cX6_judge 47 = .ok (.iconst 4, 1) := by decide +kernel
theorem dX6_judge_48 : decode cX6_judge 48 = .ok (.imul, 1) := by decide +kernel
theorem dX6_judge_49 : decode cX6_judge 49 = .ok (.invokevirtual 203, 3) := by decide +kernel
theorem dX6_judge_52 : decode cX6_judge 52 = .ok (.ifCond .ne 6, 3) := by decide +kernel
theorem dX6_judge_55 : decode cX6_judge 55 = .ok (.iload 4, 2) := by decide +kernel
theorem dX6_judge_57 : decode cX6_judge 57 = .ok (.ireturn, 1) := by decide +kernel
theorem dX6_judge_58 : decode cX6_judge 58 = .ok (.iinc 4 1, 3) := by decide +kernel
theorem dX6_judge_61 : decode cX6_judge 61 = .ok (.goto (-23), 3) := by decide +kernel
theorem dX6_judge_64 : decode cX6_judge 64 = .ok (.bipush (-9), 2) := by decide +kernel
theorem dX6_judge_66 : decode cX6_judge 66 = .ok (.ireturn, 1) := by decide +kernel
theorem dX6_share_0 : decode cX6_share 0 = .ok (.aload_n 0, 1) := by decide +kernel
theorem dX6_share_1 : decode cX6_share 1 = .ok (.getfield 19, 3) := by decide +kernel
theorem dX6_share_4 : decode cX6_share 4 = .ok (.iload_n 1, 1) := by decide +kernel
theorem dX6_share_5 : decode cX6_share 5 = .ok (.invokevirtual 127, 3) := by decide +kernel
theorem dX6_share_8 : decode cX6_share 8 = .ok (.ifCond .ne 5, 3) := by decide +kernel
theorem dX6_share_11 : decode cX6_share 11 = .ok (.iconst (-1), 1) := by decide +kernel
theorem dX6_share_12 : decode cX6_share 12 = .ok (.ireturn, 1) := by decide +kernel
theorem dX6_share_13 : decode cX6_share 13 = .ok (.iconst 1, 1) := by decide +kernel
theorem dX6_share_14 : decode cX6_share 14 = .ok (.iload_n 1, 1) := by decide +kernel
theorem dX6_share_15 : decode cX6_share 15 = .ok (.ishl, 1) := by decide +kernel
theorem dX6_share_16 : decode cX6_share 16 = .ok (.istore_n 3, 1) := by decide +kernel
theorem dX6_share_17 : decode cX6_share 17 = .ok (.iconst 0, 1) := by decide +kernel
theorem dX6_share_18 : decode cX6_share 18 = .ok (.istore 4, 2) := by decide +kernel
theorem dX6_share_20 : decode cX6_share 20 = .ok (.iconst 0, 1) := by decide +kernel
theorem dX6_share_21 : decode cX6_share 21 = .ok (.istore 5, 2) := by decide +kernel
theorem dX6_share_23 : decode cX6_share 23 = .ok (.iload 5, 2) := by decide +kernel
theorem dX6_share_25 : decode cX6_share 25 = .ok (.aload_n 0, 1) := by decide +kernel
theorem dX6_share_26 : decode cX6_share 26 = .ok (.getfield 19, 3) := by decide +kernel
theorem dX6_share_29 : decode cX6_share 29 = .ok (.invokevirtual 97, 3) := by decide +kernel
theorem dX6_share_32 : decode cX6_share 32 = .ok (.if_icmp .gt 83, 3) := by decide +kernel
theorem dX6_share_35 : decode cX6_share 35 = .ok (.iload 5, 2) := by decide +kernel
theorem dX6_share_37 : decode cX6_share 37 = .ok (.iload_n 3, 1) := by decide +kernel
theorem dX6_share_38 : decode cX6_share 38 = .ok (.iand, 1) := by decide +kernel
theorem dX6_share_39 : decode cX6_share 39 = .ok (.ifCond .ne 70, 3) := by decide +kernel
theorem dX6_share_42 : decode cX6_share 42 = .ok (.iload 5, 2) := by decide +kernel
theorem dX6_share_44 : decode cX6_share 44 = .ok (.invokestatic 206, 3) := by decide +kernel
theorem dX6_share_47 : decode cX6_share 47 = .ok (.istore 6, 2) := by decide +kernel
theorem dX6_share_49 : decode cX6_share 49 = .ok (.aload_n 0, 1) := by decide +kernel
theorem dX6_share_50 : decode cX6_share 50 = .ok (.getfield 19, 3) := by decide +kernel
theorem dX6_share_53 : decode cX6_share 53 = .ok (.getfield 91, 3) := by decide +kernel
theorem dX6_share_56 : decode cX6_share 56 = .ok (.iconst 1, 1) := by decide +kernel
theorem dX6_share_57 : decode cX6_share 57 = .ok (.isub, 1) := by decide +kernel
theorem dX6_share_58 : decode cX6_share 58 = .ok (.iload 6, 2) := by decide +kernel
theorem dX6_share_60 : decode cX6_share 60 = .ok (.isub, 1) := by decide +kernel
theorem dX6_share_61 : decode cX6_share 61 = .ok (.istore 7, 2) := by decide +kernel
theorem dX6_share_63 : decode cX6_share 63 = .ok (.aload_n 0, 1) := by decide +kernel
theorem dX6_share_64 : decode cX6_share 64 = .ok (.aload_n 0, 1) := by decide +kernel
theorem dX6_share_65 : decode cX6_share 65 = .ok (.getfield 19, 3) := by decide +kernel
theorem dX6_share_68 : decode cX6_share 68 = .ok (.iload 5, 2) := by decide +kernel
theorem dX6_share_70 : decode cX6_share 70 = .ok (.iload_n 3, 1) := by decide +kernel
theorem dX6_share_71 : decode cX6_share 71 = .ok (.ior, 1) := by decide +kernel
theorem dX6_share_72 : decode cX6_share 72 = .ok (.invokevirtual 105, 3) := by decide +kernel
theorem dX6_share_75 : decode cX6_share 75 = .ok (.aload_n 0, 1) := by decide +kernel
theorem dX6_share_76 : decode cX6_share 76 = .ok (.aload_n 0, 1) := by decide +kernel
theorem dX6_share_77 : decode cX6_share 77 = .ok (.getfield 19, 3) := by decide +kernel
theorem dX6_share_80 : decode cX6_share 80 = .ok (.iload 5, 2) := by decide +kernel
theorem dX6_share_82 : decode cX6_share 82 = .ok (.invokevirtual 105, 3) := by decide +kernel
theorem dX6_share_85 : decode cX6_share 85 = .ok (.isub, 1) := by decide +kernel
theorem dX6_share_86 : decode cX6_share 86 = .ok (.istore 8, 2) := by decide +kernel
theorem dX6_share_88 : decode cX6_share 88 = .ok (.iload 4, 2) := by decide +kernel
theorem dX6_share_90 : decode cX6_share 90 = .ok (.getstatic 211, 3) := by decide +kernel
theorem dX6_share_93 : decode cX6_share 93 = .ok (.iload 6, 2) := by decide +kernel
theorem dX6_share_95 : decode cX6_share 95 = .ok (.iaload, 1) := by decide +kernel
theorem dX6_share_96 : decode cX6_share 96 = .ok (.getstatic 211, 3) := by decide +kernel
theorem dX6_share_99 : decode cX6_share 99 = .ok (.iload 7, 2) := by decide +kernel
theorem dX6_share_101 : decode cX6_share 101 = .ok (.iaload, 1) := by decide +kernel
theorem dX6_share_102 : decode cX6_share 102 = .ok (.imul, 1) := by decide +kernel
theorem dX6_share_103 : decode cX6_share 103 = .ok (.iload 8, 2) := by decide +kernel
theorem dX6_share_105 : decode cX6_share 105 = .ok (.imul, 1) := by decide +kernel
theorem dX6_share_106 : decode cX6_share 106 = .ok (.iadd, 1) := by decide +kernel
theorem dX6_share_107 : decode cX6_share 107 = .ok (.istore 4, 2) := by decide +kernel
theorem dX6_share_109 : decode cX6_share 109 = .ok (.iinc 5 1, 3) := by decide +kernel
theorem dX6_share_112 : decode cX6_share 112 = .ok (.goto (-89), 3) := by decide +kernel
theorem dX6_share_115 : decode cX6_share 115 = .ok (.iload 4, 2) := by decide +kernel
theorem dX6_share_117 : decode cX6_share 117 = .ok (.getstatic 211, 3) := by decide +kernel
theorem dX6_share_120 : decode cX6_share 120 = .ok (.aload_n 0, 1) := by decide +kernel
theorem dX6_share_121 : decode cX6_share 121 = .ok (.getfield 19, 3) := by decide +kernel
theorem dX6_share_124 : decode cX6_share 124 = .ok (.getfield 91, 3) := by decide +kernel
theorem dX6_share_127 : decode cX6_share 127 = .ok (.iaload, 1) := by decide +kernel
theorem dX6_share_128 : decode cX6_share 128 = .ok (.iload_n 2, 1) := by decide +kernel
theorem dX6_share_129 : decode cX6_share 129 = .ok (.invokestatic 214, 3) := by decide +kernel
theorem dX6_share_132 : decode cX6_share 132 = .ok (.ireturn, 1) := by decide +kernel
theorem dX6_see_0 : decode cX6_see 0 = .ok (.aload_n 0, 1) := by decide +kernel
theorem dX6_see_1 : decode cX6_see 1 = .ok (.getfield 19, 3) := by decide +kernel
theorem dX6_see_4 : decode cX6_see 4 = .ok (.iload_n 1, 1) := by decide +kernel
theorem dX6_see_5 : decode cX6_see 5 = .ok (.invokevirtual 115, 3) := by decide +kernel
theorem dX6_see_8 : decode cX6_see 8 = .ok (.ifCond .eq 20, 3) := by decide +kernel
theorem dX6_see_11 : decode cX6_see 11 = .ok (.aload_n 0, 1) := by decide +kernel
theorem dX6_see_12 : decode cX6_see 12 = .ok (.getfield 19, 3) := by decide +kernel
theorem dX6_see_15 : decode cX6_see 15 = .ok (.iload_n 2, 1) := by decide +kernel
theorem dX6_see_16 : decode cX6_see 16 = .ok (.invokevirtual 127, 3) := by decide +kernel
theorem dX6_see_19 : decode cX6_see 19 = .ok (.ifCond .ne 11, 3) := by decide +kernel
theorem dX6_see_22 : decode cX6_see 22 = .ok (.iload_n 2, 1) := by decide +kernel
theorem dX6_see_23 : decode cX6_see 23 = .ok (.bipush 9, 2) := by decide +kernel
theorem dX6_see_25 : decode cX6_see 25 = .ok (.if_icmp .eq 5, 3) := by decide +kernel
theorem dX6_see_28 : decode cX6_see 28 = .ok (.iconst (-1), 1) := by decide +kernel
theorem dX6_see_29 : decode cX6_see 29 = .ok (.ireturn, 1) := by decide +kernel
theorem dX6_see_30 : decode cX6_see 30 = .ok (.iload_n 3, 1) := by decide +kernel
theorem dX6_see_31 : decode cX6_see 31 = .ok (.ifCond .eq 11, 3) := by decide +kernel
theorem dX6_see_34 : decode cX6_see 34 = .ok (.iload_n 3, 1) := by decide +kernel
theorem dX6_see_35 : decode cX6_see 35 = .ok (.iconst 1, 1) := by decide +kernel
theorem dX6_see_36 : decode cX6_see 36 = .ok (.if_icmp .eq 6, 3) := by decide +kernel
theorem dX6_see_39 : decode cX6_see 39 = .ok (.bipush (-2), 2) := by decide +kernel
theorem dX6_see_41 : decode cX6_see 41 = .ok (.ireturn, 1) := by decide +kernel
theorem dX6_see_42 : decode cX6_see 42 = .ok (.aload_n 0, 1) := by decide +kernel
theorem dX6_see_43 : decode cX6_see 43 = .ok (.getfield 50, 3) := by decide +kernel
theorem dX6_see_46 : decode cX6_see 46 = .ok (.iload_n 1, 1) := by decide +kernel
theorem dX6_see_47 : decode cX6_see 47 = .ok (.iload_n 2, 1) := by decide +kernel
theorem dX6_see_48 : decode cX6_see 48 = .ok (.iload_n 3, 1) := by decide +kernel
theorem dX6_see_49 : decode cX6_see 49 = .ok (.iconst 1, 1) := by decide +kernel
theorem dX6_see_50 : decode cX6_see 50 = .ok (.if_icmp .ne 7, 3) := by decide +kernel
theorem dX6_see_53 : decode cX6_see 53 = .ok (.iconst 1, 1) := by decide +kernel
theorem dX6_see_54 : decode cX6_see 54 = .ok (.goto 4, 3) := by decide +kernel
theorem dX6_see_57 : decode cX6_see 57 = .ok (.iconst 0, 1) := by decide +kernel
theorem dX6_see_58 : decode cX6_see 58 = .ok (.invokevirtual 218, 3) := by decide +kernel
theorem dX6_see_61 : decode cX6_see 61 = .ok (.ifCond .eq 13, 3) := by decide +kernel
theorem dX6_see_64 : decode cX6_see 64 = .ok (.aload_n 0, 1) := by decide +kernel
theorem dX6_see_65 : decode cX6_see 65 = .ok (.getfield 50, 3) := by decide +kernel
theorem dX6_see_68 : decode cX6_see 68 = .ok (.getfield 114, 3) := by decide +kernel
theorem dX6_see_71 : decode cX6_see 71 = .ok (.goto 5, 3) := by decide +kernel
theorem dX6_see_74 : decode cX6_see 74 = .ok (.bipush (-4), 2) := by decide +kernel
theorem dX6_see_76 : decode cX6_see 76 = .ok (.ireturn, 1) := by decide +kernel
theorem dX6_unsee_0 : decode cX6_unsee 0 = .ok (.aload_n 0, 1) := by decide +kernel
theorem dX6_unsee_1 : decode cX6_unsee 1 = .ok (.getfield 50, 3) := by decide +kernel
theorem dX6_unsee_4 : decode cX6_unsee 4 = .ok (.getfield 114, 3) := by decide +kernel
theorem dX6_unsee_7 : decode cX6_unsee 7 = .ok (.istore_n 1, 1) := by decide +kernel
theorem dX6_unsee_8 : decode cX6_unsee 8 = .ok (.aload_n 0, 1) := by decide +kernel
theorem dX6_unsee_9 : decode cX6_unsee 9 = .ok (.getfield 50, 3) := by decide +kernel
theorem dX6_unsee_12 : decode cX6_unsee 12 = .ok (.iconst 0, 1) := by decide +kernel
theorem dX6_unsee_13 : decode cX6_unsee 13 = .ok (.putfield 114, 3) := by decide +kernel
theorem dX6_unsee_16 : decode cX6_unsee 16 = .ok (.iload_n 1, 1) := by decide +kernel
theorem dX6_unsee_17 : decode cX6_unsee 17 = .ok (.ireturn, 1) := by decide +kernel
theorem dX6_which_0 : decode cX6_which 0 = .ok (.iload_n 1, 1) := by decide +kernel
theorem dX6_which_1 : decode cX6_which 1 = .ok (.ifCond .eq 11, 3) := by decide +kernel
theorem dX6_which_4 : decode cX6_which 4 = .ok (.iload_n 1, 1) := by decide +kernel
theorem dX6_which_5 : decode cX6_which 5 = .ok (.iconst 1, 1) := by decide +kernel
theorem dX6_which_6 : decode cX6_which 6 = .ok (.if_icmp .eq 6, 3) := by decide +kernel
theorem dX6_which_9 : decode cX6_which 9 = .ok (.bipush (-2), 2) := by decide +kernel
theorem dX6_which_11 : decode cX6_which 11 = .ok (.ireturn, 1) := by decide +kernel
theorem dX6_which_12 : decode cX6_which 12 = .ok (.aload_n 0, 1) := by decide +kernel
theorem dX6_which_13 : decode cX6_which 13 = .ok (.getfield 23, 3) := by decide +kernel
theorem dX6_which_16 : decode cX6_which 16 = .ok (.aload_n 0, 1) := by decide +kernel
theorem dX6_which_17 : decode cX6_which 17 = .ok (.getfield 19, 3) := by decide +kernel
theorem dX6_which_20 : decode cX6_which 20 = .ok (.invokevirtual 84, 3) := by decide +kernel
theorem dX6_which_23 : decode cX6_which 23 = .ok (.iconst 0, 1) := by decide +kernel
theorem dX6_which_24 : decode cX6_which 24 = .ok (.istore_n 2, 1) := by decide +kernel
theorem dX6_which_25 : decode cX6_which 25 = .ok (.bipush (-9), 2) := by decide +kernel
theorem dX6_which_27 : decode cX6_which 27 = .ok (.istore_n 3, 1) := by decide +kernel
theorem dX6_which_28 : decode cX6_which 28 = .ok (.iconst 0, 1) := by decide +kernel
theorem dX6_which_29 : decode cX6_which 29 = .ok (.istore 4, 2) := by decide +kernel
theorem dX6_which_31 : decode cX6_which 31 = .ok (.iload 4, 2) := by decide +kernel
theorem dX6_which_33 : decode cX6_which 33 = .ok (.aload_n 0, 1) := by decide +kernel
theorem dX6_which_34 : decode cX6_which 34 = .ok (.getfield 19, 3) := by decide +kernel
theorem dX6_which_37 : decode cX6_which 37 = .ok (.getfield 91, 3) := by decide +kernel
theorem dX6_which_40 : decode cX6_which 40 = .ok (.if_icmp .ge 105, 3) := by decide +kernel
theorem dX6_which_43 : decode cX6_which 43 = .ok (.iconst 0, 1) := by decide +kernel
theorem dX6_which_44 : decode cX6_which 44 = .ok (.istore 5, 2) := by decide +kernel
theorem dX6_which_46 : decode cX6_which 46 = .ok (.iload 5, 2) := by decide +kernel
theorem dX6_which_48 : decode cX6_which 48 = .ok (.bipush 9, 2) := by decide +kernel
theorem dX6_which_50 : decode cX6_which 50 = .ok (.if_icmp .gt 69, 3) := by decide +kernel
theorem dX6_which_53 : decode cX6_which 53 = .ok (.aload_n 0, 1) := by decide +kernel
theorem dX6_which_54 : decode cX6_which 54 = .ok (.getfield 23, 3) := by decide +kernel
theorem dX6_which_57 : decode cX6_which 57 = .ok (.getfield 136, 3) := by decide +kernel
theorem dX6_which_60 : decode cX6_which 60 = .ok (.iload 4, 2) := by decide +kernel
theorem dX6_which_62 : decode cX6_which 62 = .ok (.iload 5, 2) := by decide +kernel
theorem dX6_which_64 : decode cX6_which 64 = .ok (.iastore, 1) := by decide +kernel
theorem dX6_which_65 : decode cX6_which 65 = .ok (.iload 5, 2) := by decide +kernel
theorem dX6_which_67 : decode cX6_which 67 = .ok (.aload_n 0, 1) := by decide +kernel
theorem dX6_which_68 : decode cX6_which 68 = .ok (.getfield 19, 3) := by decide +kernel
theorem dX6_which_71 : decode cX6_which 71 = .ok (.getfield 136, 3) := by decide +kernel
theorem dX6_which_74 : decode cX6_which 74 = .ok (.iload 4, 2) := by decide +kernel
theorem dX6_which_76 : decode cX6_which 76 = .ok (.iaload, 1) := by decide +kernel
theorem dX6_which_77 : decode cX6_which 77 = .ok (.if_icmp .eq 36, 3) := by decide +kernel
theorem dX6_which_80 : decode cX6_which 80 = .ok (.aload_n 0, 1) := by decide +kernel
theorem dX6_which_81 : decode cX6_which 81 = .ok (.aload_n 0, 1) := by decide +kernel
theorem dX6_which_82 : decode cX6_which 82 = .ok (.getfield 23, 3) := by decide +kernel
theorem dX6_which_85 : decode cX6_which 85 = .ok (.invokevirtual 221, 3) := by decide +kernel
theorem dX6_which_88 : decode cX6_which 88 = .ok (.ifCond .eq 25, 3) := by decide +kernel
theorem dX6_which_91 : decode cX6_which 91 = .ok (.iinc 2 1, 3) := by decide +kernel
theorem dX6_which_94 : decode cX6_which 94 = .ok (.iload_n 3, 1) := by decide +kernel
theorem dX6_which_95 : decode cX6_which 95 = .ok (.bipush (-9), 2) := by decide +kernel
theorem dX6_which_97 : decode cX6_which 97 = .ok (.if_icmp .ne 14, 3) := by decide +kernel
theorem dX6_which_100 : decode cX6_which 100 = .ok (.bipush 10, 2) := by decide +kernel
theorem dX6_which_102 : decode cX6_which 102 = .ok (.iload 4, 2) := by decide +kernel
theorem dX6_which_104 : decode cX6_which 104 = .ok (.imul, 1) := by decide +kernel
theorem dX6_which_105 : decode cX6_which 105 = .ok (.iload 5, 2) := by decide +kernel
theorem dX6_which_107 : decode cX6_which 107 = .ok (.iadd, 1) := by decide +kernel
theorem dX6_which_108 : decode cX6_which 108 = .ok (.goto 4, 3) := by decide +kernel
theorem dX6_which_111 : decode cX6_which 111 = .ok (.iload_n 3, 1) := by decide +kernel
theorem dX6_which_112 : decode cX6_which 112 = .ok (.istore_n 3, 1) := by decide +kernel
theorem dX6_which_113 : decode cX6_which 113 = .ok (.iinc 5 1, 3) := by decide +kernel
theorem dX6_which_116 : decode cX6_which 116 = .ok (.goto (-70), 3) := by decide +kernel
theorem dX6_which_119 : decode cX6_which 119 = .ok (.aload_n 0, 1) := by decide +kernel
theorem dX6_which_120 : decode cX6_which 120 = .ok (.getfield 23, 3) := by decide +kernel
theorem dX6_which_123 : decode cX6_which 123 = .ok (.getfield 136, 3) := by decide +kernel
theorem dX6_which_126 : decode cX6_which 126 = .ok (.iload 4, 2) := by decide +kernel
theorem dX6_which_128 : decode cX6_which 128 = .ok (.aload_n 0, 1) := by decide +kernel
theorem dX6_which_129 : decode cX6_which 129 = .ok (.getfield 19, 3) := by decide +kernel
theorem dX6_which_132 : decode cX6_which 132 = .ok (.getfield 136, 3) := by decide +kernel
theorem dX6_which_135 : decode cX6_which 135 = .ok (.iload 4, 2) := by decide +kernel
theorem dX6_which_137 : decode cX6_which 137 = .ok (.iaload, 1) := by decide +kernel
theorem dX6_which_138 : decode cX6_which 138 = .ok (.iastore, 1) := by decide +kernel
theorem dX6_which_139 : decode cX6_which 139 = .ok (.iinc 4 1, 3) := by decide +kernel
theorem dX6_which_142 : decode cX6_which 142 = .ok (.goto (-111), 3) := by decide +kernel
theorem dX6_which_145 : decode cX6_which 145 = .ok (.iload_n 1, 1) := by decide +kernel
theorem dX6_which_146 : decode cX6_which 146 = .ok (.ifCond .ne 7, 3) := by decide +kernel
theorem dX6_which_149 : decode cX6_which 149 = .ok (.iload_n 2, 1) := by decide +kernel
theorem dX6_which_150 : decode cX6_which 150 = .ok (.goto 4, 3) := by decide +kernel
theorem dX6_which_153 : decode cX6_which 153 = .ok (.iload_n 3, 1) := by decide +kernel
theorem dX6_which_154 : decode cX6_which 154 = .ok (.ireturn, 1) := by decide +kernel
theorem dX6_gone_0 : decode cX6_gone 0 = .ok (.iload_n 1, 1) := by decide +kernel
theorem dX6_gone_1 : decode cX6_gone 1 = .ok (.ifCond .lt 9, 3) := by decide +kernel
theorem dX6_gone_4 : decode cX6_gone 4 = .ok (.iload_n 1, 1) := by decide +kernel
theorem dX6_gone_5 : decode cX6_gone 5 = .ok (.bipush 10, 2) := by decide +kernel
theorem dX6_gone_7 : decode cX6_gone 7 = .ok (.if_icmp .le 6, 3) := by decide +kernel
theorem dX6_gone_10 : decode cX6_gone 10 = .ok (.bipush (-2), 2) := by decide +kernel
theorem dX6_gone_12 : decode cX6_gone 12 = .ok (.ireturn, 1) := by decide +kernel
theorem dX6_gone_13 : decode cX6_gone 13 = .ok (.iconst 0, 1) := by decide +kernel
theorem dX6_gone_14 : decode cX6_gone 14 = .ok (.istore_n 3, 1) := by decide +kernel
theorem dX6_gone_15 : decode cX6_gone 15 = .ok (.iconst 1, 1) := by decide +kernel
theorem dX6_gone_16 : decode cX6_gone 16 = .ok (.istore 4, 2) := by decide +kernel
theorem dX6_gone_18 : decode cX6_gone 18 = .ok (.iconst 0, 1) := by decide +kernel
theorem dX6_gone_19 : decode cX6_gone 19 = .ok (.istore 5, 2) := by decide +kernel
theorem dX6_gone_21 : decode cX6_gone 21 = .ok (.iload 5, 2) := by decide +kernel
theorem dX6_gone_23 : decode cX6_gone 23 = .ok (.aload_n 0, 1) := by decide +kernel
theorem dX6_gone_24 : decode cX6_gone 24 = .ok (.getfield 19, 3) := by decide +kernel
theorem dX6_gone_27 : decode cX6_gone 27 = .ok (.getfield 91, 3) := by decide +kernel
theorem dX6_gone_30 : decode cX6_gone 30 = .ok (.if_icmp .ge 16, 3) := by decide +kernel
theorem dX6_gone_33 : decode cX6_gone 33 = .ok (.iload 4, 2) := by decide +kernel
theorem dX6_gone_35 : decode cX6_gone 35 = .ok (.bipush 10, 2) := by decide +kernel
theorem dX6_gone_37 : decode cX6_gone 37 = .ok (.imul, 1) := by decide +kernel
theorem dX6_gone_38 : decode cX6_gone 38 = .ok (.istore 4, 2) := by decide +kernel
theorem dX6_gone_40 : decode cX6_gone 40 = .ok (.iinc 5 1, 3) := by decide +kernel
theorem dX6_gone_43 : decode cX6_gone 43 = .ok (.goto (-22), 3) := by decide +kernel
theorem dX6_gone_46 : decode cX6_gone 46 = .ok (.iconst 0, 1) := by decide +kernel
theorem dX6_gone_47 : decode cX6_gone 47 = .ok (.istore 5, 2) := by decide +kernel
theorem dX6_gone_49 : decode cX6_gone 49 = .ok (.iload 5, 2) := by decide +kernel
theorem dX6_gone_51 : decode cX6_gone 51 = .ok (.aload_n 0, 1) := by decide +kernel
theorem dX6_gone_52 : decode cX6_gone 52 = .ok (.getfield 19, 3) := by decide +kernel
theorem dX6_gone_55 : decode cX6_gone 55 = .ok (.invokevirtual 97, 3) := by decide +kernel
theorem dX6_gone_58 : decode cX6_gone 58 = .ok (.if_icmp .gt 34, 3) := by decide +kernel
theorem dX6_gone_61 : decode cX6_gone 61 = .ok (.aload_n 0, 1) := by decide +kernel
theorem dX6_gone_62 : decode cX6_gone 62 = .ok (.aload_n 0, 1) := by decide +kernel
theorem dX6_gone_63 : decode cX6_gone 63 = .ok (.getfield 19, 3) := by decide +kernel
theorem dX6_gone_66 : decode cX6_gone 66 = .ok (.iload 5, 2) := by decide +kernel
theorem dX6_gone_68 : decode cX6_gone 68 = .ok (.invokevirtual 101, 3) := by decide +kernel
end
section
theorem dX6_gone_71 : decode cX6_gone 71 = .ok (.bipush (-9), 2) := by decide +kernel
theorem dX6_gone_73 : decode cX6_gone 73 = .ok (.if_icmp .eq 13, 3) := by decide +kernel
theorem dX6_gone_76 : decode cX6_gone 76 = .ok (.iload_n 3, 1) := by decide +kernel
theorem dX6_gone_77 : decode cX6_gone 77 = .ok (.aload_n 0, 1) := by decide +kernel
theorem dX6_gone_78 : decode cX6_gone 78 = .ok (.iload 5, 2) := by decide +kernel
theorem dX6_gone_80 : decode cX6_gone 80 = .ok (.iload_n 1, 1) := by decide +kernel
theorem dX6_gone_81 : decode cX6_gone 81 = .ok (.invokevirtual 225, 3) := by decide +kernel
theorem dX6_gone_84 : decode cX6_gone 84 = .ok (.iadd, 1) := by decide +kernel
theorem dX6_gone_85 : decode cX6_gone 85 = .ok (.istore_n 3, 1) := by decide +kernel
theorem dX6_gone_86 : decode cX6_gone 86 = .ok (.iinc 5 1, 3) := by decide +kernel
theorem dX6_gone_89 : decode cX6_gone 89 = .ok (.goto (-40), 3) := by decide +kernel
theorem dX6_gone_92 : decode cX6_gone 92 = .ok (.iload_n 3, 1) := by decide +kernel
theorem dX6_gone_93 : decode cX6_gone 93 = .ok (.iload 4, 2) := by decide +kernel
theorem dX6_gone_95 : decode cX6_gone 95 = .ok (.iload_n 2, 1) := by decide +kernel
theorem dX6_gone_96 : decode cX6_gone 96 = .ok (.invokestatic 214, 3) := by decide +kernel
theorem dX6_gone_99 : decode cX6_gone 99 = .ok (.ireturn, 1) := by decide +kernel
theorem dX6_seed_0 : decode cX6_seed 0 = .ok (.aload_n 0, 1) := by decide +kernel
theorem dX6_seed_1 : decode cX6_seed 1 = .ok (.getfield 66, 3) := by decide +kernel
theorem dX6_seed_4 : decode cX6_seed 4 = .ok (.lstore_n 3, 1) := by decide +kernel
theorem dX6_seed_5 : decode cX6_seed 5 = .ok (.aload_n 0, 1) := by decide +kernel
theorem dX6_seed_6 : decode cX6_seed 6 = .ok (.lload_n 1, 1) := by decide +kernel
theorem dX6_seed_7 : decode cX6_seed 7 = .ok (.putfield 66, 3) := by decide +kernel
theorem dX6_seed_10 : decode cX6_seed 10 = .ok (.lload_n 3, 1) := by decide +kernel
theorem dX6_seed_11 : decode cX6_seed 11 = .ok (.lreturn, 1) := by decide +kernel
theorem dX6_drawn_0 : decode cX6_drawn 0 = .ok (.iload_n 1, 1) := by decide +kernel
theorem dX6_drawn_1 : decode cX6_drawn 1 = .ok (.iconst 1, 1) := by decide +kernel
theorem dX6_drawn_2 : decode cX6_drawn 2 = .ok (.if_icmp .lt 9, 3) := by decide +kernel
theorem dX6_drawn_5 : decode cX6_drawn 5 = .ok (.iload_n 1, 1) := by decide +kernel
theorem dX6_drawn_6 : decode cX6_drawn 6 = .ok (.bipush 20, 2) := by decide +kernel
theorem dX6_drawn_8 : decode cX6_drawn 8 = .ok (.if_icmp .le 6, 3) := by decide +kernel
theorem dX6_drawn_11 : decode cX6_drawn 11 = .ok (.bipush (-2), 2) := by decide +kernel
theorem dX6_drawn_13 : decode cX6_drawn 13 = .ok (.ireturn, 1) := by decide +kernel
theorem dX6_drawn_14 : decode cX6_drawn 14 = .ok (.aload_n 0, 1) := by decide +kernel
theorem dX6_drawn_15 : decode cX6_drawn 15 = .ok (.getfield 23, 3) := by decide +kernel
theorem dX6_drawn_18 : decode cX6_drawn 18 = .ok (.aload_n 0, 1) := by decide +kernel
theorem dX6_drawn_19 : decode cX6_drawn 19 = .ok (.getfield 19, 3) := by decide +kernel
theorem dX6_drawn_22 : decode cX6_drawn 22 = .ok (.invokevirtual 84, 3) := by decide +kernel
theorem dX6_drawn_25 : decode cX6_drawn 25 = .ok (.iconst 0, 1) := by decide +kernel
theorem dX6_drawn_26 : decode cX6_drawn 26 = .ok (.istore_n 2, 1) := by decide +kernel
theorem dX6_drawn_27 : decode cX6_drawn 27 = .ok (.iconst 0, 1) := by decide +kernel
theorem dX6_drawn_28 : decode cX6_drawn 28 = .ok (.istore_n 3, 1) := by decide +kernel
theorem dX6_drawn_29 : decode cX6_drawn 29 = .ok (.iload_n 3, 1) := by decide +kernel
theorem dX6_drawn_30 : decode cX6_drawn 30 = .ok (.iload_n 1, 1) := by decide +kernel
theorem dX6_drawn_31 : decode cX6_drawn 31 = .ok (.if_icmp .ge 101, 3) := by decide +kernel
theorem dX6_drawn_34 : decode cX6_drawn 34 = .ok (.iconst 0, 1) := by decide +kernel
theorem dX6_drawn_35 : decode cX6_drawn 35 = .ok (.istore 4, 2) := by decide +kernel
theorem dX6_drawn_37 : decode cX6_drawn 37 = .ok (.iload 4, 2) := by decide +kernel
theorem dX6_drawn_39 : decode cX6_drawn 39 = .ok (.aload_n 0, 1) := by decide +kernel
theorem dX6_drawn_40 : decode cX6_drawn 40 = .ok (.getfield 23, 3) := by decide +kernel
theorem dX6_drawn_43 : decode cX6_drawn 43 = .ok (.getfield 91, 3) := by decide +kernel
theorem dX6_drawn_46 : decode cX6_drawn 46 = .ok (.if_icmp .ge 47, 3) := by decide +kernel
theorem dX6_drawn_49 : decode cX6_drawn 49 = .ok (.aload_n 0, 1) := by decide +kernel
theorem dX6_drawn_50 : decode cX6_drawn 50 = .ok (.aload_n 0, 1) := by decide +kernel
theorem dX6_drawn_51 : decode cX6_drawn 51 = .ok (.getfield 66, 3) := by decide +kernel
theorem dX6_drawn_54 : decode cX6_drawn 54 = .ok (.ldc2_w 229, 3) := by decide +kernel
theorem dX6_drawn_57 : decode cX6_drawn 57 = .ok (.lmul, 1) := by decide +kernel
theorem dX6_drawn_58 : decode cX6_drawn 58 = .ok (.ldc2_w 231, 3) := by decide +kernel
theorem dX6_drawn_61 : decode cX6_drawn 61 = .ok (.ladd, 1) := by decide +kernel
theorem dX6_drawn_62 : decode cX6_drawn 62 = .ok (.putfield 66, 3) := by decide +kernel
theorem dX6_drawn_65 : decode cX6_drawn 65 = .ok (.aload_n 0, 1) := by decide +kernel
theorem dX6_drawn_66 : decode cX6_drawn 66 = .ok (.getfield 23, 3) := by decide +kernel
theorem dX6_drawn_69 : decode cX6_drawn 69 = .ok (.getfield 136, 3) := by decide +kernel
theorem dX6_drawn_72 : decode cX6_drawn 72 = .ok (.iload 4, 2) := by decide +kernel
theorem dX6_drawn_74 : decode cX6_drawn 74 = .ok (.aload_n 0, 1) := by decide +kernel
theorem dX6_drawn_75 : decode cX6_drawn 75 = .ok (.getfield 66, 3) := by decide +kernel
theorem dX6_drawn_78 : decode cX6_drawn 78 = .ok (.bipush 33, 2) := by decide +kernel
theorem dX6_drawn_80 : decode cX6_drawn 80 = .ok (.lushr, 1) := by decide +kernel
theorem dX6_drawn_81 : decode cX6_drawn 81 = .ok (.ldc2_w 233, 3) := by decide +kernel
theorem dX6_drawn_84 : decode cX6_drawn 84 = .ok (.lrem, 1) := by decide +kernel
theorem dX6_drawn_85 : decode cX6_drawn 85 = .ok (.l2i, 1) := by decide +kernel
theorem dX6_drawn_86 : decode cX6_drawn 86 = .ok (.iastore, 1) := by decide +kernel
theorem dX6_drawn_87 : decode cX6_drawn 87 = .ok (.iinc 4 1, 3) := by decide +kernel
theorem dX6_drawn_90 : decode cX6_drawn 90 = .ok (.goto (-53), 3) := by decide +kernel
theorem dX6_drawn_93 : decode cX6_drawn 93 = .ok (.aload_n 0, 1) := by decide +kernel
theorem dX6_drawn_94 : decode cX6_drawn 94 = .ok (.aload_n 0, 1) := by decide +kernel
theorem dX6_drawn_95 : decode cX6_drawn 95 = .ok (.getfield 23, 3) := by decide +kernel
theorem dX6_drawn_98 : decode cX6_drawn 98 = .ok (.aload_n 0, 1) := by decide +kernel
theorem dX6_drawn_99 : decode cX6_drawn 99 = .ok (.getfield 23, 3) := by decide +kernel
theorem dX6_drawn_102 : decode cX6_drawn 102 = .ok (.invokevirtual 97, 3) := by decide +kernel
theorem dX6_drawn_105 : decode cX6_drawn 105 = .ok (.invokevirtual 101, 3) := by decide +kernel
theorem dX6_drawn_108 : decode cX6_drawn 108 = .ok (.istore 4, 2) := by decide +kernel
theorem dX6_drawn_110 : decode cX6_drawn 110 = .ok (.iload_n 2, 1) := by decide +kernel
theorem dX6_drawn_111 : decode cX6_drawn 111 = .ok (.iload 4, 2) := by decide +kernel
theorem dX6_drawn_113 : decode cX6_drawn 113 = .ok (.bipush (-9), 2) := by decide +kernel
theorem dX6_drawn_115 : decode cX6_drawn 115 = .ok (.if_icmp .ne 7, 3) := by decide +kernel
theorem dX6_drawn_118 : decode cX6_drawn 118 = .ok (.iconst 0, 1) := by decide +kernel
theorem dX6_drawn_119 : decode cX6_drawn 119 = .ok (.goto 5, 3) := by decide +kernel
theorem dX6_drawn_122 : decode cX6_drawn 122 = .ok (.iload 4, 2) := by decide +kernel
theorem dX6_drawn_124 : decode cX6_drawn 124 = .ok (.iadd, 1) := by decide +kernel
theorem dX6_drawn_125 : decode cX6_drawn 125 = .ok (.istore_n 2, 1) := by decide +kernel
theorem dX6_drawn_126 : decode cX6_drawn 126 = .ok (.iinc 3 1, 3) := by decide +kernel
theorem dX6_drawn_129 : decode cX6_drawn 129 = .ok (.goto (-100), 3) := by decide +kernel
theorem dX6_drawn_132 : decode cX6_drawn 132 = .ok (.iload_n 2, 1) := by decide +kernel
theorem dX6_drawn_133 : decode cX6_drawn 133 = .ok (.ireturn, 1) := by decide +kernel
theorem dX6_keep_0 : decode cX6_keep 0 = .ok (.aload_n 0, 1) := by decide +kernel
theorem dX6_keep_1 : decode cX6_keep 1 = .ok (.iload_n 1, 1) := by decide +kernel
theorem dX6_keep_2 : decode cX6_keep 2 = .ok (.invokevirtual 235, 3) := by decide +kernel
theorem dX6_keep_5 : decode cX6_keep 5 = .ok (.astore_n 2, 1) := by decide +kernel
theorem dX6_keep_6 : decode cX6_keep 6 = .ok (.aload_n 2, 1) := by decide +kernel
theorem dX6_keep_7 : decode cX6_keep 7 = .ok (.ifnonnull 5, 3) := by decide +kernel
theorem dX6_keep_10 : decode cX6_keep 10 = .ok (.iconst (-1), 1) := by decide +kernel
theorem dX6_keep_11 : decode cX6_keep 11 = .ok (.ireturn, 1) := by decide +kernel
theorem dX6_keep_12 : decode cX6_keep 12 = .ok (.aload_n 2, 1) := by decide +kernel
theorem dX6_keep_13 : decode cX6_keep 13 = .ok (.aload_n 0, 1) := by decide +kernel
theorem dX6_keep_14 : decode cX6_keep 14 = .ok (.getfield 19, 3) := by decide +kernel
theorem dX6_keep_17 : decode cX6_keep 17 = .ok (.invokevirtual 84, 3) := by decide +kernel
theorem dX6_keep_20 : decode cX6_keep 20 = .ok (.aload_n 0, 1) := by decide +kernel
theorem dX6_keep_21 : decode cX6_keep 21 = .ok (.dup, 1) := by decide +kernel
theorem dX6_keep_22 : decode cX6_keep 22 = .ok (.getfield 62, 3) := by decide +kernel
theorem dX6_keep_25 : decode cX6_keep 25 = .ok (.iconst 1, 1) := by decide +kernel
theorem dX6_keep_26 : decode cX6_keep 26 = .ok (.iload_n 1, 1) := by decide +kernel
theorem dX6_keep_27 : decode cX6_keep 27 = .ok (.ishl, 1) := by decide +kernel
theorem dX6_keep_28 : decode cX6_keep 28 = .ok (.ior, 1) := by decide +kernel
theorem dX6_keep_29 : decode cX6_keep 29 = .ok (.putfield 62, 3) := by decide +kernel
theorem dX6_keep_32 : decode cX6_keep 32 = .ok (.aload_n 0, 1) := by decide +kernel
theorem dX6_keep_33 : decode cX6_keep 33 = .ok (.getfield 19, 3) := by decide +kernel
theorem dX6_keep_36 : decode cX6_keep 36 = .ok (.getfield 91, 3) := by decide +kernel
theorem dX6_keep_39 : decode cX6_keep 39 = .ok (.ireturn, 1) := by decide +kernel
theorem dX6_again_0 : decode cX6_again 0 = .ok (.aload_n 0, 1) := by decide +kernel
theorem dX6_again_1 : decode cX6_again 1 = .ok (.iload_n 1, 1) := by decide +kernel
theorem dX6_again_2 : decode cX6_again 2 = .ok (.invokevirtual 235, 3) := by decide +kernel
theorem dX6_again_5 : decode cX6_again 5 = .ok (.astore_n 2, 1) := by decide +kernel
theorem dX6_again_6 : decode cX6_again 6 = .ok (.aload_n 2, 1) := by decide +kernel
theorem dX6_again_7 : decode cX6_again 7 = .ok (.ifnonnull 5, 3) := by decide +kernel
theorem dX6_again_10 : decode cX6_again 10 = .ok (.iconst (-1), 1) := by decide +kernel
theorem dX6_again_11 : decode cX6_again 11 = .ok (.ireturn, 1) := by decide +kernel
theorem dX6_again_12 : decode cX6_again 12 = .ok (.aload_n 0, 1) := by decide +kernel
theorem dX6_again_13 : decode cX6_again 13 = .ok (.getfield 62, 3) := by decide +kernel
theorem dX6_again_16 : decode cX6_again 16 = .ok (.iload_n 1, 1) := by decide +kernel
theorem dX6_again_17 : decode cX6_again 17 = .ok (.ishr, 1) := by decide +kernel
theorem dX6_again_18 : decode cX6_again 18 = .ok (.iconst 1, 1) := by decide +kernel
theorem dX6_again_19 : decode cX6_again 19 = .ok (.iand, 1) := by decide +kernel
theorem dX6_again_20 : decode cX6_again 20 = .ok (.ifCond .ne 6, 3) := by decide +kernel
theorem dX6_again_23 : decode cX6_again 23 = .ok (.bipush (-3), 2) := by decide +kernel
theorem dX6_again_25 : decode cX6_again 25 = .ok (.ireturn, 1) := by decide +kernel
theorem dX6_again_26 : decode cX6_again 26 = .ok (.aload_n 0, 1) := by decide +kernel
theorem dX6_again_27 : decode cX6_again 27 = .ok (.getfield 19, 3) := by decide +kernel
theorem dX6_again_30 : decode cX6_again 30 = .ok (.aload_n 2, 1) := by decide +kernel
theorem dX6_again_31 : decode cX6_again 31 = .ok (.invokevirtual 84, 3) := by decide +kernel
theorem dX6_again_34 : decode cX6_again 34 = .ok (.aload_n 0, 1) := by decide +kernel
theorem dX6_again_35 : decode cX6_again 35 = .ok (.getfield 43, 3) := by decide +kernel
theorem dX6_again_38 : decode cX6_again 38 = .ok (.iconst 0, 1) := by decide +kernel
theorem dX6_again_39 : decode cX6_again 39 = .ok (.putfield 88, 3) := by decide +kernel
theorem dX6_again_42 : decode cX6_again 42 = .ok (.aload_n 0, 1) := by decide +kernel
theorem dX6_again_43 : decode cX6_again 43 = .ok (.getfield 19, 3) := by decide +kernel
theorem dX6_again_46 : decode cX6_again 46 = .ok (.getfield 91, 3) := by decide +kernel
theorem dX6_again_49 : decode cX6_again 49 = .ok (.ireturn, 1) := by decide +kernel
theorem dX6_roomOf_0 : decode cX6_roomOf 0 = .ok (.iload_n 1, 1) := by decide +kernel
theorem dX6_roomOf_1 : decode cX6_roomOf 1 = .ok (.ifCond .lt 17, 3) := by decide +kernel
theorem dX6_roomOf_4 : decode cX6_roomOf 4 = .ok (.iload_n 1, 1) := by decide +kernel
theorem dX6_roomOf_5 : decode cX6_roomOf 5 = .ok (.iconst 2, 1) := by decide +kernel
theorem dX6_roomOf_6 : decode cX6_roomOf 6 = .ok (.if_icmp .ge 12, 3) := by decide +kernel
theorem dX6_roomOf_9 : decode cX6_roomOf 9 = .ok (.aload_n 0, 1) := by decide +kernel
theorem dX6_roomOf_10 : decode cX6_roomOf 10 = .ok (.getfield 54, 3) := by decide +kernel
theorem dX6_roomOf_13 : decode cX6_roomOf 13 = .ok (.iload_n 1, 1) := by decide +kernel
theorem dX6_roomOf_14 : decode cX6_roomOf 14 = .ok (.aaload, 1) := by decide +kernel
theorem dX6_roomOf_15 : decode cX6_roomOf 15 = .ok (.goto 4, 3) := by decide +kernel
theorem dX6_roomOf_18 : decode cX6_roomOf 18 = .ok (.aconst_null, 1) := by decide +kernel
theorem dX6_roomOf_19 : decode cX6_roomOf 19 = .ok (.areturn, 1) := by decide +kernel
theorem dX6_cheapest_0 : decode cX6_cheapest 0 = .ok (.aload_n 0, 1) := by decide +kernel
theorem dX6_cheapest_1 : decode cX6_cheapest 1 = .ok (.getfield 29, 3) := by decide +kernel
theorem dX6_cheapest_4 : decode cX6_cheapest 4 = .ok (.aload_n 1, 1) := by decide +kernel
theorem dX6_cheapest_5 : decode cX6_cheapest 5 = .ok (.iload_n 2, 1) := by decide +kernel
theorem dX6_cheapest_6 : decode cX6_cheapest 6 = .ok (.invokevirtual 176, 3) := by decide +kernel
theorem dX6_cheapest_9 : decode cX6_cheapest 9 = .ok (.aload_n 0, 1) := by decide +kernel
theorem dX6_cheapest_10 : decode cX6_cheapest 10 = .ok (.getfield 29, 3) := by decide +kernel
theorem dX6_cheapest_13 : decode cX6_cheapest 13 = .ok (.bipush (-9), 2) := by decide +kernel
theorem dX6_cheapest_15 : decode cX6_cheapest 15 = .ok (.putfield 239, 3) := by decide +kernel
theorem dX6_cheapest_18 : decode cX6_cheapest 18 = .ok (.aload_n 1, 1) := by decide +kernel
theorem dX6_cheapest_19 : decode cX6_cheapest 19 = .ok (.aload_n 0, 1) := by decide +kernel
theorem dX6_cheapest_20 : decode cX6_cheapest 20 = .ok (.getfield 29, 3) := by decide +kernel
theorem dX6_cheapest_23 : decode cX6_cheapest 23 = .ok (.iconst 0, 1) := by decide +kernel
theorem dX6_cheapest_24 : decode cX6_cheapest 24 = .ok (.iconst 0, 1) := by decide +kernel
theorem dX6_cheapest_25 : decode cX6_cheapest 25 = .ok (.iconst 0, 1) := by decide +kernel
theorem dX6_cheapest_26 : decode cX6_cheapest 26 = .ok (.invokestatic 242, 3) := by decide +kernel
theorem dX6_cheapest_29 : decode cX6_cheapest 29 = .ok (.aload_n 0, 1) := by decide +kernel
theorem dX6_cheapest_30 : decode cX6_cheapest 30 = .ok (.getfield 29, 3) := by decide +kernel
theorem dX6_cheapest_33 : decode cX6_cheapest 33 = .ok (.getfield 239, 3) := by decide +kernel
theorem dX6_cheapest_36 : decode cX6_cheapest 36 = .ok (.ireturn, 1) := by decide +kernel
theorem dX6_serveFrom_0 : decode cX6_serveFrom 0 = .ok (.aload_n 1, 1) := by decide +kernel
theorem dX6_serveFrom_1 : decode cX6_serveFrom 1 = .ok (.getfield 239, 3) := by decide +kernel
theorem dX6_serveFrom_4 : decode cX6_serveFrom 4 = .ok (.bipush (-9), 2) := by decide +kernel
theorem dX6_serveFrom_6 : decode cX6_serveFrom 6 = .ok (.if_icmp .eq 13, 3) := by decide +kernel
theorem dX6_serveFrom_9 : decode cX6_serveFrom 9 = .ok (.iload 4, 2) := by decide +kernel
theorem dX6_serveFrom_11 : decode cX6_serveFrom 11 = .ok (.aload_n 1, 1) := by decide +kernel
theorem dX6_serveFrom_12 : decode cX6_serveFrom 12 = .ok (.getfield 239, 3) := by decide +kernel
theorem dX6_serveFrom_15 : decode cX6_serveFrom 15 = .ok (.if_icmp .lt 4, 3) := by decide +kernel
theorem dX6_serveFrom_18 : decode cX6_serveFrom 18 = .ok (.return_, 1) := by decide +kernel
theorem dX6_serveFrom_19 : decode cX6_serveFrom 19 = .ok (.iload_n 2, 1) := by decide +kernel
theorem dX6_serveFrom_20 : decode cX6_serveFrom 20 = .ok (.aload_n 0, 1) := by decide +kernel
theorem dX6_serveFrom_21 : decode cX6_serveFrom 21 = .ok (.getfield 94, 3) := by decide +kernel
theorem dX6_serveFrom_24 : decode cX6_serveFrom 24 = .ok (.if_icmp .lt 14, 3) := by decide +kernel
theorem dX6_serveFrom_27 : decode cX6_serveFrom 27 = .ok (.aload_n 1, 1) := by decide +kernel
theorem dX6_serveFrom_28 : decode cX6_serveFrom 28 = .ok (.aload_n 0, 1) := by decide +kernel
theorem dX6_serveFrom_29 : decode cX6_serveFrom 29 = .ok (.getfield 94, 3) := by decide +kernel
theorem dX6_serveFrom_32 : decode cX6_serveFrom 32 = .ok (.iload 4, 2) := by decide +kernel
theorem dX6_serveFrom_34 : decode cX6_serveFrom 34 = .ok (.invokevirtual 246, 3) := by decide +kernel
theorem dX6_serveFrom_37 : decode cX6_serveFrom 37 = .ok (.return_, 1) := by decide +kernel
theorem dX6_serveFrom_38 : decode cX6_serveFrom 38 = .ok (.aload_n 0, 1) := by decide +kernel
theorem dX6_serveFrom_39 : decode cX6_serveFrom 39 = .ok (.getfield 121, 3) := by decide +kernel
theorem dX6_serveFrom_42 : decode cX6_serveFrom 42 = .ok (.iload_n 2, 1) := by decide +kernel
theorem dX6_serveFrom_43 : decode cX6_serveFrom 43 = .ok (.iaload, 1) := by decide +kernel
theorem dX6_serveFrom_44 : decode cX6_serveFrom 44 = .ok (.istore 5, 2) := by decide +kernel
theorem dX6_serveFrom_46 : decode cX6_serveFrom 46 = .ok (.iconst 0, 1) := by decide +kernel
theorem dX6_serveFrom_47 : decode cX6_serveFrom 47 = .ok (.istore 6, 2) := by decide +kernel
theorem dX6_serveFrom_49 : decode cX6_serveFrom 49 = .ok (.iload 6, 2) := by decide +kernel
theorem dX6_serveFrom_51 : decode cX6_serveFrom 51 = .ok (.aload_n 0, 1) := by decide +kernel
theorem dX6_serveFrom_52 : decode cX6_serveFrom 52 = .ok (.getfield 91, 3) := by decide +kernel
theorem dX6_serveFrom_55 : decode cX6_serveFrom 55 = .ok (.if_icmp .ge 74, 3) := by decide +kernel
theorem dX6_serveFrom_58 : decode cX6_serveFrom 58 = .ok (.aload_n 1, 1) := by decide +kernel
theorem dX6_serveFrom_59 : decode cX6_serveFrom 59 = .ok (.aload_n 0, 1) := by decide +kernel
theorem dX6_serveFrom_60 : decode cX6_serveFrom 60 = .ok (.iload 6, 2) := by decide +kernel
theorem dX6_serveFrom_62 : decode cX6_serveFrom 62 = .ok (.iload_n 2, 1) := by decide +kernel
theorem dX6_serveFrom_63 : decode cX6_serveFrom 63 = .ok (.invokevirtual 183, 3) := by decide +kernel
theorem dX6_serveFrom_66 : decode cX6_serveFrom 66 = .ok (.ifCond .eq 57, 3) := by decide +kernel
theorem dX6_serveFrom_69 : decode cX6_serveFrom 69 = .ok (.aload_n 1, 1) := by decide +kernel
theorem dX6_serveFrom_70 : decode cX6_serveFrom 70 = .ok (.getfield 187, 3) := by decide +kernel
theorem dX6_serveFrom_73 : decode cX6_serveFrom 73 = .ok (.iload 6, 2) := by decide +kernel
theorem dX6_serveFrom_75 : decode cX6_serveFrom 75 = .ok (.dup2, 1) := by decide +kernel
theorem dX6_serveFrom_76 : decode cX6_serveFrom 76 = .ok (.iaload, 1) := by decide +kernel
theorem dX6_serveFrom_77 : decode cX6_serveFrom 77 = .ok (.iload 5, 2) := by decide +kernel
theorem dX6_serveFrom_79 : decode cX6_serveFrom 79 = .ok (.isub, 1) := by decide +kernel
theorem dX6_serveFrom_80 : decode cX6_serveFrom 80 = .ok (.iastore, 1) := by decide +kernel
theorem dX6_serveFrom_81 : decode cX6_serveFrom 81 = .ok (.aload_n 1, 1) := by decide +kernel
theorem dX6_serveFrom_82 : decode cX6_serveFrom 82 = .ok (.getfield 250, 3) := by decide +kernel
theorem dX6_serveFrom_85 : decode cX6_serveFrom 85 = .ok (.iload_n 2, 1) := by decide +kernel
theorem dX6_serveFrom_86 : decode cX6_serveFrom 86 = .ok (.iload 6, 2) := by decide +kernel
theorem dX6_serveFrom_88 : decode cX6_serveFrom 88 = .ok (.iastore, 1) := by decide +kernel
theorem dX6_serveFrom_89 : decode cX6_serveFrom 89 = .ok (.aload_n 0, 1) := by decide +kernel
theorem dX6_serveFrom_90 : decode cX6_serveFrom 90 = .ok (.aload_n 1, 1) := by decide +kernel
theorem dX6_serveFrom_91 : decode cX6_serveFrom 91 = .ok (.iload_n 2, 1) := by decide +kernel
theorem dX6_serveFrom_92 : decode cX6_serveFrom 92 = .ok (.iconst 1, 1) := by decide +kernel
theorem dX6_serveFrom_93 : decode cX6_serveFrom 93 = .ok (.iadd, 1) := by decide +kernel
theorem dX6_serveFrom_94 : decode cX6_serveFrom 94 = .ok (.iload_n 3, 1) := by decide +kernel
theorem dX6_serveFrom_95 : decode cX6_serveFrom 95 = .ok (.iload 4, 2) := by decide +kernel
theorem dX6_serveFrom_97 : decode cX6_serveFrom 97 = .ok (.iload 5, 2) := by decide +kernel
theorem dX6_serveFrom_99 : decode cX6_serveFrom 99 = .ok (.aload_n 0, 1) := by decide +kernel
theorem dX6_serveFrom_100 : decode cX6_serveFrom 100 = .ok (.getfield 136, 3) := by decide +kernel
theorem dX6_serveFrom_103 : decode cX6_serveFrom 103 = .ok (.iload 6, 2) := by decide +kernel
theorem dX6_serveFrom_105 : decode cX6_serveFrom 105 = .ok (.iaload, 1) := by decide +kernel
theorem dX6_serveFrom_106 : decode cX6_serveFrom 106 = .ok (.imul, 1) := by decide +kernel
theorem dX6_serveFrom_107 : decode cX6_serveFrom 107 = .ok (.iadd, 1) := by decide +kernel
theorem dX6_serveFrom_108 : decode cX6_serveFrom 108 = .ok (.invokestatic 242, 3) := by decide +kernel
theorem dX6_serveFrom_111 : decode cX6_serveFrom 111 = .ok (.aload_n 1, 1) := by decide +kernel
theorem dX6_serveFrom_112 : decode cX6_serveFrom 112 = .ok (.getfield 187, 3) := by decide +kernel
theorem dX6_serveFrom_115 : decode cX6_serveFrom 115 = .ok (.iload 6, 2) := by decide +kernel
theorem dX6_serveFrom_117 : decode cX6_serveFrom 117 = .ok (.dup2, 1) := by decide +kernel
theorem dX6_serveFrom_118 : decode cX6_serveFrom 118 = .ok (.iaload, 1) := by decide +kernel
theorem dX6_serveFrom_119 : decode cX6_serveFrom 119 = .ok (.iload 5, 2) := by decide +kernel
theorem dX6_serveFrom_121 : decode cX6_serveFrom 121 = .ok (.iadd, 1) := by decide +kernel
theorem dX6_serveFrom_122 : decode cX6_serveFrom 122 = .ok (.iastore, 1) := by decide +kernel
theorem dX6_serveFrom_123 : decode cX6_serveFrom 123 = .ok (.iinc 6 1, 3) := by decide +kernel
theorem dX6_serveFrom_126 : decode cX6_serveFrom 126 = .ok (.goto (-77), 3) := by decide +kernel
theorem dX6_serveFrom_129 : decode cX6_serveFrom 129 = .ok (.iload_n 3, 1) := by decide +kernel
theorem dX6_serveFrom_130 : decode cX6_serveFrom 130 = .ok (.aload_n 0, 1) := by decide +kernel
theorem dX6_serveFrom_131 : decode cX6_serveFrom 131 = .ok (.getfield 81, 3) := by decide +kernel
theorem dX6_serveFrom_134 : decode cX6_serveFrom 134 = .ok (.if_icmp .ge 32, 3) := by decide +kernel
theorem dX6_serveFrom_137 : decode cX6_serveFrom 137 = .ok (.aload_n 0, 1) := by decide +kernel
theorem dX6_serveFrom_138 : decode cX6_serveFrom 138 = .ok (.iload_n 2, 1) := by decide +kernel
theorem dX6_serveFrom_139 : decode cX6_serveFrom 139 = .ok (.invokevirtual 180, 3) := by decide +kernel
theorem dX6_serveFrom_142 : decode cX6_serveFrom 142 = .ok (.ifCond .eq 24, 3) := by decide +kernel
theorem dX6_serveFrom_145 : decode cX6_serveFrom 145 = .ok (.aload_n 1, 1) := by decide +kernel
theorem dX6_serveFrom_146 : decode cX6_serveFrom 146 = .ok (.getfield 250, 3) := by decide +kernel
theorem dX6_serveFrom_149 : decode cX6_serveFrom 149 = .ok (.iload_n 2, 1) := by decide +kernel
theorem dX6_serveFrom_150 : decode cX6_serveFrom 150 = .ok (.bipush 9, 2) := by decide +kernel
theorem dX6_serveFrom_152 : decode cX6_serveFrom 152 = .ok (.iastore, 1) := by decide +kernel
theorem dX6_serveFrom_153 : decode cX6_serveFrom 153 = .ok (.aload_n 0, 1) := by decide +kernel
theorem dX6_serveFrom_154 : decode cX6_serveFrom 154 = .ok (.aload_n 1, 1) := by decide +kernel
theorem dX6_serveFrom_155 : decode cX6_serveFrom 155 = .ok (.iload_n 2, 1) := by decide +kernel
theorem dX6_serveFrom_156 : decode cX6_serveFrom 156 = .ok (.iconst 1, 1) := by decide +kernel
theorem dX6_serveFrom_157 : decode cX6_serveFrom 157 = .ok (.iadd, 1) := by decide +kernel
theorem dX6_serveFrom_158 : decode cX6_serveFrom 158 = .ok (.iload_n 3, 1) := by decide +kernel
theorem dX6_serveFrom_159 : decode cX6_serveFrom 159 = .ok (.iconst 1, 1) := by decide +kernel
theorem dX6_serveFrom_160 : decode cX6_serveFrom 160 = .ok (.iadd, 1) := by decide +kernel
theorem dX6_serveFrom_161 : decode cX6_serveFrom 161 = .ok (.iload 4, 2) := by decide +kernel
theorem dX6_serveFrom_163 : decode cX6_serveFrom 163 = .ok (.invokestatic 242, 3) := by decide +kernel
theorem dX6_serveFrom_166 : decode cX6_serveFrom 166 = .ok (.return_, 1) := by decide +kernel
theorem dX6_mostServed_0 : decode cX6_mostServed 0 = .ok (.aload_n 0, 1) := by decide +kernel
theorem dX6_mostServed_1 : decode cX6_mostServed 1 = .ok (.getfield 29, 3) := by decide +kernel
theorem dX6_mostServed_4 : decode cX6_mostServed 4 = .ok (.aload_n 1, 1) := by decide +kernel
theorem dX6_mostServed_5 : decode cX6_mostServed 5 = .ok (.iload_n 2, 1) := by decide +kernel
theorem dX6_mostServed_6 : decode cX6_mostServed 6 = .ok (.invokevirtual 176, 3) := by decide +kernel
theorem dX6_mostServed_9 : decode cX6_mostServed 9 = .ok (.aload_n 0, 1) := by decide +kernel
theorem dX6_mostServed_10 : decode cX6_mostServed 10 = .ok (.getfield 29, 3) := by decide +kernel
theorem dX6_mostServed_13 : decode cX6_mostServed 13 = .ok (.iconst 0, 1) := by decide +kernel
theorem dX6_mostServed_14 : decode cX6_mostServed 14 = .ok (.putfield 239, 3) := by decide +kernel
theorem dX6_mostServed_17 : decode cX6_mostServed 17 = .ok (.aload_n 1, 1) := by decide +kernel
theorem dX6_mostServed_18 : decode cX6_mostServed 18 = .ok (.aload_n 0, 1) := by decide +kernel
theorem dX6_mostServed_19 : decode cX6_mostServed 19 = .ok (.getfield 29, 3) := by decide +kernel
theorem dX6_mostServed_22 : decode cX6_mostServed 22 = .ok (.iconst 0, 1) := by decide +kernel
theorem dX6_mostServed_23 : decode cX6_mostServed 23 = .ok (.iconst 0, 1) := by decide +kernel
theorem dX6_mostServed_24 : decode cX6_mostServed 24 = .ok (.iconst 0, 1) := by decide +kernel
theorem dX6_mostServed_25 : decode cX6_mostServed 25 = .ok (.invokestatic 253, 3) := by decide +kernel
theorem dX6_mostServed_28 : decode cX6_mostServed 28 = .ok (.aload_n 0, 1) := by decide +kernel
theorem dX6_mostServed_29 : decode cX6_mostServed 29 = .ok (.getfield 29, 3) := by decide +kernel
theorem dX6_mostServed_32 : decode cX6_mostServed 32 = .ok (.getfield 239, 3) := by decide +kernel
theorem dX6_mostServed_35 : decode cX6_mostServed 35 = .ok (.ireturn, 1) := by decide +kernel
theorem dX6_countFrom_0 : decode cX6_countFrom 0 = .ok (.iload 4, 2) := by decide +kernel
theorem dX6_countFrom_2 : decode cX6_countFrom 2 = .ok (.aload_n 0, 1) := by decide +kernel
theorem dX6_countFrom_3 : decode cX6_countFrom 3 = .ok (.getfield 94, 3) := by decide +kernel
theorem dX6_countFrom_6 : decode cX6_countFrom 6 = .ok (.iadd, 1) := by decide +kernel
theorem dX6_countFrom_7 : decode cX6_countFrom 7 = .ok (.iload_n 2, 1) := by decide +kernel
theorem dX6_countFrom_8 : decode cX6_countFrom 8 = .ok (.isub, 1) := by decide +kernel
theorem dX6_countFrom_9 : decode cX6_countFrom 9 = .ok (.aload_n 1, 1) := by decide +kernel
theorem dX6_countFrom_10 : decode cX6_countFrom 10 = .ok (.getfield 239, 3) := by decide +kernel
theorem dX6_countFrom_13 : decode cX6_countFrom 13 = .ok (.if_icmp .gt 4, 3) := by decide +kernel
theorem dX6_countFrom_16 : decode cX6_countFrom 16 = .ok (.return_, 1) := by decide +kernel
theorem dX6_countFrom_17 : decode cX6_countFrom 17 = .ok (.iload_n 2, 1) := by decide +kernel
theorem dX6_countFrom_18 : decode cX6_countFrom 18 = .ok (.aload_n 0, 1) := by decide +kernel
theorem dX6_countFrom_19 : decode cX6_countFrom 19 = .ok (.getfield 94, 3) := by decide +kernel
theorem dX6_countFrom_22 : decode cX6_countFrom 22 = .ok (.if_icmp .lt 10, 3) := by decide +kernel
theorem dX6_countFrom_25 : decode cX6_countFrom 25 = .ok (.aload_n 1, 1) := by decide +kernel
theorem dX6_countFrom_26 : decode cX6_countFrom 26 = .ok (.iload 4, 2) := by decide +kernel
theorem dX6_countFrom_28 : decode cX6_countFrom 28 = .ok (.putfield 239, 3) := by decide +kernel
theorem dX6_countFrom_31 : decode cX6_countFrom 31 = .ok (.return_, 1) := by decide +kernel
theorem dX6_countFrom_32 : decode cX6_countFrom 32 = .ok (.aload_n 0, 1) := by decide +kernel
theorem dX6_countFrom_33 : decode cX6_countFrom 33 = .ok (.getfield 121, 3) := by decide +kernel
theorem dX6_countFrom_36 : decode cX6_countFrom 36 = .ok (.iload_n 2, 1) := by decide +kernel
theorem dX6_countFrom_37 : decode cX6_countFrom 37 = .ok (.iaload, 1) := by decide +kernel
theorem dX6_countFrom_38 : decode cX6_countFrom 38 = .ok (.istore 5, 2) := by decide +kernel
theorem dX6_countFrom_40 : decode cX6_countFrom 40 = .ok (.iconst 0, 1) := by decide +kernel
theorem dX6_countFrom_41 : decode cX6_countFrom 41 = .ok (.istore 6, 2) := by decide +kernel
theorem dX6_countFrom_43 : decode cX6_countFrom 43 = .ok (.iload 6, 2) := by decide +kernel
theorem dX6_countFrom_45 : decode cX6_countFrom 45 = .ok (.aload_n 0, 1) := by decide +kernel
theorem dX6_countFrom_46 : decode cX6_countFrom 46 = .ok (.getfield 91, 3) := by decide +kernel
theorem dX6_countFrom_49 : decode cX6_countFrom 49 = .ok (.if_icmp .ge 65, 3) := by decide +kernel
theorem dX6_countFrom_52 : decode cX6_countFrom 52 = .ok (.aload_n 1, 1) := by decide +kernel
theorem dX6_countFrom_53 : decode cX6_countFrom 53 = .ok (.aload_n 0, 1) := by decide +kernel
theorem dX6_countFrom_54 : decode cX6_countFrom 54 = .ok (.iload 6, 2) := by decide +kernel
theorem dX6_countFrom_56 : decode cX6_countFrom 56 = .ok (.iload_n 2, 1) := by decide +kernel
theorem dX6_countFrom_57 : decode cX6_countFrom 57 = .ok (.invokevirtual 183, 3) := by decide +kernel
theorem dX6_countFrom_60 : decode cX6_countFrom 60 = .ok (.ifCond .eq 48, 3) := by decide +kernel
theorem dX6_countFrom_63 : decode cX6_countFrom 63 = .ok (.aload_n 1, 1) := by decide +kernel
theorem dX6_countFrom_64 : decode cX6_countFrom 64 = .ok (.getfield 187, 3) := by decide +kernel
theorem dX6_countFrom_67 : decode cX6_countFrom 67 = .ok (.iload 6, 2) := by decide +kernel
theorem dX6_countFrom_69 : decode cX6_countFrom 69 = .ok (.dup2, 1) := by decide +kernel
theorem dX6_countFrom_70 : decode cX6_countFrom 70 = .ok (.iaload, 1) := by decide +kernel
theorem dX6_countFrom_71 : decode cX6_countFrom 71 = .ok (.iload 5, 2) := by decide +kernel
theorem dX6_countFrom_73 : decode cX6_countFrom 73 = .ok (.isub, 1) := by decide +kernel
theorem dX6_countFrom_74 : decode cX6_countFrom 74 = .ok (.iastore, 1) := by decide +kernel
theorem dX6_countFrom_75 : decode cX6_countFrom 75 = .ok (.aload_n 1, 1) := by decide +kernel
theorem dX6_countFrom_76 : decode cX6_countFrom 76 = .ok (.getfield 250, 3) := by decide +kernel
theorem dX6_countFrom_79 : decode cX6_countFrom 79 = .ok (.iload_n 2, 1) := by decide +kernel
theorem dX6_countFrom_80 : decode cX6_countFrom 80 = .ok (.iload 6, 2) := by decide +kernel
theorem dX6_countFrom_82 : decode cX6_countFrom 82 = .ok (.iastore, 1) := by decide +kernel
theorem dX6_countFrom_83 : decode cX6_countFrom 83 = .ok (.aload_n 0, 1) := by decide +kernel
theorem dX6_countFrom_84 : decode cX6_countFrom 84 = .ok (.aload_n 1, 1) := by decide +kernel
theorem dX6_countFrom_85 : decode cX6_countFrom 85 = .ok (.iload_n 2, 1) := by decide +kernel
theorem dX6_countFrom_86 : decode cX6_countFrom 86 = .ok (.iconst 1, 1) := by decide +kernel
theorem dX6_countFrom_87 : decode cX6_countFrom 87 = .ok (.iadd, 1) := by decide +kernel
theorem dX6_countFrom_88 : decode cX6_countFrom 88 = .ok (.iload_n 3, 1) := by decide +kernel
theorem dX6_countFrom_89 : decode cX6_countFrom 89 = .ok (.iload 4, 2) := by decide +kernel
theorem dX6_countFrom_91 : decode cX6_countFrom 91 = .ok (.iconst 1, 1) := by decide +kernel
theorem dX6_countFrom_92 : decode cX6_countFrom 92 = .ok (.iadd, 1) := by decide +kernel
theorem dX6_countFrom_93 : decode cX6_countFrom 93 = .ok (.invokestatic 253, 3) := by decide +kernel
theorem dX6_countFrom_96 : decode cX6_countFrom 96 = .ok (.aload_n 1, 1) := by decide +kernel
theorem dX6_countFrom_97 : decode cX6_countFrom 97 = .ok (.getfield 187, 3) := by decide +kernel
theorem dX6_countFrom_100 : decode cX6_countFrom 100 = .ok (.iload 6, 2) := by decide +kernel
theorem dX6_countFrom_102 : decode cX6_countFrom 102 = .ok (.dup2, 1) := by decide +kernel
theorem dX6_countFrom_103 : decode cX6_countFrom 103 = .ok (.iaload, 1) := by decide +kernel
theorem dX6_countFrom_104 : decode cX6_countFrom 104 = .ok (.iload 5, 2) := by decide +kernel
theorem dX6_countFrom_106 : decode cX6_countFrom 106 = .ok (.iadd, 1) := by decide +kernel
theorem dX6_countFrom_107 : decode cX6_countFrom 107 = .ok (.iastore, 1) := by decide +kernel
theorem dX6_countFrom_108 : decode cX6_countFrom 108 = .ok (.iinc 6 1, 3) := by decide +kernel
theorem dX6_countFrom_111 : decode cX6_countFrom 111 = .ok (.goto (-68), 3) := by decide +kernel
theorem dX6_countFrom_114 : decode cX6_countFrom 114 = .ok (.iload_n 3, 1) := by decide +kernel
theorem dX6_countFrom_115 : decode cX6_countFrom 115 = .ok (.aload_n 0, 1) := by decide +kernel
theorem dX6_countFrom_116 : decode cX6_countFrom 116 = .ok (.getfield 81, 3) := by decide +kernel
theorem dX6_countFrom_119 : decode cX6_countFrom 119 = .ok (.if_icmp .ge 46, 3) := by decide +kernel
theorem dX6_countFrom_122 : decode cX6_countFrom 122 = .ok (.aload_n 0, 1) := by decide +kernel
theorem dX6_countFrom_123 : decode cX6_countFrom 123 = .ok (.iload_n 2, 1) := by decide +kernel
theorem dX6_countFrom_124 : decode cX6_countFrom 124 = .ok (.invokevirtual 180, 3) := by decide +kernel
theorem dX6_countFrom_127 : decode cX6_countFrom 127 = .ok (.ifCond .eq 38, 3) := by decide +kernel
theorem dX6_countFrom_130 : decode cX6_countFrom 130 = .ok (.aload_n 1, 1) := by decide +kernel
theorem dX6_countFrom_131 : decode cX6_countFrom 131 = .ok (.getfield 250, 3) := by decide +kernel
theorem dX6_countFrom_134 : decode cX6_countFrom 134 = .ok (.iload_n 2, 1) := by decide +kernel
theorem dX6_countFrom_135 : decode cX6_countFrom 135 = .ok (.iconst 1, 1) := by decide +kernel
theorem dX6_countFrom_136 : decode cX6_countFrom 136 = .ok (.isub, 1) := by decide +kernel
theorem dX6_countFrom_137 : decode cX6_countFrom 137 = .ok (.iaload, 1) := by decide +kernel
theorem dX6_countFrom_138 : decode cX6_countFrom 138 = .ok (.iconst (-1), 1) := by decide +kernel
theorem dX6_countFrom_139 : decode cX6_countFrom 139 = .ok (.if_icmp .eq 26, 3) := by decide +kernel
theorem dX6_countFrom_142 : decode cX6_countFrom 142 = .ok (.aload_n 1, 1) := by decide +kernel
theorem dX6_countFrom_143 : decode cX6_countFrom 143 = .ok (.getfield 250, 3) := by decide +kernel
theorem dX6_countFrom_146 : decode cX6_countFrom 146 = .ok (.iload_n 2, 1) := by decide +kernel
theorem dX6_countFrom_147 : decode cX6_countFrom 147 = .ok (.bipush 9, 2) := by decide +kernel
theorem dX6_countFrom_149 : decode cX6_countFrom 149 = .ok (.iastore, 1) := by decide +kernel
theorem dX6_countFrom_150 : decode cX6_countFrom 150 = .ok (.aload_n 0, 1) := by decide +kernel
theorem dX6_countFrom_151 : decode cX6_countFrom 151 = .ok (.aload_n 1, 1) := by decide +kernel
theorem dX6_countFrom_152 : decode cX6_countFrom 152 = .ok (.iload_n 2, 1) := by decide +kernel
theorem dX6_countFrom_153 : decode cX6_countFrom 153 = .ok (.iconst 1, 1) := by decide +kernel
theorem dX6_countFrom_154 : decode cX6_countFrom 154 = .ok (.iadd, 1) := by decide +kernel
theorem dX6_countFrom_155 : decode cX6_countFrom 155 = .ok (.iload_n 3, 1) := by decide +kernel
theorem dX6_countFrom_156 : decode cX6_countFrom 156 = .ok (.iconst 1, 1) := by decide +kernel
theorem dX6_countFrom_157 : decode cX6_countFrom 157 = .ok (.iadd, 1) := by decide +kernel
theorem dX6_countFrom_158 : decode cX6_countFrom 158 = .ok (.iload 4, 2) := by decide +kernel
theorem dX6_countFrom_160 : decode cX6_countFrom 160 = .ok (.iconst 1, 1) := by decide +kernel
theorem dX6_countFrom_161 : decode cX6_countFrom 161 = .ok (.iadd, 1) := by decide +kernel
theorem dX6_countFrom_162 : decode cX6_countFrom 162 = .ok (.invokestatic 253, 3) := by decide +kernel
theorem dX6_countFrom_165 : decode cX6_countFrom 165 = .ok (.aload_n 1, 1) := by decide +kernel
theorem dX6_countFrom_166 : decode cX6_countFrom 166 = .ok (.getfield 250, 3) := by decide +kernel
theorem dX6_countFrom_169 : decode cX6_countFrom 169 = .ok (.iload_n 2, 1) := by decide +kernel
theorem dX6_countFrom_170 : decode cX6_countFrom 170 = .ok (.iconst (-1), 1) := by decide +kernel
theorem dX6_countFrom_171 : decode cX6_countFrom 171 = .ok (.iastore, 1) := by decide +kernel
theorem dX6_countFrom_172 : decode cX6_countFrom 172 = .ok (.aload_n 0, 1) := by decide +kernel
theorem dX6_countFrom_173 : decode cX6_countFrom 173 = .ok (.aload_n 1, 1) := by decide +kernel
theorem dX6_countFrom_174 : decode cX6_countFrom 174 = .ok (.iload_n 2, 1) := by decide +kernel
theorem dX6_countFrom_175 : decode cX6_countFrom 175 = .ok (.iconst 1, 1) := by decide +kernel
theorem dX6_countFrom_176 : decode cX6_countFrom 176 = .ok (.iadd, 1) := by decide +kernel
theorem dX6_countFrom_177 : decode cX6_countFrom 177 = .ok (.iload_n 3, 1) := by decide +kernel
theorem dX6_countFrom_178 : decode cX6_countFrom 178 = .ok (.iload 4, 2) := by decide +kernel
theorem dX6_countFrom_180 : decode cX6_countFrom 180 = .ok (.invokestatic 253, 3) := by decide +kernel
theorem dX6_countFrom_183 : decode cX6_countFrom 183 = .ok (.return_, 1) := by decide +kernel
theorem dX6_unitsInBest_0 : decode cX6_unitsInBest 0 = .ok (.aload_n 0, 1) := by decide +kernel
theorem dX6_unitsInBest_1 : decode cX6_unitsInBest 1 = .ok (.aload_n 1, 1) := by decide +kernel
theorem dX6_unitsInBest_2 : decode cX6_unitsInBest 2 = .ok (.aload_n 1, 1) := by decide +kernel
theorem dX6_unitsInBest_3 : decode cX6_unitsInBest 3 = .ok (.invokevirtual 97, 3) := by decide +kernel
theorem dX6_unitsInBest_6 : decode cX6_unitsInBest 6 = .ok (.invokevirtual 101, 3) := by decide +kernel
theorem dX6_unitsInBest_9 : decode cX6_unitsInBest 9 = .ok (.bipush (-9), 2) := by decide +kernel
theorem dX6_unitsInBest_11 : decode cX6_unitsInBest 11 = .ok (.if_icmp .ne 8, 3) := by decide +kernel
theorem dX6_unitsInBest_14 : decode cX6_unitsInBest 14 = .ok (.bipush (-9), 2) := by decide +kernel
theorem dX6_unitsInBest_16 : decode cX6_unitsInBest 16 = .ok (.goto 12, 3) := by decide +kernel
theorem dX6_unitsInBest_19 : decode cX6_unitsInBest 19 = .ok (.aload_n 0, 1) := by decide +kernel
theorem dX6_unitsInBest_20 : decode cX6_unitsInBest 20 = .ok (.getfield 29, 3) := by decide +kernel
theorem dX6_unitsInBest_23 : decode cX6_unitsInBest 23 = .ok (.aload_n 1, 1) := by decide +kernel
theorem dX6_unitsInBest_24 : decode cX6_unitsInBest 24 = .ok (.iload_n 2, 1) := by decide +kernel
theorem dX6_unitsInBest_25 : decode cX6_unitsInBest 25 = .ok (.invokevirtual 256, 3) := by decide +kernel
theorem dX6_unitsInBest_28 : decode cX6_unitsInBest 28 = .ok (.ireturn, 1) := by decide +kernel
theorem dX6_paidTo_0 : decode cX6_paidTo 0 = .ok (.aload_n 1, 1) := by decide +kernel
theorem dX6_paidTo_1 : decode cX6_paidTo 1 = .ok (.invokevirtual 97, 3) := by decide +kernel
theorem dX6_paidTo_4 : decode cX6_paidTo 4 = .ok (.istore_n 3, 1) := by decide +kernel
theorem dX6_paidTo_5 : decode cX6_paidTo 5 = .ok (.aload_n 0, 1) := by decide +kernel
theorem dX6_paidTo_6 : decode cX6_paidTo 6 = .ok (.aload_n 1, 1) := by decide +kernel
theorem dX6_paidTo_7 : decode cX6_paidTo 7 = .ok (.iload_n 3, 1) := by decide +kernel
theorem dX6_paidTo_8 : decode cX6_paidTo 8 = .ok (.invokevirtual 101, 3) := by decide +kernel
theorem dX6_paidTo_11 : decode cX6_paidTo 11 = .ok (.istore 4, 2) := by decide +kernel
theorem dX6_paidTo_13 : decode cX6_paidTo 13 = .ok (.iload 4, 2) := by decide +kernel
theorem dX6_paidTo_15 : decode cX6_paidTo 15 = .ok (.bipush (-9), 2) := by decide +kernel
theorem dX6_paidTo_17 : decode cX6_paidTo 17 = .ok (.if_icmp .ne 6, 3) := by decide +kernel
theorem dX6_paidTo_20 : decode cX6_paidTo 20 = .ok (.bipush (-9), 2) := by decide +kernel
theorem dX6_paidTo_22 : decode cX6_paidTo 22 = .ok (.ireturn, 1) := by decide +kernel
theorem dX6_paidTo_23 : decode cX6_paidTo 23 = .ok (.aload_n 0, 1) := by decide +kernel
theorem dX6_paidTo_24 : decode cX6_paidTo 24 = .ok (.getfield 29, 3) := by decide +kernel
theorem dX6_paidTo_27 : decode cX6_paidTo 27 = .ok (.aload_n 1, 1) := by decide +kernel
theorem dX6_paidTo_28 : decode cX6_paidTo 28 = .ok (.iload_n 2, 1) := by decide +kernel
theorem dX6_paidTo_29 : decode cX6_paidTo 29 = .ok (.invokevirtual 256, 3) := by decide +kernel
theorem dX6_paidTo_32 : decode cX6_paidTo 32 = .ok (.aload_n 1, 1) := by decide +kernel
theorem dX6_paidTo_33 : decode cX6_paidTo 33 = .ok (.getfield 136, 3) := by decide +kernel
theorem dX6_paidTo_36 : decode cX6_paidTo 36 = .ok (.iload_n 2, 1) := by decide +kernel
theorem dX6_paidTo_37 : decode cX6_paidTo 37 = .ok (.iaload, 1) := by decide +kernel
theorem dX6_paidTo_38 : decode cX6_paidTo 38 = .ok (.imul, 1) := by decide +kernel
theorem dX6_paidTo_39 : decode cX6_paidTo 39 = .ok (.istore 5, 2) := by decide +kernel
theorem dX6_paidTo_41 : decode cX6_paidTo 41 = .ok (.aload_n 0, 1) := by decide +kernel
theorem dX6_paidTo_42 : decode cX6_paidTo 42 = .ok (.aload_n 1, 1) := by decide +kernel
theorem dX6_paidTo_43 : decode cX6_paidTo 43 = .ok (.iload_n 3, 1) := by decide +kernel
theorem dX6_paidTo_44 : decode cX6_paidTo 44 = .ok (.iconst 1, 1) := by decide +kernel
theorem dX6_paidTo_45 : decode cX6_paidTo 45 = .ok (.iload_n 2, 1) := by decide +kernel
theorem dX6_paidTo_46 : decode cX6_paidTo 46 = .ok (.ishl, 1) := by decide +kernel
theorem dX6_paidTo_47 : decode cX6_paidTo 47 = .ok (.iconst (-1), 1) := by decide +kernel
theorem dX6_paidTo_48 : decode cX6_paidTo 48 = .ok (.ixor, 1) := by decide +kernel
theorem dX6_paidTo_49 : decode cX6_paidTo 49 = .ok (.iand, 1) := by decide +kernel
theorem dX6_paidTo_50 : decode cX6_paidTo 50 = .ok (.invokevirtual 101, 3) := by decide +kernel
theorem dX6_paidTo_53 : decode cX6_paidTo 53 = .ok (.istore 6, 2) := by decide +kernel
theorem dX6_paidTo_55 : decode cX6_paidTo 55 = .ok (.iload 6, 2) := by decide +kernel
theorem dX6_paidTo_57 : decode cX6_paidTo 57 = .ok (.bipush (-9), 2) := by decide +kernel
theorem dX6_paidTo_59 : decode cX6_paidTo 59 = .ok (.if_icmp .ne 8, 3) := by decide +kernel
theorem dX6_paidTo_62 : decode cX6_paidTo 62 = .ok (.bipush (-9), 2) := by decide +kernel
theorem dX6_paidTo_64 : decode cX6_paidTo 64 = .ok (.goto 11, 3) := by decide +kernel
theorem dX6_paidTo_67 : decode cX6_paidTo 67 = .ok (.iload 5, 2) := by decide +kernel
theorem dX6_paidTo_69 : decode cX6_paidTo 69 = .ok (.iload 6, 2) := by decide +kernel
theorem dX6_paidTo_71 : decode cX6_paidTo 71 = .ok (.iadd, 1) := by decide +kernel
theorem dX6_paidTo_72 : decode cX6_paidTo 72 = .ok (.iload 4, 2) := by decide +kernel
theorem dX6_paidTo_74 : decode cX6_paidTo 74 = .ok (.isub, 1) := by decide +kernel
theorem dX6_paidTo_75 : decode cX6_paidTo 75 = .ok (.ireturn, 1) := by decide +kernel
theorem dX6_runYears_0 : decode cX6_runYears 0 = .ok (.aload_n 0, 1) := by decide +kernel
theorem dX6_runYears_1 : decode cX6_runYears 1 = .ok (.getfield 23, 3) := by decide +kernel
theorem dX6_runYears_4 : decode cX6_runYears 4 = .ok (.aload_n 0, 1) := by decide +kernel
theorem dX6_runYears_5 : decode cX6_runYears 5 = .ok (.getfield 19, 3) := by decide +kernel
theorem dX6_runYears_8 : decode cX6_runYears 8 = .ok (.invokevirtual 84, 3) := by decide +kernel
theorem dX6_runYears_11 : decode cX6_runYears 11 = .ok (.aload_n 0, 1) := by decide +kernel
theorem dX6_runYears_12 : decode cX6_runYears 12 = .ok (.getfield 36, 3) := by decide +kernel
theorem dX6_runYears_15 : decode cX6_runYears 15 = .ok (.iconst 0, 1) := by decide +kernel
theorem dX6_runYears_16 : decode cX6_runYears 16 = .ok (.putfield 111, 3) := by decide +kernel
theorem dX6_runYears_19 : decode cX6_runYears 19 = .ok (.aload_n 0, 1) := by decide +kernel
theorem dX6_runYears_20 : decode cX6_runYears 20 = .ok (.getfield 36, 3) := by decide +kernel
theorem dX6_runYears_23 : decode cX6_runYears 23 = .ok (.iconst 0, 1) := by decide +kernel
theorem dX6_runYears_24 : decode cX6_runYears 24 = .ok (.putfield 193, 3) := by decide +kernel
theorem dX6_runYears_27 : decode cX6_runYears 27 = .ok (.aload_n 0, 1) := by decide +kernel
theorem dX6_runYears_28 : decode cX6_runYears 28 = .ok (.getfield 36, 3) := by decide +kernel
theorem dX6_runYears_31 : decode cX6_runYears 31 = .ok (.bipush (-9), 2) := by decide +kernel
theorem dX6_runYears_33 : decode cX6_runYears 33 = .ok (.putfield 190, 3) := by decide +kernel
theorem dX6_runYears_36 : decode cX6_runYears 36 = .ok (.aload_n 0, 1) := by decide +kernel
theorem dX6_runYears_37 : decode cX6_runYears 37 = .ok (.getfield 19, 3) := by decide +kernel
theorem dX6_runYears_40 : decode cX6_runYears 40 = .ok (.getfield 94, 3) := by decide +kernel
theorem dX6_runYears_43 : decode cX6_runYears 43 = .ok (.ifCond .ne 7, 3) := by decide +kernel
theorem dX6_runYears_46 : decode cX6_runYears 46 = .ok (.iconst 0, 1) := by decide +kernel
theorem dX6_runYears_47 : decode cX6_runYears 47 = .ok (.goto 5, 3) := by decide +kernel
theorem dX6_runYears_50 : decode cX6_runYears 50 = .ok (.bipush 36, 2) := by decide +kernel
theorem dX6_runYears_52 : decode cX6_runYears 52 = .ok (.istore_n 1, 1) := by decide +kernel
theorem dX6_runYears_53 : decode cX6_runYears 53 = .ok (.iconst 0, 1) := by decide +kernel
theorem dX6_runYears_54 : decode cX6_runYears 54 = .ok (.istore_n 2, 1) := by decide +kernel
theorem dX6_runYears_55 : decode cX6_runYears 55 = .ok (.iload_n 2, 1) := by decide +kernel
theorem dX6_runYears_56 : decode cX6_runYears 56 = .ok (.iload_n 1, 1) := by decide +kernel
theorem dX6_runYears_57 : decode cX6_runYears 57 = .ok (.if_icmp .ge 139, 3) := by decide +kernel
theorem dX6_runYears_60 : decode cX6_runYears 60 = .ok (.aload_n 0, 1) := by decide +kernel
theorem dX6_runYears_61 : decode cX6_runYears 61 = .ok (.aload_n 0, 1) := by decide +kernel
theorem dX6_runYears_62 : decode cX6_runYears 62 = .ok (.getfield 23, 3) := by decide +kernel
theorem dX6_runYears_65 : decode cX6_runYears 65 = .ok (.aload_n 0, 1) := by decide +kernel
theorem dX6_runYears_66 : decode cX6_runYears 66 = .ok (.getfield 23, 3) := by decide +kernel
theorem dX6_runYears_69 : decode cX6_runYears 69 = .ok (.invokevirtual 97, 3) := by decide +kernel
theorem dX6_runYears_72 : decode cX6_runYears 72 = .ok (.invokevirtual 101, 3) := by decide +kernel
theorem dX6_runYears_75 : decode cX6_runYears 75 = .ok (.istore_n 3, 1) := by decide +kernel
theorem dX6_runYears_76 : decode cX6_runYears 76 = .ok (.iload_n 3, 1) := by decide +kernel
theorem dX6_runYears_77 : decode cX6_runYears 77 = .ok (.bipush (-9), 2) := by decide +kernel
theorem dX6_runYears_79 : decode cX6_runYears 79 = .ok (.if_icmp .ne 4, 3) := by decide +kernel
theorem dX6_runYears_82 : decode cX6_runYears 82 = .ok (.return_, 1) := by decide +kernel
theorem dX6_runYears_83 : decode cX6_runYears 83 = .ok (.aload_n 0, 1) := by decide +kernel
theorem dX6_runYears_84 : decode cX6_runYears 84 = .ok (.getfield 36, 3) := by decide +kernel
theorem dX6_runYears_87 : decode cX6_runYears 87 = .ok (.dup, 1) := by decide +kernel
theorem dX6_runYears_88 : decode cX6_runYears 88 = .ok (.getfield 111, 3) := by decide +kernel
theorem dX6_runYears_91 : decode cX6_runYears 91 = .ok (.iconst 1, 1) := by decide +kernel
theorem dX6_runYears_92 : decode cX6_runYears 92 = .ok (.iadd, 1) := by decide +kernel
theorem dX6_runYears_93 : decode cX6_runYears 93 = .ok (.putfield 111, 3) := by decide +kernel
theorem dX6_runYears_96 : decode cX6_runYears 96 = .ok (.aload_n 0, 1) := by decide +kernel
theorem dX6_runYears_97 : decode cX6_runYears 97 = .ok (.getfield 36, 3) := by decide +kernel
theorem dX6_runYears_100 : decode cX6_runYears 100 = .ok (.dup, 1) := by decide +kernel
theorem dX6_runYears_101 : decode cX6_runYears 101 = .ok (.getfield 193, 3) := by decide +kernel
theorem dX6_runYears_104 : decode cX6_runYears 104 = .ok (.iload_n 3, 1) := by decide +kernel
theorem dX6_runYears_105 : decode cX6_runYears 105 = .ok (.iadd, 1) := by decide +kernel
theorem dX6_runYears_106 : decode cX6_runYears 106 = .ok (.putfield 193, 3) := by decide +kernel
theorem dX6_runYears_109 : decode cX6_runYears 109 = .ok (.aload_n 0, 1) := by decide +kernel
theorem dX6_runYears_110 : decode cX6_runYears 110 = .ok (.getfield 36, 3) := by decide +kernel
theorem dX6_runYears_113 : decode cX6_runYears 113 = .ok (.getfield 190, 3) := by decide +kernel
theorem dX6_runYears_116 : decode cX6_runYears 116 = .ok (.bipush (-9), 2) := by decide +kernel
theorem dX6_runYears_118 : decode cX6_runYears 118 = .ok (.if_icmp .ne 25, 3) := by decide +kernel
theorem dX6_runYears_121 : decode cX6_runYears 121 = .ok (.aload_n 0, 1) := by decide +kernel
theorem dX6_runYears_122 : decode cX6_runYears 122 = .ok (.getfield 29, 3) := by decide +kernel
theorem dX6_runYears_125 : decode cX6_runYears 125 = .ok (.aload_n 0, 1) := by decide +kernel
theorem dX6_runYears_126 : decode cX6_runYears 126 = .ok (.getfield 23, 3) := by decide +kernel
theorem dX6_runYears_129 : decode cX6_runYears 129 = .ok (.invokevirtual 259, 3) := by decide +kernel
theorem dX6_runYears_132 : decode cX6_runYears 132 = .ok (.ifCond .eq 11, 3) := by decide +kernel
theorem dX6_runYears_135 : decode cX6_runYears 135 = .ok (.aload_n 0, 1) := by decide +kernel
theorem dX6_runYears_136 : decode cX6_runYears 136 = .ok (.getfield 36, 3) := by decide +kernel
theorem dX6_runYears_139 : decode cX6_runYears 139 = .ok (.iload_n 2, 1) := by decide +kernel
theorem dX6_runYears_140 : decode cX6_runYears 140 = .ok (.putfield 190, 3) := by decide +kernel
theorem dX6_runYears_143 : decode cX6_runYears 143 = .ok (.iconst 0, 1) := by decide +kernel
theorem dX6_runYears_144 : decode cX6_runYears 144 = .ok (.istore 4, 2) := by decide +kernel
theorem dX6_runYears_146 : decode cX6_runYears 146 = .ok (.iload 4, 2) := by decide +kernel
theorem dX6_runYears_148 : decode cX6_runYears 148 = .ok (.aload_n 0, 1) := by decide +kernel
theorem dX6_runYears_149 : decode cX6_runYears 149 = .ok (.getfield 23, 3) := by decide +kernel
theorem dX6_runYears_152 : decode cX6_runYears 152 = .ok (.getfield 91, 3) := by decide +kernel
theorem dX6_runYears_155 : decode cX6_runYears 155 = .ok (.if_icmp .ge 35, 3) := by decide +kernel
theorem dX6_runYears_158 : decode cX6_runYears 158 = .ok (.aload_n 0, 1) := by decide +kernel
theorem dX6_runYears_159 : decode cX6_runYears 159 = .ok (.getfield 23, 3) := by decide +kernel
theorem dX6_runYears_162 : decode cX6_runYears 162 = .ok (.getfield 133, 3) := by decide +kernel
theorem dX6_runYears_165 : decode cX6_runYears 165 = .ok (.iload 4, 2) := by decide +kernel
theorem dX6_runYears_167 : decode cX6_runYears 167 = .ok (.dup2, 1) := by decide +kernel
theorem dX6_runYears_168 : decode cX6_runYears 168 = .ok (.iaload, 1) := by decide +kernel
theorem dX6_runYears_169 : decode cX6_runYears 169 = .ok (.aload_n 0, 1) := by decide +kernel
theorem dX6_runYears_170 : decode cX6_runYears 170 = .ok (.getfield 29, 3) := by decide +kernel
theorem dX6_runYears_173 : decode cX6_runYears 173 = .ok (.aload_n 0, 1) := by decide +kernel
theorem dX6_runYears_174 : decode cX6_runYears 174 = .ok (.getfield 23, 3) := by decide +kernel
theorem dX6_runYears_177 : decode cX6_runYears 177 = .ok (.iload 4, 2) := by decide +kernel
theorem dX6_runYears_179 : decode cX6_runYears 179 = .ok (.invokevirtual 256, 3) := by decide +kernel
theorem dX6_runYears_182 : decode cX6_runYears 182 = .ok (.isub, 1) := by decide +kernel
theorem dX6_runYears_183 : decode cX6_runYears 183 = .ok (.iastore, 1) := by decide +kernel
theorem dX6_runYears_184 : decode cX6_runYears 184 = .ok (.iinc 4 1, 3) := by decide +kernel
theorem dX6_runYears_187 : decode cX6_runYears 187 = .ok (.goto (-41), 3) := by decide +kernel
theorem dX6_runYears_190 : decode cX6_runYears 190 = .ok (.iinc 2 1, 3) := by decide +kernel
theorem dX6_runYears_193 : decode cX6_runYears 193 = .ok (.goto (-138), 3) := by decide +kernel
theorem dX6_runYears_196 : decode cX6_runYears 196 = .ok (.return_, 1) := by decide +kernel
theorem dX6_sharesOf_0 : decode cX6_sharesOf 0 = .ok (.iconst 0, 1) := by decide +kernel
theorem dX6_sharesOf_1 : decode cX6_sharesOf 1 = .ok (.istore_n 2, 1) := by decide +kernel
theorem dX6_sharesOf_2 : decode cX6_sharesOf 2 = .ok (.iconst 0, 1) := by decide +kernel
theorem dX6_sharesOf_3 : decode cX6_sharesOf 3 = .ok (.istore_n 3, 1) := by decide +kernel
theorem dX6_sharesOf_4 : decode cX6_sharesOf 4 = .ok (.iload_n 3, 1) := by decide +kernel
theorem dX6_sharesOf_5 : decode cX6_sharesOf 5 = .ok (.aload_n 0, 1) := by decide +kernel
theorem dX6_sharesOf_6 : decode cX6_sharesOf 6 = .ok (.getfield 19, 3) := by decide +kernel
theorem dX6_sharesOf_9 : decode cX6_sharesOf 9 = .ok (.getfield 91, 3) := by decide +kernel
theorem dX6_sharesOf_12 : decode cX6_sharesOf 12 = .ok (.if_icmp .ge 27, 3) := by decide +kernel
theorem dX6_sharesOf_15 : decode cX6_sharesOf 15 = .ok (.iload_n 1, 1) := by decide +kernel
theorem dX6_sharesOf_16 : decode cX6_sharesOf 16 = .ok (.iload_n 3, 1) := by decide +kernel
theorem dX6_sharesOf_17 : decode cX6_sharesOf 17 = .ok (.ishr, 1) := by decide +kernel
theorem dX6_sharesOf_18 : decode cX6_sharesOf 18 = .ok (.iconst 1, 1) := by decide +kernel
theorem dX6_sharesOf_19 : decode cX6_sharesOf 19 = .ok (.iand, 1) := by decide +kernel
theorem dX6_sharesOf_20 : decode cX6_sharesOf 20 = .ok (.iconst 1, 1) := by decide +kernel
theorem dX6_sharesOf_21 : decode cX6_sharesOf 21 = .ok (.if_icmp .ne 12, 3) := by decide +kernel
theorem dX6_sharesOf_24 : decode cX6_sharesOf 24 = .ok (.iload_n 2, 1) := by decide +kernel
theorem dX6_sharesOf_25 : decode cX6_sharesOf 25 = .ok (.aload_n 0, 1) := by decide +kernel
theorem dX6_sharesOf_26 : decode cX6_sharesOf 26 = .ok (.getfield 58, 3) := by decide +kernel
theorem dX6_sharesOf_29 : decode cX6_sharesOf 29 = .ok (.iload_n 3, 1) := by decide +kernel
theorem dX6_sharesOf_30 : decode cX6_sharesOf 30 = .ok (.iaload, 1) := by decide +kernel
theorem dX6_sharesOf_31 : decode cX6_sharesOf 31 = .ok (.iadd, 1) := by decide +kernel
theorem dX6_sharesOf_32 : decode cX6_sharesOf 32 = .ok (.istore_n 2, 1) := by decide +kernel
theorem dX6_sharesOf_33 : decode cX6_sharesOf 33 = .ok (.iinc 3 1, 3) := by decide +kernel
theorem dX6_sharesOf_36 : decode cX6_sharesOf 36 = .ok (.goto (-32), 3) := by decide +kernel
theorem dX6_sharesOf_39 : decode cX6_sharesOf 39 = .ok (.iload_n 2, 1) := by decide +kernel
theorem dX6_sharesOf_40 : decode cX6_sharesOf 40 = .ok (.ireturn, 1) := by decide +kernel
theorem dX6_canBe_0 : decode cX6_canBe 0 = .ok (.aload_n 0, 1) := by decide +kernel
theorem dX6_canBe_1 : decode cX6_canBe 1 = .ok (.getfield 58, 3) := by decide +kernel
theorem dX6_canBe_4 : decode cX6_canBe 4 = .ok (.iload_n 1, 1) := by decide +kernel
theorem dX6_canBe_5 : decode cX6_canBe 5 = .ok (.iaload, 1) := by decide +kernel
theorem dX6_canBe_6 : decode cX6_canBe 6 = .ok (.istore_n 2, 1) := by decide +kernel
theorem dX6_canBe_7 : decode cX6_canBe 7 = .ok (.aload_n 0, 1) := by decide +kernel
theorem dX6_canBe_8 : decode cX6_canBe 8 = .ok (.getfield 58, 3) := by decide +kernel
theorem dX6_canBe_11 : decode cX6_canBe 11 = .ok (.iload_n 1, 1) := by decide +kernel
theorem dX6_canBe_12 : decode cX6_canBe 12 = .ok (.iconst 1, 1) := by decide +kernel
theorem dX6_canBe_13 : decode cX6_canBe 13 = .ok (.iadd, 1) := by decide +kernel
theorem dX6_canBe_14 : decode cX6_canBe 14 = .ok (.iaload, 1) := by decide +kernel
theorem dX6_canBe_15 : decode cX6_canBe 15 = .ok (.istore_n 3, 1) := by decide +kernel
theorem dX6_canBe_16 : decode cX6_canBe 16 = .ok (.aload_n 0, 1) := by decide +kernel
theorem dX6_canBe_17 : decode cX6_canBe 17 = .ok (.getfield 58, 3) := by decide +kernel
theorem dX6_canBe_20 : decode cX6_canBe 20 = .ok (.iload_n 1, 1) := by decide +kernel
theorem dX6_canBe_21 : decode cX6_canBe 21 = .ok (.iconst 2, 1) := by decide +kernel
theorem dX6_canBe_22 : decode cX6_canBe 22 = .ok (.iadd, 1) := by decide +kernel
theorem dX6_canBe_23 : decode cX6_canBe 23 = .ok (.iaload, 1) := by decide +kernel
theorem dX6_canBe_24 : decode cX6_canBe 24 = .ok (.istore 4, 2) := by decide +kernel
theorem dX6_canBe_26 : decode cX6_canBe 26 = .ok (.aload_n 0, 1) := by decide +kernel
theorem dX6_canBe_27 : decode cX6_canBe 27 = .ok (.getfield 58, 3) := by decide +kernel
theorem dX6_canBe_30 : decode cX6_canBe 30 = .ok (.iload_n 1, 1) := by decide +kernel
theorem dX6_canBe_31 : decode cX6_canBe 31 = .ok (.iconst 3, 1) := by decide +kernel
theorem dX6_canBe_32 : decode cX6_canBe 32 = .ok (.iadd, 1) := by decide +kernel
theorem dX6_canBe_33 : decode cX6_canBe 33 = .ok (.iaload, 1) := by decide +kernel
theorem dX6_canBe_34 : decode cX6_canBe 34 = .ok (.istore 5, 2) := by decide +kernel
theorem dX6_canBe_36 : decode cX6_canBe 36 = .ok (.aload_n 0, 1) := by decide +kernel
theorem dX6_canBe_37 : decode cX6_canBe 37 = .ok (.getfield 23, 3) := by decide +kernel
theorem dX6_canBe_40 : decode cX6_canBe 40 = .ok (.invokevirtual 97, 3) := by decide +kernel
theorem dX6_canBe_43 : decode cX6_canBe 43 = .ok (.istore 6, 2) := by decide +kernel
theorem dX6_canBe_45 : decode cX6_canBe 45 = .ok (.iload_n 2, 1) := by decide +kernel
theorem dX6_canBe_46 : decode cX6_canBe 46 = .ok (.tableswitch 214 1 7 #[42, 42, 42, 64, 90, 141, 184], 42) := by decide +kernel
theorem dX6_canBe_88 : decode cX6_canBe 88 = .ok (.iload 4, 2) := by decide +kernel
theorem dX6_canBe_90 : decode cX6_canBe 90 = .ok (.ifCond .ne 18, 3) := by decide +kernel
theorem dX6_canBe_93 : decode cX6_canBe 93 = .ok (.aload_n 0, 1) := by decide +kernel
theorem dX6_canBe_94 : decode cX6_canBe 94 = .ok (.iload_n 2, 1) := by decide +kernel
theorem dX6_canBe_95 : decode cX6_canBe 95 = .ok (.iload_n 3, 1) := by decide +kernel
theorem dX6_canBe_96 : decode cX6_canBe 96 = .ok (.iload 5, 2) := by decide +kernel
theorem dX6_canBe_98 : decode cX6_canBe 98 = .ok (.invokevirtual 262, 3) := by decide +kernel
theorem dX6_canBe_101 : decode cX6_canBe 101 = .ok (.ifCond .eq 7, 3) := by decide +kernel
theorem dX6_canBe_104 : decode cX6_canBe 104 = .ok (.iconst 1, 1) := by decide +kernel
theorem dX6_canBe_105 : decode cX6_canBe 105 = .ok (.goto 4, 3) := by decide +kernel
theorem dX6_canBe_108 : decode cX6_canBe 108 = .ok (.iconst 0, 1) := by decide +kernel
theorem dX6_canBe_109 : decode cX6_canBe 109 = .ok (.ireturn, 1) := by decide +kernel
theorem dX6_canBe_110 : decode cX6_canBe 110 = .ok (.iload_n 3, 1) := by decide +kernel
theorem dX6_canBe_111 : decode cX6_canBe 111 = .ok (.ifCond .ne 23, 3) := by decide +kernel
theorem dX6_canBe_114 : decode cX6_canBe 114 = .ok (.iload 4, 2) := by decide +kernel
theorem dX6_canBe_116 : decode cX6_canBe 116 = .ok (.ifCond .ne 18, 3) := by decide +kernel
theorem dX6_canBe_119 : decode cX6_canBe 119 = .ok (.aload_n 0, 1) := by decide +kernel
theorem dX6_canBe_120 : decode cX6_canBe 120 = .ok (.iload_n 2, 1) := by decide +kernel
theorem dX6_canBe_121 : decode cX6_canBe 121 = .ok (.iload_n 3, 1) := by decide +kernel
theorem dX6_canBe_122 : decode cX6_canBe 122 = .ok (.iload 5, 2) := by decide +kernel
theorem dX6_canBe_124 : decode cX6_canBe 124 = .ok (.invokevirtual 262, 3) := by decide +kernel
theorem dX6_canBe_127 : decode cX6_canBe 127 = .ok (.ifCond .eq 7, 3) := by decide +kernel
theorem dX6_canBe_130 : decode cX6_canBe 130 = .ok (.iconst 1, 1) := by decide +kernel
theorem dX6_canBe_131 : decode cX6_canBe 131 = .ok (.goto 4, 3) := by decide +kernel
theorem dX6_canBe_134 : decode cX6_canBe 134 = .ok (.iconst 0, 1) := by decide +kernel
theorem dX6_canBe_135 : decode cX6_canBe 135 = .ok (.ireturn, 1) := by decide +kernel
theorem dX6_canBe_136 : decode cX6_canBe 136 = .ok (.iload 4, 2) := by decide +kernel
theorem dX6_canBe_138 : decode cX6_canBe 138 = .ok (.ifCond .ne 47, 3) := by decide +kernel
theorem dX6_canBe_141 : decode cX6_canBe 141 = .ok (.aload_n 0, 1) := by decide +kernel
theorem dX6_canBe_142 : decode cX6_canBe 142 = .ok (.getfield 23, 3) := by decide +kernel
theorem dX6_canBe_145 : decode cX6_canBe 145 = .ok (.iload_n 3, 1) := by decide +kernel
theorem dX6_canBe_146 : decode cX6_canBe 146 = .ok (.invokevirtual 115, 3) := by decide +kernel
theorem dX6_canBe_149 : decode cX6_canBe 149 = .ok (.ifCond .eq 36, 3) := by decide +kernel
theorem dX6_canBe_152 : decode cX6_canBe 152 = .ok (.aload_n 0, 1) := by decide +kernel
theorem dX6_canBe_153 : decode cX6_canBe 153 = .ok (.aload_n 0, 1) := by decide +kernel
theorem dX6_canBe_154 : decode cX6_canBe 154 = .ok (.getfield 23, 3) := by decide +kernel
theorem dX6_canBe_157 : decode cX6_canBe 157 = .ok (.iload 6, 2) := by decide +kernel
theorem dX6_canBe_159 : decode cX6_canBe 159 = .ok (.invokevirtual 101, 3) := by decide +kernel
theorem dX6_canBe_162 : decode cX6_canBe 162 = .ok (.bipush (-9), 2) := by decide +kernel
theorem dX6_canBe_164 : decode cX6_canBe 164 = .ok (.if_icmp .eq 21, 3) := by decide +kernel
theorem dX6_canBe_167 : decode cX6_canBe 167 = .ok (.aload_n 0, 1) := by decide +kernel
theorem dX6_canBe_168 : decode cX6_canBe 168 = .ok (.getfield 29, 3) := by decide +kernel
theorem dX6_canBe_171 : decode cX6_canBe 171 = .ok (.getfield 124, 3) := by decide +kernel
theorem dX6_canBe_174 : decode cX6_canBe 174 = .ok (.iload_n 3, 1) := by decide +kernel
theorem dX6_canBe_175 : decode cX6_canBe 175 = .ok (.iaload, 1) := by decide +kernel
theorem dX6_canBe_176 : decode cX6_canBe 176 = .ok (.iload 5, 2) := by decide +kernel
theorem dX6_canBe_178 : decode cX6_canBe 178 = .ok (.if_icmp .ne 7, 3) := by decide +kernel
theorem dX6_canBe_181 : decode cX6_canBe 181 = .ok (.iconst 1, 1) := by decide +kernel
theorem dX6_canBe_182 : decode cX6_canBe 182 = .ok (.goto 4, 3) := by decide +kernel
theorem dX6_canBe_185 : decode cX6_canBe 185 = .ok (.iconst 0, 1) := by decide +kernel
theorem dX6_canBe_186 : decode cX6_canBe 186 = .ok (.ireturn, 1) := by decide +kernel
theorem dX6_canBe_187 : decode cX6_canBe 187 = .ok (.iload_n 3, 1) := by decide +kernel
theorem dX6_canBe_188 : decode cX6_canBe 188 = .ok (.ifCond .ne 40, 3) := by decide +kernel
theorem dX6_canBe_191 : decode cX6_canBe 191 = .ok (.aload_n 0, 1) := by decide +kernel
theorem dX6_canBe_192 : decode cX6_canBe 192 = .ok (.aload_n 0, 1) := by decide +kernel
theorem dX6_canBe_193 : decode cX6_canBe 193 = .ok (.getfield 23, 3) := by decide +kernel
theorem dX6_canBe_196 : decode cX6_canBe 196 = .ok (.iload 6, 2) := by decide +kernel
theorem dX6_canBe_198 : decode cX6_canBe 198 = .ok (.invokevirtual 101, 3) := by decide +kernel
theorem dX6_canBe_201 : decode cX6_canBe 201 = .ok (.bipush (-9), 2) := by decide +kernel
theorem dX6_canBe_203 : decode cX6_canBe 203 = .ok (.if_icmp .eq 25, 3) := by decide +kernel
theorem dX6_canBe_206 : decode cX6_canBe 206 = .ok (.aload_n 0, 1) := by decide +kernel
theorem dX6_canBe_207 : decode cX6_canBe 207 = .ok (.getfield 29, 3) := by decide +kernel
theorem dX6_canBe_210 : decode cX6_canBe 210 = .ok (.getfield 239, 3) := by decide +kernel
theorem dX6_canBe_213 : decode cX6_canBe 213 = .ok (.bipush 10, 2) := by decide +kernel
theorem dX6_canBe_215 : decode cX6_canBe 215 = .ok (.iload 4, 2) := by decide +kernel
theorem dX6_canBe_217 : decode cX6_canBe 217 = .ok (.imul, 1) := by decide +kernel
theorem dX6_canBe_218 : decode cX6_canBe 218 = .ok (.iload 5, 2) := by decide +kernel
theorem dX6_canBe_220 : decode cX6_canBe 220 = .ok (.iadd, 1) := by decide +kernel
theorem dX6_canBe_221 : decode cX6_canBe 221 = .ok (.if_icmp .gt 7, 3) := by decide +kernel
theorem dX6_canBe_224 : decode cX6_canBe 224 = .ok (.iconst 1, 1) := by decide +kernel
theorem dX6_canBe_225 : decode cX6_canBe 225 = .ok (.goto 4, 3) := by decide +kernel
theorem dX6_canBe_228 : decode cX6_canBe 228 = .ok (.iconst 0, 1) := by decide +kernel
theorem dX6_canBe_229 : decode cX6_canBe 229 = .ok (.ireturn, 1) := by decide +kernel
theorem dX6_canBe_230 : decode cX6_canBe 230 = .ok (.iload_n 3, 1) := by decide +kernel
theorem dX6_canBe_231 : decode cX6_canBe 231 = .ok (.ifCond .ne 27, 3) := by decide +kernel
theorem dX6_canBe_234 : decode cX6_canBe 234 = .ok (.iload 4, 2) := by decide +kernel
theorem dX6_canBe_236 : decode cX6_canBe 236 = .ok (.ifCond .ne 22, 3) := by decide +kernel
theorem dX6_canBe_239 : decode cX6_canBe 239 = .ok (.aload_n 0, 1) := by decide +kernel
theorem dX6_canBe_240 : decode cX6_canBe 240 = .ok (.aload_n 0, 1) := by decide +kernel
theorem dX6_canBe_241 : decode cX6_canBe 241 = .ok (.getfield 23, 3) := by decide +kernel
theorem dX6_canBe_244 : decode cX6_canBe 244 = .ok (.iload 6, 2) := by decide +kernel
theorem dX6_canBe_246 : decode cX6_canBe 246 = .ok (.invokevirtual 105, 3) := by decide +kernel
theorem dX6_canBe_249 : decode cX6_canBe 249 = .ok (.iload 5, 2) := by decide +kernel
theorem dX6_canBe_251 : decode cX6_canBe 251 = .ok (.if_icmp .ne 7, 3) := by decide +kernel
theorem dX6_canBe_254 : decode cX6_canBe 254 = .ok (.iconst 1, 1) := by decide +kernel
theorem dX6_canBe_255 : decode cX6_canBe 255 = .ok (.goto 4, 3) := by decide +kernel
theorem dX6_canBe_258 : decode cX6_canBe 258 = .ok (.iconst 0, 1) := by decide +kernel
theorem dX6_canBe_259 : decode cX6_canBe 259 = .ok (.ireturn, 1) := by decide +kernel
theorem dX6_canBe_260 : decode cX6_canBe 260 = .ok (.iconst 0, 1) := by decide +kernel
theorem dX6_canBe_261 : decode cX6_canBe 261 = .ok (.ireturn, 1) := by decide +kernel
theorem dX6_changesTrial_0 : decode cX6_changesTrial 0 = .ok (.aload_n 0, 1) := by decide +kernel
theorem dX6_changesTrial_1 : decode cX6_changesTrial 1 = .ok (.getfield 23, 3) := by decide +kernel
theorem dX6_changesTrial_4 : decode cX6_changesTrial 4 = .ok (.iload_n 1, 1) := by decide +kernel
theorem dX6_changesTrial_5 : decode cX6_changesTrial 5 = .ok (.iload_n 2, 1) := by decide +kernel
theorem dX6_changesTrial_6 : decode cX6_changesTrial 6 = .ok (.iload_n 3, 1) := by decide +kernel
theorem dX6_changesTrial_7 : decode cX6_changesTrial 7 = .ok (.invokevirtual 161, 3) := by decide +kernel
theorem dX6_changesTrial_10 : decode cX6_changesTrial 10 = .ok (.ifCond .eq 5, 3) := by decide +kernel
theorem dX6_changesTrial_13 : decode cX6_changesTrial 13 = .ok (.iconst 0, 1) := by decide +kernel
theorem dX6_changesTrial_14 : decode cX6_changesTrial 14 = .ok (.ireturn, 1) := by decide +kernel
theorem dX6_changesTrial_15 : decode cX6_changesTrial 15 = .ok (.aload_n 0, 1) := by decide +kernel
theorem dX6_changesTrial_16 : decode cX6_changesTrial 16 = .ok (.getfield 23, 3) := by decide +kernel
theorem dX6_changesTrial_19 : decode cX6_changesTrial 19 = .ok (.iload_n 1, 1) := by decide +kernel
theorem dX6_changesTrial_20 : decode cX6_changesTrial 20 = .ok (.iload_n 2, 1) := by decide +kernel
theorem dX6_changesTrial_21 : decode cX6_changesTrial 21 = .ok (.iload_n 3, 1) := by decide +kernel
theorem dX6_changesTrial_22 : decode cX6_changesTrial 22 = .ok (.invokevirtual 158, 3) := by decide +kernel
theorem dX6_changesTrial_25 : decode cX6_changesTrial 25 = .ok (.pop, 1) := by decide +kernel
theorem dX6_changesTrial_26 : decode cX6_changesTrial 26 = .ok (.iconst 1, 1) := by decide +kernel
theorem dX6_changesTrial_27 : decode cX6_changesTrial 27 = .ok (.ireturn, 1) := by decide +kernel
theorem dX6_allSeenIsSo_0 : decode cX6_allSeenIsSo 0 = .ok (.aload_n 0, 1) := by decide +kernel
theorem dX6_allSeenIsSo_1 : decode cX6_allSeenIsSo 1 = .ok (.aload_n 1, 1) := by decide +kernel
theorem dX6_allSeenIsSo_2 : decode cX6_allSeenIsSo 2 = .ok (.aload_n 1, 1) := by decide +kernel
theorem dX6_allSeenIsSo_3 : decode cX6_allSeenIsSo 3 = .ok (.invokevirtual 97, 3) := by decide +kernel
theorem dX6_allSeenIsSo_6 : decode cX6_allSeenIsSo 6 = .ok (.invokevirtual 101, 3) := by decide +kernel
theorem dX6_allSeenIsSo_9 : decode cX6_allSeenIsSo 9 = .ok (.bipush (-9), 2) := by decide +kernel
theorem dX6_allSeenIsSo_11 : decode cX6_allSeenIsSo 11 = .ok (.if_icmp .eq 7, 3) := by decide +kernel
theorem dX6_allSeenIsSo_14 : decode cX6_allSeenIsSo 14 = .ok (.iconst 1, 1) := by decide +kernel
theorem dX6_allSeenIsSo_15 : decode cX6_allSeenIsSo 15 = .ok (.goto 4, 3) := by decide +kernel
theorem dX6_allSeenIsSo_18 : decode cX6_allSeenIsSo 18 = .ok (.iconst 0, 1) := by decide +kernel
theorem dX6_allSeenIsSo_19 : decode cX6_allSeenIsSo 19 = .ok (.istore_n 2, 1) := by decide +kernel
theorem dX6_allSeenIsSo_20 : decode cX6_allSeenIsSo 20 = .ok (.iconst 0, 1) := by decide +kernel
theorem dX6_allSeenIsSo_21 : decode cX6_allSeenIsSo 21 = .ok (.istore_n 3, 1) := by decide +kernel
theorem dX6_allSeenIsSo_22 : decode cX6_allSeenIsSo 22 = .ok (.iload_n 3, 1) := by decide +kernel
theorem dX6_allSeenIsSo_23 : decode cX6_allSeenIsSo 23 = .ok (.aload_n 0, 1) := by decide +kernel
theorem dX6_allSeenIsSo_24 : decode cX6_allSeenIsSo 24 = .ok (.getfield 50, 3) := by decide +kernel
theorem dX6_allSeenIsSo_27 : decode cX6_allSeenIsSo 27 = .ok (.getfield 114, 3) := by decide +kernel
theorem dX6_allSeenIsSo_30 : decode cX6_allSeenIsSo 30 = .ok (.if_icmp .ge 78, 3) := by decide +kernel
theorem dX6_allSeenIsSo_33 : decode cX6_allSeenIsSo 33 = .ok (.aload_n 0, 1) := by decide +kernel
theorem dX6_allSeenIsSo_34 : decode cX6_allSeenIsSo 34 = .ok (.getfield 50, 3) := by decide +kernel
theorem dX6_allSeenIsSo_37 : decode cX6_allSeenIsSo 37 = .ok (.getfield 266, 3) := by decide +kernel
theorem dX6_allSeenIsSo_40 : decode cX6_allSeenIsSo 40 = .ok (.iload_n 3, 1) := by decide +kernel
theorem dX6_allSeenIsSo_41 : decode cX6_allSeenIsSo 41 = .ok (.iaload, 1) := by decide +kernel
theorem dX6_allSeenIsSo_42 : decode cX6_allSeenIsSo 42 = .ok (.istore 4, 2) := by decide +kernel
theorem dX6_allSeenIsSo_44 : decode cX6_allSeenIsSo 44 = .ok (.iload_n 2, 1) := by decide +kernel
theorem dX6_allSeenIsSo_45 : decode cX6_allSeenIsSo 45 = .ok (.ifCond .eq 38, 3) := by decide +kernel
theorem dX6_allSeenIsSo_48 : decode cX6_allSeenIsSo 48 = .ok (.aload_n 1, 1) := by decide +kernel
theorem dX6_allSeenIsSo_49 : decode cX6_allSeenIsSo 49 = .ok (.iload 4, 2) := by decide +kernel
theorem dX6_allSeenIsSo_51 : decode cX6_allSeenIsSo 51 = .ok (.invokevirtual 115, 3) := by decide +kernel
theorem dX6_allSeenIsSo_54 : decode cX6_allSeenIsSo 54 = .ok (.ifCond .eq 29, 3) := by decide +kernel
theorem dX6_allSeenIsSo_57 : decode cX6_allSeenIsSo 57 = .ok (.aload_n 0, 1) := by decide +kernel
theorem dX6_allSeenIsSo_58 : decode cX6_allSeenIsSo 58 = .ok (.getfield 29, 3) := by decide +kernel
theorem dX6_allSeenIsSo_61 : decode cX6_allSeenIsSo 61 = .ok (.getfield 124, 3) := by decide +kernel
theorem dX6_allSeenIsSo_64 : decode cX6_allSeenIsSo 64 = .ok (.iload 4, 2) := by decide +kernel
theorem dX6_allSeenIsSo_66 : decode cX6_allSeenIsSo 66 = .ok (.iaload, 1) := by decide +kernel
theorem dX6_allSeenIsSo_67 : decode cX6_allSeenIsSo 67 = .ok (.aload_n 0, 1) := by decide +kernel
theorem dX6_allSeenIsSo_68 : decode cX6_allSeenIsSo 68 = .ok (.getfield 50, 3) := by decide +kernel
theorem dX6_allSeenIsSo_71 : decode cX6_allSeenIsSo 71 = .ok (.getfield 269, 3) := by decide +kernel
theorem dX6_allSeenIsSo_74 : decode cX6_allSeenIsSo 74 = .ok (.iload_n 3, 1) := by decide +kernel
theorem dX6_allSeenIsSo_75 : decode cX6_allSeenIsSo 75 = .ok (.iaload, 1) := by decide +kernel
theorem dX6_allSeenIsSo_76 : decode cX6_allSeenIsSo 76 = .ok (.if_icmp .ne 7, 3) := by decide +kernel
theorem dX6_allSeenIsSo_79 : decode cX6_allSeenIsSo 79 = .ok (.iconst 1, 1) := by decide +kernel
theorem dX6_allSeenIsSo_80 : decode cX6_allSeenIsSo 80 = .ok (.goto 4, 3) := by decide +kernel
theorem dX6_allSeenIsSo_83 : decode cX6_allSeenIsSo 83 = .ok (.iconst 0, 1) := by decide +kernel
theorem dX6_allSeenIsSo_84 : decode cX6_allSeenIsSo 84 = .ok (.istore 5, 2) := by decide +kernel
theorem dX6_allSeenIsSo_86 : decode cX6_allSeenIsSo 86 = .ok (.iload 5, 2) := by decide +kernel
theorem dX6_allSeenIsSo_88 : decode cX6_allSeenIsSo 88 = .ok (.aload_n 0, 1) := by decide +kernel
theorem dX6_allSeenIsSo_89 : decode cX6_allSeenIsSo 89 = .ok (.getfield 50, 3) := by decide +kernel
theorem dX6_allSeenIsSo_92 : decode cX6_allSeenIsSo 92 = .ok (.getfield 270, 3) := by decide +kernel
theorem dX6_allSeenIsSo_95 : decode cX6_allSeenIsSo 95 = .ok (.iload_n 3, 1) := by decide +kernel
theorem dX6_allSeenIsSo_96 : decode cX6_allSeenIsSo 96 = .ok (.baload, 1) := by decide +kernel
theorem dX6_allSeenIsSo_97 : decode cX6_allSeenIsSo 97 = .ok (.if_icmp .eq 5, 3) := by decide +kernel
theorem dX6_allSeenIsSo_100 : decode cX6_allSeenIsSo 100 = .ok (.iconst 0, 1) := by decide +kernel
theorem dX6_allSeenIsSo_101 : decode cX6_allSeenIsSo 101 = .ok (.ireturn, 1) := by decide +kernel
theorem dX6_allSeenIsSo_102 : decode cX6_allSeenIsSo 102 = .ok (.iinc 3 1, 3) := by decide +kernel
theorem dX6_allSeenIsSo_105 : decode cX6_allSeenIsSo 105 = .ok (.goto (-83), 3) := by decide +kernel
theorem dX6_allSeenIsSo_108 : decode cX6_allSeenIsSo 108 = .ok (.iconst 1, 1) := by decide +kernel
theorem dX6_allSeenIsSo_109 : decode cX6_allSeenIsSo 109 = .ok (.ireturn, 1) := by decide +kernel
theorem dX6_chanceOfLeft_0 : decode cX6_chanceOfLeft 0 = .ok (.iconst 1, 1) := by decide +kernel
theorem dX6_chanceOfLeft_1 : decode cX6_chanceOfLeft 1 = .ok (.istore_n 3, 1) := by decide +kernel
theorem dX6_chanceOfLeft_2 : decode cX6_chanceOfLeft 2 = .ok (.iconst 0, 1) := by decide +kernel
theorem dX6_chanceOfLeft_3 : decode cX6_chanceOfLeft 3 = .ok (.istore 4, 2) := by decide +kernel
theorem dX6_chanceOfLeft_5 : decode cX6_chanceOfLeft 5 = .ok (.iload 4, 2) := by decide +kernel
theorem dX6_chanceOfLeft_7 : decode cX6_chanceOfLeft 7 = .ok (.aload_n 0, 1) := by decide +kernel
theorem dX6_chanceOfLeft_8 : decode cX6_chanceOfLeft 8 = .ok (.getfield 19, 3) := by decide +kernel
theorem dX6_chanceOfLeft_11 : decode cX6_chanceOfLeft 11 = .ok (.getfield 91, 3) := by decide +kernel
theorem dX6_chanceOfLeft_14 : decode cX6_chanceOfLeft 14 = .ok (.if_icmp .ge 30, 3) := by decide +kernel
theorem dX6_chanceOfLeft_17 : decode cX6_chanceOfLeft 17 = .ok (.iload_n 3, 1) := by decide +kernel
theorem dX6_chanceOfLeft_18 : decode cX6_chanceOfLeft 18 = .ok (.iload_n 1, 1) := by decide +kernel
theorem dX6_chanceOfLeft_19 : decode cX6_chanceOfLeft 19 = .ok (.iload 4, 2) := by decide +kernel
theorem dX6_chanceOfLeft_21 : decode cX6_chanceOfLeft 21 = .ok (.ishr, 1) := by decide +kernel
theorem dX6_chanceOfLeft_22 : decode cX6_chanceOfLeft 22 = .ok (.iconst 1, 1) := by decide +kernel
theorem dX6_chanceOfLeft_23 : decode cX6_chanceOfLeft 23 = .ok (.iand, 1) := by decide +kernel
theorem dX6_chanceOfLeft_24 : decode cX6_chanceOfLeft 24 = .ok (.iconst 1, 1) := by decide +kernel
theorem dX6_chanceOfLeft_25 : decode cX6_chanceOfLeft 25 = .ok (.if_icmp .ne 10, 3) := by decide +kernel
theorem dX6_chanceOfLeft_28 : decode cX6_chanceOfLeft 28 = .ok (.bipush 10, 2) := by decide +kernel
theorem dX6_chanceOfLeft_30 : decode cX6_chanceOfLeft 30 = .ok (.iload_n 2, 1) := by decide +kernel
theorem dX6_chanceOfLeft_31 : decode cX6_chanceOfLeft 31 = .ok (.isub, 1) := by decide +kernel
theorem dX6_chanceOfLeft_32 : decode cX6_chanceOfLeft 32 = .ok (.goto 4, 3) := by decide +kernel
theorem dX6_chanceOfLeft_35 : decode cX6_chanceOfLeft 35 = .ok (.iload_n 2, 1) := by decide +kernel
theorem dX6_chanceOfLeft_36 : decode cX6_chanceOfLeft 36 = .ok (.imul, 1) := by decide +kernel
theorem dX6_chanceOfLeft_37 : decode cX6_chanceOfLeft 37 = .ok (.istore_n 3, 1) := by decide +kernel
theorem dX6_chanceOfLeft_38 : decode cX6_chanceOfLeft 38 = .ok (.iinc 4 1, 3) := by decide +kernel
theorem dX6_chanceOfLeft_41 : decode cX6_chanceOfLeft 41 = .ok (.goto (-36), 3) := by decide +kernel
theorem dX6_chanceOfLeft_44 : decode cX6_chanceOfLeft 44 = .ok (.iload_n 3, 1) := by decide +kernel
theorem dX6_chanceOfLeft_45 : decode cX6_chanceOfLeft 45 = .ok (.ireturn, 1) := by decide +kernel
theorem dX6_partOfFraction_0 : decode cX6_partOfFraction 0 = .ok (.iload_n 0, 1) := by decide +kernel
theorem dX6_partOfFraction_1 : decode cX6_partOfFraction 1 = .ok (.istore_n 3, 1) := by decide +kernel
theorem dX6_partOfFraction_2 : decode cX6_partOfFraction 2 = .ok (.iload_n 1, 1) := by decide +kernel
theorem dX6_partOfFraction_3 : decode cX6_partOfFraction 3 = .ok (.istore 4, 2) := by decide +kernel
theorem dX6_partOfFraction_5 : decode cX6_partOfFraction 5 = .ok (.iconst 0, 1) := by decide +kernel
theorem dX6_partOfFraction_6 : decode cX6_partOfFraction 6 = .ok (.istore 5, 2) := by decide +kernel
theorem dX6_partOfFraction_8 : decode cX6_partOfFraction 8 = .ok (.iload 5, 2) := by decide +kernel
theorem dX6_partOfFraction_10 : decode cX6_partOfFraction 10 = .ok (.bipush 40, 2) := by decide +kernel
theorem dX6_partOfFraction_12 : decode cX6_partOfFraction 12 = .ok (.if_icmp .ge 27, 3) := by decide +kernel
theorem dX6_partOfFraction_15 : decode cX6_partOfFraction 15 = .ok (.iload 4, 2) := by decide +kernel
theorem dX6_partOfFraction_17 : decode cX6_partOfFraction 17 = .ok (.ifCond .eq 22, 3) := by decide +kernel
theorem dX6_partOfFraction_20 : decode cX6_partOfFraction 20 = .ok (.iload_n 3, 1) := by decide +kernel
theorem dX6_partOfFraction_21 : decode cX6_partOfFraction 21 = .ok (.iload 4, 2) := by decide +kernel
theorem dX6_partOfFraction_23 : decode cX6_partOfFraction 23 = .ok (.irem, 1) := by decide +kernel
theorem dX6_partOfFraction_24 : decode cX6_partOfFraction 24 = .ok (.istore 6, 2) := by decide +kernel
theorem dX6_partOfFraction_26 : decode cX6_partOfFraction 26 = .ok (.iload 4, 2) := by decide +kernel
theorem dX6_partOfFraction_28 : decode cX6_partOfFraction 28 = .ok (.istore_n 3, 1) := by decide +kernel
theorem dX6_partOfFraction_29 : decode cX6_partOfFraction 29 = .ok (.iload 6, 2) := by decide +kernel
theorem dX6_partOfFraction_31 : decode cX6_partOfFraction 31 = .ok (.istore 4, 2) := by decide +kernel
theorem dX6_partOfFraction_33 : decode cX6_partOfFraction 33 = .ok (.iinc 5 1, 3) := by decide +kernel
theorem dX6_partOfFraction_36 : decode cX6_partOfFraction 36 = .ok (.goto (-28), 3) := by decide +kernel
theorem dX6_partOfFraction_39 : decode cX6_partOfFraction 39 = .ok (.iload_n 2, 1) := by decide +kernel
theorem dX6_partOfFraction_40 : decode cX6_partOfFraction 40 = .ok (.ifCond .eq 7, 3) := by decide +kernel
theorem dX6_partOfFraction_43 : decode cX6_partOfFraction 43 = .ok (.iload_n 0, 1) := by decide +kernel
theorem dX6_partOfFraction_44 : decode cX6_partOfFraction 44 = .ok (.goto 4, 3) := by decide +kernel
theorem dX6_partOfFraction_47 : decode cX6_partOfFraction 47 = .ok (.iload_n 1, 1) := by decide +kernel
theorem dX6_partOfFraction_48 : decode cX6_partOfFraction 48 = .ok (.istore 5, 2) := by decide +kernel
theorem dX6_partOfFraction_50 : decode cX6_partOfFraction 50 = .ok (.iload_n 3, 1) := by decide +kernel
theorem dX6_partOfFraction_51 : decode cX6_partOfFraction 51 = .ok (.ifCond .le 10, 3) := by decide +kernel
theorem dX6_partOfFraction_54 : decode cX6_partOfFraction 54 = .ok (.iload 5, 2) := by decide +kernel
theorem dX6_partOfFraction_56 : decode cX6_partOfFraction 56 = .ok (.iload_n 3, 1) := by decide +kernel
theorem dX6_partOfFraction_57 : decode cX6_partOfFraction 57 = .ok (.idiv, 1) := by decide +kernel
theorem dX6_partOfFraction_58 : decode cX6_partOfFraction 58 = .ok (.goto 5, 3) := by decide +kernel
theorem dX6_partOfFraction_61 : decode cX6_partOfFraction 61 = .ok (.iload 5, 2) := by decide +kernel
theorem dX6_partOfFraction_63 : decode cX6_partOfFraction 63 = .ok (.ireturn, 1) := by decide +kernel
theorem dX6_spell_0 : decode cX6_spell 0 = .ok (.lload_n 1, 1) := by decide +kernel
theorem dX6_spell_1 : decode cX6_spell 1 = .ok (.lconst 0, 1) := by decide +kernel
theorem dX6_spell_2 : decode cX6_spell 2 = .ok (.lcmp, 1) := by decide +kernel
theorem dX6_spell_3 : decode cX6_spell 3 = .ok (.ifCond .lt 12, 3) := by decide +kernel
theorem dX6_spell_6 : decode cX6_spell 6 = .ok (.iload_n 3, 1) := by decide +kernel
theorem dX6_spell_7 : decode cX6_spell 7 = .ok (.aload_n 0, 1) := by decide +kernel
theorem dX6_spell_8 : decode cX6_spell 8 = .ok (.getfield 58, 3) := by decide +kernel
theorem dX6_spell_11 : decode cX6_spell 11 = .ok (.arraylength, 1) := by decide +kernel
theorem dX6_spell_12 : decode cX6_spell 12 = .ok (.if_icmp .le 5, 3) := by decide +kernel
theorem dX6_spell_15 : decode cX6_spell 15 = .ok (.iconst 0, 1) := by decide +kernel
theorem dX6_spell_16 : decode cX6_spell 16 = .ok (.ireturn, 1) := by decide +kernel
theorem dX6_spell_17 : decode cX6_spell 17 = .ok (.lload_n 1, 1) := by decide +kernel
theorem dX6_spell_18 : decode cX6_spell 18 = .ok (.lstore 4, 2) := by decide +kernel
theorem dX6_spell_20 : decode cX6_spell 20 = .ok (.iload_n 3, 1) := by decide +kernel
theorem dX6_spell_21 : decode cX6_spell 21 = .ok (.iconst 1, 1) := by decide +kernel
theorem dX6_spell_22 : decode cX6_spell 22 = .ok (.isub, 1) := by decide +kernel
theorem dX6_spell_23 : decode cX6_spell 23 = .ok (.istore 6, 2) := by decide +kernel
theorem dX6_spell_25 : decode cX6_spell 25 = .ok (.iload 6, 2) := by decide +kernel
theorem dX6_spell_27 : decode cX6_spell 27 = .ok (.ifCond .lt 31, 3) := by decide +kernel
theorem dX6_spell_30 : decode cX6_spell 30 = .ok (.aload_n 0, 1) := by decide +kernel
theorem dX6_spell_31 : decode cX6_spell 31 = .ok (.getfield 58, 3) := by decide +kernel
theorem dX6_spell_34 : decode cX6_spell 34 = .ok (.iload 6, 2) := by decide +kernel
theorem dX6_spell_36 : decode cX6_spell 36 = .ok (.lload 4, 2) := by decide +kernel
theorem dX6_spell_38 : decode cX6_spell 38 = .ok (.ldc2_w 233, 3) := by decide +kernel
theorem dX6_spell_41 : decode cX6_spell 41 = .ok (.lrem, 1) := by decide +kernel
theorem dX6_spell_42 : decode cX6_spell 42 = .ok (.l2i, 1) := by decide +kernel
theorem dX6_spell_43 : decode cX6_spell 43 = .ok (.iastore, 1) := by decide +kernel
theorem dX6_spell_44 : decode cX6_spell 44 = .ok (.lload 4, 2) := by decide +kernel
theorem dX6_spell_46 : decode cX6_spell 46 = .ok (.ldc2_w 233, 3) := by decide +kernel
theorem dX6_spell_49 : decode cX6_spell 49 = .ok (.ldiv, 1) := by decide +kernel
theorem dX6_spell_50 : decode cX6_spell 50 = .ok (.lstore 4, 2) := by decide +kernel
theorem dX6_spell_52 : decode cX6_spell 52 = .ok (.iinc 6 (-1), 3) := by decide +kernel
theorem dX6_spell_55 : decode cX6_spell 55 = .ok (.goto (-30), 3) := by decide +kernel
theorem dX6_spell_58 : decode cX6_spell 58 = .ok (.lload 4, 2) := by decide +kernel
theorem dX6_spell_60 : decode cX6_spell 60 = .ok (.lconst 0, 1) := by decide +kernel
theorem dX6_spell_61 : decode cX6_spell 61 = .ok (.lcmp, 1) := by decide +kernel
theorem dX6_spell_62 : decode cX6_spell 62 = .ok (.ifCond .ne 7, 3) := by decide +kernel
theorem dX6_spell_65 : decode cX6_spell 65 = .ok (.iconst 1, 1) := by decide +kernel
theorem dX6_spell_66 : decode cX6_spell 66 = .ok (.goto 4, 3) := by decide +kernel
theorem dX6_spell_69 : decode cX6_spell 69 = .ok (.iconst 0, 1) := by decide +kernel
theorem dX6_spell_70 : decode cX6_spell 70 = .ok (.ireturn, 1) := by decide +kernel
theorem dX6_asFigures_0 : decode cX6_asFigures 0 = .ok (.iconst 0, 1) := by decide +kernel
theorem dX6_asFigures_1 : decode cX6_asFigures 1 = .ok (.istore_n 2, 1) := by decide +kernel
theorem dX6_asFigures_2 : decode cX6_asFigures 2 = .ok (.iconst 0, 1) := by decide +kernel
theorem dX6_asFigures_3 : decode cX6_asFigures 3 = .ok (.istore_n 3, 1) := by decide +kernel
theorem dX6_asFigures_4 : decode cX6_asFigures 4 = .ok (.iload_n 3, 1) := by decide +kernel
theorem dX6_asFigures_5 : decode cX6_asFigures 5 = .ok (.iload_n 1, 1) := by decide +kernel
theorem dX6_asFigures_6 : decode cX6_asFigures 6 = .ok (.if_icmp .ge 24, 3) := by decide +kernel
theorem dX6_asFigures_9 : decode cX6_asFigures 9 = .ok (.iload_n 3, 1) := by decide +kernel
theorem dX6_asFigures_10 : decode cX6_asFigures 10 = .ok (.aload_n 0, 1) := by decide +kernel
theorem dX6_asFigures_11 : decode cX6_asFigures 11 = .ok (.arraylength, 1) := by decide +kernel
theorem dX6_asFigures_12 : decode cX6_asFigures 12 = .ok (.if_icmp .ge 18, 3) := by decide +kernel
theorem dX6_asFigures_15 : decode cX6_asFigures 15 = .ok (.iload_n 2, 1) := by decide +kernel
theorem dX6_asFigures_16 : decode cX6_asFigures 16 = .ok (.bipush 10, 2) := by decide +kernel
theorem dX6_asFigures_18 : decode cX6_asFigures 18 = .ok (.imul, 1) := by decide +kernel
theorem dX6_asFigures_19 : decode cX6_asFigures 19 = .ok (.aload_n 0, 1) := by decide +kernel
theorem dX6_asFigures_20 : decode cX6_asFigures 20 = .ok (.iload_n 3, 1) := by decide +kernel
theorem dX6_asFigures_21 : decode cX6_asFigures 21 = .ok (.iaload, 1) := by decide +kernel
theorem dX6_asFigures_22 : decode cX6_asFigures 22 = .ok (.iadd, 1) := by decide +kernel
theorem dX6_asFigures_23 : decode cX6_asFigures 23 = .ok (.istore_n 2, 1) := by decide +kernel
theorem dX6_asFigures_24 : decode cX6_asFigures 24 = .ok (.iinc 3 1, 3) := by decide +kernel
theorem dX6_asFigures_27 : decode cX6_asFigures 27 = .ok (.goto (-23), 3) := by decide +kernel
theorem dX6_asFigures_30 : decode cX6_asFigures 30 = .ok (.iload_n 2, 1) := by decide +kernel
theorem dX6_asFigures_31 : decode cX6_asFigures 31 = .ok (.ireturn, 1) := by decide +kernel
theorem dX7_init_0 : decode cX7_init 0 = .ok (.aload_n 0, 1) := by decide +kernel
theorem dX7_init_1 : decode cX7_init 1 = .ok (.invokespecial 1, 3) := by decide +kernel
theorem dX7_init_4 : decode cX7_init 4 = .ok (.aload_n 0, 1) := by decide +kernel
theorem dX7_init_5 : decode cX7_init 5 = .ok (.bipush 60, 2) := by decide +kernel
theorem dX7_init_7 : decode cX7_init 7 = .ok (.newarray .int, 2) := by decide +kernel
theorem dX7_init_9 : decode cX7_init 9 = .ok (.putfield 7, 3) := by decide +kernel
theorem dX7_init_12 : decode cX7_init 12 = .ok (.aload_n 0, 1) := by decide +kernel
theorem dX7_init_13 : decode cX7_init 13 = .ok (.iconst 4, 1) := by decide +kernel
theorem dX7_init_14 : decode cX7_init 14 = .ok (.newarray .int, 2) := by decide +kernel
theorem dX7_init_16 : decode cX7_init 16 = .ok (.putfield 13, 3) := by decide +kernel
theorem dX7_init_19 : decode cX7_init 19 = .ok (.aload_n 0, 1) := by decide +kernel
theorem dX7_init_20 : decode cX7_init 20 = .ok (.iconst 4, 1) := by decide +kernel
theorem dX7_init_21 : decode cX7_init 21 = .ok (.newarray .int, 2) := by decide +kernel
theorem dX7_init_23 : decode cX7_init 23 = .ok (.putfield 16, 3) := by decide +kernel
theorem dX7_init_26 : decode cX7_init 26 = .ok (.aload_n 0, 1) := by decide +kernel
theorem dX7_init_27 : decode cX7_init 27 = .ok (.bipush 13, 2) := by decide +kernel
theorem dX7_init_29 : decode cX7_init 29 = .ok (.newarray .int, 2) := by decide +kernel
theorem dX7_init_31 : decode cX7_init 31 = .ok (.putfield 19, 3) := by decide +kernel
theorem dX7_init_34 : decode cX7_init 34 = .ok (.aload_n 0, 1) := by decide +kernel
theorem dX7_init_35 : decode cX7_init 35 = .ok (.bipush 13, 2) := by decide +kernel
theorem dX7_init_37 : decode cX7_init 37 = .ok (.newarray .int, 2) := by decide +kernel
theorem dX7_init_39 : decode cX7_init 39 = .ok (.putfield 22, 3) := by decide +kernel
theorem dX7_init_42 : decode cX7_init 42 = .ok (.aload_n 0, 1) := by decide +kernel
theorem dX7_init_43 : decode cX7_init 43 = .ok (.sipush 182, 3) := by decide +kernel
theorem dX7_init_46 : decode cX7_init 46 = .ok (.newarray .int, 2) := by decide +kernel
theorem dX7_init_48 : decode cX7_init 48 = .ok (.putfield 25, 3) := by decide +kernel
theorem dX7_init_51 : decode cX7_init 51 = .ok (.aload_n 0, 1) := by decide +kernel
theorem dX7_init_52 : decode cX7_init 52 = .ok (.bipush 26, 2) := by decide +kernel
theorem dX7_init_54 : decode cX7_init 54 = .ok (.newarray .int, 2) := by decide +kernel
theorem dX7_init_56 : decode cX7_init 56 = .ok (.putfield 28, 3) := by decide +kernel
theorem dX7_init_59 : decode cX7_init 59 = .ok (.aload_n 0, 1) := by decide +kernel
theorem dX7_init_60 : decode cX7_init 60 = .ok (.iconst 2, 1) := by decide +kernel
theorem dX7_init_61 : decode cX7_init 61 = .ok (.newarray .boolean, 2) := by decide +kernel
theorem dX7_init_63 : decode cX7_init 63 = .ok (.putfield 31, 3) := by decide +kernel
theorem dX7_init_66 : decode cX7_init 66 = .ok (.aload_n 0, 1) := by decide +kernel
theorem dX7_init_67 : decode cX7_init 67 = .ok (.iconst 4, 1) := by decide +kernel
theorem dX7_init_68 : decode cX7_init 68 = .ok (.newarray .int, 2) := by decide +kernel
theorem dX7_init_70 : decode cX7_init 70 = .ok (.putfield 35, 3) := by decide +kernel
theorem dX7_init_73 : decode cX7_init 73 = .ok (.aload_n 0, 1) := by decide +kernel
theorem dX7_init_74 : decode cX7_init 74 = .ok (.iconst 4, 1) := by decide +kernel
theorem dX7_init_75 : decode cX7_init 75 = .ok (.newarray .int, 2) := by decide +kernel
theorem dX7_init_77 : decode cX7_init 77 = .ok (.putfield 38, 3) := by decide +kernel
theorem dX7_init_80 : decode cX7_init 80 = .ok (.aload_n 0, 1) := by decide +kernel
theorem dX7_init_81 : decode cX7_init 81 = .ok (.bipush 13, 2) := by decide +kernel
theorem dX7_init_83 : decode cX7_init 83 = .ok (.newarray .int, 2) := by decide +kernel
theorem dX7_init_85 : decode cX7_init 85 = .ok (.putfield 41, 3) := by decide +kernel
theorem dX7_init_88 : decode cX7_init 88 = .ok (.aload_n 0, 1) := by decide +kernel
theorem dX7_init_89 : decode cX7_init 89 = .ok (.bipush 6, 2) := by decide +kernel
theorem dX7_init_91 : decode cX7_init 91 = .ok (.newarray .int, 2) := by decide +kernel
theorem dX7_init_93 : decode cX7_init 93 = .ok (.putfield 44, 3) := by decide +kernel
theorem dX7_init_96 : decode cX7_init 96 = .ok (.aload_n 0, 1) := by decide +kernel
theorem dX7_init_97 : decode cX7_init 97 = .ok (.bipush 6, 2) := by decide +kernel
theorem dX7_init_99 : decode cX7_init 99 = .ok (.newarray .int, 2) := by decide +kernel
theorem dX7_init_101 : decode cX7_init 101 = .ok (.putfield 47, 3) := by decide +kernel
theorem dX7_init_104 : decode cX7_init 104 = .ok (.aload_n 0, 1) := by decide +kernel
theorem dX7_init_105 : decode cX7_init 105 = .ok (.bipush 6, 2) := by decide +kernel
theorem dX7_init_107 : decode cX7_init 107 = .ok (.newarray .int, 2) := by decide +kernel
theorem dX7_init_109 : decode cX7_init 109 = .ok (.putfield 50, 3) := by decide +kernel
theorem dX7_init_112 : decode cX7_init 112 = .ok (.aload_n 0, 1) := by decide +kernel
theorem dX7_init_113 : decode cX7_init 113 = .ok (.iconst 4, 1) := by decide +kernel
theorem dX7_init_114 : decode cX7_init 114 = .ok (.newarray .int, 2) := by decide +kernel
theorem dX7_init_116 : decode cX7_init 116 = .ok (.putfield 53, 3) := by decide +kernel
theorem dX7_init_119 : decode cX7_init 119 = .ok (.aload_n 0, 1) := by decide +kernel
theorem dX7_init_120 : decode cX7_init 120 = .ok (.bipush 16, 2) := by decide +kernel
theorem dX7_init_122 : decode cX7_init 122 = .ok (.newarray .int, 2) := by decide +kernel
theorem dX7_init_124 : decode cX7_init 124 = .ok (.putfield 56, 3) := by decide +kernel
theorem dX7_init_127 : decode cX7_init 127 = .ok (.aload_n 0, 1) := by decide +kernel
theorem dX7_init_128 : decode cX7_init 128 = .ok (.getfield 19, 3) := by decide +kernel
theorem dX7_init_131 : decode cX7_init 131 = .ok (.bipush 12, 2) := by decide +kernel
theorem dX7_init_133 : decode cX7_init 133 = .ok (.iconst 1, 1) := by decide +kernel
theorem dX7_init_134 : decode cX7_init 134 = .ok (.iastore, 1) := by decide +kernel
theorem dX7_init_135 : decode cX7_init 135 = .ok (.return_, 1) := by decide +kernel
theorem dX7_in_0 : decode cX7_in 0 = .ok (.lload_n 0, 1) := by decide +kernel
theorem dX7_in_1 : decode cX7_in 1 = .ok (.lload_n 2, 1) := by decide +kernel
theorem dX7_in_2 : decode cX7_in 2 = .ok (.lcmp, 1) := by decide +kernel
theorem dX7_in_3 : decode cX7_in 3 = .ok (.ifCond .lt 14, 3) := by decide +kernel
theorem dX7_in_6 : decode cX7_in 6 = .ok (.lload_n 0, 1) := by decide +kernel
theorem dX7_in_7 : decode cX7_in 7 = .ok (.lload 4, 2) := by decide +kernel
theorem dX7_in_9 : decode cX7_in 9 = .ok (.lcmp, 1) := by decide +kernel
theorem dX7_in_10 : decode cX7_in 10 = .ok (.ifCond .gt 7, 3) := by decide +kernel
theorem dX7_in_13 : decode cX7_in 13 = .ok (.iconst 1, 1) := by decide +kernel
theorem dX7_in_14 : decode cX7_in 14 = .ok (.goto 4, 3) := by decide +kernel
theorem dX7_in_17 : decode cX7_in 17 = .ok (.iconst 0, 1) := by decide +kernel
theorem dX7_in_18 : decode cX7_in 18 = .ok (.ireturn, 1) := by decide +kernel
theorem dX7_has_0 : decode cX7_has 0 = .ok (.iload_n 0, 1) := by decide +kernel
theorem dX7_has_1 : decode cX7_has 1 = .ok (.iload_n 1, 1) := by decide +kernel
theorem dX7_has_2 : decode cX7_has 2 = .ok (.ishr, 1) := by decide +kernel
theorem dX7_has_3 : decode cX7_has 3 = .ok (.iconst 1, 1) := by decide +kernel
theorem dX7_has_4 : decode cX7_has 4 = .ok (.iand, 1) := by decide +kernel
theorem dX7_has_5 : decode cX7_has 5 = .ok (.iconst 1, 1) := by decide +kernel
theorem dX7_has_6 : decode cX7_has 6 = .ok (.if_icmp .ne 7, 3) := by decide +kernel
theorem dX7_has_9 : decode cX7_has 9 = .ok (.iconst 1, 1) := by decide +kernel
theorem dX7_has_10 : decode cX7_has 10 = .ok (.goto 4, 3) := by decide +kernel
theorem dX7_has_13 : decode cX7_has 13 = .ok (.iconst 0, 1) := by decide +kernel
theorem dX7_has_14 : decode cX7_has 14 = .ok (.ireturn, 1) := by decide +kernel
theorem dX7_power_0 : decode cX7_power 0 = .ok (.iconst 1, 1) := by decide +kernel
theorem dX7_power_1 : decode cX7_power 1 = .ok (.istore_n 2, 1) := by decide +kernel
theorem dX7_power_2 : decode cX7_power 2 = .ok (.iconst 0, 1) := by decide +kernel
theorem dX7_power_3 : decode cX7_power 3 = .ok (.istore_n 3, 1) := by decide +kernel
theorem dX7_power_4 : decode cX7_power 4 = .ok (.iload_n 3, 1) := by decide +kernel
theorem dX7_power_5 : decode cX7_power 5 = .ok (.iload_n 1, 1) := by decide +kernel
theorem dX7_power_6 : decode cX7_power 6 = .ok (.if_icmp .ge 13, 3) := by decide +kernel
theorem dX7_power_9 : decode cX7_power 9 = .ok (.iload_n 2, 1) := by decide +kernel
theorem dX7_power_10 : decode cX7_power 10 = .ok (.iload_n 0, 1) := by decide +kernel
theorem dX7_power_11 : decode cX7_power 11 = .ok (.imul, 1) := by decide +kernel
theorem dX7_power_12 : decode cX7_power 12 = .ok (.istore_n 2, 1) := by decide +kernel
theorem dX7_power_13 : decode cX7_power 13 = .ok (.iinc 3 1, 3) := by decide +kernel
theorem dX7_power_16 : decode cX7_power 16 = .ok (.goto (-12), 3) := by decide +kernel
theorem dX7_power_19 : decode cX7_power 19 = .ok (.iload_n 2, 1) := by decide +kernel
theorem dX7_power_20 : decode cX7_power 20 = .ok (.ireturn, 1) := by decide +kernel
theorem dX7_divisor_0 : decode cX7_divisor 0 = .ok (.iload_n 0, 1) := by decide +kernel
theorem dX7_divisor_1 : decode cX7_divisor 1 = .ok (.ifCond .ge 8, 3) := by decide +kernel
theorem dX7_divisor_4 : decode cX7_divisor 4 = .ok (.iload_n 0, 1) := by decide +kernel
theorem dX7_divisor_5 : decode cX7_divisor 5 = .ok (.ineg, 1) := by decide +kernel
theorem dX7_divisor_6 : decode cX7_divisor 6 = .ok (.goto 4, 3) := by decide +kernel
theorem dX7_divisor_9 : decode cX7_divisor 9 = .ok (.iload_n 0, 1) := by decide +kernel
theorem dX7_divisor_10 : decode cX7_divisor 10 = .ok (.istore_n 2, 1) := by decide +kernel
theorem dX7_divisor_11 : decode cX7_divisor 11 = .ok (.iload_n 1, 1) := by decide +kernel
theorem dX7_divisor_12 : decode cX7_divisor 12 = .ok (.istore_n 3, 1) := by decide +kernel
theorem dX7_divisor_13 : decode cX7_divisor 13 = .ok (.iload_n 3, 1) := by decide +kernel
theorem dX7_divisor_14 : decode cX7_divisor 14 = .ok (.ifCond .eq 16, 3) := by decide +kernel
theorem dX7_divisor_17 : decode cX7_divisor 17 = .ok (.iload_n 2, 1) := by decide +kernel
theorem dX7_divisor_18 : decode cX7_divisor 18 = .ok (.iload_n 3, 1) := by decide +kernel
theorem dX7_divisor_19 : decode cX7_divisor 19 = .ok (.irem, 1) := by decide +kernel
theorem dX7_divisor_20 : decode cX7_divisor 20 = .ok (.istore 4, 2) := by decide +kernel
theorem dX7_divisor_22 : decode cX7_divisor 22 = .ok (.iload_n 3, 1) := by decide +kernel
theorem dX7_divisor_23 : decode cX7_divisor 23 = .ok (.istore_n 2, 1) := by decide +kernel
theorem dX7_divisor_24 : decode cX7_divisor 24 = .ok (.iload 4, 2) := by decide +kernel
theorem dX7_divisor_26 : decode cX7_divisor 26 = .ok (.istore_n 3, 1) := by decide +kernel
theorem dX7_divisor_27 : decode cX7_divisor 27 = .ok (.goto (-14), 3) := by decide +kernel
theorem dX7_divisor_30 : decode cX7_divisor 30 = .ok (.iload_n 2, 1) := by decide +kernel
theorem dX7_divisor_31 : decode cX7_divisor 31 = .ok (.ireturn, 1) := by decide +kernel
theorem dX7_fraction_0 : decode cX7_fraction 0 = .ok (.iload_n 0, 1) := by decide +kernel
theorem dX7_fraction_1 : decode cX7_fraction 1 = .ok (.iload_n 1, 1) := by decide +kernel
theorem dX7_fraction_2 : decode cX7_fraction 2 = .ok (.invokestatic 59, 3) := by decide +kernel
theorem dX7_fraction_5 : decode cX7_fraction 5 = .ok (.istore_n 3, 1) := by decide +kernel
theorem dX7_fraction_6 : decode cX7_fraction 6 = .ok (.iload_n 2, 1) := by decide +kernel
theorem dX7_fraction_7 : decode cX7_fraction 7 = .ok (.ifCond .eq 9, 3) := by decide +kernel
theorem dX7_fraction_10 : decode cX7_fraction 10 = .ok (.iload_n 0, 1) := by decide +kernel
theorem dX7_fraction_11 : decode cX7_fraction 11 = .ok (.iload_n 3, 1) := by decide +kernel
theorem dX7_fraction_12 : decode cX7_fraction 12 = .ok (.idiv, 1) := by decide +kernel
theorem dX7_fraction_13 : decode cX7_fraction 13 = .ok (.goto 6, 3) := by decide +kernel
theorem dX7_fraction_16 : decode cX7_fraction 16 = .ok (.iload_n 1, 1) := by decide +kernel
theorem dX7_fraction_17 : decode cX7_fraction 17 = .ok (.iload_n 3, 1) := by decide +kernel
theorem dX7_fraction_18 : decode cX7_fraction 18 = .ok (.idiv, 1) := by decide +kernel
theorem dX7_fraction_19 : decode cX7_fraction 19 = .ok (.ireturn, 1) := by decide +kernel
theorem dX7_isField_0 : decode cX7_isField 0 = .ok (.iload_n 1, 1) := by decide +kernel
theorem dX7_isField_1 : decode cX7_isField 1 = .ok (.i2l, 1) := by decide +kernel
theorem dX7_isField_2 : decode cX7_isField 2 = .ok (.lconst 0, 1) := by decide +kernel
theorem dX7_isField_3 : decode cX7_isField 3 = .ok (.aload_n 0, 1) := by decide +kernel
theorem dX7_isField_4 : decode cX7_isField 4 = .ok (.getfield 63, 3) := by decide +kernel
theorem dX7_isField_7 : decode cX7_isField 7 = .ok (.iconst 1, 1) := by decide +kernel
theorem dX7_isField_8 : decode cX7_isField 8 = .ok (.isub, 1) := by decide +kernel
theorem dX7_isField_9 : decode cX7_isField 9 = .ok (.i2l, 1) := by decide +kernel
theorem dX7_isField_10 : decode cX7_isField 10 = .ok (.invokestatic 67, 3) := by decide +kernel
theorem dX7_isField_13 : decode cX7_isField 13 = .ok (.ireturn, 1) := by decide +kernel
theorem dX7_isMaker_0 : decode cX7_isMaker 0 = .ok (.iload_n 1, 1) := by decide +kernel
theorem dX7_isMaker_1 : decode cX7_isMaker 1 = .ok (.i2l, 1) := by decide +kernel
theorem dX7_isMaker_2 : decode cX7_isMaker 2 = .ok (.lconst 0, 1) := by decide +kernel
theorem dX7_isMaker_3 : decode cX7_isMaker 3 = .ok (.aload_n 0, 1) := by decide +kernel
theorem dX7_isMaker_4 : decode cX7_isMaker 4 = .ok (.getfield 71, 3) := by decide +kernel
theorem dX7_isMaker_7 : decode cX7_isMaker 7 = .ok (.iconst 1, 1) := by decide +kernel
theorem dX7_isMaker_8 : decode cX7_isMaker 8 = .ok (.isub, 1) := by decide +kernel
theorem dX7_isMaker_9 : decode cX7_isMaker 9 = .ok (.i2l, 1) := by decide +kernel
theorem dX7_isMaker_10 : decode cX7_isMaker 10 = .ok (.invokestatic 67, 3) := by decide +kernel
theorem dX7_isMaker_13 : decode cX7_isMaker 13 = .ok (.ireturn, 1) := by decide +kernel
theorem dX7_allMakers_0 : decode cX7_allMakers 0 = .ok (.iconst 1, 1) := by decide +kernel
theorem dX7_allMakers_1 : decode cX7_allMakers 1 = .ok (.aload_n 0, 1) := by decide +kernel
theorem dX7_allMakers_2 : decode cX7_allMakers 2 = .ok (.getfield 71, 3) := by decide +kernel
theorem dX7_allMakers_5 : decode cX7_allMakers 5 = .ok (.ishl, 1) := by decide +kernel
theorem dX7_allMakers_6 : decode cX7_allMakers 6 = .ok (.iconst 1, 1) := by decide +kernel
theorem dX7_allMakers_7 : decode cX7_allMakers 7 = .ok (.isub, 1) := by decide +kernel
theorem dX7_allMakers_8 : decode cX7_allMakers 8 = .ok (.ireturn, 1) := by decide +kernel
theorem dX7_write_0 : decode cX7_write 0 = .ok (.iload_n 1, 1) := by decide +kernel
theorem dX7_write_1 : decode cX7_write 1 = .ok (.i2l, 1) := by decide +kernel
theorem dX7_write_2 : decode cX7_write 2 = .ok (.lconst 0, 1) := by decide +kernel
theorem dX7_write_3 : decode cX7_write 3 = .ok (.ldc2_w 74, 3) := by decide +kernel
theorem dX7_write_6 : decode cX7_write 6 = .ok (.invokestatic 67, 3) := by decide +kernel
theorem dX7_write_9 : decode cX7_write 9 = .ok (.ifCond .ne 6, 3) := by decide +kernel
theorem dX7_write_12 : decode cX7_write 12 = .ok (.bipush (-2), 2) := by decide +kernel
theorem dX7_write_14 : decode cX7_write 14 = .ok (.ireturn, 1) := by decide +kernel
theorem dX7_write_15 : decode cX7_write 15 = .ok (.aload_n 0, 1) := by decide +kernel
theorem dX7_write_16 : decode cX7_write 16 = .ok (.getfield 76, 3) := by decide +kernel
theorem dX7_write_19 : decode cX7_write 19 = .ok (.bipush 60, 2) := by decide +kernel
theorem dX7_write_21 : decode cX7_write 21 = .ok (.if_icmp .ne 6, 3) := by decide +kernel
theorem dX7_write_24 : decode cX7_write 24 = .ok (.bipush (-4), 2) := by decide +kernel
theorem dX7_write_26 : decode cX7_write 26 = .ok (.ireturn, 1) := by decide +kernel
theorem dX7_write_27 : decode cX7_write 27 = .ok (.aload_n 0, 1) := by decide +kernel
theorem dX7_write_28 : decode cX7_write 28 = .ok (.getfield 7, 3) := by decide +kernel
theorem dX7_write_31 : decode cX7_write 31 = .ok (.aload_n 0, 1) := by decide +kernel
theorem dX7_write_32 : decode cX7_write 32 = .ok (.getfield 76, 3) := by decide +kernel
theorem dX7_write_35 : decode cX7_write 35 = .ok (.iload_n 1, 1) := by decide +kernel
theorem dX7_write_36 : decode cX7_write 36 = .ok (.iastore, 1) := by decide +kernel
theorem dX7_write_37 : decode cX7_write 37 = .ok (.aload_n 0, 1) := by decide +kernel
theorem dX7_write_38 : decode cX7_write 38 = .ok (.dup, 1) := by decide +kernel
theorem dX7_write_39 : decode cX7_write 39 = .ok (.getfield 76, 3) := by decide +kernel
theorem dX7_write_42 : decode cX7_write 42 = .ok (.iconst 1, 1) := by decide +kernel
theorem dX7_write_43 : decode cX7_write 43 = .ok (.iadd, 1) := by decide +kernel
theorem dX7_write_44 : decode cX7_write 44 = .ok (.putfield 76, 3) := by decide +kernel
theorem dX7_write_47 : decode cX7_write 47 = .ok (.aload_n 0, 1) := by decide +kernel
theorem dX7_write_48 : decode cX7_write 48 = .ok (.getfield 76, 3) := by decide +kernel
theorem dX7_write_51 : decode cX7_write 51 = .ok (.ireturn, 1) := by decide +kernel
theorem dX7_wipe_0 : decode cX7_wipe 0 = .ok (.aload_n 0, 1) := by decide +kernel
theorem dX7_wipe_1 : decode cX7_wipe 1 = .ok (.getfield 76, 3) := by decide +kernel
theorem dX7_wipe_4 : decode cX7_wipe 4 = .ok (.istore_n 1, 1) := by decide +kernel
theorem dX7_wipe_5 : decode cX7_wipe 5 = .ok (.aload_n 0, 1) := by decide +kernel
theorem dX7_wipe_6 : decode cX7_wipe 6 = .ok (.iconst 0, 1) := by decide +kernel
theorem dX7_wipe_7 : decode cX7_wipe 7 = .ok (.putfield 76, 3) := by decide +kernel
theorem dX7_wipe_10 : decode cX7_wipe 10 = .ok (.iload_n 1, 1) := by decide +kernel
theorem dX7_wipe_11 : decode cX7_wipe 11 = .ok (.ireturn, 1) := by decide +kernel
theorem dX7_weatherOf_0 : decode cX7_weatherOf 0 = .ok (.iload_n 0, 1) := by decide +kernel
theorem dX7_weatherOf_1 : decode cX7_weatherOf 1 = .ok (.bipush 114, 2) := by decide +kernel
theorem dX7_weatherOf_3 : decode cX7_weatherOf 3 = .ok (.if_icmp .ne 7, 3) := by decide +kernel
theorem dX7_weatherOf_6 : decode cX7_weatherOf 6 = .ok (.iconst 0, 1) := by decide +kernel
theorem dX7_weatherOf_7 : decode cX7_weatherOf 7 = .ok (.goto 25, 3) := by decide +kernel
theorem dX7_weatherOf_10 : decode cX7_weatherOf 10 = .ok (.iload_n 0, 1) := by decide +kernel
theorem dX7_weatherOf_11 : decode cX7_weatherOf 11 = .ok (.bipush 119, 2) := by decide +kernel
theorem dX7_weatherOf_13 : decode cX7_weatherOf 13 = .ok (.if_icmp .ne 7, 3) := by decide +kernel
theorem dX7_weatherOf_16 : decode cX7_weatherOf 16 = .ok (.iconst 1, 1) := by decide +kernel
theorem dX7_weatherOf_17 : decode cX7_weatherOf 17 = .ok (.goto 15, 3) := by decide +kernel
theorem dX7_weatherOf_20 : decode cX7_weatherOf 20 = .ok (.iload_n 0, 1) := by decide +kernel
theorem dX7_weatherOf_21 : decode cX7_weatherOf 21 = .ok (.bipush 115, 2) := by decide +kernel
theorem dX7_weatherOf_23 : decode cX7_weatherOf 23 = .ok (.if_icmp .ne 7, 3) := by decide +kernel
theorem dX7_weatherOf_26 : decode cX7_weatherOf 26 = .ok (.iconst 2, 1) := by decide +kernel
theorem dX7_weatherOf_27 : decode cX7_weatherOf 27 = .ok (.goto 5, 3) := by decide +kernel
theorem dX7_weatherOf_30 : decode cX7_weatherOf 30 = .ok (.bipush (-9), 2) := by decide +kernel
theorem dX7_weatherOf_32 : decode cX7_weatherOf 32 = .ok (.ireturn, 1) := by decide +kernel
theorem dX7_take_0 : decode cX7_take 0 = .ok (.iload_n 1, 1) := by decide +kernel
theorem dX7_take_1 : decode cX7_take 1 = .ok (.invokestatic 79, 3) := by decide +kernel
theorem dX7_take_4 : decode cX7_take 4 = .ok (.istore_n 2, 1) := by decide +kernel
theorem dX7_take_5 : decode cX7_take 5 = .ok (.iload_n 1, 1) := by decide +kernel
theorem dX7_take_6 : decode cX7_take 6 = .ok (.i2l, 1) := by decide +kernel
theorem dX7_take_7 : decode cX7_take 7 = .ok (.ldc2_w 83, 3) := by decide +kernel
theorem dX7_take_10 : decode cX7_take 10 = .ok (.ldc2_w 85, 3) := by decide +kernel
theorem dX7_take_13 : decode cX7_take 13 = .ok (.invokestatic 67, 3) := by decide +kernel
theorem dX7_take_16 : decode cX7_take 16 = .ok (.ifCond .eq 10, 3) := by decide +kernel
theorem dX7_take_19 : decode cX7_take 19 = .ok (.iload_n 1, 1) := by decide +kernel
theorem dX7_take_20 : decode cX7_take 20 = .ok (.bipush 48, 2) := by decide +kernel
theorem dX7_take_22 : decode cX7_take 22 = .ok (.isub, 1) := by decide +kernel
theorem dX7_take_23 : decode cX7_take 23 = .ok (.goto 5, 3) := by decide +kernel
theorem dX7_take_26 : decode cX7_take 26 = .ok (.bipush (-9), 2) := by decide +kernel
theorem dX7_take_28 : decode cX7_take 28 = .ok (.istore_n 3, 1) := by decide +kernel
theorem dX7_take_29 : decode cX7_take 29 = .ok (.aload_n 0, 1) := by decide +kernel
theorem dX7_take_30 : decode cX7_take 30 = .ok (.getfield 87, 3) := by decide +kernel
theorem dX7_take_33 : decode cX7_take 33 = .ok (.tableswitch 145 0 4 #[35, 41, 70, 97, 138], 35) := by decide +kernel
theorem dX7_take_68 : decode cX7_take 68 = .ok (.aload_n 0, 1) := by decide +kernel
theorem dX7_take_69 : decode cX7_take 69 = .ok (.iload_n 1, 1) := by decide +kernel
theorem dX7_take_70 : decode cX7_take 70 = .ok (.invokevirtual 90, 3) := by decide +kernel
theorem dX7_take_73 : decode cX7_take 73 = .ok (.ireturn, 1) := by decide +kernel
theorem dX7_take_74 : decode cX7_take 74 = .ok (.aload_n 0, 1) := by decide +kernel
theorem dX7_take_75 : decode cX7_take 75 = .ok (.getfield 35, 3) := by decide +kernel
theorem dX7_take_78 : decode cX7_take 78 = .ok (.aload_n 0, 1) := by decide +kernel
theorem dX7_take_79 : decode cX7_take 79 = .ok (.getfield 94, 3) := by decide +kernel
theorem dX7_take_82 : decode cX7_take 82 = .ok (.iconst 1, 1) := by decide +kernel
theorem dX7_take_83 : decode cX7_take 83 = .ok (.isub, 1) := by decide +kernel
theorem dX7_take_84 : decode cX7_take 84 = .ok (.iload_n 2, 1) := by decide +kernel
theorem dX7_take_85 : decode cX7_take 85 = .ok (.iastore, 1) := by decide +kernel
theorem dX7_take_86 : decode cX7_take 86 = .ok (.aload_n 0, 1) := by decide +kernel
theorem dX7_take_87 : decode cX7_take 87 = .ok (.iconst 2, 1) := by decide +kernel
theorem dX7_take_88 : decode cX7_take 88 = .ok (.putfield 87, 3) := by decide +kernel
theorem dX7_take_91 : decode cX7_take 91 = .ok (.iload_n 2, 1) := by decide +kernel
theorem dX7_take_92 : decode cX7_take 92 = .ok (.bipush (-9), 2) := by decide +kernel
theorem dX7_take_94 : decode cX7_take 94 = .ok (.if_icmp .eq 7, 3) := by decide +kernel
theorem dX7_take_97 : decode cX7_take 97 = .ok (.iconst 1, 1) := by decide +kernel
theorem dX7_take_98 : decode cX7_take 98 = .ok (.goto 4, 3) := by decide +kernel
theorem dX7_take_101 : decode cX7_take 101 = .ok (.iconst 0, 1) := by decide +kernel
theorem dX7_take_102 : decode cX7_take 102 = .ok (.ireturn, 1) := by decide +kernel
theorem dX7_take_103 : decode cX7_take 103 = .ok (.aload_n 0, 1) := by decide +kernel
theorem dX7_take_104 : decode cX7_take 104 = .ok (.getfield 41, 3) := by decide +kernel
theorem dX7_take_107 : decode cX7_take 107 = .ok (.aload_n 0, 1) := by decide +kernel
theorem dX7_take_108 : decode cX7_take 108 = .ok (.getfield 94, 3) := by decide +kernel
theorem dX7_take_111 : decode cX7_take 111 = .ok (.iconst 1, 1) := by decide +kernel
theorem dX7_take_112 : decode cX7_take 112 = .ok (.isub, 1) := by decide +kernel
theorem dX7_take_113 : decode cX7_take 113 = .ok (.iload_n 3, 1) := by decide +kernel
theorem dX7_take_114 : decode cX7_take 114 = .ok (.iastore, 1) := by decide +kernel
theorem dX7_take_115 : decode cX7_take 115 = .ok (.aload_n 0, 1) := by decide +kernel
theorem dX7_take_116 : decode cX7_take 116 = .ok (.iconst 0, 1) := by decide +kernel
theorem dX7_take_117 : decode cX7_take 117 = .ok (.putfield 87, 3) := by decide +kernel
theorem dX7_take_120 : decode cX7_take 120 = .ok (.iload_n 3, 1) := by decide +kernel
theorem dX7_take_121 : decode cX7_take 121 = .ok (.i2l, 1) := by decide +kernel
theorem dX7_take_122 : decode cX7_take 122 = .ok (.lconst 1, 1) := by decide +kernel
theorem dX7_take_123 : decode cX7_take 123 = .ok (.ldc2_w 97, 3) := by decide +kernel
theorem dX7_take_126 : decode cX7_take 126 = .ok (.invokestatic 67, 3) := by decide +kernel
theorem dX7_take_129 : decode cX7_take 129 = .ok (.ireturn, 1) := by decide +kernel
theorem dX7_take_130 : decode cX7_take 130 = .ok (.aload_n 0, 1) := by decide +kernel
theorem dX7_take_131 : decode cX7_take 131 = .ok (.getfield 38, 3) := by decide +kernel
theorem dX7_take_134 : decode cX7_take 134 = .ok (.aload_n 0, 1) := by decide +kernel
theorem dX7_take_135 : decode cX7_take 135 = .ok (.getfield 99, 3) := by decide +kernel
theorem dX7_take_138 : decode cX7_take 138 = .ok (.iconst 1, 1) := by decide +kernel
theorem dX7_take_139 : decode cX7_take 139 = .ok (.isub, 1) := by decide +kernel
theorem dX7_take_140 : decode cX7_take 140 = .ok (.iload_n 2, 1) := by decide +kernel
theorem dX7_take_141 : decode cX7_take 141 = .ok (.bipush (-9), 2) := by decide +kernel
theorem dX7_take_143 : decode cX7_take 143 = .ok (.if_icmp .ne 7, 3) := by decide +kernel
theorem dX7_take_146 : decode cX7_take 146 = .ok (.iconst 0, 1) := by decide +kernel
theorem dX7_take_147 : decode cX7_take 147 = .ok (.goto 6, 3) := by decide +kernel
theorem dX7_take_150 : decode cX7_take 150 = .ok (.iconst 1, 1) := by decide +kernel
theorem dX7_take_151 : decode cX7_take 151 = .ok (.iload_n 2, 1) := by decide +kernel
theorem dX7_take_152 : decode cX7_take 152 = .ok (.ishl, 1) := by decide +kernel
theorem dX7_take_153 : decode cX7_take 153 = .ok (.iastore, 1) := by decide +kernel
theorem dX7_take_154 : decode cX7_take 154 = .ok (.aload_n 0, 1) := by decide +kernel
theorem dX7_take_155 : decode cX7_take 155 = .ok (.iconst 4, 1) := by decide +kernel
theorem dX7_take_156 : decode cX7_take 156 = .ok (.putfield 87, 3) := by decide +kernel
theorem dX7_take_159 : decode cX7_take 159 = .ok (.iload_n 2, 1) := by decide +kernel
theorem dX7_take_160 : decode cX7_take 160 = .ok (.bipush (-9), 2) := by decide +kernel
theorem dX7_take_162 : decode cX7_take 162 = .ok (.if_icmp .eq 7, 3) := by decide +kernel
theorem dX7_take_165 : decode cX7_take 165 = .ok (.iconst 1, 1) := by decide +kernel
theorem dX7_take_166 : decode cX7_take 166 = .ok (.goto 4, 3) := by decide +kernel
theorem dX7_take_169 : decode cX7_take 169 = .ok (.iconst 0, 1) := by decide +kernel
theorem dX7_take_170 : decode cX7_take 170 = .ok (.ireturn, 1) := by decide +kernel
theorem dX7_take_171 : decode cX7_take 171 = .ok (.aload_n 0, 1) := by decide +kernel
theorem dX7_take_172 : decode cX7_take 172 = .ok (.iload_n 2, 1) := by decide +kernel
theorem dX7_take_173 : decode cX7_take 173 = .ok (.iload_n 3, 1) := by decide +kernel
theorem dX7_take_174 : decode cX7_take 174 = .ok (.invokevirtual 102, 3) := by decide +kernel
theorem dX7_take_177 : decode cX7_take 177 = .ok (.ireturn, 1) := by decide +kernel
theorem dX7_take_178 : decode cX7_take 178 = .ok (.aload_n 0, 1) := by decide +kernel
theorem dX7_take_179 : decode cX7_take 179 = .ok (.getfield 41, 3) := by decide +kernel
theorem dX7_take_182 : decode cX7_take 182 = .ok (.bipush 8, 2) := by decide +kernel
theorem dX7_take_184 : decode cX7_take 184 = .ok (.aload_n 0, 1) := by decide +kernel
theorem dX7_take_185 : decode cX7_take 185 = .ok (.getfield 99, 3) := by decide +kernel
theorem dX7_take_188 : decode cX7_take 188 = .ok (.iadd, 1) := by decide +kernel
theorem dX7_take_189 : decode cX7_take 189 = .ok (.iconst 1, 1) := by decide +kernel
theorem dX7_take_190 : decode cX7_take 190 = .ok (.isub, 1) := by decide +kernel
theorem dX7_take_191 : decode cX7_take 191 = .ok (.iload_n 3, 1) := by decide +kernel
theorem dX7_take_192 : decode cX7_take 192 = .ok (.iastore, 1) := by decide +kernel
theorem dX7_take_193 : decode cX7_take 193 = .ok (.aload_n 0, 1) := by decide +kernel
theorem dX7_take_194 : decode cX7_take 194 = .ok (.iconst 0, 1) := by decide +kernel
theorem dX7_take_195 : decode cX7_take 195 = .ok (.putfield 87, 3) := by decide +kernel
theorem dX7_take_198 : decode cX7_take 198 = .ok (.iload_n 3, 1) := by decide +kernel
theorem dX7_take_199 : decode cX7_take 199 = .ok (.bipush (-9), 2) := by decide +kernel
theorem dX7_take_201 : decode cX7_take 201 = .ok (.if_icmp .eq 7, 3) := by decide +kernel
theorem dX7_take_204 : decode cX7_take 204 = .ok (.iconst 1, 1) := by decide +kernel
theorem dX7_take_205 : decode cX7_take 205 = .ok (.goto 4, 3) := by decide +kernel
theorem dX7_take_208 : decode cX7_take 208 = .ok (.iconst 0, 1) := by decide +kernel
theorem dX7_take_209 : decode cX7_take 209 = .ok (.ireturn, 1) := by decide +kernel
theorem dX7_takePart_0 : decode cX7_takePart 0 = .ok (.iload_n 1, 1) := by decide +kernel
theorem dX7_takePart_1 : decode cX7_takePart 1 = .ok (.bipush 70, 2) := by decide +kernel
theorem dX7_takePart_3 : decode cX7_takePart 3 = .ok (.if_icmp .ne 28, 3) := by decide +kernel
theorem dX7_takePart_6 : decode cX7_takePart 6 = .ok (.aload_n 0, 1) := by decide +kernel
theorem dX7_takePart_7 : decode cX7_takePart 7 = .ok (.getfield 94, 3) := by decide +kernel
theorem dX7_takePart_10 : decode cX7_takePart 10 = .ok (.iconst 4, 1) := by decide +kernel
theorem dX7_takePart_11 : decode cX7_takePart 11 = .ok (.if_icmp .ge 20, 3) := by decide +kernel
theorem dX7_takePart_14 : decode cX7_takePart 14 = .ok (.aload_n 0, 1) := by decide +kernel
theorem dX7_takePart_15 : decode cX7_takePart 15 = .ok (.dup, 1) := by decide +kernel
theorem dX7_takePart_16 : decode cX7_takePart 16 = .ok (.getfield 94, 3) := by decide +kernel
theorem dX7_takePart_19 : decode cX7_takePart 19 = .ok (.iconst 1, 1) := by decide +kernel
theorem dX7_takePart_20 : decode cX7_takePart 20 = .ok (.iadd, 1) := by decide +kernel
theorem dX7_takePart_21 : decode cX7_takePart 21 = .ok (.putfield 94, 3) := by decide +kernel
theorem dX7_takePart_24 : decode cX7_takePart 24 = .ok (.aload_n 0, 1) := by decide +kernel
theorem dX7_takePart_25 : decode cX7_takePart 25 = .ok (.iconst 1, 1) := by decide +kernel
theorem dX7_takePart_26 : decode cX7_takePart 26 = .ok (.putfield 87, 3) := by decide +kernel
theorem dX7_takePart_29 : decode cX7_takePart 29 = .ok (.iconst 1, 1) := by decide +kernel
theorem dX7_takePart_30 : decode cX7_takePart 30 = .ok (.ireturn, 1) := by decide +kernel
theorem dX7_takePart_31 : decode cX7_takePart 31 = .ok (.iload_n 1, 1) := by decide +kernel
theorem dX7_takePart_32 : decode cX7_takePart 32 = .ok (.bipush 77, 2) := by decide +kernel
theorem dX7_takePart_34 : decode cX7_takePart 34 = .ok (.if_icmp .ne 28, 3) := by decide +kernel
theorem dX7_takePart_37 : decode cX7_takePart 37 = .ok (.aload_n 0, 1) := by decide +kernel
theorem dX7_takePart_38 : decode cX7_takePart 38 = .ok (.getfield 99, 3) := by decide +kernel
theorem dX7_takePart_41 : decode cX7_takePart 41 = .ok (.iconst 4, 1) := by decide +kernel
theorem dX7_takePart_42 : decode cX7_takePart 42 = .ok (.if_icmp .ge 20, 3) := by decide +kernel
theorem dX7_takePart_45 : decode cX7_takePart 45 = .ok (.aload_n 0, 1) := by decide +kernel
theorem dX7_takePart_46 : decode cX7_takePart 46 = .ok (.dup, 1) := by decide +kernel
theorem dX7_takePart_47 : decode cX7_takePart 47 = .ok (.getfield 99, 3) := by decide +kernel
theorem dX7_takePart_50 : decode cX7_takePart 50 = .ok (.iconst 1, 1) := by decide +kernel
theorem dX7_takePart_51 : decode cX7_takePart 51 = .ok (.iadd, 1) := by decide +kernel
theorem dX7_takePart_52 : decode cX7_takePart 52 = .ok (.putfield 99, 3) := by decide +kernel
theorem dX7_takePart_55 : decode cX7_takePart 55 = .ok (.aload_n 0, 1) := by decide +kernel
theorem dX7_takePart_56 : decode cX7_takePart 56 = .ok (.iconst 3, 1) := by decide +kernel
theorem dX7_takePart_57 : decode cX7_takePart 57 = .ok (.putfield 87, 3) := by decide +kernel
theorem dX7_takePart_60 : decode cX7_takePart 60 = .ok (.iconst 1, 1) := by decide +kernel
theorem dX7_takePart_61 : decode cX7_takePart 61 = .ok (.ireturn, 1) := by decide +kernel
theorem dX7_takePart_62 : decode cX7_takePart 62 = .ok (.iconst 0, 1) := by decide +kernel
theorem dX7_takePart_63 : decode cX7_takePart 63 = .ok (.ireturn, 1) := by decide +kernel
theorem dX7_takeMore_0 : decode cX7_takeMore 0 = .ok (.iload_n 2, 1) := by decide +kernel
theorem dX7_takeMore_1 : decode cX7_takeMore 1 = .ok (.bipush (-9), 2) := by decide +kernel
theorem dX7_takeMore_3 : decode cX7_takeMore 3 = .ok (.if_icmp .eq 24, 3) := by decide +kernel
theorem dX7_takeMore_6 : decode cX7_takeMore 6 = .ok (.aload_n 0, 1) := by decide +kernel
theorem dX7_takeMore_7 : decode cX7_takeMore 7 = .ok (.getfield 41, 3) := by decide +kernel
theorem dX7_takeMore_10 : decode cX7_takeMore 10 = .ok (.iconst 4, 1) := by decide +kernel
theorem dX7_takeMore_11 : decode cX7_takeMore 11 = .ok (.aload_n 0, 1) := by decide +kernel
theorem dX7_takeMore_12 : decode cX7_takeMore 12 = .ok (.getfield 99, 3) := by decide +kernel
theorem dX7_takeMore_15 : decode cX7_takeMore 15 = .ok (.iadd, 1) := by decide +kernel
theorem dX7_takeMore_16 : decode cX7_takeMore 16 = .ok (.iconst 1, 1) := by decide +kernel
theorem dX7_takeMore_17 : decode cX7_takeMore 17 = .ok (.isub, 1) := by decide +kernel
theorem dX7_takeMore_18 : decode cX7_takeMore 18 = .ok (.iload_n 2, 1) := by decide +kernel
theorem dX7_takeMore_19 : decode cX7_takeMore 19 = .ok (.iastore, 1) := by decide +kernel
theorem dX7_takeMore_20 : decode cX7_takeMore 20 = .ok (.aload_n 0, 1) := by decide +kernel
theorem dX7_takeMore_21 : decode cX7_takeMore 21 = .ok (.iconst 5, 1) := by decide +kernel
theorem dX7_takeMore_22 : decode cX7_takeMore 22 = .ok (.putfield 87, 3) := by decide +kernel
theorem dX7_takeMore_25 : decode cX7_takeMore 25 = .ok (.iconst 1, 1) := by decide +kernel
theorem dX7_takeMore_26 : decode cX7_takeMore 26 = .ok (.ireturn, 1) := by decide +kernel
theorem dX7_takeMore_27 : decode cX7_takeMore 27 = .ok (.iload_n 1, 1) := by decide +kernel
theorem dX7_takeMore_28 : decode cX7_takeMore 28 = .ok (.bipush (-9), 2) := by decide +kernel
theorem dX7_takeMore_30 : decode cX7_takeMore 30 = .ok (.if_icmp .eq 24, 3) := by decide +kernel
theorem dX7_takeMore_33 : decode cX7_takeMore 33 = .ok (.aload_n 0, 1) := by decide +kernel
theorem dX7_takeMore_34 : decode cX7_takeMore 34 = .ok (.getfield 38, 3) := by decide +kernel
theorem dX7_takeMore_37 : decode cX7_takeMore 37 = .ok (.aload_n 0, 1) := by decide +kernel
theorem dX7_takeMore_38 : decode cX7_takeMore 38 = .ok (.getfield 99, 3) := by decide +kernel
theorem dX7_takeMore_41 : decode cX7_takeMore 41 = .ok (.iconst 1, 1) := by decide +kernel
theorem dX7_takeMore_42 : decode cX7_takeMore 42 = .ok (.isub, 1) := by decide +kernel
theorem dX7_takeMore_43 : decode cX7_takeMore 43 = .ok (.iaload, 1) := by decide +kernel
theorem dX7_takeMore_44 : decode cX7_takeMore 44 = .ok (.iconst 1, 1) := by decide +kernel
theorem dX7_takeMore_45 : decode cX7_takeMore 45 = .ok (.iload_n 1, 1) := by decide +kernel
theorem dX7_takeMore_46 : decode cX7_takeMore 46 = .ok (.ishl, 1) := by decide +kernel
theorem dX7_takeMore_47 : decode cX7_takeMore 47 = .ok (.if_icmp .ge 7, 3) := by decide +kernel
theorem dX7_takeMore_50 : decode cX7_takeMore 50 = .ok (.iconst 1, 1) := by decide +kernel
theorem dX7_takeMore_51 : decode cX7_takeMore 51 = .ok (.goto 4, 3) := by decide +kernel
theorem dX7_takeMore_54 : decode cX7_takeMore 54 = .ok (.iconst 0, 1) := by decide +kernel
theorem dX7_takeMore_55 : decode cX7_takeMore 55 = .ok (.istore_n 3, 1) := by decide +kernel
theorem dX7_takeMore_56 : decode cX7_takeMore 56 = .ok (.aload_n 0, 1) := by decide +kernel
theorem dX7_takeMore_57 : decode cX7_takeMore 57 = .ok (.getfield 38, 3) := by decide +kernel
theorem dX7_takeMore_60 : decode cX7_takeMore 60 = .ok (.aload_n 0, 1) := by decide +kernel
theorem dX7_takeMore_61 : decode cX7_takeMore 61 = .ok (.getfield 99, 3) := by decide +kernel
theorem dX7_takeMore_64 : decode cX7_takeMore 64 = .ok (.iconst 1, 1) := by decide +kernel
theorem dX7_takeMore_65 : decode cX7_takeMore 65 = .ok (.isub, 1) := by decide +kernel
theorem dX7_takeMore_66 : decode cX7_takeMore 66 = .ok (.dup2, 1) := by decide +kernel
theorem dX7_takeMore_67 : decode cX7_takeMore 67 = .ok (.iaload, 1) := by decide +kernel
theorem dX7_takeMore_68 : decode cX7_takeMore 68 = .ok (.iload_n 3, 1) := by decide +kernel
theorem dX7_takeMore_69 : decode cX7_takeMore 69 = .ok (.ifCond .eq 9, 3) := by decide +kernel
theorem dX7_takeMore_72 : decode cX7_takeMore 72 = .ok (.iconst 1, 1) := by decide +kernel
theorem dX7_takeMore_73 : decode cX7_takeMore 73 = .ok (.iload_n 1, 1) := by decide +kernel
theorem dX7_takeMore_74 : decode cX7_takeMore 74 = .ok (.ishl, 1) := by decide +kernel
theorem dX7_takeMore_75 : decode cX7_takeMore 75 = .ok (.goto 4, 3) := by decide +kernel
theorem dX7_takeMore_78 : decode cX7_takeMore 78 = .ok (.iconst 0, 1) := by decide +kernel
theorem dX7_takeMore_79 : decode cX7_takeMore 79 = .ok (.ior, 1) := by decide +kernel
theorem dX7_takeMore_80 : decode cX7_takeMore 80 = .ok (.iastore, 1) := by decide +kernel
theorem dX7_takeMore_81 : decode cX7_takeMore 81 = .ok (.iload_n 3, 1) := by decide +kernel
theorem dX7_takeMore_82 : decode cX7_takeMore 82 = .ok (.ireturn, 1) := by decide +kernel
theorem dX7_readText_0 : decode cX7_readText 0 = .ok (.aload_n 0, 1) := by decide +kernel
theorem dX7_readText_1 : decode cX7_readText 1 = .ok (.iconst 0, 1) := by decide +kernel
theorem dX7_readText_2 : decode cX7_readText 2 = .ok (.putfield 94, 3) := by decide +kernel
theorem dX7_readText_5 : decode cX7_readText 5 = .ok (.aload_n 0, 1) := by decide +kernel
theorem dX7_readText_6 : decode cX7_readText 6 = .ok (.iconst 0, 1) := by decide +kernel
theorem dX7_readText_7 : decode cX7_readText 7 = .ok (.putfield 99, 3) := by decide +kernel
theorem dX7_readText_10 : decode cX7_readText 10 = .ok (.aload_n 0, 1) := by decide +kernel
theorem dX7_readText_11 : decode cX7_readText 11 = .ok (.iconst 0, 1) := by decide +kernel
theorem dX7_readText_12 : decode cX7_readText 12 = .ok (.putfield 87, 3) := by decide +kernel
theorem dX7_readText_15 : decode cX7_readText 15 = .ok (.iconst 0, 1) := by decide +kernel
theorem dX7_readText_16 : decode cX7_readText 16 = .ok (.istore_n 1, 1) := by decide +kernel
theorem dX7_readText_17 : decode cX7_readText 17 = .ok (.iload_n 1, 1) := by decide +kernel
theorem dX7_readText_18 : decode cX7_readText 18 = .ok (.aload_n 0, 1) := by decide +kernel
theorem dX7_readText_19 : decode cX7_readText 19 = .ok (.getfield 76, 3) := by decide +kernel
theorem dX7_readText_22 : decode cX7_readText 22 = .ok (.if_icmp .ge 24, 3) := by decide +kernel
theorem dX7_readText_25 : decode cX7_readText 25 = .ok (.aload_n 0, 1) := by decide +kernel
theorem dX7_readText_26 : decode cX7_readText 26 = .ok (.aload_n 0, 1) := by decide +kernel
theorem dX7_readText_27 : decode cX7_readText 27 = .ok (.getfield 7, 3) := by decide +kernel
theorem dX7_readText_30 : decode cX7_readText 30 = .ok (.iload_n 1, 1) := by decide +kernel
theorem dX7_readText_31 : decode cX7_readText 31 = .ok (.iaload, 1) := by decide +kernel
theorem dX7_readText_32 : decode cX7_readText 32 = .ok (.invokevirtual 106, 3) := by decide +kernel
theorem dX7_readText_35 : decode cX7_readText 35 = .ok (.ifCond .ne 5, 3) := by decide +kernel
theorem dX7_readText_38 : decode cX7_readText 38 = .ok (.iload_n 1, 1) := by decide +kernel
theorem dX7_readText_39 : decode cX7_readText 39 = .ok (.ireturn, 1) := by decide +kernel
theorem dX7_readText_40 : decode cX7_readText 40 = .ok (.iinc 1 1, 3) := by decide +kernel
theorem dX7_readText_43 : decode cX7_readText 43 = .ok (.goto (-26), 3) := by decide +kernel
theorem dX7_readText_46 : decode cX7_readText 46 = .ok (.aload_n 0, 1) := by decide +kernel
theorem dX7_readText_47 : decode cX7_readText 47 = .ok (.getfield 87, 3) := by decide +kernel
theorem dX7_readText_50 : decode cX7_readText 50 = .ok (.ifCond .ne 8, 3) := by decide +kernel
theorem dX7_readText_53 : decode cX7_readText 53 = .ok (.bipush (-9), 2) := by decide +kernel
theorem dX7_readText_55 : decode cX7_readText 55 = .ok (.goto 7, 3) := by decide +kernel
theorem dX7_readText_58 : decode cX7_readText 58 = .ok (.aload_n 0, 1) := by decide +kernel
theorem dX7_readText_59 : decode cX7_readText 59 = .ok (.getfield 76, 3) := by decide +kernel
theorem dX7_readText_62 : decode cX7_readText 62 = .ok (.ireturn, 1) := by decide +kernel
theorem dX7_fault_0 : decode cX7_fault 0 = .ok (.aload_n 0, 1) := by decide +kernel
theorem dX7_fault_1 : decode cX7_fault 1 = .ok (.invokevirtual 109, 3) := by decide +kernel
theorem dX7_fault_4 : decode cX7_fault 4 = .ok (.ireturn, 1) := by decide +kernel
theorem dX7_tender_0 : decode cX7_tender 0 = .ok (.aload_n 0, 1) := by decide +kernel
theorem dX7_tender_1 : decode cX7_tender 1 = .ok (.invokevirtual 109, 3) := by decide +kernel
theorem dX7_tender_4 : decode cX7_tender 4 = .ok (.bipush (-9), 2) := by decide +kernel
theorem dX7_tender_6 : decode cX7_tender 6 = .ok (.if_icmp .eq 6, 3) := by decide +kernel
theorem dX7_tender_9 : decode cX7_tender 9 = .ok (.bipush (-3), 2) := by decide +kernel
theorem dX7_tender_11 : decode cX7_tender 11 = .ok (.ireturn, 1) := by decide +kernel
theorem dX7_tender_12 : decode cX7_tender 12 = .ok (.aload_n 0, 1) := by decide +kernel
theorem dX7_tender_13 : decode cX7_tender 13 = .ok (.aload_n 0, 1) := by decide +kernel
theorem dX7_tender_14 : decode cX7_tender 14 = .ok (.getfield 94, 3) := by decide +kernel
theorem dX7_tender_17 : decode cX7_tender 17 = .ok (.putfield 63, 3) := by decide +kernel
theorem dX7_tender_20 : decode cX7_tender 20 = .ok (.aload_n 0, 1) := by decide +kernel
theorem dX7_tender_21 : decode cX7_tender 21 = .ok (.aload_n 0, 1) := by decide +kernel
theorem dX7_tender_22 : decode cX7_tender 22 = .ok (.getfield 99, 3) := by decide +kernel
theorem dX7_tender_25 : decode cX7_tender 25 = .ok (.putfield 71, 3) := by decide +kernel
theorem dX7_tender_28 : decode cX7_tender 28 = .ok (.iconst 0, 1) := by decide +kernel
theorem dX7_tender_29 : decode cX7_tender 29 = .ok (.istore_n 1, 1) := by decide +kernel
theorem dX7_tender_30 : decode cX7_tender 30 = .ok (.iload_n 1, 1) := by decide +kernel
theorem dX7_tender_31 : decode cX7_tender 31 = .ok (.iconst 4, 1) := by decide +kernel
theorem dX7_tender_32 : decode cX7_tender 32 = .ok (.if_icmp .ge 33, 3) := by decide +kernel
theorem dX7_tender_35 : decode cX7_tender 35 = .ok (.aload_n 0, 1) := by decide +kernel
theorem dX7_tender_36 : decode cX7_tender 36 = .ok (.getfield 13, 3) := by decide +kernel
theorem dX7_tender_39 : decode cX7_tender 39 = .ok (.iload_n 1, 1) := by decide +kernel
theorem dX7_tender_40 : decode cX7_tender 40 = .ok (.aload_n 0, 1) := by decide +kernel
theorem dX7_tender_41 : decode cX7_tender 41 = .ok (.getfield 35, 3) := by decide +kernel
theorem dX7_tender_44 : decode cX7_tender 44 = .ok (.iload_n 1, 1) := by decide +kernel
theorem dX7_tender_45 : decode cX7_tender 45 = .ok (.iaload, 1) := by decide +kernel
theorem dX7_tender_46 : decode cX7_tender 46 = .ok (.iastore, 1) := by decide +kernel
theorem dX7_tender_47 : decode cX7_tender 47 = .ok (.aload_n 0, 1) := by decide +kernel
theorem dX7_tender_48 : decode cX7_tender 48 = .ok (.getfield 16, 3) := by decide +kernel
theorem dX7_tender_51 : decode cX7_tender 51 = .ok (.iload_n 1, 1) := by decide +kernel
theorem dX7_tender_52 : decode cX7_tender 52 = .ok (.aload_n 0, 1) := by decide +kernel
theorem dX7_tender_53 : decode cX7_tender 53 = .ok (.getfield 38, 3) := by decide +kernel
theorem dX7_tender_56 : decode cX7_tender 56 = .ok (.iload_n 1, 1) := by decide +kernel
theorem dX7_tender_57 : decode cX7_tender 57 = .ok (.iaload, 1) := by decide +kernel
theorem dX7_tender_58 : decode cX7_tender 58 = .ok (.iastore, 1) := by decide +kernel
theorem dX7_tender_59 : decode cX7_tender 59 = .ok (.iinc 1 1, 3) := by decide +kernel
theorem dX7_tender_62 : decode cX7_tender 62 = .ok (.goto (-32), 3) := by decide +kernel
theorem dX7_tender_65 : decode cX7_tender 65 = .ok (.iconst 0, 1) := by decide +kernel
theorem dX7_tender_66 : decode cX7_tender 66 = .ok (.istore_n 1, 1) := by decide +kernel
theorem dX7_tender_67 : decode cX7_tender 67 = .ok (.iload_n 1, 1) := by decide +kernel
theorem dX7_tender_68 : decode cX7_tender 68 = .ok (.bipush 12, 2) := by decide +kernel
theorem dX7_tender_70 : decode cX7_tender 70 = .ok (.if_icmp .ge 21, 3) := by decide +kernel
theorem dX7_tender_73 : decode cX7_tender 73 = .ok (.aload_n 0, 1) := by decide +kernel
theorem dX7_tender_74 : decode cX7_tender 74 = .ok (.getfield 19, 3) := by decide +kernel
theorem dX7_tender_77 : decode cX7_tender 77 = .ok (.iload_n 1, 1) := by decide +kernel
theorem dX7_tender_78 : decode cX7_tender 78 = .ok (.aload_n 0, 1) := by decide +kernel
theorem dX7_tender_79 : decode cX7_tender 79 = .ok (.getfield 41, 3) := by decide +kernel
theorem dX7_tender_82 : decode cX7_tender 82 = .ok (.iload_n 1, 1) := by decide +kernel
theorem dX7_tender_83 : decode cX7_tender 83 = .ok (.iaload, 1) := by decide +kernel
theorem dX7_tender_84 : decode cX7_tender 84 = .ok (.iastore, 1) := by decide +kernel
theorem dX7_tender_85 : decode cX7_tender 85 = .ok (.iinc 1 1, 3) := by decide +kernel
theorem dX7_tender_88 : decode cX7_tender 88 = .ok (.goto (-21), 3) := by decide +kernel
theorem dX7_tender_91 : decode cX7_tender 91 = .ok (.aload_n 0, 1) := by decide +kernel
theorem dX7_tender_92 : decode cX7_tender 92 = .ok (.iconst 0, 1) := by decide +kernel
theorem dX7_tender_93 : decode cX7_tender 93 = .ok (.putfield 113, 3) := by decide +kernel
theorem dX7_tender_96 : decode cX7_tender 96 = .ok (.aload_n 0, 1) := by decide +kernel
theorem dX7_tender_97 : decode cX7_tender 97 = .ok (.getfield 31, 3) := by decide +kernel
theorem dX7_tender_100 : decode cX7_tender 100 = .ok (.iconst 0, 1) := by decide +kernel
theorem dX7_tender_101 : decode cX7_tender 101 = .ok (.iconst 0, 1) := by decide +kernel
theorem dX7_tender_102 : decode cX7_tender 102 = .ok (.bastore, 1) := by decide +kernel
theorem dX7_tender_103 : decode cX7_tender 103 = .ok (.aload_n 0, 1) := by decide +kernel
theorem dX7_tender_104 : decode cX7_tender 104 = .ok (.getfield 31, 3) := by decide +kernel
theorem dX7_tender_107 : decode cX7_tender 107 = .ok (.iconst 1, 1) := by decide +kernel
theorem dX7_tender_108 : decode cX7_tender 108 = .ok (.iconst 0, 1) := by decide +kernel
theorem dX7_tender_109 : decode cX7_tender 109 = .ok (.bastore, 1) := by decide +kernel
theorem dX7_tender_110 : decode cX7_tender 110 = .ok (.aload_n 0, 1) := by decide +kernel
theorem dX7_tender_111 : decode cX7_tender 111 = .ok (.getfield 71, 3) := by decide +kernel
theorem dX7_tender_114 : decode cX7_tender 114 = .ok (.ireturn, 1) := by decide +kernel
theorem dX7_servedBy_0 : decode cX7_servedBy 0 = .ok (.iload_n 1, 1) := by decide +kernel
theorem dX7_servedBy_1 : decode cX7_servedBy 1 = .ok (.iload_n 2, 1) := by decide +kernel
theorem dX7_servedBy_2 : decode cX7_servedBy 2 = .ok (.aload_n 0, 1) := by decide +kernel
theorem dX7_servedBy_3 : decode cX7_servedBy 3 = .ok (.getfield 63, 3) := by decide +kernel
theorem dX7_servedBy_6 : decode cX7_servedBy 6 = .ok (.iconst 1, 1) := by decide +kernel
theorem dX7_servedBy_7 : decode cX7_servedBy 7 = .ok (.isub, 1) := by decide +kernel
theorem dX7_servedBy_8 : decode cX7_servedBy 8 = .ok (.iload_n 3, 1) := by decide +kernel
theorem dX7_servedBy_9 : decode cX7_servedBy 9 = .ok (.isub, 1) := by decide +kernel
theorem dX7_servedBy_10 : decode cX7_servedBy 10 = .ok (.invokestatic 116, 3) := by decide +kernel
theorem dX7_servedBy_13 : decode cX7_servedBy 13 = .ok (.idiv, 1) := by decide +kernel
theorem dX7_servedBy_14 : decode cX7_servedBy 14 = .ok (.iload_n 2, 1) := by decide +kernel
theorem dX7_servedBy_15 : decode cX7_servedBy 15 = .ok (.irem, 1) := by decide +kernel
theorem dX7_servedBy_16 : decode cX7_servedBy 16 = .ok (.istore 4, 2) := by decide +kernel
theorem dX7_servedBy_18 : decode cX7_servedBy 18 = .ok (.iload 4, 2) := by decide +kernel
theorem dX7_servedBy_20 : decode cX7_servedBy 20 = .ok (.iconst 4, 1) := by decide +kernel
theorem dX7_servedBy_21 : decode cX7_servedBy 21 = .ok (.if_icmp .ne 8, 3) := by decide +kernel
theorem dX7_servedBy_24 : decode cX7_servedBy 24 = .ok (.bipush 9, 2) := by decide +kernel
theorem dX7_servedBy_26 : decode cX7_servedBy 26 = .ok (.goto 16, 3) := by decide +kernel
theorem dX7_servedBy_29 : decode cX7_servedBy 29 = .ok (.iload 4, 2) := by decide +kernel
theorem dX7_servedBy_31 : decode cX7_servedBy 31 = .ok (.iconst 5, 1) := by decide +kernel
theorem dX7_servedBy_32 : decode cX7_servedBy 32 = .ok (.if_icmp .ne 8, 3) := by decide +kernel
theorem dX7_servedBy_35 : decode cX7_servedBy 35 = .ok (.bipush 10, 2) := by decide +kernel
theorem dX7_servedBy_37 : decode cX7_servedBy 37 = .ok (.goto 5, 3) := by decide +kernel
theorem dX7_servedBy_40 : decode cX7_servedBy 40 = .ok (.iload 4, 2) := by decide +kernel
theorem dX7_servedBy_42 : decode cX7_servedBy 42 = .ok (.ireturn, 1) := by decide +kernel
theorem dX7_mayServe_0 : decode cX7_mayServe 0 = .ok (.aload_n 0, 1) := by decide +kernel
theorem dX7_mayServe_1 : decode cX7_mayServe 1 = .ok (.iload_n 2, 1) := by decide +kernel
theorem dX7_mayServe_2 : decode cX7_mayServe 2 = .ok (.iload_n 3, 1) := by decide +kernel
theorem dX7_mayServe_3 : decode cX7_mayServe 3 = .ok (.iload 4, 2) := by decide +kernel
theorem dX7_mayServe_5 : decode cX7_mayServe 5 = .ok (.invokevirtual 119, 3) := by decide +kernel
theorem dX7_mayServe_8 : decode cX7_mayServe 8 = .ok (.istore 6, 2) := by decide +kernel
theorem dX7_mayServe_10 : decode cX7_mayServe 10 = .ok (.iload 6, 2) := by decide +kernel
theorem dX7_mayServe_12 : decode cX7_mayServe 12 = .ok (.bipush 10, 2) := by decide +kernel
theorem dX7_mayServe_14 : decode cX7_mayServe 14 = .ok (.if_icmp .ne 5, 3) := by decide +kernel
theorem dX7_mayServe_17 : decode cX7_mayServe 17 = .ok (.iconst 1, 1) := by decide +kernel
theorem dX7_mayServe_18 : decode cX7_mayServe 18 = .ok (.ireturn, 1) := by decide +kernel
theorem dX7_mayServe_19 : decode cX7_mayServe 19 = .ok (.iload 6, 2) := by decide +kernel
theorem dX7_mayServe_21 : decode cX7_mayServe 21 = .ok (.bipush 9, 2) := by decide +kernel
theorem dX7_mayServe_23 : decode cX7_mayServe 23 = .ok (.if_icmp .eq 48, 3) := by decide +kernel
theorem dX7_mayServe_26 : decode cX7_mayServe 26 = .ok (.aload_n 0, 1) := by decide +kernel
theorem dX7_mayServe_27 : decode cX7_mayServe 27 = .ok (.iload 6, 2) := by decide +kernel
theorem dX7_mayServe_29 : decode cX7_mayServe 29 = .ok (.invokevirtual 123, 3) := by decide +kernel
theorem dX7_mayServe_32 : decode cX7_mayServe 32 = .ok (.ifCond .eq 37, 3) := by decide +kernel
theorem dX7_mayServe_35 : decode cX7_mayServe 35 = .ok (.iload 5, 2) := by decide +kernel
theorem dX7_mayServe_37 : decode cX7_mayServe 37 = .ok (.iload 6, 2) := by decide +kernel
theorem dX7_mayServe_39 : decode cX7_mayServe 39 = .ok (.invokestatic 126, 3) := by decide +kernel
theorem dX7_mayServe_42 : decode cX7_mayServe 42 = .ok (.ifCond .eq 27, 3) := by decide +kernel
theorem dX7_mayServe_45 : decode cX7_mayServe 45 = .ok (.aload_n 0, 1) := by decide +kernel
theorem dX7_mayServe_46 : decode cX7_mayServe 46 = .ok (.getfield 16, 3) := by decide +kernel
theorem dX7_mayServe_49 : decode cX7_mayServe 49 = .ok (.iload 6, 2) := by decide +kernel
theorem dX7_mayServe_51 : decode cX7_mayServe 51 = .ok (.iaload, 1) := by decide +kernel
theorem dX7_mayServe_52 : decode cX7_mayServe 52 = .ok (.aload_n 0, 1) := by decide +kernel
theorem dX7_mayServe_53 : decode cX7_mayServe 53 = .ok (.getfield 13, 3) := by decide +kernel
theorem dX7_mayServe_56 : decode cX7_mayServe 56 = .ok (.iload 4, 2) := by decide +kernel
theorem dX7_mayServe_58 : decode cX7_mayServe 58 = .ok (.iaload, 1) := by decide +kernel
theorem dX7_mayServe_59 : decode cX7_mayServe 59 = .ok (.invokestatic 126, 3) := by decide +kernel
theorem dX7_mayServe_62 : decode cX7_mayServe 62 = .ok (.ifCond .eq 7, 3) := by decide +kernel
theorem dX7_mayServe_65 : decode cX7_mayServe 65 = .ok (.iconst 1, 1) := by decide +kernel
theorem dX7_mayServe_66 : decode cX7_mayServe 66 = .ok (.goto 4, 3) := by decide +kernel
theorem dX7_mayServe_69 : decode cX7_mayServe 69 = .ok (.iconst 0, 1) := by decide +kernel
theorem dX7_mayServe_70 : decode cX7_mayServe 70 = .ok (.ireturn, 1) := by decide +kernel
theorem dX7_mayServe_71 : decode cX7_mayServe 71 = .ok (.iload 4, 2) := by decide +kernel
theorem dX7_mayServe_73 : decode cX7_mayServe 73 = .ok (.ifCond .le 22, 3) := by decide +kernel
theorem dX7_mayServe_76 : decode cX7_mayServe 76 = .ok (.aload_n 0, 1) := by decide +kernel
theorem dX7_mayServe_77 : decode cX7_mayServe 77 = .ok (.iload_n 2, 1) := by decide +kernel
theorem dX7_mayServe_78 : decode cX7_mayServe 78 = .ok (.iload_n 3, 1) := by decide +kernel
theorem dX7_mayServe_79 : decode cX7_mayServe 79 = .ok (.iload 4, 2) := by decide +kernel
theorem dX7_mayServe_81 : decode cX7_mayServe 81 = .ok (.iconst 1, 1) := by decide +kernel
theorem dX7_mayServe_82 : decode cX7_mayServe 82 = .ok (.isub, 1) := by decide +kernel
theorem dX7_mayServe_83 : decode cX7_mayServe 83 = .ok (.invokevirtual 119, 3) := by decide +kernel
theorem dX7_mayServe_86 : decode cX7_mayServe 86 = .ok (.bipush 10, 2) := by decide +kernel
theorem dX7_mayServe_88 : decode cX7_mayServe 88 = .ok (.if_icmp .eq 7, 3) := by decide +kernel
theorem dX7_mayServe_91 : decode cX7_mayServe 91 = .ok (.iconst 1, 1) := by decide +kernel
theorem dX7_mayServe_92 : decode cX7_mayServe 92 = .ok (.goto 4, 3) := by decide +kernel
theorem dX7_mayServe_95 : decode cX7_mayServe 95 = .ok (.iconst 0, 1) := by decide +kernel
theorem dX7_mayServe_96 : decode cX7_mayServe 96 = .ok (.istore 7, 2) := by decide +kernel
theorem dX7_mayServe_98 : decode cX7_mayServe 98 = .ok (.iload 7, 2) := by decide +kernel
theorem dX7_mayServe_100 : decode cX7_mayServe 100 = .ok (.ifCond .eq 39, 3) := by decide +kernel
theorem dX7_mayServe_103 : decode cX7_mayServe 103 = .ok (.aload_n 0, 1) := by decide +kernel
theorem dX7_mayServe_104 : decode cX7_mayServe 104 = .ok (.getfield 13, 3) := by decide +kernel
theorem dX7_mayServe_107 : decode cX7_mayServe 107 = .ok (.iload 4, 2) := by decide +kernel
theorem dX7_mayServe_109 : decode cX7_mayServe 109 = .ok (.iconst 1, 1) := by decide +kernel
theorem dX7_mayServe_110 : decode cX7_mayServe 110 = .ok (.isub, 1) := by decide +kernel
theorem dX7_mayServe_111 : decode cX7_mayServe 111 = .ok (.iaload, 1) := by decide +kernel
theorem dX7_mayServe_112 : decode cX7_mayServe 112 = .ok (.aload_n 0, 1) := by decide +kernel
theorem dX7_mayServe_113 : decode cX7_mayServe 113 = .ok (.getfield 13, 3) := by decide +kernel
theorem dX7_mayServe_116 : decode cX7_mayServe 116 = .ok (.iload 4, 2) := by decide +kernel
theorem dX7_mayServe_118 : decode cX7_mayServe 118 = .ok (.iaload, 1) := by decide +kernel
theorem dX7_mayServe_119 : decode cX7_mayServe 119 = .ok (.if_icmp .ne 20, 3) := by decide +kernel
theorem dX7_mayServe_122 : decode cX7_mayServe 122 = .ok (.aload_n 1, 1) := by decide +kernel
theorem dX7_mayServe_123 : decode cX7_mayServe 123 = .ok (.iload 4, 2) := by decide +kernel
theorem dX7_mayServe_125 : decode cX7_mayServe 125 = .ok (.iconst 1, 1) := by decide +kernel
theorem dX7_mayServe_126 : decode cX7_mayServe 126 = .ok (.isub, 1) := by decide +kernel
theorem dX7_mayServe_127 : decode cX7_mayServe 127 = .ok (.iaload, 1) := by decide +kernel
theorem dX7_mayServe_128 : decode cX7_mayServe 128 = .ok (.aload_n 1, 1) := by decide +kernel
theorem dX7_mayServe_129 : decode cX7_mayServe 129 = .ok (.iload 4, 2) := by decide +kernel
theorem dX7_mayServe_131 : decode cX7_mayServe 131 = .ok (.iaload, 1) := by decide +kernel
theorem dX7_mayServe_132 : decode cX7_mayServe 132 = .ok (.if_icmp .lt 7, 3) := by decide +kernel
theorem dX7_mayServe_135 : decode cX7_mayServe 135 = .ok (.iconst 1, 1) := by decide +kernel
theorem dX7_mayServe_136 : decode cX7_mayServe 136 = .ok (.goto 4, 3) := by decide +kernel
theorem dX7_mayServe_139 : decode cX7_mayServe 139 = .ok (.iconst 0, 1) := by decide +kernel
theorem dX7_mayServe_140 : decode cX7_mayServe 140 = .ok (.ireturn, 1) := by decide +kernel
theorem dX7_costOf_0 : decode cX7_costOf 0 = .ok (.iconst 1, 1) := by decide +kernel
theorem dX7_costOf_1 : decode cX7_costOf 1 = .ok (.istore 5, 2) := by decide +kernel
theorem dX7_costOf_3 : decode cX7_costOf 3 = .ok (.iconst 0, 1) := by decide +kernel
theorem dX7_costOf_4 : decode cX7_costOf 4 = .ok (.istore 6, 2) := by decide +kernel
theorem dX7_costOf_6 : decode cX7_costOf 6 = .ok (.iconst 0, 1) := by decide +kernel
theorem dX7_costOf_7 : decode cX7_costOf 7 = .ok (.istore 7, 2) := by decide +kernel
theorem dX7_costOf_9 : decode cX7_costOf 9 = .ok (.iconst 0, 1) := by decide +kernel
theorem dX7_costOf_10 : decode cX7_costOf 10 = .ok (.istore 8, 2) := by decide +kernel
theorem dX7_costOf_12 : decode cX7_costOf 12 = .ok (.iload 8, 2) := by decide +kernel
theorem dX7_costOf_14 : decode cX7_costOf 14 = .ok (.iconst 4, 1) := by decide +kernel
theorem dX7_costOf_15 : decode cX7_costOf 15 = .ok (.if_icmp .ge 17, 3) := by decide +kernel
theorem dX7_costOf_18 : decode cX7_costOf 18 = .ok (.aload_n 0, 1) := by decide +kernel
theorem dX7_costOf_19 : decode cX7_costOf 19 = .ok (.getfield 53, 3) := by decide +kernel
theorem dX7_costOf_22 : decode cX7_costOf 22 = .ok (.iload 8, 2) := by decide +kernel
theorem dX7_costOf_24 : decode cX7_costOf 24 = .ok (.iconst 0, 1) := by decide +kernel
theorem dX7_costOf_25 : decode cX7_costOf 25 = .ok (.iastore, 1) := by decide +kernel
theorem dX7_costOf_26 : decode cX7_costOf 26 = .ok (.iinc 8 1, 3) := by decide +kernel
theorem dX7_costOf_29 : decode cX7_costOf 29 = .ok (.goto (-17), 3) := by decide +kernel
theorem dX7_costOf_32 : decode cX7_costOf 32 = .ok (.iconst 0, 1) := by decide +kernel
theorem dX7_costOf_33 : decode cX7_costOf 33 = .ok (.istore 8, 2) := by decide +kernel
theorem dX7_costOf_35 : decode cX7_costOf 35 = .ok (.iload 8, 2) := by decide +kernel
theorem dX7_costOf_37 : decode cX7_costOf 37 = .ok (.aload_n 0, 1) := by decide +kernel
theorem dX7_costOf_38 : decode cX7_costOf 38 = .ok (.getfield 63, 3) := by decide +kernel
theorem dX7_costOf_41 : decode cX7_costOf 41 = .ok (.if_icmp .ge 96, 3) := by decide +kernel
theorem dX7_costOf_44 : decode cX7_costOf 44 = .ok (.iload 5, 2) := by decide +kernel
theorem dX7_costOf_46 : decode cX7_costOf 46 = .ok (.ifCond .eq 91, 3) := by decide +kernel
theorem dX7_costOf_49 : decode cX7_costOf 49 = .ok (.aload_n 0, 1) := by decide +kernel
theorem dX7_costOf_50 : decode cX7_costOf 50 = .ok (.iload_n 2, 1) := by decide +kernel
theorem dX7_costOf_51 : decode cX7_costOf 51 = .ok (.iload_n 3, 1) := by decide +kernel
theorem dX7_costOf_52 : decode cX7_costOf 52 = .ok (.iload 8, 2) := by decide +kernel
theorem dX7_costOf_54 : decode cX7_costOf 54 = .ok (.invokevirtual 119, 3) := by decide +kernel
theorem dX7_costOf_57 : decode cX7_costOf 57 = .ok (.istore 9, 2) := by decide +kernel
theorem dX7_costOf_59 : decode cX7_costOf 59 = .ok (.aload_n 0, 1) := by decide +kernel
theorem dX7_costOf_60 : decode cX7_costOf 60 = .ok (.aload_n 1, 1) := by decide +kernel
theorem dX7_costOf_61 : decode cX7_costOf 61 = .ok (.iload_n 2, 1) := by decide +kernel
theorem dX7_costOf_62 : decode cX7_costOf 62 = .ok (.iload_n 3, 1) := by decide +kernel
theorem dX7_costOf_63 : decode cX7_costOf 63 = .ok (.iload 8, 2) := by decide +kernel
theorem dX7_costOf_65 : decode cX7_costOf 65 = .ok (.iload 4, 2) := by decide +kernel
theorem dX7_costOf_67 : decode cX7_costOf 67 = .ok (.invokevirtual 129, 3) := by decide +kernel
theorem dX7_costOf_70 : decode cX7_costOf 70 = .ok (.istore 5, 2) := by decide +kernel
theorem dX7_costOf_72 : decode cX7_costOf 72 = .ok (.iload 6, 2) := by decide +kernel
theorem dX7_costOf_74 : decode cX7_costOf 74 = .ok (.iload 9, 2) := by decide +kernel
theorem dX7_costOf_76 : decode cX7_costOf 76 = .ok (.bipush 9, 2) := by decide +kernel
theorem dX7_costOf_78 : decode cX7_costOf 78 = .ok (.if_icmp .ne 7, 3) := by decide +kernel
theorem dX7_costOf_81 : decode cX7_costOf 81 = .ok (.iconst 1, 1) := by decide +kernel
theorem dX7_costOf_82 : decode cX7_costOf 82 = .ok (.goto 4, 3) := by decide +kernel
theorem dX7_costOf_85 : decode cX7_costOf 85 = .ok (.iconst 0, 1) := by decide +kernel
theorem dX7_costOf_86 : decode cX7_costOf 86 = .ok (.iadd, 1) := by decide +kernel
theorem dX7_costOf_87 : decode cX7_costOf 87 = .ok (.istore 6, 2) := by decide +kernel
theorem dX7_costOf_89 : decode cX7_costOf 89 = .ok (.iload 5, 2) := by decide +kernel
theorem dX7_costOf_91 : decode cX7_costOf 91 = .ok (.ifCond .eq 40, 3) := by decide +kernel
theorem dX7_costOf_94 : decode cX7_costOf 94 = .ok (.iload 9, 2) := by decide +kernel
theorem dX7_costOf_96 : decode cX7_costOf 96 = .ok (.iconst 4, 1) := by decide +kernel
theorem dX7_costOf_97 : decode cX7_costOf 97 = .ok (.if_icmp .ge 34, 3) := by decide +kernel
theorem dX7_costOf_100 : decode cX7_costOf 100 = .ok (.aload_n 0, 1) := by decide +kernel
theorem dX7_costOf_101 : decode cX7_costOf 101 = .ok (.getfield 53, 3) := by decide +kernel
theorem dX7_costOf_104 : decode cX7_costOf 104 = .ok (.iload 9, 2) := by decide +kernel
theorem dX7_costOf_106 : decode cX7_costOf 106 = .ok (.dup2, 1) := by decide +kernel
theorem dX7_costOf_107 : decode cX7_costOf 107 = .ok (.iaload, 1) := by decide +kernel
theorem dX7_costOf_108 : decode cX7_costOf 108 = .ok (.aload_n 1, 1) := by decide +kernel
theorem dX7_costOf_109 : decode cX7_costOf 109 = .ok (.iload 8, 2) := by decide +kernel
theorem dX7_costOf_111 : decode cX7_costOf 111 = .ok (.iaload, 1) := by decide +kernel
theorem dX7_costOf_112 : decode cX7_costOf 112 = .ok (.iadd, 1) := by decide +kernel
theorem dX7_costOf_113 : decode cX7_costOf 113 = .ok (.iastore, 1) := by decide +kernel
theorem dX7_costOf_114 : decode cX7_costOf 114 = .ok (.iload 7, 2) := by decide +kernel
theorem dX7_costOf_116 : decode cX7_costOf 116 = .ok (.aload_n 1, 1) := by decide +kernel
theorem dX7_costOf_117 : decode cX7_costOf 117 = .ok (.iload 8, 2) := by decide +kernel
theorem dX7_costOf_119 : decode cX7_costOf 119 = .ok (.iaload, 1) := by decide +kernel
theorem dX7_costOf_120 : decode cX7_costOf 120 = .ok (.aload_n 1, 1) := by decide +kernel
theorem dX7_costOf_121 : decode cX7_costOf 121 = .ok (.bipush 8, 2) := by decide +kernel
theorem dX7_costOf_123 : decode cX7_costOf 123 = .ok (.iload 9, 2) := by decide +kernel
theorem dX7_costOf_125 : decode cX7_costOf 125 = .ok (.iadd, 1) := by decide +kernel
theorem dX7_costOf_126 : decode cX7_costOf 126 = .ok (.iaload, 1) := by decide +kernel
theorem dX7_costOf_127 : decode cX7_costOf 127 = .ok (.imul, 1) := by decide +kernel
theorem dX7_costOf_128 : decode cX7_costOf 128 = .ok (.iadd, 1) := by decide +kernel
theorem dX7_costOf_129 : decode cX7_costOf 129 = .ok (.istore 7, 2) := by decide +kernel
theorem dX7_costOf_131 : decode cX7_costOf 131 = .ok (.iinc 8 1, 3) := by decide +kernel
theorem dX7_costOf_134 : decode cX7_costOf 134 = .ok (.goto (-99), 3) := by decide +kernel
theorem dX7_costOf_137 : decode cX7_costOf 137 = .ok (.iconst 0, 1) := by decide +kernel
theorem dX7_costOf_138 : decode cX7_costOf 138 = .ok (.istore 8, 2) := by decide +kernel
theorem dX7_costOf_140 : decode cX7_costOf 140 = .ok (.iload 8, 2) := by decide +kernel
theorem dX7_costOf_142 : decode cX7_costOf 142 = .ok (.aload_n 0, 1) := by decide +kernel
theorem dX7_costOf_143 : decode cX7_costOf 143 = .ok (.getfield 71, 3) := by decide +kernel
theorem dX7_costOf_146 : decode cX7_costOf 146 = .ok (.if_icmp .ge 37, 3) := by decide +kernel
theorem dX7_costOf_149 : decode cX7_costOf 149 = .ok (.iload 5, 2) := by decide +kernel
theorem dX7_costOf_151 : decode cX7_costOf 151 = .ok (.ifCond .eq 23, 3) := by decide +kernel
theorem dX7_costOf_154 : decode cX7_costOf 154 = .ok (.aload_n 0, 1) := by decide +kernel
theorem dX7_costOf_155 : decode cX7_costOf 155 = .ok (.getfield 53, 3) := by decide +kernel
theorem dX7_costOf_158 : decode cX7_costOf 158 = .ok (.iload 8, 2) := by decide +kernel
theorem dX7_costOf_160 : decode cX7_costOf 160 = .ok (.iaload, 1) := by decide +kernel
theorem dX7_costOf_161 : decode cX7_costOf 161 = .ok (.aload_n 1, 1) := by decide +kernel
theorem dX7_costOf_162 : decode cX7_costOf 162 = .ok (.iconst 4, 1) := by decide +kernel
theorem dX7_costOf_163 : decode cX7_costOf 163 = .ok (.iload 8, 2) := by decide +kernel
theorem dX7_costOf_165 : decode cX7_costOf 165 = .ok (.iadd, 1) := by decide +kernel
theorem dX7_costOf_166 : decode cX7_costOf 166 = .ok (.iaload, 1) := by decide +kernel
theorem dX7_costOf_167 : decode cX7_costOf 167 = .ok (.if_icmp .gt 7, 3) := by decide +kernel
theorem dX7_costOf_170 : decode cX7_costOf 170 = .ok (.iconst 1, 1) := by decide +kernel
theorem dX7_costOf_171 : decode cX7_costOf 171 = .ok (.goto 4, 3) := by decide +kernel
theorem dX7_costOf_174 : decode cX7_costOf 174 = .ok (.iconst 0, 1) := by decide +kernel
theorem dX7_costOf_175 : decode cX7_costOf 175 = .ok (.istore 5, 2) := by decide +kernel
theorem dX7_costOf_177 : decode cX7_costOf 177 = .ok (.iinc 8 1, 3) := by decide +kernel
theorem dX7_costOf_180 : decode cX7_costOf 180 = .ok (.goto (-40), 3) := by decide +kernel
theorem dX7_costOf_183 : decode cX7_costOf 183 = .ok (.iload 5, 2) := by decide +kernel
theorem dX7_costOf_185 : decode cX7_costOf 185 = .ok (.ifCond .eq 17, 3) := by decide +kernel
theorem dX7_costOf_188 : decode cX7_costOf 188 = .ok (.iload 6, 2) := by decide +kernel
theorem dX7_costOf_190 : decode cX7_costOf 190 = .ok (.aload_n 1, 1) := by decide +kernel
theorem dX7_costOf_191 : decode cX7_costOf 191 = .ok (.bipush 12, 2) := by decide +kernel
theorem dX7_costOf_193 : decode cX7_costOf 193 = .ok (.iaload, 1) := by decide +kernel
theorem dX7_costOf_194 : decode cX7_costOf 194 = .ok (.if_icmp .gt 8, 3) := by decide +kernel
theorem dX7_costOf_197 : decode cX7_costOf 197 = .ok (.iload 7, 2) := by decide +kernel
theorem dX7_costOf_199 : decode cX7_costOf 199 = .ok (.goto 5, 3) := by decide +kernel
theorem dX7_costOf_202 : decode cX7_costOf 202 = .ok (.bipush (-9), 2) := by decide +kernel
theorem dX7_costOf_204 : decode cX7_costOf 204 = .ok (.ireturn, 1) := by decide +kernel
theorem dX7_find_0 : decode cX7_find 0 = .ok (.aload_n 0, 1) := by decide +kernel
theorem dX7_find_1 : decode cX7_find 1 = .ok (.bipush (-9), 2) := by decide +kernel
theorem dX7_find_3 : decode cX7_find 3 = .ok (.putfield 133, 3) := by decide +kernel
theorem dX7_find_6 : decode cX7_find 6 = .ok (.aload_n 0, 1) := by decide +kernel
theorem dX7_find_7 : decode cX7_find 7 = .ok (.iconst 0, 1) := by decide +kernel
theorem dX7_find_8 : decode cX7_find 8 = .ok (.putfield 136, 3) := by decide +kernel
theorem dX7_find_11 : decode cX7_find 11 = .ok (.iconst 0, 1) := by decide +kernel
theorem dX7_find_12 : decode cX7_find 12 = .ok (.istore_n 3, 1) := by decide +kernel
theorem dX7_find_13 : decode cX7_find 13 = .ok (.iload_n 3, 1) := by decide +kernel
theorem dX7_find_14 : decode cX7_find 14 = .ok (.iconst 5, 1) := by decide +kernel
end
section
theorem dX7_find_15 : decode cX7_find 15 = .ok (.aload_n 0, 1) := by decide +kernel
theorem dX7_find_16 : decode cX7_find 16 = .ok (.getfield 63, 3) := by decide +kernel
theorem dX7_find_19 : decode cX7_find 19 = .ok (.invokestatic 116, 3) := by decide +kernel
theorem dX7_find_22 : decode cX7_find 22 = .ok (.if_icmp .ge 55, 3) := by decide +kernel
theorem dX7_find_25 : decode cX7_find 25 = .ok (.aload_n 0, 1) := by decide +kernel
theorem dX7_find_26 : decode cX7_find 26 = .ok (.aload_n 1, 1) := by decide +kernel
theorem dX7_find_27 : decode cX7_find 27 = .ok (.iload_n 3, 1) := by decide +kernel
theorem dX7_find_28 : decode cX7_find 28 = .ok (.iconst 5, 1) := by decide +kernel
theorem dX7_find_29 : decode cX7_find 29 = .ok (.iload_n 2, 1) := by decide +kernel
theorem dX7_find_30 : decode cX7_find 30 = .ok (.invokevirtual 139, 3) := by decide +kernel
theorem dX7_find_33 : decode cX7_find 33 = .ok (.istore 4, 2) := by decide +kernel
theorem dX7_find_35 : decode cX7_find 35 = .ok (.iload 4, 2) := by decide +kernel
theorem dX7_find_37 : decode cX7_find 37 = .ok (.bipush (-9), 2) := by decide +kernel
theorem dX7_find_39 : decode cX7_find 39 = .ok (.if_icmp .eq 32, 3) := by decide +kernel
theorem dX7_find_42 : decode cX7_find 42 = .ok (.aload_n 0, 1) := by decide +kernel
theorem dX7_find_43 : decode cX7_find 43 = .ok (.getfield 133, 3) := by decide +kernel
theorem dX7_find_46 : decode cX7_find 46 = .ok (.bipush (-9), 2) := by decide +kernel
theorem dX7_find_48 : decode cX7_find 48 = .ok (.if_icmp .eq 12, 3) := by decide +kernel
theorem dX7_find_51 : decode cX7_find 51 = .ok (.iload 4, 2) := by decide +kernel
theorem dX7_find_53 : decode cX7_find 53 = .ok (.aload_n 0, 1) := by decide +kernel
theorem dX7_find_54 : decode cX7_find 54 = .ok (.getfield 133, 3) := by decide +kernel
theorem dX7_find_57 : decode cX7_find 57 = .ok (.if_icmp .ge 14, 3) := by decide +kernel
theorem dX7_find_60 : decode cX7_find 60 = .ok (.aload_n 0, 1) := by decide +kernel
theorem dX7_find_61 : decode cX7_find 61 = .ok (.iload 4, 2) := by decide +kernel
theorem dX7_find_63 : decode cX7_find 63 = .ok (.putfield 133, 3) := by decide +kernel
theorem dX7_find_66 : decode cX7_find 66 = .ok (.aload_n 0, 1) := by decide +kernel
theorem dX7_find_67 : decode cX7_find 67 = .ok (.iload_n 3, 1) := by decide +kernel
theorem dX7_find_68 : decode cX7_find 68 = .ok (.putfield 136, 3) := by decide +kernel
theorem dX7_find_71 : decode cX7_find 71 = .ok (.iinc 3 1, 3) := by decide +kernel
theorem dX7_find_74 : decode cX7_find 74 = .ok (.goto (-61), 3) := by decide +kernel
theorem dX7_find_77 : decode cX7_find 77 = .ok (.return_, 1) := by decide +kernel
theorem dX7_leastBy_0 : decode cX7_leastBy 0 = .ok (.aload_n 0, 1) := by decide +kernel
theorem dX7_leastBy_1 : decode cX7_leastBy 1 = .ok (.aload_n 1, 1) := by decide +kernel
theorem dX7_leastBy_2 : decode cX7_leastBy 2 = .ok (.iload_n 2, 1) := by decide +kernel
theorem dX7_leastBy_3 : decode cX7_leastBy 3 = .ok (.invokevirtual 143, 3) := by decide +kernel
theorem dX7_leastBy_6 : decode cX7_leastBy 6 = .ok (.aload_n 0, 1) := by decide +kernel
theorem dX7_leastBy_7 : decode cX7_leastBy 7 = .ok (.getfield 133, 3) := by decide +kernel
theorem dX7_leastBy_10 : decode cX7_leastBy 10 = .ok (.ireturn, 1) := by decide +kernel
theorem dX7_unitsOf_0 : decode cX7_unitsOf 0 = .ok (.iconst 0, 1) := by decide +kernel
theorem dX7_unitsOf_1 : decode cX7_unitsOf 1 = .ok (.istore_n 3, 1) := by decide +kernel
theorem dX7_unitsOf_2 : decode cX7_unitsOf 2 = .ok (.iconst 0, 1) := by decide +kernel
theorem dX7_unitsOf_3 : decode cX7_unitsOf 3 = .ok (.istore 4, 2) := by decide +kernel
theorem dX7_unitsOf_5 : decode cX7_unitsOf 5 = .ok (.iload 4, 2) := by decide +kernel
theorem dX7_unitsOf_7 : decode cX7_unitsOf 7 = .ok (.aload_n 0, 1) := by decide +kernel
theorem dX7_unitsOf_8 : decode cX7_unitsOf 8 = .ok (.getfield 63, 3) := by decide +kernel
theorem dX7_unitsOf_11 : decode cX7_unitsOf 11 = .ok (.if_icmp .ge 35, 3) := by decide +kernel
theorem dX7_unitsOf_14 : decode cX7_unitsOf 14 = .ok (.iload_n 3, 1) := by decide +kernel
theorem dX7_unitsOf_15 : decode cX7_unitsOf 15 = .ok (.aload_n 0, 1) := by decide +kernel
theorem dX7_unitsOf_16 : decode cX7_unitsOf 16 = .ok (.aload_n 0, 1) := by decide +kernel
theorem dX7_unitsOf_17 : decode cX7_unitsOf 17 = .ok (.getfield 136, 3) := by decide +kernel
theorem dX7_unitsOf_20 : decode cX7_unitsOf 20 = .ok (.iconst 5, 1) := by decide +kernel
theorem dX7_unitsOf_21 : decode cX7_unitsOf 21 = .ok (.iload 4, 2) := by decide +kernel
theorem dX7_unitsOf_23 : decode cX7_unitsOf 23 = .ok (.invokevirtual 119, 3) := by decide +kernel
theorem dX7_unitsOf_26 : decode cX7_unitsOf 26 = .ok (.iload_n 2, 1) := by decide +kernel
theorem dX7_unitsOf_27 : decode cX7_unitsOf 27 = .ok (.if_icmp .ne 10, 3) := by decide +kernel
theorem dX7_unitsOf_30 : decode cX7_unitsOf 30 = .ok (.aload_n 1, 1) := by decide +kernel
theorem dX7_unitsOf_31 : decode cX7_unitsOf 31 = .ok (.iload 4, 2) := by decide +kernel
theorem dX7_unitsOf_33 : decode cX7_unitsOf 33 = .ok (.iaload, 1) := by decide +kernel
theorem dX7_unitsOf_34 : decode cX7_unitsOf 34 = .ok (.goto 4, 3) := by decide +kernel
theorem dX7_unitsOf_37 : decode cX7_unitsOf 37 = .ok (.iconst 0, 1) := by decide +kernel
theorem dX7_unitsOf_38 : decode cX7_unitsOf 38 = .ok (.iadd, 1) := by decide +kernel
theorem dX7_unitsOf_39 : decode cX7_unitsOf 39 = .ok (.istore_n 3, 1) := by decide +kernel
theorem dX7_unitsOf_40 : decode cX7_unitsOf 40 = .ok (.iinc 4 1, 3) := by decide +kernel
theorem dX7_unitsOf_43 : decode cX7_unitsOf 43 = .ok (.goto (-38), 3) := by decide +kernel
theorem dX7_unitsOf_46 : decode cX7_unitsOf 46 = .ok (.iload_n 3, 1) := by decide +kernel
theorem dX7_unitsOf_47 : decode cX7_unitsOf 47 = .ok (.ireturn, 1) := by decide +kernel
theorem dX7_paid_0 : decode cX7_paid 0 = .ok (.aload_n 0, 1) := by decide +kernel
theorem dX7_paid_1 : decode cX7_paid 1 = .ok (.aload_n 1, 1) := by decide +kernel
theorem dX7_paid_2 : decode cX7_paid 2 = .ok (.aload_n 0, 1) := by decide +kernel
theorem dX7_paid_3 : decode cX7_paid 3 = .ok (.invokevirtual 147, 3) := by decide +kernel
theorem dX7_paid_6 : decode cX7_paid 6 = .ok (.iconst 1, 1) := by decide +kernel
theorem dX7_paid_7 : decode cX7_paid 7 = .ok (.iload_n 2, 1) := by decide +kernel
theorem dX7_paid_8 : decode cX7_paid 8 = .ok (.ishl, 1) := by decide +kernel
theorem dX7_paid_9 : decode cX7_paid 9 = .ok (.iconst (-1), 1) := by decide +kernel
theorem dX7_paid_10 : decode cX7_paid 10 = .ok (.ixor, 1) := by decide +kernel
theorem dX7_paid_11 : decode cX7_paid 11 = .ok (.iand, 1) := by decide +kernel
theorem dX7_paid_12 : decode cX7_paid 12 = .ok (.invokevirtual 150, 3) := by decide +kernel
theorem dX7_paid_15 : decode cX7_paid 15 = .ok (.istore_n 3, 1) := by decide +kernel
theorem dX7_paid_16 : decode cX7_paid 16 = .ok (.aload_n 0, 1) := by decide +kernel
theorem dX7_paid_17 : decode cX7_paid 17 = .ok (.aload_n 1, 1) := by decide +kernel
theorem dX7_paid_18 : decode cX7_paid 18 = .ok (.aload_n 0, 1) := by decide +kernel
theorem dX7_paid_19 : decode cX7_paid 19 = .ok (.invokevirtual 147, 3) := by decide +kernel
theorem dX7_paid_22 : decode cX7_paid 22 = .ok (.invokevirtual 150, 3) := by decide +kernel
theorem dX7_paid_25 : decode cX7_paid 25 = .ok (.istore 4, 2) := by decide +kernel
theorem dX7_paid_27 : decode cX7_paid 27 = .ok (.iload_n 3, 1) := by decide +kernel
theorem dX7_paid_28 : decode cX7_paid 28 = .ok (.bipush (-9), 2) := by decide +kernel
theorem dX7_paid_30 : decode cX7_paid 30 = .ok (.if_icmp .eq 10, 3) := by decide +kernel
theorem dX7_paid_33 : decode cX7_paid 33 = .ok (.iload 4, 2) := by decide +kernel
theorem dX7_paid_35 : decode cX7_paid 35 = .ok (.bipush (-9), 2) := by decide +kernel
theorem dX7_paid_37 : decode cX7_paid 37 = .ok (.if_icmp .ne 8, 3) := by decide +kernel
theorem dX7_paid_40 : decode cX7_paid 40 = .ok (.bipush (-9), 2) := by decide +kernel
theorem dX7_paid_42 : decode cX7_paid 42 = .ok (.goto 21, 3) := by decide +kernel
theorem dX7_paid_45 : decode cX7_paid 45 = .ok (.aload_n 0, 1) := by decide +kernel
theorem dX7_paid_46 : decode cX7_paid 46 = .ok (.aload_n 1, 1) := by decide +kernel
theorem dX7_paid_47 : decode cX7_paid 47 = .ok (.iload_n 2, 1) := by decide +kernel
theorem dX7_paid_48 : decode cX7_paid 48 = .ok (.invokevirtual 154, 3) := by decide +kernel
theorem dX7_paid_51 : decode cX7_paid 51 = .ok (.aload_n 1, 1) := by decide +kernel
theorem dX7_paid_52 : decode cX7_paid 52 = .ok (.bipush 8, 2) := by decide +kernel
theorem dX7_paid_54 : decode cX7_paid 54 = .ok (.iload_n 2, 1) := by decide +kernel
theorem dX7_paid_55 : decode cX7_paid 55 = .ok (.iadd, 1) := by decide +kernel
theorem dX7_paid_56 : decode cX7_paid 56 = .ok (.iaload, 1) := by decide +kernel
theorem dX7_paid_57 : decode cX7_paid 57 = .ok (.imul, 1) := by decide +kernel
theorem dX7_paid_58 : decode cX7_paid 58 = .ok (.iload_n 3, 1) := by decide +kernel
theorem dX7_paid_59 : decode cX7_paid 59 = .ok (.iadd, 1) := by decide +kernel
theorem dX7_paid_60 : decode cX7_paid 60 = .ok (.iload 4, 2) := by decide +kernel
theorem dX7_paid_62 : decode cX7_paid 62 = .ok (.isub, 1) := by decide +kernel
theorem dX7_paid_63 : decode cX7_paid 63 = .ok (.ireturn, 1) := by decide +kernel
theorem dX7_mostOf_0 : decode cX7_mostOf 0 = .ok (.iconst 0, 1) := by decide +kernel
theorem dX7_mostOf_1 : decode cX7_mostOf 1 = .ok (.istore_n 3, 1) := by decide +kernel
theorem dX7_mostOf_2 : decode cX7_mostOf 2 = .ok (.iconst 0, 1) := by decide +kernel
theorem dX7_mostOf_3 : decode cX7_mostOf 3 = .ok (.istore 4, 2) := by decide +kernel
theorem dX7_mostOf_5 : decode cX7_mostOf 5 = .ok (.iload 4, 2) := by decide +kernel
theorem dX7_mostOf_7 : decode cX7_mostOf 7 = .ok (.bipush 6, 2) := by decide +kernel
theorem dX7_mostOf_9 : decode cX7_mostOf 9 = .ok (.aload_n 0, 1) := by decide +kernel
theorem dX7_mostOf_10 : decode cX7_mostOf 10 = .ok (.getfield 63, 3) := by decide +kernel
theorem dX7_mostOf_13 : decode cX7_mostOf 13 = .ok (.invokestatic 116, 3) := by decide +kernel
theorem dX7_mostOf_16 : decode cX7_mostOf 16 = .ok (.if_icmp .ge 83, 3) := by decide +kernel
theorem dX7_mostOf_19 : decode cX7_mostOf 19 = .ok (.aload_n 0, 1) := by decide +kernel
theorem dX7_mostOf_20 : decode cX7_mostOf 20 = .ok (.aload_n 1, 1) := by decide +kernel
theorem dX7_mostOf_21 : decode cX7_mostOf 21 = .ok (.iload 4, 2) := by decide +kernel
theorem dX7_mostOf_23 : decode cX7_mostOf 23 = .ok (.bipush 6, 2) := by decide +kernel
theorem dX7_mostOf_25 : decode cX7_mostOf 25 = .ok (.iload_n 2, 1) := by decide +kernel
theorem dX7_mostOf_26 : decode cX7_mostOf 26 = .ok (.invokevirtual 139, 3) := by decide +kernel
theorem dX7_mostOf_29 : decode cX7_mostOf 29 = .ok (.bipush (-9), 2) := by decide +kernel
theorem dX7_mostOf_31 : decode cX7_mostOf 31 = .ok (.if_icmp .eq 62, 3) := by decide +kernel
theorem dX7_mostOf_34 : decode cX7_mostOf 34 = .ok (.iconst 0, 1) := by decide +kernel
theorem dX7_mostOf_35 : decode cX7_mostOf 35 = .ok (.istore 5, 2) := by decide +kernel
theorem dX7_mostOf_37 : decode cX7_mostOf 37 = .ok (.iconst 0, 1) := by decide +kernel
theorem dX7_mostOf_38 : decode cX7_mostOf 38 = .ok (.istore 6, 2) := by decide +kernel
theorem dX7_mostOf_40 : decode cX7_mostOf 40 = .ok (.iload 6, 2) := by decide +kernel
theorem dX7_mostOf_42 : decode cX7_mostOf 42 = .ok (.aload_n 0, 1) := by decide +kernel
theorem dX7_mostOf_43 : decode cX7_mostOf 43 = .ok (.getfield 63, 3) := by decide +kernel
theorem dX7_mostOf_46 : decode cX7_mostOf 46 = .ok (.if_icmp .ge 34, 3) := by decide +kernel
theorem dX7_mostOf_49 : decode cX7_mostOf 49 = .ok (.iload 5, 2) := by decide +kernel
theorem dX7_mostOf_51 : decode cX7_mostOf 51 = .ok (.aload_n 0, 1) := by decide +kernel
theorem dX7_mostOf_52 : decode cX7_mostOf 52 = .ok (.iload 4, 2) := by decide +kernel
theorem dX7_mostOf_54 : decode cX7_mostOf 54 = .ok (.bipush 6, 2) := by decide +kernel
theorem dX7_mostOf_56 : decode cX7_mostOf 56 = .ok (.iload 6, 2) := by decide +kernel
theorem dX7_mostOf_58 : decode cX7_mostOf 58 = .ok (.invokevirtual 119, 3) := by decide +kernel
theorem dX7_mostOf_61 : decode cX7_mostOf 61 = .ok (.bipush 10, 2) := by decide +kernel
theorem dX7_mostOf_63 : decode cX7_mostOf 63 = .ok (.if_icmp .ne 7, 3) := by decide +kernel
theorem dX7_mostOf_66 : decode cX7_mostOf 66 = .ok (.iconst 0, 1) := by decide +kernel
theorem dX7_mostOf_67 : decode cX7_mostOf 67 = .ok (.goto 4, 3) := by decide +kernel
theorem dX7_mostOf_70 : decode cX7_mostOf 70 = .ok (.iconst 1, 1) := by decide +kernel
theorem dX7_mostOf_71 : decode cX7_mostOf 71 = .ok (.iadd, 1) := by decide +kernel
theorem dX7_mostOf_72 : decode cX7_mostOf 72 = .ok (.istore 5, 2) := by decide +kernel
theorem dX7_mostOf_74 : decode cX7_mostOf 74 = .ok (.iinc 6 1, 3) := by decide +kernel
theorem dX7_mostOf_77 : decode cX7_mostOf 77 = .ok (.goto (-37), 3) := by decide +kernel
theorem dX7_mostOf_80 : decode cX7_mostOf 80 = .ok (.iload 5, 2) := by decide +kernel
theorem dX7_mostOf_82 : decode cX7_mostOf 82 = .ok (.iload_n 3, 1) := by decide +kernel
theorem dX7_mostOf_83 : decode cX7_mostOf 83 = .ok (.if_icmp .le 8, 3) := by decide +kernel
theorem dX7_mostOf_86 : decode cX7_mostOf 86 = .ok (.iload 5, 2) := by decide +kernel
theorem dX7_mostOf_88 : decode cX7_mostOf 88 = .ok (.goto 4, 3) := by decide +kernel
theorem dX7_mostOf_91 : decode cX7_mostOf 91 = .ok (.iload_n 3, 1) := by decide +kernel
theorem dX7_mostOf_92 : decode cX7_mostOf 92 = .ok (.istore_n 3, 1) := by decide +kernel
theorem dX7_mostOf_93 : decode cX7_mostOf 93 = .ok (.iinc 4 1, 3) := by decide +kernel
theorem dX7_mostOf_96 : decode cX7_mostOf 96 = .ok (.goto (-91), 3) := by decide +kernel
theorem dX7_mostOf_99 : decode cX7_mostOf 99 = .ok (.iload_n 3, 1) := by decide +kernel
theorem dX7_mostOf_100 : decode cX7_mostOf 100 = .ok (.ireturn, 1) := by decide +kernel
theorem dX7_run_0 : decode cX7_run 0 = .ok (.aload_n 0, 1) := by decide +kernel
theorem dX7_run_1 : decode cX7_run 1 = .ok (.invokevirtual 157, 3) := by decide +kernel
theorem dX7_run_4 : decode cX7_run 4 = .ok (.aload_n 0, 1) := by decide +kernel
theorem dX7_run_5 : decode cX7_run 5 = .ok (.iconst 0, 1) := by decide +kernel
theorem dX7_run_6 : decode cX7_run 6 = .ok (.putfield 160, 3) := by decide +kernel
theorem dX7_run_9 : decode cX7_run 9 = .ok (.aload_n 0, 1) := by decide +kernel
theorem dX7_run_10 : decode cX7_run 10 = .ok (.bipush (-9), 2) := by decide +kernel
theorem dX7_run_12 : decode cX7_run 12 = .ok (.putfield 163, 3) := by decide +kernel
theorem dX7_run_15 : decode cX7_run 15 = .ok (.aload_n 0, 1) := by decide +kernel
theorem dX7_run_16 : decode cX7_run 16 = .ok (.iconst 0, 1) := by decide +kernel
theorem dX7_run_17 : decode cX7_run 17 = .ok (.putfield 166, 3) := by decide +kernel
theorem dX7_run_20 : decode cX7_run 20 = .ok (.aload_n 0, 1) := by decide +kernel
theorem dX7_run_21 : decode cX7_run 21 = .ok (.getfield 63, 3) := by decide +kernel
theorem dX7_run_24 : decode cX7_run 24 = .ok (.ifCond .le 7, 3) := by decide +kernel
theorem dX7_run_27 : decode cX7_run 27 = .ok (.iconst 1, 1) := by decide +kernel
theorem dX7_run_28 : decode cX7_run 28 = .ok (.goto 4, 3) := by decide +kernel
theorem dX7_run_31 : decode cX7_run 31 = .ok (.iconst 0, 1) := by decide +kernel
theorem dX7_run_32 : decode cX7_run 32 = .ok (.istore_n 1, 1) := by decide +kernel
theorem dX7_run_33 : decode cX7_run 33 = .ok (.iconst 0, 1) := by decide +kernel
theorem dX7_run_34 : decode cX7_run 34 = .ok (.istore_n 2, 1) := by decide +kernel
theorem dX7_run_35 : decode cX7_run 35 = .ok (.iload_n 2, 1) := by decide +kernel
theorem dX7_run_36 : decode cX7_run 36 = .ok (.bipush 40, 2) := by decide +kernel
theorem dX7_run_38 : decode cX7_run 38 = .ok (.if_icmp .ge 158, 3) := by decide +kernel
theorem dX7_run_41 : decode cX7_run 41 = .ok (.iload_n 1, 1) := by decide +kernel
theorem dX7_run_42 : decode cX7_run 42 = .ok (.ifCond .eq 154, 3) := by decide +kernel
theorem dX7_run_45 : decode cX7_run 45 = .ok (.aload_n 0, 1) := by decide +kernel
theorem dX7_run_46 : decode cX7_run 46 = .ok (.aload_n 0, 1) := by decide +kernel
theorem dX7_run_47 : decode cX7_run 47 = .ok (.getfield 22, 3) := by decide +kernel
theorem dX7_run_50 : decode cX7_run 50 = .ok (.aload_n 0, 1) := by decide +kernel
theorem dX7_run_51 : decode cX7_run 51 = .ok (.invokevirtual 147, 3) := by decide +kernel
theorem dX7_run_54 : decode cX7_run 54 = .ok (.invokevirtual 143, 3) := by decide +kernel
theorem dX7_run_57 : decode cX7_run 57 = .ok (.aload_n 0, 1) := by decide +kernel
theorem dX7_run_58 : decode cX7_run 58 = .ok (.getfield 133, 3) := by decide +kernel
theorem dX7_run_61 : decode cX7_run 61 = .ok (.bipush (-9), 2) := by decide +kernel
theorem dX7_run_63 : decode cX7_run 63 = .ok (.if_icmp .eq 7, 3) := by decide +kernel
theorem dX7_run_66 : decode cX7_run 66 = .ok (.iconst 1, 1) := by decide +kernel
theorem dX7_run_67 : decode cX7_run 67 = .ok (.goto 4, 3) := by decide +kernel
theorem dX7_run_70 : decode cX7_run 70 = .ok (.iconst 0, 1) := by decide +kernel
theorem dX7_run_71 : decode cX7_run 71 = .ok (.istore_n 1, 1) := by decide +kernel
theorem dX7_run_72 : decode cX7_run 72 = .ok (.iload_n 1, 1) := by decide +kernel
theorem dX7_run_73 : decode cX7_run 73 = .ok (.ifCond .eq 117, 3) := by decide +kernel
theorem dX7_run_76 : decode cX7_run 76 = .ok (.iconst 0, 1) := by decide +kernel
theorem dX7_run_77 : decode cX7_run 77 = .ok (.istore_n 3, 1) := by decide +kernel
theorem dX7_run_78 : decode cX7_run 78 = .ok (.iload_n 3, 1) := by decide +kernel
theorem dX7_run_79 : decode cX7_run 79 = .ok (.aload_n 0, 1) := by decide +kernel
theorem dX7_run_80 : decode cX7_run 80 = .ok (.getfield 63, 3) := by decide +kernel
theorem dX7_run_83 : decode cX7_run 83 = .ok (.if_icmp .ge 48, 3) := by decide +kernel
theorem dX7_run_86 : decode cX7_run 86 = .ok (.aload_n 0, 1) := by decide +kernel
theorem dX7_run_87 : decode cX7_run 87 = .ok (.aload_n 0, 1) := by decide +kernel
theorem dX7_run_88 : decode cX7_run 88 = .ok (.getfield 163, 3) := by decide +kernel
theorem dX7_run_91 : decode cX7_run 91 = .ok (.bipush (-9), 2) := by decide +kernel
theorem dX7_run_93 : decode cX7_run 93 = .ok (.if_icmp .ne 25, 3) := by decide +kernel
theorem dX7_run_96 : decode cX7_run 96 = .ok (.aload_n 0, 1) := by decide +kernel
theorem dX7_run_97 : decode cX7_run 97 = .ok (.aload_n 0, 1) := by decide +kernel
theorem dX7_run_98 : decode cX7_run 98 = .ok (.getfield 136, 3) := by decide +kernel
theorem dX7_run_101 : decode cX7_run 101 = .ok (.iconst 5, 1) := by decide +kernel
theorem dX7_run_102 : decode cX7_run 102 = .ok (.iload_n 3, 1) := by decide +kernel
theorem dX7_run_103 : decode cX7_run 103 = .ok (.invokevirtual 119, 3) := by decide +kernel
theorem dX7_run_106 : decode cX7_run 106 = .ok (.bipush 9, 2) := by decide +kernel
theorem dX7_run_108 : decode cX7_run 108 = .ok (.if_icmp .ne 10, 3) := by decide +kernel
theorem dX7_run_111 : decode cX7_run 111 = .ok (.aload_n 0, 1) := by decide +kernel
theorem dX7_run_112 : decode cX7_run 112 = .ok (.getfield 160, 3) := by decide +kernel
theorem dX7_run_115 : decode cX7_run 115 = .ok (.goto 7, 3) := by decide +kernel
theorem dX7_run_118 : decode cX7_run 118 = .ok (.aload_n 0, 1) := by decide +kernel
theorem dX7_run_119 : decode cX7_run 119 = .ok (.getfield 163, 3) := by decide +kernel
theorem dX7_run_122 : decode cX7_run 122 = .ok (.putfield 163, 3) := by decide +kernel
theorem dX7_run_125 : decode cX7_run 125 = .ok (.iinc 3 1, 3) := by decide +kernel
theorem dX7_run_128 : decode cX7_run 128 = .ok (.goto (-50), 3) := by decide +kernel
theorem dX7_run_131 : decode cX7_run 131 = .ok (.iconst 0, 1) := by decide +kernel
theorem dX7_run_132 : decode cX7_run 132 = .ok (.istore_n 3, 1) := by decide +kernel
theorem dX7_run_133 : decode cX7_run 133 = .ok (.iload_n 3, 1) := by decide +kernel
theorem dX7_run_134 : decode cX7_run 134 = .ok (.aload_n 0, 1) := by decide +kernel
theorem dX7_run_135 : decode cX7_run 135 = .ok (.getfield 71, 3) := by decide +kernel
theorem dX7_run_138 : decode cX7_run 138 = .ok (.if_icmp .ge 29, 3) := by decide +kernel
theorem dX7_run_141 : decode cX7_run 141 = .ok (.aload_n 0, 1) := by decide +kernel
theorem dX7_run_142 : decode cX7_run 142 = .ok (.getfield 22, 3) := by decide +kernel
theorem dX7_run_145 : decode cX7_run 145 = .ok (.iconst 4, 1) := by decide +kernel
theorem dX7_run_146 : decode cX7_run 146 = .ok (.iload_n 3, 1) := by decide +kernel
theorem dX7_run_147 : decode cX7_run 147 = .ok (.iadd, 1) := by decide +kernel
theorem dX7_run_148 : decode cX7_run 148 = .ok (.dup2, 1) := by decide +kernel
theorem dX7_run_149 : decode cX7_run 149 = .ok (.iaload, 1) := by decide +kernel
theorem dX7_run_150 : decode cX7_run 150 = .ok (.aload_n 0, 1) := by decide +kernel
theorem dX7_run_151 : decode cX7_run 151 = .ok (.aload_n 0, 1) := by decide +kernel
theorem dX7_run_152 : decode cX7_run 152 = .ok (.getfield 22, 3) := by decide +kernel
theorem dX7_run_155 : decode cX7_run 155 = .ok (.iload_n 3, 1) := by decide +kernel
theorem dX7_run_156 : decode cX7_run 156 = .ok (.invokevirtual 154, 3) := by decide +kernel
theorem dX7_run_159 : decode cX7_run 159 = .ok (.isub, 1) := by decide +kernel
theorem dX7_run_160 : decode cX7_run 160 = .ok (.iastore, 1) := by decide +kernel
theorem dX7_run_161 : decode cX7_run 161 = .ok (.iinc 3 1, 3) := by decide +kernel
theorem dX7_run_164 : decode cX7_run 164 = .ok (.goto (-31), 3) := by decide +kernel
theorem dX7_run_167 : decode cX7_run 167 = .ok (.aload_n 0, 1) := by decide +kernel
theorem dX7_run_168 : decode cX7_run 168 = .ok (.dup, 1) := by decide +kernel
theorem dX7_run_169 : decode cX7_run 169 = .ok (.getfield 166, 3) := by decide +kernel
theorem dX7_run_172 : decode cX7_run 172 = .ok (.aload_n 0, 1) := by decide +kernel
theorem dX7_run_173 : decode cX7_run 173 = .ok (.getfield 133, 3) := by decide +kernel
theorem dX7_run_176 : decode cX7_run 176 = .ok (.iadd, 1) := by decide +kernel
theorem dX7_run_177 : decode cX7_run 177 = .ok (.putfield 166, 3) := by decide +kernel
theorem dX7_run_180 : decode cX7_run 180 = .ok (.aload_n 0, 1) := by decide +kernel
theorem dX7_run_181 : decode cX7_run 181 = .ok (.dup, 1) := by decide +kernel
theorem dX7_run_182 : decode cX7_run 182 = .ok (.getfield 160, 3) := by decide +kernel
theorem dX7_run_185 : decode cX7_run 185 = .ok (.iconst 1, 1) := by decide +kernel
theorem dX7_run_186 : decode cX7_run 186 = .ok (.iadd, 1) := by decide +kernel
theorem dX7_run_187 : decode cX7_run 187 = .ok (.putfield 160, 3) := by decide +kernel
theorem dX7_run_190 : decode cX7_run 190 = .ok (.iinc 2 1, 3) := by decide +kernel
theorem dX7_run_193 : decode cX7_run 193 = .ok (.goto (-158), 3) := by decide +kernel
theorem dX7_run_196 : decode cX7_run 196 = .ok (.return_, 1) := by decide +kernel
theorem dX7_layTrial_0 : decode cX7_layTrial 0 = .ok (.iconst 0, 1) := by decide +kernel
theorem dX7_layTrial_1 : decode cX7_layTrial 1 = .ok (.istore_n 1, 1) := by decide +kernel
theorem dX7_layTrial_2 : decode cX7_layTrial 2 = .ok (.iload_n 1, 1) := by decide +kernel
theorem dX7_layTrial_3 : decode cX7_layTrial 3 = .ok (.bipush 13, 2) := by decide +kernel
theorem dX7_layTrial_5 : decode cX7_layTrial 5 = .ok (.if_icmp .ge 21, 3) := by decide +kernel
theorem dX7_layTrial_8 : decode cX7_layTrial 8 = .ok (.aload_n 0, 1) := by decide +kernel
theorem dX7_layTrial_9 : decode cX7_layTrial 9 = .ok (.getfield 22, 3) := by decide +kernel
theorem dX7_layTrial_12 : decode cX7_layTrial 12 = .ok (.iload_n 1, 1) := by decide +kernel
theorem dX7_layTrial_13 : decode cX7_layTrial 13 = .ok (.aload_n 0, 1) := by decide +kernel
theorem dX7_layTrial_14 : decode cX7_layTrial 14 = .ok (.getfield 19, 3) := by decide +kernel
theorem dX7_layTrial_17 : decode cX7_layTrial 17 = .ok (.iload_n 1, 1) := by decide +kernel
theorem dX7_layTrial_18 : decode cX7_layTrial 18 = .ok (.iaload, 1) := by decide +kernel
theorem dX7_layTrial_19 : decode cX7_layTrial 19 = .ok (.iastore, 1) := by decide +kernel
theorem dX7_layTrial_20 : decode cX7_layTrial 20 = .ok (.iinc 1 1, 3) := by decide +kernel
theorem dX7_layTrial_23 : decode cX7_layTrial 23 = .ok (.goto (-21), 3) := by decide +kernel
theorem dX7_layTrial_26 : decode cX7_layTrial 26 = .ok (.return_, 1) := by decide +kernel
theorem dX7_about_0 : decode cX7_about 0 = .ok (.iload_n 1, 1) := by decide +kernel
theorem dX7_about_1 : decode cX7_about 1 = .ok (.tableswitch 119 0 8 #[51, 56, 61, 69, 82, 95, 104, 109, 114], 51) := by decide +kernel
theorem dX7_about_52 : decode cX7_about 52 = .ok (.aload_n 0, 1) := by decide +kernel
theorem dX7_about_53 : decode cX7_about 53 = .ok (.getfield 63, 3) := by decide +kernel
theorem dX7_about_56 : decode cX7_about 56 = .ok (.ireturn, 1) := by decide +kernel
theorem dX7_about_57 : decode cX7_about 57 = .ok (.aload_n 0, 1) := by decide +kernel
theorem dX7_about_58 : decode cX7_about 58 = .ok (.getfield 71, 3) := by decide +kernel
theorem dX7_about_61 : decode cX7_about 61 = .ok (.ireturn, 1) := by decide +kernel
theorem dX7_about_62 : decode cX7_about 62 = .ok (.aload_n 0, 1) := by decide +kernel
theorem dX7_about_63 : decode cX7_about 63 = .ok (.getfield 19, 3) := by decide +kernel
theorem dX7_about_66 : decode cX7_about 66 = .ok (.bipush 12, 2) := by decide +kernel
theorem dX7_about_68 : decode cX7_about 68 = .ok (.iaload, 1) := by decide +kernel
theorem dX7_about_69 : decode cX7_about 69 = .ok (.ireturn, 1) := by decide +kernel
theorem dX7_about_70 : decode cX7_about 70 = .ok (.aload_n 0, 1) := by decide +kernel
theorem dX7_about_71 : decode cX7_about 71 = .ok (.aload_n 0, 1) := by decide +kernel
theorem dX7_about_72 : decode cX7_about 72 = .ok (.getfield 19, 3) := by decide +kernel
theorem dX7_about_75 : decode cX7_about 75 = .ok (.aload_n 0, 1) := by decide +kernel
theorem dX7_about_76 : decode cX7_about 76 = .ok (.invokevirtual 147, 3) := by decide +kernel
theorem dX7_about_79 : decode cX7_about 79 = .ok (.invokevirtual 150, 3) := by decide +kernel
theorem dX7_about_82 : decode cX7_about 82 = .ok (.ireturn, 1) := by decide +kernel
theorem dX7_about_83 : decode cX7_about 83 = .ok (.aload_n 0, 1) := by decide +kernel
theorem dX7_about_84 : decode cX7_about 84 = .ok (.aload_n 0, 1) := by decide +kernel
theorem dX7_about_85 : decode cX7_about 85 = .ok (.getfield 19, 3) := by decide +kernel
theorem dX7_about_88 : decode cX7_about 88 = .ok (.aload_n 0, 1) := by decide +kernel
theorem dX7_about_89 : decode cX7_about 89 = .ok (.invokevirtual 147, 3) := by decide +kernel
theorem dX7_about_92 : decode cX7_about 92 = .ok (.invokevirtual 169, 3) := by decide +kernel
theorem dX7_about_95 : decode cX7_about 95 = .ok (.ireturn, 1) := by decide +kernel
theorem dX7_about_96 : decode cX7_about 96 = .ok (.aload_n 0, 1) := by decide +kernel
theorem dX7_about_97 : decode cX7_about 97 = .ok (.invokevirtual 172, 3) := by decide +kernel
theorem dX7_about_100 : decode cX7_about 100 = .ok (.aload_n 0, 1) := by decide +kernel
theorem dX7_about_101 : decode cX7_about 101 = .ok (.getfield 160, 3) := by decide +kernel
theorem dX7_about_104 : decode cX7_about 104 = .ok (.ireturn, 1) := by decide +kernel
theorem dX7_about_105 : decode cX7_about 105 = .ok (.aload_n 0, 1) := by decide +kernel
theorem dX7_about_106 : decode cX7_about 106 = .ok (.getfield 113, 3) := by decide +kernel
theorem dX7_about_109 : decode cX7_about 109 = .ok (.ireturn, 1) := by decide +kernel
theorem dX7_about_110 : decode cX7_about 110 = .ok (.aload_n 0, 1) := by decide +kernel
theorem dX7_about_111 : decode cX7_about 111 = .ok (.getfield 175, 3) := by decide +kernel
theorem dX7_about_114 : decode cX7_about 114 = .ok (.ireturn, 1) := by decide +kernel
theorem dX7_about_115 : decode cX7_about 115 = .ok (.aload_n 0, 1) := by decide +kernel
theorem dX7_about_116 : decode cX7_about 116 = .ok (.getfield 76, 3) := by decide +kernel
theorem dX7_about_119 : decode cX7_about 119 = .ok (.ireturn, 1) := by decide +kernel
theorem dX7_about_120 : decode cX7_about 120 = .ok (.bipush (-2), 2) := by decide +kernel
theorem dX7_about_122 : decode cX7_about 122 = .ok (.ireturn, 1) := by decide +kernel
theorem dX7_field_0 : decode cX7_field 0 = .ok (.aload_n 0, 1) := by decide +kernel
theorem dX7_field_1 : decode cX7_field 1 = .ok (.iload_n 1, 1) := by decide +kernel
theorem dX7_field_2 : decode cX7_field 2 = .ok (.invokevirtual 178, 3) := by decide +kernel
theorem dX7_field_5 : decode cX7_field 5 = .ok (.ifCond .ne 5, 3) := by decide +kernel
theorem dX7_field_8 : decode cX7_field 8 = .ok (.iconst (-1), 1) := by decide +kernel
theorem dX7_field_9 : decode cX7_field 9 = .ok (.ireturn, 1) := by decide +kernel
theorem dX7_field_10 : decode cX7_field 10 = .ok (.iload_n 2, 1) := by decide +kernel
theorem dX7_field_11 : decode cX7_field 11 = .ok (.tableswitch 72 0 2 #[25, 32, 39], 25) := by decide +kernel
theorem dX7_field_36 : decode cX7_field 36 = .ok (.aload_n 0, 1) := by decide +kernel
theorem dX7_field_37 : decode cX7_field 37 = .ok (.getfield 13, 3) := by decide +kernel
theorem dX7_field_40 : decode cX7_field 40 = .ok (.iload_n 1, 1) := by decide +kernel
theorem dX7_field_41 : decode cX7_field 41 = .ok (.iaload, 1) := by decide +kernel
theorem dX7_field_42 : decode cX7_field 42 = .ok (.ireturn, 1) := by decide +kernel
theorem dX7_field_43 : decode cX7_field 43 = .ok (.aload_n 0, 1) := by decide +kernel
theorem dX7_field_44 : decode cX7_field 44 = .ok (.getfield 19, 3) := by decide +kernel
theorem dX7_field_47 : decode cX7_field 47 = .ok (.iload_n 1, 1) := by decide +kernel
theorem dX7_field_48 : decode cX7_field 48 = .ok (.iaload, 1) := by decide +kernel
theorem dX7_field_49 : decode cX7_field 49 = .ok (.ireturn, 1) := by decide +kernel
theorem dX7_field_50 : decode cX7_field 50 = .ok (.aload_n 0, 1) := by decide +kernel
theorem dX7_field_51 : decode cX7_field 51 = .ok (.aload_n 0, 1) := by decide +kernel
theorem dX7_field_52 : decode cX7_field 52 = .ok (.getfield 19, 3) := by decide +kernel
theorem dX7_field_55 : decode cX7_field 55 = .ok (.aload_n 0, 1) := by decide +kernel
theorem dX7_field_56 : decode cX7_field 56 = .ok (.invokevirtual 147, 3) := by decide +kernel
theorem dX7_field_59 : decode cX7_field 59 = .ok (.invokevirtual 150, 3) := by decide +kernel
theorem dX7_field_62 : decode cX7_field 62 = .ok (.bipush (-9), 2) := by decide +kernel
theorem dX7_field_64 : decode cX7_field 64 = .ok (.if_icmp .ne 8, 3) := by decide +kernel
theorem dX7_field_67 : decode cX7_field 67 = .ok (.bipush (-9), 2) := by decide +kernel
theorem dX7_field_69 : decode cX7_field 69 = .ok (.goto 13, 3) := by decide +kernel
theorem dX7_field_72 : decode cX7_field 72 = .ok (.aload_n 0, 1) := by decide +kernel
theorem dX7_field_73 : decode cX7_field 73 = .ok (.aload_n 0, 1) := by decide +kernel
theorem dX7_field_74 : decode cX7_field 74 = .ok (.getfield 136, 3) := by decide +kernel
theorem dX7_field_77 : decode cX7_field 77 = .ok (.iconst 5, 1) := by decide +kernel
theorem dX7_field_78 : decode cX7_field 78 = .ok (.iload_n 1, 1) := by decide +kernel
theorem dX7_field_79 : decode cX7_field 79 = .ok (.invokevirtual 119, 3) := by decide +kernel
theorem dX7_field_82 : decode cX7_field 82 = .ok (.ireturn, 1) := by decide +kernel
theorem dX7_field_83 : decode cX7_field 83 = .ok (.bipush (-2), 2) := by decide +kernel
theorem dX7_field_85 : decode cX7_field 85 = .ok (.ireturn, 1) := by decide +kernel
theorem dX7_maker_0 : decode cX7_maker 0 = .ok (.aload_n 0, 1) := by decide +kernel
theorem dX7_maker_1 : decode cX7_maker 1 = .ok (.iload_n 1, 1) := by decide +kernel
theorem dX7_maker_2 : decode cX7_maker 2 = .ok (.invokevirtual 123, 3) := by decide +kernel
theorem dX7_maker_5 : decode cX7_maker 5 = .ok (.ifCond .ne 5, 3) := by decide +kernel
theorem dX7_maker_8 : decode cX7_maker 8 = .ok (.iconst (-1), 1) := by decide +kernel
theorem dX7_maker_9 : decode cX7_maker 9 = .ok (.ireturn, 1) := by decide +kernel
theorem dX7_maker_10 : decode cX7_maker 10 = .ok (.iload_n 2, 1) := by decide +kernel
theorem dX7_maker_11 : decode cX7_maker 11 = .ok (.tableswitch 101 0 4 #[33, 40, 49, 59, 91], 33) := by decide +kernel
theorem dX7_maker_44 : decode cX7_maker 44 = .ok (.aload_n 0, 1) := by decide +kernel
theorem dX7_maker_45 : decode cX7_maker 45 = .ok (.getfield 16, 3) := by decide +kernel
theorem dX7_maker_48 : decode cX7_maker 48 = .ok (.iload_n 1, 1) := by decide +kernel
theorem dX7_maker_49 : decode cX7_maker 49 = .ok (.iaload, 1) := by decide +kernel
theorem dX7_maker_50 : decode cX7_maker 50 = .ok (.ireturn, 1) := by decide +kernel
theorem dX7_maker_51 : decode cX7_maker 51 = .ok (.aload_n 0, 1) := by decide +kernel
theorem dX7_maker_52 : decode cX7_maker 52 = .ok (.getfield 19, 3) := by decide +kernel
theorem dX7_maker_55 : decode cX7_maker 55 = .ok (.iconst 4, 1) := by decide +kernel
theorem dX7_maker_56 : decode cX7_maker 56 = .ok (.iload_n 1, 1) := by decide +kernel
theorem dX7_maker_57 : decode cX7_maker 57 = .ok (.iadd, 1) := by decide +kernel
theorem dX7_maker_58 : decode cX7_maker 58 = .ok (.iaload, 1) := by decide +kernel
theorem dX7_maker_59 : decode cX7_maker 59 = .ok (.ireturn, 1) := by decide +kernel
theorem dX7_maker_60 : decode cX7_maker 60 = .ok (.aload_n 0, 1) := by decide +kernel
theorem dX7_maker_61 : decode cX7_maker 61 = .ok (.getfield 19, 3) := by decide +kernel
theorem dX7_maker_64 : decode cX7_maker 64 = .ok (.bipush 8, 2) := by decide +kernel
theorem dX7_maker_66 : decode cX7_maker 66 = .ok (.iload_n 1, 1) := by decide +kernel
theorem dX7_maker_67 : decode cX7_maker 67 = .ok (.iadd, 1) := by decide +kernel
theorem dX7_maker_68 : decode cX7_maker 68 = .ok (.iaload, 1) := by decide +kernel
theorem dX7_maker_69 : decode cX7_maker 69 = .ok (.ireturn, 1) := by decide +kernel
theorem dX7_maker_70 : decode cX7_maker 70 = .ok (.aload_n 0, 1) := by decide +kernel
theorem dX7_maker_71 : decode cX7_maker 71 = .ok (.aload_n 0, 1) := by decide +kernel
theorem dX7_maker_72 : decode cX7_maker 72 = .ok (.getfield 19, 3) := by decide +kernel
theorem dX7_maker_75 : decode cX7_maker 75 = .ok (.aload_n 0, 1) := by decide +kernel
theorem dX7_maker_76 : decode cX7_maker 76 = .ok (.invokevirtual 147, 3) := by decide +kernel
theorem dX7_maker_79 : decode cX7_maker 79 = .ok (.invokevirtual 150, 3) := by decide +kernel
theorem dX7_maker_82 : decode cX7_maker 82 = .ok (.bipush (-9), 2) := by decide +kernel
theorem dX7_maker_84 : decode cX7_maker 84 = .ok (.if_icmp .ne 8, 3) := by decide +kernel
theorem dX7_maker_87 : decode cX7_maker 87 = .ok (.bipush (-9), 2) := by decide +kernel
theorem dX7_maker_89 : decode cX7_maker 89 = .ok (.goto 12, 3) := by decide +kernel
theorem dX7_maker_92 : decode cX7_maker 92 = .ok (.aload_n 0, 1) := by decide +kernel
theorem dX7_maker_93 : decode cX7_maker 93 = .ok (.aload_n 0, 1) := by decide +kernel
theorem dX7_maker_94 : decode cX7_maker 94 = .ok (.getfield 19, 3) := by decide +kernel
theorem dX7_maker_97 : decode cX7_maker 97 = .ok (.iload_n 1, 1) := by decide +kernel
theorem dX7_maker_98 : decode cX7_maker 98 = .ok (.invokevirtual 154, 3) := by decide +kernel
theorem dX7_maker_101 : decode cX7_maker 101 = .ok (.ireturn, 1) := by decide +kernel
theorem dX7_maker_102 : decode cX7_maker 102 = .ok (.aload_n 0, 1) := by decide +kernel
theorem dX7_maker_103 : decode cX7_maker 103 = .ok (.aload_n 0, 1) := by decide +kernel
theorem dX7_maker_104 : decode cX7_maker 104 = .ok (.getfield 19, 3) := by decide +kernel
theorem dX7_maker_107 : decode cX7_maker 107 = .ok (.iload_n 1, 1) := by decide +kernel
theorem dX7_maker_108 : decode cX7_maker 108 = .ok (.invokevirtual 181, 3) := by decide +kernel
theorem dX7_maker_111 : decode cX7_maker 111 = .ok (.ireturn, 1) := by decide +kernel
theorem dX7_maker_112 : decode cX7_maker 112 = .ok (.bipush (-2), 2) := by decide +kernel
theorem dX7_maker_114 : decode cX7_maker 114 = .ok (.ireturn, 1) := by decide +kernel
theorem dX7_change_0 : decode cX7_change 0 = .ok (.iconst 0, 1) := by decide +kernel
theorem dX7_change_1 : decode cX7_change 1 = .ok (.istore_n 3, 1) := by decide +kernel
theorem dX7_change_2 : decode cX7_change 2 = .ok (.iload_n 3, 1) := by decide +kernel
theorem dX7_change_3 : decode cX7_change 3 = .ok (.bipush 13, 2) := by decide +kernel
theorem dX7_change_5 : decode cX7_change 5 = .ok (.if_icmp .ge 29, 3) := by decide +kernel
theorem dX7_change_8 : decode cX7_change 8 = .ok (.aload_n 0, 1) := by decide +kernel
theorem dX7_change_9 : decode cX7_change 9 = .ok (.getfield 25, 3) := by decide +kernel
theorem dX7_change_12 : decode cX7_change 12 = .ok (.bipush 13, 2) := by decide +kernel
theorem dX7_change_14 : decode cX7_change 14 = .ok (.aload_n 0, 1) := by decide +kernel
theorem dX7_change_15 : decode cX7_change 15 = .ok (.getfield 184, 3) := by decide +kernel
theorem dX7_change_18 : decode cX7_change 18 = .ok (.imul, 1) := by decide +kernel
theorem dX7_change_19 : decode cX7_change 19 = .ok (.iload_n 3, 1) := by decide +kernel
theorem dX7_change_20 : decode cX7_change 20 = .ok (.iadd, 1) := by decide +kernel
theorem dX7_change_21 : decode cX7_change 21 = .ok (.aload_n 0, 1) := by decide +kernel
theorem dX7_change_22 : decode cX7_change 22 = .ok (.getfield 19, 3) := by decide +kernel
theorem dX7_change_25 : decode cX7_change 25 = .ok (.iload_n 3, 1) := by decide +kernel
theorem dX7_change_26 : decode cX7_change 26 = .ok (.iaload, 1) := by decide +kernel
theorem dX7_change_27 : decode cX7_change 27 = .ok (.iastore, 1) := by decide +kernel
theorem dX7_change_28 : decode cX7_change 28 = .ok (.iinc 3 1, 3) := by decide +kernel
theorem dX7_change_31 : decode cX7_change 31 = .ok (.goto (-29), 3) := by decide +kernel
theorem dX7_change_34 : decode cX7_change 34 = .ok (.aload_n 0, 1) := by decide +kernel
theorem dX7_change_35 : decode cX7_change 35 = .ok (.aload_n 0, 1) := by decide +kernel
theorem dX7_change_36 : decode cX7_change 36 = .ok (.getfield 184, 3) := by decide +kernel
theorem dX7_change_39 : decode cX7_change 39 = .ok (.iconst 1, 1) := by decide +kernel
theorem dX7_change_40 : decode cX7_change 40 = .ok (.iadd, 1) := by decide +kernel
theorem dX7_change_41 : decode cX7_change 41 = .ok (.bipush 14, 2) := by decide +kernel
theorem dX7_change_43 : decode cX7_change 43 = .ok (.irem, 1) := by decide +kernel
theorem dX7_change_44 : decode cX7_change 44 = .ok (.putfield 184, 3) := by decide +kernel
theorem dX7_change_47 : decode cX7_change 47 = .ok (.aload_n 0, 1) := by decide +kernel
theorem dX7_change_48 : decode cX7_change 48 = .ok (.aload_n 0, 1) := by decide +kernel
theorem dX7_change_49 : decode cX7_change 49 = .ok (.getfield 113, 3) := by decide +kernel
theorem dX7_change_52 : decode cX7_change 52 = .ok (.bipush 14, 2) := by decide +kernel
theorem dX7_change_54 : decode cX7_change 54 = .ok (.if_icmp .ge 12, 3) := by decide +kernel
theorem dX7_change_57 : decode cX7_change 57 = .ok (.aload_n 0, 1) := by decide +kernel
theorem dX7_change_58 : decode cX7_change 58 = .ok (.getfield 113, 3) := by decide +kernel
theorem dX7_change_61 : decode cX7_change 61 = .ok (.iconst 1, 1) := by decide +kernel
theorem dX7_change_62 : decode cX7_change 62 = .ok (.iadd, 1) := by decide +kernel
theorem dX7_change_63 : decode cX7_change 63 = .ok (.goto 5, 3) := by decide +kernel
theorem dX7_change_66 : decode cX7_change 66 = .ok (.bipush 14, 2) := by decide +kernel
theorem dX7_change_68 : decode cX7_change 68 = .ok (.putfield 113, 3) := by decide +kernel
theorem dX7_change_71 : decode cX7_change 71 = .ok (.aload_n 0, 1) := by decide +kernel
theorem dX7_change_72 : decode cX7_change 72 = .ok (.getfield 19, 3) := by decide +kernel
theorem dX7_change_75 : decode cX7_change 75 = .ok (.iload_n 1, 1) := by decide +kernel
theorem dX7_change_76 : decode cX7_change 76 = .ok (.iload_n 2, 1) := by decide +kernel
theorem dX7_change_77 : decode cX7_change 77 = .ok (.iastore, 1) := by decide +kernel
theorem dX7_change_78 : decode cX7_change 78 = .ok (.return_, 1) := by decide +kernel
theorem dX7_reprice_0 : decode cX7_reprice 0 = .ok (.aload_n 0, 1) := by decide +kernel
theorem dX7_reprice_1 : decode cX7_reprice 1 = .ok (.iload_n 1, 1) := by decide +kernel
theorem dX7_reprice_2 : decode cX7_reprice 2 = .ok (.invokevirtual 123, 3) := by decide +kernel
theorem dX7_reprice_5 : decode cX7_reprice 5 = .ok (.ifCond .ne 5, 3) := by decide +kernel
theorem dX7_reprice_8 : decode cX7_reprice 8 = .ok (.iconst (-1), 1) := by decide +kernel
theorem dX7_reprice_9 : decode cX7_reprice 9 = .ok (.ireturn, 1) := by decide +kernel
theorem dX7_reprice_10 : decode cX7_reprice 10 = .ok (.iload_n 2, 1) := by decide +kernel
theorem dX7_reprice_11 : decode cX7_reprice 11 = .ok (.i2l, 1) := by decide +kernel
theorem dX7_reprice_12 : decode cX7_reprice 12 = .ok (.lconst 0, 1) := by decide +kernel
theorem dX7_reprice_13 : decode cX7_reprice 13 = .ok (.ldc2_w 187, 3) := by decide +kernel
theorem dX7_reprice_16 : decode cX7_reprice 16 = .ok (.invokestatic 67, 3) := by decide +kernel
theorem dX7_reprice_19 : decode cX7_reprice 19 = .ok (.ifCond .ne 6, 3) := by decide +kernel
theorem dX7_reprice_22 : decode cX7_reprice 22 = .ok (.bipush (-2), 2) := by decide +kernel
theorem dX7_reprice_24 : decode cX7_reprice 24 = .ok (.ireturn, 1) := by decide +kernel
theorem dX7_reprice_25 : decode cX7_reprice 25 = .ok (.aload_n 0, 1) := by decide +kernel
theorem dX7_reprice_26 : decode cX7_reprice 26 = .ok (.getfield 19, 3) := by decide +kernel
theorem dX7_reprice_29 : decode cX7_reprice 29 = .ok (.bipush 8, 2) := by decide +kernel
theorem dX7_reprice_31 : decode cX7_reprice 31 = .ok (.iload_n 1, 1) := by decide +kernel
theorem dX7_reprice_32 : decode cX7_reprice 32 = .ok (.iadd, 1) := by decide +kernel
theorem dX7_reprice_33 : decode cX7_reprice 33 = .ok (.iaload, 1) := by decide +kernel
theorem dX7_reprice_34 : decode cX7_reprice 34 = .ok (.istore_n 3, 1) := by decide +kernel
theorem dX7_reprice_35 : decode cX7_reprice 35 = .ok (.aload_n 0, 1) := by decide +kernel
theorem dX7_reprice_36 : decode cX7_reprice 36 = .ok (.bipush 8, 2) := by decide +kernel
theorem dX7_reprice_38 : decode cX7_reprice 38 = .ok (.iload_n 1, 1) := by decide +kernel
theorem dX7_reprice_39 : decode cX7_reprice 39 = .ok (.iadd, 1) := by decide +kernel
theorem dX7_reprice_40 : decode cX7_reprice 40 = .ok (.iload_n 2, 1) := by decide +kernel
theorem dX7_reprice_41 : decode cX7_reprice 41 = .ok (.invokevirtual 189, 3) := by decide +kernel
theorem dX7_reprice_44 : decode cX7_reprice 44 = .ok (.iload_n 3, 1) := by decide +kernel
theorem dX7_reprice_45 : decode cX7_reprice 45 = .ok (.ireturn, 1) := by decide +kernel
theorem dX7_restock_0 : decode cX7_restock 0 = .ok (.aload_n 0, 1) := by decide +kernel
theorem dX7_restock_1 : decode cX7_restock 1 = .ok (.iload_n 1, 1) := by decide +kernel
theorem dX7_restock_2 : decode cX7_restock 2 = .ok (.invokevirtual 123, 3) := by decide +kernel
theorem dX7_restock_5 : decode cX7_restock 5 = .ok (.ifCond .ne 5, 3) := by decide +kernel
theorem dX7_restock_8 : decode cX7_restock 8 = .ok (.iconst (-1), 1) := by decide +kernel
theorem dX7_restock_9 : decode cX7_restock 9 = .ok (.ireturn, 1) := by decide +kernel
theorem dX7_restock_10 : decode cX7_restock 10 = .ok (.iload_n 2, 1) := by decide +kernel
theorem dX7_restock_11 : decode cX7_restock 11 = .ok (.i2l, 1) := by decide +kernel
theorem dX7_restock_12 : decode cX7_restock 12 = .ok (.lconst 0, 1) := by decide +kernel
theorem dX7_restock_13 : decode cX7_restock 13 = .ok (.ldc2_w 187, 3) := by decide +kernel
theorem dX7_restock_16 : decode cX7_restock 16 = .ok (.invokestatic 67, 3) := by decide +kernel
theorem dX7_restock_19 : decode cX7_restock 19 = .ok (.ifCond .ne 6, 3) := by decide +kernel
theorem dX7_restock_22 : decode cX7_restock 22 = .ok (.bipush (-2), 2) := by decide +kernel
theorem dX7_restock_24 : decode cX7_restock 24 = .ok (.ireturn, 1) := by decide +kernel
theorem dX7_restock_25 : decode cX7_restock 25 = .ok (.aload_n 0, 1) := by decide +kernel
theorem dX7_restock_26 : decode cX7_restock 26 = .ok (.getfield 19, 3) := by decide +kernel
theorem dX7_restock_29 : decode cX7_restock 29 = .ok (.iconst 4, 1) := by decide +kernel
theorem dX7_restock_30 : decode cX7_restock 30 = .ok (.iload_n 1, 1) := by decide +kernel
theorem dX7_restock_31 : decode cX7_restock 31 = .ok (.iadd, 1) := by decide +kernel
theorem dX7_restock_32 : decode cX7_restock 32 = .ok (.iaload, 1) := by decide +kernel
theorem dX7_restock_33 : decode cX7_restock 33 = .ok (.istore_n 3, 1) := by decide +kernel
theorem dX7_restock_34 : decode cX7_restock 34 = .ok (.aload_n 0, 1) := by decide +kernel
theorem dX7_restock_35 : decode cX7_restock 35 = .ok (.iconst 4, 1) := by decide +kernel
theorem dX7_restock_36 : decode cX7_restock 36 = .ok (.iload_n 1, 1) := by decide +kernel
theorem dX7_restock_37 : decode cX7_restock 37 = .ok (.iadd, 1) := by decide +kernel
theorem dX7_restock_38 : decode cX7_restock 38 = .ok (.iload_n 2, 1) := by decide +kernel
theorem dX7_restock_39 : decode cX7_restock 39 = .ok (.invokevirtual 189, 3) := by decide +kernel
theorem dX7_restock_42 : decode cX7_restock 42 = .ok (.iload_n 3, 1) := by decide +kernel
theorem dX7_restock_43 : decode cX7_restock 43 = .ok (.ireturn, 1) := by decide +kernel
theorem dX7_want_0 : decode cX7_want 0 = .ok (.aload_n 0, 1) := by decide +kernel
theorem dX7_want_1 : decode cX7_want 1 = .ok (.iload_n 1, 1) := by decide +kernel
theorem dX7_want_2 : decode cX7_want 2 = .ok (.invokevirtual 178, 3) := by decide +kernel
theorem dX7_want_5 : decode cX7_want 5 = .ok (.ifCond .ne 5, 3) := by decide +kernel
theorem dX7_want_8 : decode cX7_want 8 = .ok (.iconst (-1), 1) := by decide +kernel
theorem dX7_want_9 : decode cX7_want 9 = .ok (.ireturn, 1) := by decide +kernel
theorem dX7_want_10 : decode cX7_want 10 = .ok (.iload_n 2, 1) := by decide +kernel
theorem dX7_want_11 : decode cX7_want 11 = .ok (.i2l, 1) := by decide +kernel
theorem dX7_want_12 : decode cX7_want 12 = .ok (.lconst 1, 1) := by decide +kernel
theorem dX7_want_13 : decode cX7_want 13 = .ok (.ldc2_w 97, 3) := by decide +kernel
theorem dX7_want_16 : decode cX7_want 16 = .ok (.invokestatic 67, 3) := by decide +kernel
theorem dX7_want_19 : decode cX7_want 19 = .ok (.ifCond .ne 6, 3) := by decide +kernel
theorem dX7_want_22 : decode cX7_want 22 = .ok (.bipush (-2), 2) := by decide +kernel
theorem dX7_want_24 : decode cX7_want 24 = .ok (.ireturn, 1) := by decide +kernel
theorem dX7_want_25 : decode cX7_want 25 = .ok (.aload_n 0, 1) := by decide +kernel
theorem dX7_want_26 : decode cX7_want 26 = .ok (.getfield 19, 3) := by decide +kernel
theorem dX7_want_29 : decode cX7_want 29 = .ok (.iload_n 1, 1) := by decide +kernel
theorem dX7_want_30 : decode cX7_want 30 = .ok (.iaload, 1) := by decide +kernel
theorem dX7_want_31 : decode cX7_want 31 = .ok (.istore_n 3, 1) := by decide +kernel
theorem dX7_want_32 : decode cX7_want 32 = .ok (.aload_n 0, 1) := by decide +kernel
theorem dX7_want_33 : decode cX7_want 33 = .ok (.iload_n 1, 1) := by decide +kernel
theorem dX7_want_34 : decode cX7_want 34 = .ok (.iload_n 2, 1) := by decide +kernel
theorem dX7_want_35 : decode cX7_want 35 = .ok (.invokevirtual 189, 3) := by decide +kernel
theorem dX7_want_38 : decode cX7_want 38 = .ok (.iload_n 3, 1) := by decide +kernel
theorem dX7_want_39 : decode cX7_want 39 = .ok (.ireturn, 1) := by decide +kernel
theorem dX7_bear_0 : decode cX7_bear 0 = .ok (.iload_n 1, 1) := by decide +kernel
theorem dX7_bear_1 : decode cX7_bear 1 = .ok (.i2l, 1) := by decide +kernel
theorem dX7_bear_2 : decode cX7_bear 2 = .ok (.lconst 0, 1) := by decide +kernel
theorem dX7_bear_3 : decode cX7_bear 3 = .ok (.ldc2_w 193, 3) := by decide +kernel
theorem dX7_bear_6 : decode cX7_bear 6 = .ok (.invokestatic 67, 3) := by decide +kernel
theorem dX7_bear_9 : decode cX7_bear 9 = .ok (.ifCond .ne 6, 3) := by decide +kernel
theorem dX7_bear_12 : decode cX7_bear 12 = .ok (.bipush (-2), 2) := by decide +kernel
theorem dX7_bear_14 : decode cX7_bear 14 = .ok (.ireturn, 1) := by decide +kernel
theorem dX7_bear_15 : decode cX7_bear 15 = .ok (.aload_n 0, 1) := by decide +kernel
theorem dX7_bear_16 : decode cX7_bear 16 = .ok (.getfield 19, 3) := by decide +kernel
theorem dX7_bear_19 : decode cX7_bear 19 = .ok (.bipush 12, 2) := by decide +kernel
theorem dX7_bear_21 : decode cX7_bear 21 = .ok (.iaload, 1) := by decide +kernel
theorem dX7_bear_22 : decode cX7_bear 22 = .ok (.istore_n 2, 1) := by decide +kernel
theorem dX7_bear_23 : decode cX7_bear 23 = .ok (.aload_n 0, 1) := by decide +kernel
theorem dX7_bear_24 : decode cX7_bear 24 = .ok (.bipush 12, 2) := by decide +kernel
theorem dX7_bear_26 : decode cX7_bear 26 = .ok (.iload_n 1, 1) := by decide +kernel
theorem dX7_bear_27 : decode cX7_bear 27 = .ok (.invokevirtual 189, 3) := by decide +kernel
theorem dX7_bear_30 : decode cX7_bear 30 = .ok (.iload_n 2, 1) := by decide +kernel
theorem dX7_bear_31 : decode cX7_bear 31 = .ok (.ireturn, 1) := by decide +kernel
theorem dX7_undo_0 : decode cX7_undo 0 = .ok (.aload_n 0, 1) := by decide +kernel
theorem dX7_undo_1 : decode cX7_undo 1 = .ok (.getfield 113, 3) := by decide +kernel
theorem dX7_undo_4 : decode cX7_undo 4 = .ok (.ifCond .ne 6, 3) := by decide +kernel
theorem dX7_undo_7 : decode cX7_undo 7 = .ok (.bipush (-3), 2) := by decide +kernel
theorem dX7_undo_9 : decode cX7_undo 9 = .ok (.ireturn, 1) := by decide +kernel
theorem dX7_undo_10 : decode cX7_undo 10 = .ok (.aload_n 0, 1) := by decide +kernel
theorem dX7_undo_11 : decode cX7_undo 11 = .ok (.dup, 1) := by decide +kernel
theorem dX7_undo_12 : decode cX7_undo 12 = .ok (.getfield 113, 3) := by decide +kernel
theorem dX7_undo_15 : decode cX7_undo 15 = .ok (.iconst 1, 1) := by decide +kernel
theorem dX7_undo_16 : decode cX7_undo 16 = .ok (.isub, 1) := by decide +kernel
theorem dX7_undo_17 : decode cX7_undo 17 = .ok (.putfield 113, 3) := by decide +kernel
theorem dX7_undo_20 : decode cX7_undo 20 = .ok (.aload_n 0, 1) := by decide +kernel
theorem dX7_undo_21 : decode cX7_undo 21 = .ok (.aload_n 0, 1) := by decide +kernel
theorem dX7_undo_22 : decode cX7_undo 22 = .ok (.getfield 184, 3) := by decide +kernel
theorem dX7_undo_25 : decode cX7_undo 25 = .ok (.bipush 14, 2) := by decide +kernel
theorem dX7_undo_27 : decode cX7_undo 27 = .ok (.iadd, 1) := by decide +kernel
theorem dX7_undo_28 : decode cX7_undo 28 = .ok (.iconst 1, 1) := by decide +kernel
theorem dX7_undo_29 : decode cX7_undo 29 = .ok (.isub, 1) := by decide +kernel
theorem dX7_undo_30 : decode cX7_undo 30 = .ok (.bipush 14, 2) := by decide +kernel
theorem dX7_undo_32 : decode cX7_undo 32 = .ok (.irem, 1) := by decide +kernel
theorem dX7_undo_33 : decode cX7_undo 33 = .ok (.putfield 184, 3) := by decide +kernel
theorem dX7_undo_36 : decode cX7_undo 36 = .ok (.iconst 0, 1) := by decide +kernel
theorem dX7_undo_37 : decode cX7_undo 37 = .ok (.istore_n 1, 1) := by decide +kernel
theorem dX7_undo_38 : decode cX7_undo 38 = .ok (.iload_n 1, 1) := by decide +kernel
theorem dX7_undo_39 : decode cX7_undo 39 = .ok (.bipush 13, 2) := by decide +kernel
theorem dX7_undo_41 : decode cX7_undo 41 = .ok (.if_icmp .ge 29, 3) := by decide +kernel
theorem dX7_undo_44 : decode cX7_undo 44 = .ok (.aload_n 0, 1) := by decide +kernel
theorem dX7_undo_45 : decode cX7_undo 45 = .ok (.getfield 19, 3) := by decide +kernel
theorem dX7_undo_48 : decode cX7_undo 48 = .ok (.iload_n 1, 1) := by decide +kernel
theorem dX7_undo_49 : decode cX7_undo 49 = .ok (.aload_n 0, 1) := by decide +kernel
theorem dX7_undo_50 : decode cX7_undo 50 = .ok (.getfield 25, 3) := by decide +kernel
theorem dX7_undo_53 : decode cX7_undo 53 = .ok (.bipush 13, 2) := by decide +kernel
theorem dX7_undo_55 : decode cX7_undo 55 = .ok (.aload_n 0, 1) := by decide +kernel
theorem dX7_undo_56 : decode cX7_undo 56 = .ok (.getfield 184, 3) := by decide +kernel
theorem dX7_undo_59 : decode cX7_undo 59 = .ok (.imul, 1) := by decide +kernel
theorem dX7_undo_60 : decode cX7_undo 60 = .ok (.iload_n 1, 1) := by decide +kernel
theorem dX7_undo_61 : decode cX7_undo 61 = .ok (.iadd, 1) := by decide +kernel
theorem dX7_undo_62 : decode cX7_undo 62 = .ok (.iaload, 1) := by decide +kernel
theorem dX7_undo_63 : decode cX7_undo 63 = .ok (.iastore, 1) := by decide +kernel
theorem dX7_undo_64 : decode cX7_undo 64 = .ok (.iinc 1 1, 3) := by decide +kernel
theorem dX7_undo_67 : decode cX7_undo 67 = .ok (.goto (-29), 3) := by decide +kernel
theorem dX7_undo_70 : decode cX7_undo 70 = .ok (.aload_n 0, 1) := by decide +kernel
theorem dX7_undo_71 : decode cX7_undo 71 = .ok (.getfield 113, 3) := by decide +kernel
theorem dX7_undo_74 : decode cX7_undo 74 = .ok (.ireturn, 1) := by decide +kernel
theorem dX7_best_0 : decode cX7_best 0 = .ok (.aload_n 0, 1) := by decide +kernel
theorem dX7_best_1 : decode cX7_best 1 = .ok (.aload_n 0, 1) := by decide +kernel
theorem dX7_best_2 : decode cX7_best 2 = .ok (.getfield 19, 3) := by decide +kernel
theorem dX7_best_5 : decode cX7_best 5 = .ok (.aload_n 0, 1) := by decide +kernel
theorem dX7_best_6 : decode cX7_best 6 = .ok (.invokevirtual 147, 3) := by decide +kernel
theorem dX7_best_9 : decode cX7_best 9 = .ok (.invokevirtual 150, 3) := by decide +kernel
theorem dX7_best_12 : decode cX7_best 12 = .ok (.bipush (-9), 2) := by decide +kernel
theorem dX7_best_14 : decode cX7_best 14 = .ok (.if_icmp .ne 6, 3) := by decide +kernel
theorem dX7_best_17 : decode cX7_best 17 = .ok (.bipush (-9), 2) := by decide +kernel
theorem dX7_best_19 : decode cX7_best 19 = .ok (.ireturn, 1) := by decide +kernel
theorem dX7_best_20 : decode cX7_best 20 = .ok (.iconst 0, 1) := by decide +kernel
theorem dX7_best_21 : decode cX7_best 21 = .ok (.istore_n 1, 1) := by decide +kernel
theorem dX7_best_22 : decode cX7_best 22 = .ok (.iconst 0, 1) := by decide +kernel
theorem dX7_best_23 : decode cX7_best 23 = .ok (.istore_n 2, 1) := by decide +kernel
theorem dX7_best_24 : decode cX7_best 24 = .ok (.iload_n 2, 1) := by decide +kernel
theorem dX7_best_25 : decode cX7_best 25 = .ok (.aload_n 0, 1) := by decide +kernel
theorem dX7_best_26 : decode cX7_best 26 = .ok (.getfield 63, 3) := by decide +kernel
theorem dX7_best_29 : decode cX7_best 29 = .ok (.if_icmp .ge 25, 3) := by decide +kernel
theorem dX7_best_32 : decode cX7_best 32 = .ok (.bipush 10, 2) := by decide +kernel
theorem dX7_best_34 : decode cX7_best 34 = .ok (.iload_n 1, 1) := by decide +kernel
theorem dX7_best_35 : decode cX7_best 35 = .ok (.imul, 1) := by decide +kernel
theorem dX7_best_36 : decode cX7_best 36 = .ok (.aload_n 0, 1) := by decide +kernel
theorem dX7_best_37 : decode cX7_best 37 = .ok (.aload_n 0, 1) := by decide +kernel
theorem dX7_best_38 : decode cX7_best 38 = .ok (.getfield 136, 3) := by decide +kernel
theorem dX7_best_41 : decode cX7_best 41 = .ok (.iconst 5, 1) := by decide +kernel
theorem dX7_best_42 : decode cX7_best 42 = .ok (.iload_n 2, 1) := by decide +kernel
theorem dX7_best_43 : decode cX7_best 43 = .ok (.invokevirtual 119, 3) := by decide +kernel
theorem dX7_best_46 : decode cX7_best 46 = .ok (.iadd, 1) := by decide +kernel
theorem dX7_best_47 : decode cX7_best 47 = .ok (.istore_n 1, 1) := by decide +kernel
theorem dX7_best_48 : decode cX7_best 48 = .ok (.iinc 2 1, 3) := by decide +kernel
theorem dX7_best_51 : decode cX7_best 51 = .ok (.goto (-27), 3) := by decide +kernel
theorem dX7_best_54 : decode cX7_best 54 = .ok (.iload_n 1, 1) := by decide +kernel
theorem dX7_best_55 : decode cX7_best 55 = .ok (.ireturn, 1) := by decide +kernel
theorem dX7_cost_0 : decode cX7_cost 0 = .ok (.iload_n 1, 1) := by decide +kernel
theorem dX7_cost_1 : decode cX7_cost 1 = .ok (.i2l, 1) := by decide +kernel
theorem dX7_cost_2 : decode cX7_cost 2 = .ok (.lconst 0, 1) := by decide +kernel
theorem dX7_cost_3 : decode cX7_cost 3 = .ok (.bipush 10, 2) := by decide +kernel
theorem dX7_cost_5 : decode cX7_cost 5 = .ok (.aload_n 0, 1) := by decide +kernel
theorem dX7_cost_6 : decode cX7_cost 6 = .ok (.getfield 63, 3) := by decide +kernel
theorem dX7_cost_9 : decode cX7_cost 9 = .ok (.invokestatic 116, 3) := by decide +kernel
theorem dX7_cost_12 : decode cX7_cost 12 = .ok (.iconst 1, 1) := by decide +kernel
theorem dX7_cost_13 : decode cX7_cost 13 = .ok (.isub, 1) := by decide +kernel
theorem dX7_cost_14 : decode cX7_cost 14 = .ok (.i2l, 1) := by decide +kernel
theorem dX7_cost_15 : decode cX7_cost 15 = .ok (.invokestatic 67, 3) := by decide +kernel
theorem dX7_cost_18 : decode cX7_cost 18 = .ok (.ifCond .ne 6, 3) := by decide +kernel
theorem dX7_cost_21 : decode cX7_cost 21 = .ok (.bipush (-2), 2) := by decide +kernel
theorem dX7_cost_23 : decode cX7_cost 23 = .ok (.ireturn, 1) := by decide +kernel
theorem dX7_cost_24 : decode cX7_cost 24 = .ok (.iconst 0, 1) := by decide +kernel
theorem dX7_cost_25 : decode cX7_cost 25 = .ok (.istore_n 2, 1) := by decide +kernel
theorem dX7_cost_26 : decode cX7_cost 26 = .ok (.iconst 1, 1) := by decide +kernel
theorem dX7_cost_27 : decode cX7_cost 27 = .ok (.istore_n 3, 1) := by decide +kernel
theorem dX7_cost_28 : decode cX7_cost 28 = .ok (.iconst 0, 1) := by decide +kernel
theorem dX7_cost_29 : decode cX7_cost 29 = .ok (.istore 4, 2) := by decide +kernel
theorem dX7_cost_31 : decode cX7_cost 31 = .ok (.iload 4, 2) := by decide +kernel
theorem dX7_cost_33 : decode cX7_cost 33 = .ok (.aload_n 0, 1) := by decide +kernel
theorem dX7_cost_34 : decode cX7_cost 34 = .ok (.getfield 63, 3) := by decide +kernel
theorem dX7_cost_37 : decode cX7_cost 37 = .ok (.if_icmp .ge 74, 3) := by decide +kernel
theorem dX7_cost_40 : decode cX7_cost 40 = .ok (.iload_n 1, 1) := by decide +kernel
theorem dX7_cost_41 : decode cX7_cost 41 = .ok (.bipush 10, 2) := by decide +kernel
theorem dX7_cost_43 : decode cX7_cost 43 = .ok (.aload_n 0, 1) := by decide +kernel
theorem dX7_cost_44 : decode cX7_cost 44 = .ok (.getfield 63, 3) := by decide +kernel
theorem dX7_cost_47 : decode cX7_cost 47 = .ok (.iconst 1, 1) := by decide +kernel
theorem dX7_cost_48 : decode cX7_cost 48 = .ok (.isub, 1) := by decide +kernel
theorem dX7_cost_49 : decode cX7_cost 49 = .ok (.iload 4, 2) := by decide +kernel
theorem dX7_cost_51 : decode cX7_cost 51 = .ok (.isub, 1) := by decide +kernel
theorem dX7_cost_52 : decode cX7_cost 52 = .ok (.invokestatic 116, 3) := by decide +kernel
theorem dX7_cost_55 : decode cX7_cost 55 = .ok (.idiv, 1) := by decide +kernel
theorem dX7_cost_56 : decode cX7_cost 56 = .ok (.bipush 10, 2) := by decide +kernel
theorem dX7_cost_58 : decode cX7_cost 58 = .ok (.irem, 1) := by decide +kernel
theorem dX7_cost_59 : decode cX7_cost 59 = .ok (.istore 5, 2) := by decide +kernel
theorem dX7_cost_61 : decode cX7_cost 61 = .ok (.iload_n 3, 1) := by decide +kernel
theorem dX7_cost_62 : decode cX7_cost 62 = .ok (.ifCond .eq 23, 3) := by decide +kernel
theorem dX7_cost_65 : decode cX7_cost 65 = .ok (.aload_n 0, 1) := by decide +kernel
theorem dX7_cost_66 : decode cX7_cost 66 = .ok (.iload 5, 2) := by decide +kernel
theorem dX7_cost_68 : decode cX7_cost 68 = .ok (.invokevirtual 123, 3) := by decide +kernel
theorem dX7_cost_71 : decode cX7_cost 71 = .ok (.ifCond .ne 10, 3) := by decide +kernel
theorem dX7_cost_74 : decode cX7_cost 74 = .ok (.iload 5, 2) := by decide +kernel
theorem dX7_cost_76 : decode cX7_cost 76 = .ok (.bipush 9, 2) := by decide +kernel
theorem dX7_cost_78 : decode cX7_cost 78 = .ok (.if_icmp .ne 7, 3) := by decide +kernel
theorem dX7_cost_81 : decode cX7_cost 81 = .ok (.iconst 1, 1) := by decide +kernel
theorem dX7_cost_82 : decode cX7_cost 82 = .ok (.goto 4, 3) := by decide +kernel
theorem dX7_cost_85 : decode cX7_cost 85 = .ok (.iconst 0, 1) := by decide +kernel
theorem dX7_cost_86 : decode cX7_cost 86 = .ok (.istore_n 3, 1) := by decide +kernel
theorem dX7_cost_87 : decode cX7_cost 87 = .ok (.iconst 5, 1) := by decide +kernel
theorem dX7_cost_88 : decode cX7_cost 88 = .ok (.iload_n 2, 1) := by decide +kernel
theorem dX7_cost_89 : decode cX7_cost 89 = .ok (.imul, 1) := by decide +kernel
theorem dX7_cost_90 : decode cX7_cost 90 = .ok (.iload 5, 2) := by decide +kernel
theorem dX7_cost_92 : decode cX7_cost 92 = .ok (.bipush 9, 2) := by decide +kernel
theorem dX7_cost_94 : decode cX7_cost 94 = .ok (.if_icmp .ne 7, 3) := by decide +kernel
theorem dX7_cost_97 : decode cX7_cost 97 = .ok (.iconst 4, 1) := by decide +kernel
theorem dX7_cost_98 : decode cX7_cost 98 = .ok (.goto 5, 3) := by decide +kernel
theorem dX7_cost_101 : decode cX7_cost 101 = .ok (.iload 5, 2) := by decide +kernel
theorem dX7_cost_103 : decode cX7_cost 103 = .ok (.iadd, 1) := by decide +kernel
theorem dX7_cost_104 : decode cX7_cost 104 = .ok (.istore_n 2, 1) := by decide +kernel
theorem dX7_cost_105 : decode cX7_cost 105 = .ok (.iinc 4 1, 3) := by decide +kernel
theorem dX7_cost_108 : decode cX7_cost 108 = .ok (.goto (-77), 3) := by decide +kernel
theorem dX7_cost_111 : decode cX7_cost 111 = .ok (.iload_n 3, 1) := by decide +kernel
theorem dX7_cost_112 : decode cX7_cost 112 = .ok (.ifCond .eq 20, 3) := by decide +kernel
theorem dX7_cost_115 : decode cX7_cost 115 = .ok (.aload_n 0, 1) := by decide +kernel
theorem dX7_cost_116 : decode cX7_cost 116 = .ok (.aload_n 0, 1) := by decide +kernel
theorem dX7_cost_117 : decode cX7_cost 117 = .ok (.getfield 19, 3) := by decide +kernel
theorem dX7_cost_120 : decode cX7_cost 120 = .ok (.iload_n 2, 1) := by decide +kernel
theorem dX7_cost_121 : decode cX7_cost 121 = .ok (.iconst 5, 1) := by decide +kernel
theorem dX7_cost_122 : decode cX7_cost 122 = .ok (.aload_n 0, 1) := by decide +kernel
theorem dX7_cost_123 : decode cX7_cost 123 = .ok (.invokevirtual 147, 3) := by decide +kernel
theorem dX7_cost_126 : decode cX7_cost 126 = .ok (.invokevirtual 139, 3) := by decide +kernel
theorem dX7_cost_129 : decode cX7_cost 129 = .ok (.goto 5, 3) := by decide +kernel
theorem dX7_cost_132 : decode cX7_cost 132 = .ok (.bipush (-9), 2) := by decide +kernel
theorem dX7_cost_134 : decode cX7_cost 134 = .ok (.ireturn, 1) := by decide +kernel
theorem dX7_gain_0 : decode cX7_gain 0 = .ok (.aload_n 0, 1) := by decide +kernel
theorem dX7_gain_1 : decode cX7_gain 1 = .ok (.iload_n 1, 1) := by decide +kernel
theorem dX7_gain_2 : decode cX7_gain 2 = .ok (.invokevirtual 123, 3) := by decide +kernel
theorem dX7_gain_5 : decode cX7_gain 5 = .ok (.ifCond .ne 5, 3) := by decide +kernel
theorem dX7_gain_8 : decode cX7_gain 8 = .ok (.iconst (-1), 1) := by decide +kernel
theorem dX7_gain_9 : decode cX7_gain 9 = .ok (.ireturn, 1) := by decide +kernel
theorem dX7_gain_10 : decode cX7_gain 10 = .ok (.iload_n 2, 1) := by decide +kernel
theorem dX7_gain_11 : decode cX7_gain 11 = .ok (.i2l, 1) := by decide +kernel
theorem dX7_gain_12 : decode cX7_gain 12 = .ok (.lconst 0, 1) := by decide +kernel
theorem dX7_gain_13 : decode cX7_gain 13 = .ok (.ldc2_w 187, 3) := by decide +kernel
theorem dX7_gain_16 : decode cX7_gain 16 = .ok (.invokestatic 67, 3) := by decide +kernel
theorem dX7_gain_19 : decode cX7_gain 19 = .ok (.ifCond .ne 6, 3) := by decide +kernel
theorem dX7_gain_22 : decode cX7_gain 22 = .ok (.bipush (-2), 2) := by decide +kernel
theorem dX7_gain_24 : decode cX7_gain 24 = .ok (.ireturn, 1) := by decide +kernel
theorem dX7_gain_25 : decode cX7_gain 25 = .ok (.aload_n 0, 1) := by decide +kernel
theorem dX7_gain_26 : decode cX7_gain 26 = .ok (.invokevirtual 157, 3) := by decide +kernel
theorem dX7_gain_29 : decode cX7_gain 29 = .ok (.aload_n 0, 1) := by decide +kernel
theorem dX7_gain_30 : decode cX7_gain 30 = .ok (.getfield 22, 3) := by decide +kernel
theorem dX7_gain_33 : decode cX7_gain 33 = .ok (.bipush 8, 2) := by decide +kernel
theorem dX7_gain_35 : decode cX7_gain 35 = .ok (.iload_n 1, 1) := by decide +kernel
theorem dX7_gain_36 : decode cX7_gain 36 = .ok (.iadd, 1) := by decide +kernel
theorem dX7_gain_37 : decode cX7_gain 37 = .ok (.iload_n 2, 1) := by decide +kernel
theorem dX7_gain_38 : decode cX7_gain 38 = .ok (.iastore, 1) := by decide +kernel
theorem dX7_gain_39 : decode cX7_gain 39 = .ok (.aload_n 0, 1) := by decide +kernel
theorem dX7_gain_40 : decode cX7_gain 40 = .ok (.aload_n 0, 1) := by decide +kernel
theorem dX7_gain_41 : decode cX7_gain 41 = .ok (.getfield 22, 3) := by decide +kernel
theorem dX7_gain_44 : decode cX7_gain 44 = .ok (.iload_n 1, 1) := by decide +kernel
theorem dX7_gain_45 : decode cX7_gain 45 = .ok (.invokevirtual 181, 3) := by decide +kernel
theorem dX7_gain_48 : decode cX7_gain 48 = .ok (.istore_n 3, 1) := by decide +kernel
theorem dX7_gain_49 : decode cX7_gain 49 = .ok (.iload_n 3, 1) := by decide +kernel
theorem dX7_gain_50 : decode cX7_gain 50 = .ok (.bipush (-9), 2) := by decide +kernel
theorem dX7_gain_52 : decode cX7_gain 52 = .ok (.if_icmp .ne 8, 3) := by decide +kernel
theorem dX7_gain_55 : decode cX7_gain 55 = .ok (.bipush (-9), 2) := by decide +kernel
theorem dX7_gain_57 : decode cX7_gain 57 = .ok (.goto 24, 3) := by decide +kernel
theorem dX7_gain_60 : decode cX7_gain 60 = .ok (.iload_n 3, 1) := by decide +kernel
theorem dX7_gain_61 : decode cX7_gain 61 = .ok (.aload_n 0, 1) := by decide +kernel
theorem dX7_gain_62 : decode cX7_gain 62 = .ok (.aload_n 0, 1) := by decide +kernel
theorem dX7_gain_63 : decode cX7_gain 63 = .ok (.getfield 22, 3) := by decide +kernel
theorem dX7_gain_66 : decode cX7_gain 66 = .ok (.iload_n 1, 1) := by decide +kernel
theorem dX7_gain_67 : decode cX7_gain 67 = .ok (.invokevirtual 154, 3) := by decide +kernel
theorem dX7_gain_70 : decode cX7_gain 70 = .ok (.aload_n 0, 1) := by decide +kernel
theorem dX7_gain_71 : decode cX7_gain 71 = .ok (.getfield 19, 3) := by decide +kernel
theorem dX7_gain_74 : decode cX7_gain 74 = .ok (.bipush 8, 2) := by decide +kernel
theorem dX7_gain_76 : decode cX7_gain 76 = .ok (.iload_n 1, 1) := by decide +kernel
theorem dX7_gain_77 : decode cX7_gain 77 = .ok (.iadd, 1) := by decide +kernel
theorem dX7_gain_78 : decode cX7_gain 78 = .ok (.iaload, 1) := by decide +kernel
theorem dX7_gain_79 : decode cX7_gain 79 = .ok (.imul, 1) := by decide +kernel
theorem dX7_gain_80 : decode cX7_gain 80 = .ok (.isub, 1) := by decide +kernel
theorem dX7_gain_81 : decode cX7_gain 81 = .ok (.ireturn, 1) := by decide +kernel
theorem dX7_ran_0 : decode cX7_ran 0 = .ok (.iload_n 1, 1) := by decide +kernel
theorem dX7_ran_1 : decode cX7_ran 1 = .ok (.i2l, 1) := by decide +kernel
theorem dX7_ran_2 : decode cX7_ran 2 = .ok (.lconst 0, 1) := by decide +kernel
theorem dX7_ran_3 : decode cX7_ran 3 = .ok (.ldc2_w 195, 3) := by decide +kernel
theorem dX7_ran_6 : decode cX7_ran 6 = .ok (.invokestatic 67, 3) := by decide +kernel
theorem dX7_ran_9 : decode cX7_ran 9 = .ok (.ifCond .ne 6, 3) := by decide +kernel
theorem dX7_ran_12 : decode cX7_ran 12 = .ok (.bipush (-2), 2) := by decide +kernel
theorem dX7_ran_14 : decode cX7_ran 14 = .ok (.ireturn, 1) := by decide +kernel
theorem dX7_ran_15 : decode cX7_ran 15 = .ok (.aload_n 0, 1) := by decide +kernel
theorem dX7_ran_16 : decode cX7_ran 16 = .ok (.invokevirtual 172, 3) := by decide +kernel
theorem dX7_ran_19 : decode cX7_ran 19 = .ok (.iconst 0, 1) := by decide +kernel
theorem dX7_ran_20 : decode cX7_ran 20 = .ok (.istore_n 2, 1) := by decide +kernel
theorem dX7_ran_21 : decode cX7_ran 21 = .ok (.iconst 0, 1) := by decide +kernel
theorem dX7_ran_22 : decode cX7_ran 22 = .ok (.istore_n 3, 1) := by decide +kernel
theorem dX7_ran_23 : decode cX7_ran 23 = .ok (.iload_n 3, 1) := by decide +kernel
theorem dX7_ran_24 : decode cX7_ran 24 = .ok (.aload_n 0, 1) := by decide +kernel
theorem dX7_ran_25 : decode cX7_ran 25 = .ok (.getfield 71, 3) := by decide +kernel
theorem dX7_ran_28 : decode cX7_ran 28 = .ok (.if_icmp .ge 23, 3) := by decide +kernel
theorem dX7_ran_31 : decode cX7_ran 31 = .ok (.bipush 10, 2) := by decide +kernel
theorem dX7_ran_33 : decode cX7_ran 33 = .ok (.iload_n 2, 1) := by decide +kernel
theorem dX7_ran_34 : decode cX7_ran 34 = .ok (.imul, 1) := by decide +kernel
theorem dX7_ran_35 : decode cX7_ran 35 = .ok (.aload_n 0, 1) := by decide +kernel
theorem dX7_ran_36 : decode cX7_ran 36 = .ok (.getfield 22, 3) := by decide +kernel
theorem dX7_ran_39 : decode cX7_ran 39 = .ok (.iconst 4, 1) := by decide +kernel
theorem dX7_ran_40 : decode cX7_ran 40 = .ok (.iload_n 3, 1) := by decide +kernel
theorem dX7_ran_41 : decode cX7_ran 41 = .ok (.iadd, 1) := by decide +kernel
theorem dX7_ran_42 : decode cX7_ran 42 = .ok (.iaload, 1) := by decide +kernel
theorem dX7_ran_43 : decode cX7_ran 43 = .ok (.iadd, 1) := by decide +kernel
theorem dX7_ran_44 : decode cX7_ran 44 = .ok (.istore_n 2, 1) := by decide +kernel
theorem dX7_ran_45 : decode cX7_ran 45 = .ok (.iinc 3 1, 3) := by decide +kernel
theorem dX7_ran_48 : decode cX7_ran 48 = .ok (.goto (-25), 3) := by decide +kernel
theorem dX7_ran_51 : decode cX7_ran 51 = .ok (.iload_n 1, 1) := by decide +kernel
theorem dX7_ran_52 : decode cX7_ran 52 = .ok (.ifCond .ne 10, 3) := by decide +kernel
theorem dX7_ran_55 : decode cX7_ran 55 = .ok (.aload_n 0, 1) := by decide +kernel
theorem dX7_ran_56 : decode cX7_ran 56 = .ok (.getfield 163, 3) := by decide +kernel
theorem dX7_ran_59 : decode cX7_ran 59 = .ok (.goto 16, 3) := by decide +kernel
theorem dX7_ran_62 : decode cX7_ran 62 = .ok (.iload_n 1, 1) := by decide +kernel
theorem dX7_ran_63 : decode cX7_ran 63 = .ok (.iconst 1, 1) := by decide +kernel
theorem dX7_ran_64 : decode cX7_ran 64 = .ok (.if_icmp .ne 10, 3) := by decide +kernel
theorem dX7_ran_67 : decode cX7_ran 67 = .ok (.aload_n 0, 1) := by decide +kernel
theorem dX7_ran_68 : decode cX7_ran 68 = .ok (.getfield 166, 3) := by decide +kernel
theorem dX7_ran_71 : decode cX7_ran 71 = .ok (.goto 4, 3) := by decide +kernel
theorem dX7_ran_74 : decode cX7_ran 74 = .ok (.iload_n 2, 1) := by decide +kernel
theorem dX7_ran_75 : decode cX7_ran 75 = .ok (.ireturn, 1) := by decide +kernel
theorem dX7_least_0 : decode cX7_least 0 = .ok (.iload_n 1, 1) := by decide +kernel
theorem dX7_least_1 : decode cX7_least 1 = .ok (.i2l, 1) := by decide +kernel
theorem dX7_least_2 : decode cX7_least 2 = .ok (.lconst 0, 1) := by decide +kernel
theorem dX7_least_3 : decode cX7_least 3 = .ok (.aload_n 0, 1) := by decide +kernel
theorem dX7_least_4 : decode cX7_least 4 = .ok (.invokevirtual 147, 3) := by decide +kernel
theorem dX7_least_7 : decode cX7_least 7 = .ok (.i2l, 1) := by decide +kernel
theorem dX7_least_8 : decode cX7_least 8 = .ok (.invokestatic 67, 3) := by decide +kernel
theorem dX7_least_11 : decode cX7_least 11 = .ok (.ifCond .eq 15, 3) := by decide +kernel
theorem dX7_least_14 : decode cX7_least 14 = .ok (.aload_n 0, 1) := by decide +kernel
theorem dX7_least_15 : decode cX7_least 15 = .ok (.aload_n 0, 1) := by decide +kernel
theorem dX7_least_16 : decode cX7_least 16 = .ok (.getfield 19, 3) := by decide +kernel
theorem dX7_least_19 : decode cX7_least 19 = .ok (.iload_n 1, 1) := by decide +kernel
theorem dX7_least_20 : decode cX7_least 20 = .ok (.invokevirtual 150, 3) := by decide +kernel
theorem dX7_least_23 : decode cX7_least 23 = .ok (.goto 5, 3) := by decide +kernel
theorem dX7_least_26 : decode cX7_least 26 = .ok (.bipush (-2), 2) := by decide +kernel
theorem dX7_least_28 : decode cX7_least 28 = .ok (.ireturn, 1) := by decide +kernel
theorem dX7_most_0 : decode cX7_most 0 = .ok (.iload_n 1, 1) := by decide +kernel
theorem dX7_most_1 : decode cX7_most 1 = .ok (.i2l, 1) := by decide +kernel
theorem dX7_most_2 : decode cX7_most 2 = .ok (.lconst 0, 1) := by decide +kernel
theorem dX7_most_3 : decode cX7_most 3 = .ok (.aload_n 0, 1) := by decide +kernel
theorem dX7_most_4 : decode cX7_most 4 = .ok (.invokevirtual 147, 3) := by decide +kernel
theorem dX7_most_7 : decode cX7_most 7 = .ok (.i2l, 1) := by decide +kernel
theorem dX7_most_8 : decode cX7_most 8 = .ok (.invokestatic 67, 3) := by decide +kernel
theorem dX7_most_11 : decode cX7_most 11 = .ok (.ifCond .eq 15, 3) := by decide +kernel
theorem dX7_most_14 : decode cX7_most 14 = .ok (.aload_n 0, 1) := by decide +kernel
theorem dX7_most_15 : decode cX7_most 15 = .ok (.aload_n 0, 1) := by decide +kernel
theorem dX7_most_16 : decode cX7_most 16 = .ok (.getfield 19, 3) := by decide +kernel
theorem dX7_most_19 : decode cX7_most 19 = .ok (.iload_n 1, 1) := by decide +kernel
theorem dX7_most_20 : decode cX7_most 20 = .ok (.invokevirtual 169, 3) := by decide +kernel
theorem dX7_most_23 : decode cX7_most 23 = .ok (.goto 5, 3) := by decide +kernel
theorem dX7_most_26 : decode cX7_most 26 = .ok (.bipush (-2), 2) := by decide +kernel
theorem dX7_most_28 : decode cX7_most 28 = .ok (.ireturn, 1) := by decide +kernel
theorem dX7_sharesOf_0 : decode cX7_sharesOf 0 = .ok (.iconst 0, 1) := by decide +kernel
theorem dX7_sharesOf_1 : decode cX7_sharesOf 1 = .ok (.istore_n 3, 1) := by decide +kernel
theorem dX7_sharesOf_2 : decode cX7_sharesOf 2 = .ok (.iconst 0, 1) := by decide +kernel
theorem dX7_sharesOf_3 : decode cX7_sharesOf 3 = .ok (.istore 4, 2) := by decide +kernel
theorem dX7_sharesOf_5 : decode cX7_sharesOf 5 = .ok (.iload 4, 2) := by decide +kernel
theorem dX7_sharesOf_7 : decode cX7_sharesOf 7 = .ok (.aload_n 0, 1) := by decide +kernel
theorem dX7_sharesOf_8 : decode cX7_sharesOf 8 = .ok (.getfield 71, 3) := by decide +kernel
theorem dX7_sharesOf_11 : decode cX7_sharesOf 11 = .ok (.if_icmp .ge 44, 3) := by decide +kernel
theorem dX7_sharesOf_14 : decode cX7_sharesOf 14 = .ok (.iload_n 3, 1) := by decide +kernel
theorem dX7_sharesOf_15 : decode cX7_sharesOf 15 = .ok (.iload_n 2, 1) := by decide +kernel
theorem dX7_sharesOf_16 : decode cX7_sharesOf 16 = .ok (.iload 4, 2) := by decide +kernel
theorem dX7_sharesOf_18 : decode cX7_sharesOf 18 = .ok (.invokestatic 126, 3) := by decide +kernel
theorem dX7_sharesOf_21 : decode cX7_sharesOf 21 = .ok (.ifCond .eq 25, 3) := by decide +kernel
theorem dX7_sharesOf_24 : decode cX7_sharesOf 24 = .ok (.iload_n 1, 1) := by decide +kernel
theorem dX7_sharesOf_25 : decode cX7_sharesOf 25 = .ok (.bipush 10, 2) := by decide +kernel
theorem dX7_sharesOf_27 : decode cX7_sharesOf 27 = .ok (.aload_n 0, 1) := by decide +kernel
theorem dX7_sharesOf_28 : decode cX7_sharesOf 28 = .ok (.getfield 71, 3) := by decide +kernel
theorem dX7_sharesOf_31 : decode cX7_sharesOf 31 = .ok (.iconst 1, 1) := by decide +kernel
theorem dX7_sharesOf_32 : decode cX7_sharesOf 32 = .ok (.isub, 1) := by decide +kernel
theorem dX7_sharesOf_33 : decode cX7_sharesOf 33 = .ok (.iload 4, 2) := by decide +kernel
theorem dX7_sharesOf_35 : decode cX7_sharesOf 35 = .ok (.isub, 1) := by decide +kernel
theorem dX7_sharesOf_36 : decode cX7_sharesOf 36 = .ok (.invokestatic 116, 3) := by decide +kernel
theorem dX7_sharesOf_39 : decode cX7_sharesOf 39 = .ok (.idiv, 1) := by decide +kernel
theorem dX7_sharesOf_40 : decode cX7_sharesOf 40 = .ok (.bipush 10, 2) := by decide +kernel
theorem dX7_sharesOf_42 : decode cX7_sharesOf 42 = .ok (.irem, 1) := by decide +kernel
theorem dX7_sharesOf_43 : decode cX7_sharesOf 43 = .ok (.goto 4, 3) := by decide +kernel
theorem dX7_sharesOf_46 : decode cX7_sharesOf 46 = .ok (.iconst 0, 1) := by decide +kernel
theorem dX7_sharesOf_47 : decode cX7_sharesOf 47 = .ok (.iadd, 1) := by decide +kernel
theorem dX7_sharesOf_48 : decode cX7_sharesOf 48 = .ok (.istore_n 3, 1) := by decide +kernel
theorem dX7_sharesOf_49 : decode cX7_sharesOf 49 = .ok (.iinc 4 1, 3) := by decide +kernel
theorem dX7_sharesOf_52 : decode cX7_sharesOf 52 = .ok (.goto (-47), 3) := by decide +kernel
theorem dX7_sharesOf_55 : decode cX7_sharesOf 55 = .ok (.iload_n 3, 1) := by decide +kernel
theorem dX7_sharesOf_56 : decode cX7_sharesOf 56 = .ok (.ireturn, 1) := by decide +kernel
theorem dX7_holds_0 : decode cX7_holds 0 = .ok (.iload_n 1, 1) := by decide +kernel
theorem dX7_holds_1 : decode cX7_holds 1 = .ok (.i2l, 1) := by decide +kernel
theorem dX7_holds_2 : decode cX7_holds 2 = .ok (.lconst 0, 1) := by decide +kernel
theorem dX7_holds_3 : decode cX7_holds 3 = .ok (.bipush 10, 2) := by decide +kernel
theorem dX7_holds_5 : decode cX7_holds 5 = .ok (.aload_n 0, 1) := by decide +kernel
theorem dX7_holds_6 : decode cX7_holds 6 = .ok (.getfield 71, 3) := by decide +kernel
theorem dX7_holds_9 : decode cX7_holds 9 = .ok (.invokestatic 116, 3) := by decide +kernel
theorem dX7_holds_12 : decode cX7_holds 12 = .ok (.iconst 1, 1) := by decide +kernel
theorem dX7_holds_13 : decode cX7_holds 13 = .ok (.isub, 1) := by decide +kernel
theorem dX7_holds_14 : decode cX7_holds 14 = .ok (.i2l, 1) := by decide +kernel
theorem dX7_holds_15 : decode cX7_holds 15 = .ok (.invokestatic 67, 3) := by decide +kernel
theorem dX7_holds_18 : decode cX7_holds 18 = .ok (.ifCond .ne 6, 3) := by decide +kernel
theorem dX7_holds_21 : decode cX7_holds 21 = .ok (.bipush (-2), 2) := by decide +kernel
theorem dX7_holds_23 : decode cX7_holds 23 = .ok (.ireturn, 1) := by decide +kernel
theorem dX7_holds_24 : decode cX7_holds 24 = .ok (.aload_n 0, 1) := by decide +kernel
theorem dX7_holds_25 : decode cX7_holds 25 = .ok (.iload_n 1, 1) := by decide +kernel
theorem dX7_holds_26 : decode cX7_holds 26 = .ok (.aload_n 0, 1) := by decide +kernel
theorem dX7_holds_27 : decode cX7_holds 27 = .ok (.invokevirtual 147, 3) := by decide +kernel
theorem dX7_holds_30 : decode cX7_holds 30 = .ok (.invokevirtual 197, 3) := by decide +kernel
theorem dX7_holds_33 : decode cX7_holds 33 = .ok (.aload_n 0, 1) := by decide +kernel
theorem dX7_holds_34 : decode cX7_holds 34 = .ok (.aload_n 0, 1) := by decide +kernel
theorem dX7_holds_35 : decode cX7_holds 35 = .ok (.getfield 19, 3) := by decide +kernel
theorem dX7_holds_38 : decode cX7_holds 38 = .ok (.aload_n 0, 1) := by decide +kernel
theorem dX7_holds_39 : decode cX7_holds 39 = .ok (.invokevirtual 147, 3) := by decide +kernel
theorem dX7_holds_42 : decode cX7_holds 42 = .ok (.invokevirtual 169, 3) := by decide +kernel
theorem dX7_holds_45 : decode cX7_holds 45 = .ok (.if_icmp .eq 6, 3) := by decide +kernel
theorem dX7_holds_48 : decode cX7_holds 48 = .ok (.bipush (-3), 2) := by decide +kernel
theorem dX7_holds_50 : decode cX7_holds 50 = .ok (.ireturn, 1) := by decide +kernel
theorem dX7_holds_51 : decode cX7_holds 51 = .ok (.iconst 0, 1) := by decide +kernel
theorem dX7_holds_52 : decode cX7_holds 52 = .ok (.istore_n 2, 1) := by decide +kernel
theorem dX7_holds_53 : decode cX7_holds 53 = .ok (.iload_n 2, 1) := by decide +kernel
theorem dX7_holds_54 : decode cX7_holds 54 = .ok (.aload_n 0, 1) := by decide +kernel
theorem dX7_holds_55 : decode cX7_holds 55 = .ok (.invokevirtual 147, 3) := by decide +kernel
theorem dX7_holds_58 : decode cX7_holds 58 = .ok (.if_icmp .gt 29, 3) := by decide +kernel
theorem dX7_holds_61 : decode cX7_holds 61 = .ok (.aload_n 0, 1) := by decide +kernel
theorem dX7_holds_62 : decode cX7_holds 62 = .ok (.iload_n 1, 1) := by decide +kernel
theorem dX7_holds_63 : decode cX7_holds 63 = .ok (.iload_n 2, 1) := by decide +kernel
theorem dX7_holds_64 : decode cX7_holds 64 = .ok (.invokevirtual 197, 3) := by decide +kernel
theorem dX7_holds_67 : decode cX7_holds 67 = .ok (.aload_n 0, 1) := by decide +kernel
theorem dX7_holds_68 : decode cX7_holds 68 = .ok (.aload_n 0, 1) := by decide +kernel
theorem dX7_holds_69 : decode cX7_holds 69 = .ok (.getfield 19, 3) := by decide +kernel
theorem dX7_holds_72 : decode cX7_holds 72 = .ok (.iload_n 2, 1) := by decide +kernel
theorem dX7_holds_73 : decode cX7_holds 73 = .ok (.invokevirtual 169, 3) := by decide +kernel
theorem dX7_holds_76 : decode cX7_holds 76 = .ok (.if_icmp .ge 5, 3) := by decide +kernel
theorem dX7_holds_79 : decode cX7_holds 79 = .ok (.iload_n 2, 1) := by decide +kernel
theorem dX7_holds_80 : decode cX7_holds 80 = .ok (.ireturn, 1) := by decide +kernel
theorem dX7_holds_81 : decode cX7_holds 81 = .ok (.iinc 2 1, 3) := by decide +kernel
theorem dX7_holds_84 : decode cX7_holds 84 = .ok (.goto (-31), 3) := by decide +kernel
theorem dX7_holds_87 : decode cX7_holds 87 = .ok (.bipush (-9), 2) := by decide +kernel
theorem dX7_holds_89 : decode cX7_holds 89 = .ok (.ireturn, 1) := by decide +kernel
theorem dX7_judged_0 : decode cX7_judged 0 = .ok (.iload_n 1, 1) := by decide +kernel
theorem dX7_judged_1 : decode cX7_judged 1 = .ok (.tableswitch 265 1 7 #[43, 43, 79, 116, 143, 193, 234], 43) := by decide +kernel
theorem dX7_judged_44 : decode cX7_judged 44 = .ok (.aload_n 0, 1) := by decide +kernel
theorem dX7_judged_45 : decode cX7_judged 45 = .ok (.iload_n 2, 1) := by decide +kernel
theorem dX7_judged_46 : decode cX7_judged 46 = .ok (.invokevirtual 123, 3) := by decide +kernel
theorem dX7_judged_49 : decode cX7_judged 49 = .ok (.ifCond .eq 7, 3) := by decide +kernel
theorem dX7_judged_52 : decode cX7_judged 52 = .ok (.iload_n 3, 1) := by decide +kernel
theorem dX7_judged_53 : decode cX7_judged 53 = .ok (.ifCond .eq 5, 3) := by decide +kernel
theorem dX7_judged_56 : decode cX7_judged 56 = .ok (.iconst 0, 1) := by decide +kernel
theorem dX7_judged_57 : decode cX7_judged 57 = .ok (.ireturn, 1) := by decide +kernel
theorem dX7_judged_58 : decode cX7_judged 58 = .ok (.aload_n 0, 1) := by decide +kernel
theorem dX7_judged_59 : decode cX7_judged 59 = .ok (.getfield 22, 3) := by decide +kernel
theorem dX7_judged_62 : decode cX7_judged 62 = .ok (.iload_n 1, 1) := by decide +kernel
theorem dX7_judged_63 : decode cX7_judged 63 = .ok (.iconst 1, 1) := by decide +kernel
theorem dX7_judged_64 : decode cX7_judged 64 = .ok (.if_icmp .ne 8, 3) := by decide +kernel
theorem dX7_judged_67 : decode cX7_judged 67 = .ok (.bipush 8, 2) := by decide +kernel
theorem dX7_judged_69 : decode cX7_judged 69 = .ok (.goto 4, 3) := by decide +kernel
theorem dX7_judged_72 : decode cX7_judged 72 = .ok (.iconst 4, 1) := by decide +kernel
theorem dX7_judged_73 : decode cX7_judged 73 = .ok (.iload_n 2, 1) := by decide +kernel
theorem dX7_judged_74 : decode cX7_judged 74 = .ok (.iadd, 1) := by decide +kernel
theorem dX7_judged_75 : decode cX7_judged 75 = .ok (.iload 4, 2) := by decide +kernel
theorem dX7_judged_77 : decode cX7_judged 77 = .ok (.iastore, 1) := by decide +kernel
theorem dX7_judged_78 : decode cX7_judged 78 = .ok (.iconst 1, 1) := by decide +kernel
theorem dX7_judged_79 : decode cX7_judged 79 = .ok (.ireturn, 1) := by decide +kernel
theorem dX7_judged_80 : decode cX7_judged 80 = .ok (.aload_n 0, 1) := by decide +kernel
theorem dX7_judged_81 : decode cX7_judged 81 = .ok (.iload_n 2, 1) := by decide +kernel
theorem dX7_judged_82 : decode cX7_judged 82 = .ok (.invokevirtual 178, 3) := by decide +kernel
theorem dX7_judged_85 : decode cX7_judged 85 = .ok (.ifCond .eq 20, 3) := by decide +kernel
theorem dX7_judged_88 : decode cX7_judged 88 = .ok (.iload_n 3, 1) := by decide +kernel
theorem dX7_judged_89 : decode cX7_judged 89 = .ok (.ifCond .ne 16, 3) := by decide +kernel
theorem dX7_judged_92 : decode cX7_judged 92 = .ok (.iload 4, 2) := by decide +kernel
theorem dX7_judged_94 : decode cX7_judged 94 = .ok (.i2l, 1) := by decide +kernel
theorem dX7_judged_95 : decode cX7_judged 95 = .ok (.lconst 1, 1) := by decide +kernel
theorem dX7_judged_96 : decode cX7_judged 96 = .ok (.ldc2_w 97, 3) := by decide +kernel
theorem dX7_judged_99 : decode cX7_judged 99 = .ok (.invokestatic 67, 3) := by decide +kernel
theorem dX7_judged_102 : decode cX7_judged 102 = .ok (.ifCond .ne 5, 3) := by decide +kernel
theorem dX7_judged_105 : decode cX7_judged 105 = .ok (.iconst 0, 1) := by decide +kernel
theorem dX7_judged_106 : decode cX7_judged 106 = .ok (.ireturn, 1) := by decide +kernel
theorem dX7_judged_107 : decode cX7_judged 107 = .ok (.aload_n 0, 1) := by decide +kernel
theorem dX7_judged_108 : decode cX7_judged 108 = .ok (.getfield 22, 3) := by decide +kernel
theorem dX7_judged_111 : decode cX7_judged 111 = .ok (.iload_n 2, 1) := by decide +kernel
theorem dX7_judged_112 : decode cX7_judged 112 = .ok (.iload 4, 2) := by decide +kernel
theorem dX7_judged_114 : decode cX7_judged 114 = .ok (.iastore, 1) := by decide +kernel
theorem dX7_judged_115 : decode cX7_judged 115 = .ok (.iconst 1, 1) := by decide +kernel
theorem dX7_judged_116 : decode cX7_judged 116 = .ok (.ireturn, 1) := by decide +kernel
theorem dX7_judged_117 : decode cX7_judged 117 = .ok (.iload_n 2, 1) := by decide +kernel
theorem dX7_judged_118 : decode cX7_judged 118 = .ok (.ifCond .ne 13, 3) := by decide +kernel
theorem dX7_judged_121 : decode cX7_judged 121 = .ok (.iload_n 3, 1) := by decide +kernel
theorem dX7_judged_122 : decode cX7_judged 122 = .ok (.ifCond .ne 9, 3) := by decide +kernel
theorem dX7_judged_125 : decode cX7_judged 125 = .ok (.iload 4, 2) := by decide +kernel
theorem dX7_judged_127 : decode cX7_judged 127 = .ok (.iconst 4, 1) := by decide +kernel
theorem dX7_judged_128 : decode cX7_judged 128 = .ok (.if_icmp .le 5, 3) := by decide +kernel
theorem dX7_judged_131 : decode cX7_judged 131 = .ok (.iconst 0, 1) := by decide +kernel
theorem dX7_judged_132 : decode cX7_judged 132 = .ok (.ireturn, 1) := by decide +kernel
theorem dX7_judged_133 : decode cX7_judged 133 = .ok (.aload_n 0, 1) := by decide +kernel
theorem dX7_judged_134 : decode cX7_judged 134 = .ok (.getfield 22, 3) := by decide +kernel
theorem dX7_judged_137 : decode cX7_judged 137 = .ok (.bipush 12, 2) := by decide +kernel
theorem dX7_judged_139 : decode cX7_judged 139 = .ok (.iload 4, 2) := by decide +kernel
theorem dX7_judged_141 : decode cX7_judged 141 = .ok (.iastore, 1) := by decide +kernel
theorem dX7_judged_142 : decode cX7_judged 142 = .ok (.iconst 1, 1) := by decide +kernel
theorem dX7_judged_143 : decode cX7_judged 143 = .ok (.ireturn, 1) := by decide +kernel
theorem dX7_judged_144 : decode cX7_judged 144 = .ok (.aload_n 0, 1) := by decide +kernel
theorem dX7_judged_145 : decode cX7_judged 145 = .ok (.iload_n 2, 1) := by decide +kernel
theorem dX7_judged_146 : decode cX7_judged 146 = .ok (.invokevirtual 178, 3) := by decide +kernel
theorem dX7_judged_149 : decode cX7_judged 149 = .ok (.ifCond .eq 43, 3) := by decide +kernel
theorem dX7_judged_152 : decode cX7_judged 152 = .ok (.iload_n 3, 1) := by decide +kernel
theorem dX7_judged_153 : decode cX7_judged 153 = .ok (.ifCond .ne 39, 3) := by decide +kernel
theorem dX7_judged_156 : decode cX7_judged 156 = .ok (.aload_n 0, 1) := by decide +kernel
theorem dX7_judged_157 : decode cX7_judged 157 = .ok (.aload_n 0, 1) := by decide +kernel
theorem dX7_judged_158 : decode cX7_judged 158 = .ok (.getfield 22, 3) := by decide +kernel
theorem dX7_judged_161 : decode cX7_judged 161 = .ok (.aload_n 0, 1) := by decide +kernel
theorem dX7_judged_162 : decode cX7_judged 162 = .ok (.invokevirtual 147, 3) := by decide +kernel
theorem dX7_judged_165 : decode cX7_judged 165 = .ok (.invokevirtual 150, 3) := by decide +kernel
theorem dX7_judged_168 : decode cX7_judged 168 = .ok (.bipush (-9), 2) := by decide +kernel
theorem dX7_judged_170 : decode cX7_judged 170 = .ok (.if_icmp .eq 22, 3) := by decide +kernel
theorem dX7_judged_173 : decode cX7_judged 173 = .ok (.aload_n 0, 1) := by decide +kernel
theorem dX7_judged_174 : decode cX7_judged 174 = .ok (.aload_n 0, 1) := by decide +kernel
theorem dX7_judged_175 : decode cX7_judged 175 = .ok (.getfield 136, 3) := by decide +kernel
theorem dX7_judged_178 : decode cX7_judged 178 = .ok (.iconst 5, 1) := by decide +kernel
theorem dX7_judged_179 : decode cX7_judged 179 = .ok (.iload_n 2, 1) := by decide +kernel
theorem dX7_judged_180 : decode cX7_judged 180 = .ok (.invokevirtual 119, 3) := by decide +kernel
theorem dX7_judged_183 : decode cX7_judged 183 = .ok (.iload 4, 2) := by decide +kernel
theorem dX7_judged_185 : decode cX7_judged 185 = .ok (.if_icmp .ne 7, 3) := by decide +kernel
theorem dX7_judged_188 : decode cX7_judged 188 = .ok (.iconst 1, 1) := by decide +kernel
theorem dX7_judged_189 : decode cX7_judged 189 = .ok (.goto 4, 3) := by decide +kernel
theorem dX7_judged_192 : decode cX7_judged 192 = .ok (.iconst 0, 1) := by decide +kernel
theorem dX7_judged_193 : decode cX7_judged 193 = .ok (.ireturn, 1) := by decide +kernel
theorem dX7_judged_194 : decode cX7_judged 194 = .ok (.iload_n 2, 1) := by decide +kernel
theorem dX7_judged_195 : decode cX7_judged 195 = .ok (.ifCond .ne 38, 3) := by decide +kernel
theorem dX7_judged_198 : decode cX7_judged 198 = .ok (.aload_n 0, 1) := by decide +kernel
theorem dX7_judged_199 : decode cX7_judged 199 = .ok (.aload_n 0, 1) := by decide +kernel
theorem dX7_judged_200 : decode cX7_judged 200 = .ok (.getfield 22, 3) := by decide +kernel
theorem dX7_judged_203 : decode cX7_judged 203 = .ok (.aload_n 0, 1) := by decide +kernel
theorem dX7_judged_204 : decode cX7_judged 204 = .ok (.invokevirtual 147, 3) := by decide +kernel
theorem dX7_judged_207 : decode cX7_judged 207 = .ok (.invokevirtual 150, 3) := by decide +kernel
theorem dX7_judged_210 : decode cX7_judged 210 = .ok (.bipush (-9), 2) := by decide +kernel
theorem dX7_judged_212 : decode cX7_judged 212 = .ok (.if_icmp .eq 21, 3) := by decide +kernel
theorem dX7_judged_215 : decode cX7_judged 215 = .ok (.aload_n 0, 1) := by decide +kernel
theorem dX7_judged_216 : decode cX7_judged 216 = .ok (.getfield 133, 3) := by decide +kernel
theorem dX7_judged_219 : decode cX7_judged 219 = .ok (.bipush 10, 2) := by decide +kernel
theorem dX7_judged_221 : decode cX7_judged 221 = .ok (.iload_n 3, 1) := by decide +kernel
theorem dX7_judged_222 : decode cX7_judged 222 = .ok (.imul, 1) := by decide +kernel
theorem dX7_judged_223 : decode cX7_judged 223 = .ok (.iload 4, 2) := by decide +kernel
theorem dX7_judged_225 : decode cX7_judged 225 = .ok (.iadd, 1) := by decide +kernel
theorem dX7_judged_226 : decode cX7_judged 226 = .ok (.if_icmp .gt 7, 3) := by decide +kernel
theorem dX7_judged_229 : decode cX7_judged 229 = .ok (.iconst 1, 1) := by decide +kernel
theorem dX7_judged_230 : decode cX7_judged 230 = .ok (.goto 4, 3) := by decide +kernel
theorem dX7_judged_233 : decode cX7_judged 233 = .ok (.iconst 0, 1) := by decide +kernel
theorem dX7_judged_234 : decode cX7_judged 234 = .ok (.ireturn, 1) := by decide +kernel
theorem dX7_judged_235 : decode cX7_judged 235 = .ok (.iload_n 2, 1) := by decide +kernel
theorem dX7_judged_236 : decode cX7_judged 236 = .ok (.ifCond .ne 28, 3) := by decide +kernel
theorem dX7_judged_239 : decode cX7_judged 239 = .ok (.iload_n 3, 1) := by decide +kernel
theorem dX7_judged_240 : decode cX7_judged 240 = .ok (.ifCond .ne 24, 3) := by decide +kernel
theorem dX7_judged_243 : decode cX7_judged 243 = .ok (.aload_n 0, 1) := by decide +kernel
theorem dX7_judged_244 : decode cX7_judged 244 = .ok (.aload_n 0, 1) := by decide +kernel
theorem dX7_judged_245 : decode cX7_judged 245 = .ok (.getfield 22, 3) := by decide +kernel
theorem dX7_judged_248 : decode cX7_judged 248 = .ok (.aload_n 0, 1) := by decide +kernel
theorem dX7_judged_249 : decode cX7_judged 249 = .ok (.invokevirtual 147, 3) := by decide +kernel
theorem dX7_judged_252 : decode cX7_judged 252 = .ok (.invokevirtual 169, 3) := by decide +kernel
theorem dX7_judged_255 : decode cX7_judged 255 = .ok (.iload 4, 2) := by decide +kernel
theorem dX7_judged_257 : decode cX7_judged 257 = .ok (.if_icmp .ne 7, 3) := by decide +kernel
theorem dX7_judged_260 : decode cX7_judged 260 = .ok (.iconst 1, 1) := by decide +kernel
theorem dX7_judged_261 : decode cX7_judged 261 = .ok (.goto 4, 3) := by decide +kernel
theorem dX7_judged_264 : decode cX7_judged 264 = .ok (.iconst 0, 1) := by decide +kernel
theorem dX7_judged_265 : decode cX7_judged 265 = .ok (.ireturn, 1) := by decide +kernel
theorem dX7_judged_266 : decode cX7_judged 266 = .ok (.iconst 0, 1) := by decide +kernel
theorem dX7_judged_267 : decode cX7_judged 267 = .ok (.ireturn, 1) := by decide +kernel
theorem dX7_tenThousands_0 : decode cX7_tenThousands 0 = .ok (.lconst 1, 1) := by decide +kernel
theorem dX7_tenThousands_1 : decode cX7_tenThousands 1 = .ok (.lstore_n 1, 1) := by decide +kernel
theorem dX7_tenThousands_2 : decode cX7_tenThousands 2 = .ok (.iconst 0, 1) := by decide +kernel
theorem dX7_tenThousands_3 : decode cX7_tenThousands 3 = .ok (.istore_n 3, 1) := by decide +kernel
theorem dX7_tenThousands_4 : decode cX7_tenThousands 4 = .ok (.iload_n 3, 1) := by decide +kernel
theorem dX7_tenThousands_5 : decode cX7_tenThousands 5 = .ok (.iload_n 0, 1) := by decide +kernel
theorem dX7_tenThousands_6 : decode cX7_tenThousands 6 = .ok (.if_icmp .ge 15, 3) := by decide +kernel
theorem dX7_tenThousands_9 : decode cX7_tenThousands 9 = .ok (.lload_n 1, 1) := by decide +kernel
theorem dX7_tenThousands_10 : decode cX7_tenThousands 10 = .ok (.ldc2_w 200, 3) := by decide +kernel
theorem dX7_tenThousands_13 : decode cX7_tenThousands 13 = .ok (.lmul, 1) := by decide +kernel
theorem dX7_tenThousands_14 : decode cX7_tenThousands 14 = .ok (.lstore_n 1, 1) := by decide +kernel
theorem dX7_tenThousands_15 : decode cX7_tenThousands 15 = .ok (.iinc 3 1, 3) := by decide +kernel
theorem dX7_tenThousands_18 : decode cX7_tenThousands 18 = .ok (.goto (-14), 3) := by decide +kernel
theorem dX7_tenThousands_21 : decode cX7_tenThousands 21 = .ok (.lload_n 1, 1) := by decide +kernel
theorem dX7_tenThousands_22 : decode cX7_tenThousands 22 = .ok (.lreturn, 1) := by decide +kernel
theorem dX7_judge_0 : decode cX7_judge 0 = .ok (.iload_n 1, 1) := by decide +kernel
theorem dX7_judge_1 : decode cX7_judge 1 = .ok (.i2l, 1) := by decide +kernel
theorem dX7_judge_2 : decode cX7_judge 2 = .ok (.lconst 1, 1) := by decide +kernel
theorem dX7_judge_3 : decode cX7_judge 3 = .ok (.ldc2_w 193, 3) := by decide +kernel
theorem dX7_judge_6 : decode cX7_judge 6 = .ok (.invokestatic 67, 3) := by decide +kernel
theorem dX7_judge_9 : decode cX7_judge 9 = .ok (.ifCond .eq 17, 3) := by decide +kernel
theorem dX7_judge_12 : decode cX7_judge 12 = .ok (.lload_n 2, 1) := by decide +kernel
theorem dX7_judge_13 : decode cX7_judge 13 = .ok (.lconst 0, 1) := by decide +kernel
theorem dX7_judge_14 : decode cX7_judge 14 = .ok (.iload_n 1, 1) := by decide +kernel
theorem dX7_judge_15 : decode cX7_judge 15 = .ok (.invokestatic 202, 3) := by decide +kernel
theorem dX7_judge_18 : decode cX7_judge 18 = .ok (.lconst 1, 1) := by decide +kernel
theorem dX7_judge_19 : decode cX7_judge 19 = .ok (.lsub, 1) := by decide +kernel
theorem dX7_judge_20 : decode cX7_judge 20 = .ok (.invokestatic 67, 3) := by decide +kernel
theorem dX7_judge_23 : decode cX7_judge 23 = .ok (.ifCond .ne 6, 3) := by decide +kernel
theorem dX7_judge_26 : decode cX7_judge 26 = .ok (.bipush (-2), 2) := by decide +kernel
theorem dX7_judge_28 : decode cX7_judge 28 = .ok (.ireturn, 1) := by decide +kernel
theorem dX7_judge_29 : decode cX7_judge 29 = .ok (.aload_n 0, 1) := by decide +kernel
theorem dX7_judge_30 : decode cX7_judge 30 = .ok (.invokevirtual 157, 3) := by decide +kernel
theorem dX7_judge_33 : decode cX7_judge 33 = .ok (.iconst 0, 1) := by decide +kernel
theorem dX7_judge_34 : decode cX7_judge 34 = .ok (.istore 4, 2) := by decide +kernel
theorem dX7_judge_36 : decode cX7_judge 36 = .ok (.iload 4, 2) := by decide +kernel
theorem dX7_judge_38 : decode cX7_judge 38 = .ok (.iload_n 1, 1) := by decide +kernel
theorem dX7_judge_39 : decode cX7_judge 39 = .ok (.if_icmp .ge 64, 3) := by decide +kernel
theorem dX7_judge_42 : decode cX7_judge 42 = .ok (.lload_n 2, 1) := by decide +kernel
theorem dX7_judge_43 : decode cX7_judge 43 = .ok (.iload_n 1, 1) := by decide +kernel
theorem dX7_judge_44 : decode cX7_judge 44 = .ok (.iconst 1, 1) := by decide +kernel
theorem dX7_judge_45 : decode cX7_judge 45 = .ok (.isub, 1) := by decide +kernel
theorem dX7_judge_46 : decode cX7_judge 46 = .ok (.iload 4, 2) := by decide +kernel
theorem dX7_judge_48 : decode cX7_judge 48 = .ok (.isub, 1) := by decide +kernel
theorem dX7_judge_49 : decode cX7_judge 49 = .ok (.invokestatic 202, 3) := by decide +kernel
theorem dX7_judge_52 : decode cX7_judge 52 = .ok (.ldiv, 1) := by decide +kernel
theorem dX7_judge_53 : decode cX7_judge 53 = .ok (.ldc2_w 200, 3) := by decide +kernel
theorem dX7_judge_56 : decode cX7_judge 56 = .ok (.lrem, 1) := by decide +kernel
theorem dX7_judge_57 : decode cX7_judge 57 = .ok (.l2i, 1) := by decide +kernel
theorem dX7_judge_58 : decode cX7_judge 58 = .ok (.istore 5, 2) := by decide +kernel
theorem dX7_judge_60 : decode cX7_judge 60 = .ok (.aload_n 0, 1) := by decide +kernel
theorem dX7_judge_61 : decode cX7_judge 61 = .ok (.iload 5, 2) := by decide +kernel
theorem dX7_judge_63 : decode cX7_judge 63 = .ok (.sipush 1000, 3) := by decide +kernel
theorem dX7_judge_66 : decode cX7_judge 66 = .ok (.idiv, 1) := by decide +kernel
theorem dX7_judge_67 : decode cX7_judge 67 = .ok (.iload 5, 2) := by decide +kernel
theorem dX7_judge_69 : decode cX7_judge 69 = .ok (.bipush 100, 2) := by decide +kernel
theorem dX7_judge_71 : decode cX7_judge 71 = .ok (.idiv, 1) := by decide +kernel
theorem dX7_judge_72 : decode cX7_judge 72 = .ok (.bipush 10, 2) := by decide +kernel
theorem dX7_judge_74 : decode cX7_judge 74 = .ok (.irem, 1) := by decide +kernel
theorem dX7_judge_75 : decode cX7_judge 75 = .ok (.iload 5, 2) := by decide +kernel
theorem dX7_judge_77 : decode cX7_judge 77 = .ok (.bipush 10, 2) := by decide +kernel
theorem dX7_judge_79 : decode cX7_judge 79 = .ok (.idiv, 1) := by decide +kernel
theorem dX7_judge_80 : decode cX7_judge 80 = .ok (.bipush 10, 2) := by decide +kernel
theorem dX7_judge_82 : decode cX7_judge 82 = .ok (.irem, 1) := by decide +kernel
theorem dX7_judge_83 : decode cX7_judge 83 = .ok (.iload 5, 2) := by decide +kernel
theorem dX7_judge_85 : decode cX7_judge 85 = .ok (.bipush 10, 2) := by decide +kernel
theorem dX7_judge_87 : decode cX7_judge 87 = .ok (.irem, 1) := by decide +kernel
theorem dX7_judge_88 : decode cX7_judge 88 = .ok (.invokevirtual 206, 3) := by decide +kernel
theorem dX7_judge_91 : decode cX7_judge 91 = .ok (.ifCond .ne 6, 3) := by decide +kernel
theorem dX7_judge_94 : decode cX7_judge 94 = .ok (.iload 4, 2) := by decide +kernel
theorem dX7_judge_96 : decode cX7_judge 96 = .ok (.ireturn, 1) := by decide +kernel
theorem dX7_judge_97 : decode cX7_judge 97 = .ok (.iinc 4 1, 3) := by decide +kernel
theorem dX7_judge_100 : decode cX7_judge 100 = .ok (.goto (-64), 3) := by decide +kernel
theorem dX7_judge_103 : decode cX7_judge 103 = .ok (.bipush (-9), 2) := by decide +kernel
theorem dX7_judge_105 : decode cX7_judge 105 = .ok (.ireturn, 1) := by decide +kernel
theorem dX7_makerAt_0 : decode cX7_makerAt 0 = .ok (.iload_n 0, 1) := by decide +kernel
theorem dX7_makerAt_1 : decode cX7_makerAt 1 = .ok (.iconst 2, 1) := by decide +kernel
theorem dX7_makerAt_2 : decode cX7_makerAt 2 = .ok (.iload_n 1, 1) := by decide +kernel
theorem dX7_makerAt_3 : decode cX7_makerAt 3 = .ok (.imul, 1) := by decide +kernel
theorem dX7_makerAt_4 : decode cX7_makerAt 4 = .ok (.ishr, 1) := by decide +kernel
theorem dX7_makerAt_5 : decode cX7_makerAt 5 = .ok (.iconst 3, 1) := by decide +kernel
theorem dX7_makerAt_6 : decode cX7_makerAt 6 = .ok (.iand, 1) := by decide +kernel
theorem dX7_makerAt_7 : decode cX7_makerAt 7 = .ok (.ireturn, 1) := by decide +kernel
theorem dX7_isOrder_0 : decode cX7_isOrder 0 = .ok (.iconst 0, 1) := by decide +kernel
theorem dX7_isOrder_1 : decode cX7_isOrder 1 = .ok (.istore_n 2, 1) := by decide +kernel
theorem dX7_isOrder_2 : decode cX7_isOrder 2 = .ok (.iconst 0, 1) := by decide +kernel
theorem dX7_isOrder_3 : decode cX7_isOrder 3 = .ok (.istore_n 3, 1) := by decide +kernel
theorem dX7_isOrder_4 : decode cX7_isOrder 4 = .ok (.iload_n 3, 1) := by decide +kernel
theorem dX7_isOrder_5 : decode cX7_isOrder 5 = .ok (.aload_n 0, 1) := by decide +kernel
theorem dX7_isOrder_6 : decode cX7_isOrder 6 = .ok (.getfield 71, 3) := by decide +kernel
theorem dX7_isOrder_9 : decode cX7_isOrder 9 = .ok (.if_icmp .ge 19, 3) := by decide +kernel
theorem dX7_isOrder_12 : decode cX7_isOrder 12 = .ok (.iload_n 2, 1) := by decide +kernel
theorem dX7_isOrder_13 : decode cX7_isOrder 13 = .ok (.iconst 1, 1) := by decide +kernel
theorem dX7_isOrder_14 : decode cX7_isOrder 14 = .ok (.iload_n 1, 1) := by decide +kernel
theorem dX7_isOrder_15 : decode cX7_isOrder 15 = .ok (.iload_n 3, 1) := by decide +kernel
theorem dX7_isOrder_16 : decode cX7_isOrder 16 = .ok (.invokestatic 210, 3) := by decide +kernel
theorem dX7_isOrder_19 : decode cX7_isOrder 19 = .ok (.ishl, 1) := by decide +kernel
theorem dX7_isOrder_20 : decode cX7_isOrder 20 = .ok (.ior, 1) := by decide +kernel
theorem dX7_isOrder_21 : decode cX7_isOrder 21 = .ok (.istore_n 2, 1) := by decide +kernel
theorem dX7_isOrder_22 : decode cX7_isOrder 22 = .ok (.iinc 3 1, 3) := by decide +kernel
theorem dX7_isOrder_25 : decode cX7_isOrder 25 = .ok (.goto (-21), 3) := by decide +kernel
theorem dX7_isOrder_28 : decode cX7_isOrder 28 = .ok (.iload_n 2, 1) := by decide +kernel
theorem dX7_isOrder_29 : decode cX7_isOrder 29 = .ok (.aload_n 0, 1) := by decide +kernel
theorem dX7_isOrder_30 : decode cX7_isOrder 30 = .ok (.invokevirtual 147, 3) := by decide +kernel
theorem dX7_isOrder_33 : decode cX7_isOrder 33 = .ok (.if_icmp .ne 7, 3) := by decide +kernel
theorem dX7_isOrder_36 : decode cX7_isOrder 36 = .ok (.iconst 1, 1) := by decide +kernel
theorem dX7_isOrder_37 : decode cX7_isOrder 37 = .ok (.goto 4, 3) := by decide +kernel
theorem dX7_isOrder_40 : decode cX7_isOrder 40 = .ok (.iconst 0, 1) := by decide +kernel
theorem dX7_isOrder_41 : decode cX7_isOrder 41 = .ok (.ireturn, 1) := by decide +kernel
theorem dX7_share_0 : decode cX7_share 0 = .ok (.aload_n 0, 1) := by decide +kernel
theorem dX7_share_1 : decode cX7_share 1 = .ok (.iload_n 1, 1) := by decide +kernel
theorem dX7_share_2 : decode cX7_share 2 = .ok (.invokevirtual 123, 3) := by decide +kernel
theorem dX7_share_5 : decode cX7_share 5 = .ok (.ifCond .ne 5, 3) := by decide +kernel
theorem dX7_share_8 : decode cX7_share 8 = .ok (.iconst (-1), 1) := by decide +kernel
theorem dX7_share_9 : decode cX7_share 9 = .ok (.ireturn, 1) := by decide +kernel
theorem dX7_share_10 : decode cX7_share 10 = .ok (.iconst 0, 1) := by decide +kernel
theorem dX7_share_11 : decode cX7_share 11 = .ok (.istore_n 3, 1) := by decide +kernel
theorem dX7_share_12 : decode cX7_share 12 = .ok (.iload_n 3, 1) := by decide +kernel
theorem dX7_share_13 : decode cX7_share 13 = .ok (.aload_n 0, 1) := by decide +kernel
theorem dX7_share_14 : decode cX7_share 14 = .ok (.invokevirtual 147, 3) := by decide +kernel
theorem dX7_share_17 : decode cX7_share 17 = .ok (.if_icmp .gt 24, 3) := by decide +kernel
theorem dX7_share_20 : decode cX7_share 20 = .ok (.aload_n 0, 1) := by decide +kernel
theorem dX7_share_21 : decode cX7_share 21 = .ok (.getfield 56, 3) := by decide +kernel
theorem dX7_share_24 : decode cX7_share 24 = .ok (.iload_n 3, 1) := by decide +kernel
theorem dX7_share_25 : decode cX7_share 25 = .ok (.aload_n 0, 1) := by decide +kernel
theorem dX7_share_26 : decode cX7_share 26 = .ok (.aload_n 0, 1) := by decide +kernel
theorem dX7_share_27 : decode cX7_share 27 = .ok (.getfield 19, 3) := by decide +kernel
theorem dX7_share_30 : decode cX7_share 30 = .ok (.iload_n 3, 1) := by decide +kernel
theorem dX7_share_31 : decode cX7_share 31 = .ok (.invokevirtual 169, 3) := by decide +kernel
theorem dX7_share_34 : decode cX7_share 34 = .ok (.iastore, 1) := by decide +kernel
theorem dX7_share_35 : decode cX7_share 35 = .ok (.iinc 3 1, 3) := by decide +kernel
theorem dX7_share_38 : decode cX7_share 38 = .ok (.goto (-26), 3) := by decide +kernel
theorem dX7_share_41 : decode cX7_share 41 = .ok (.iconst 0, 1) := by decide +kernel
theorem dX7_share_42 : decode cX7_share 42 = .ok (.istore_n 3, 1) := by decide +kernel
theorem dX7_share_43 : decode cX7_share 43 = .ok (.iconst 0, 1) := by decide +kernel
theorem dX7_share_44 : decode cX7_share 44 = .ok (.istore 4, 2) := by decide +kernel
theorem dX7_share_46 : decode cX7_share 46 = .ok (.iconst 0, 1) := by decide +kernel
theorem dX7_share_47 : decode cX7_share 47 = .ok (.istore 5, 2) := by decide +kernel
theorem dX7_share_49 : decode cX7_share 49 = .ok (.iload 5, 2) := by decide +kernel
theorem dX7_share_51 : decode cX7_share 51 = .ok (.iconst 1, 1) := by decide +kernel
theorem dX7_share_52 : decode cX7_share 52 = .ok (.iconst 2, 1) := by decide +kernel
theorem dX7_share_53 : decode cX7_share 53 = .ok (.aload_n 0, 1) := by decide +kernel
theorem dX7_share_54 : decode cX7_share 54 = .ok (.getfield 71, 3) := by decide +kernel
theorem dX7_share_57 : decode cX7_share 57 = .ok (.imul, 1) := by decide +kernel
theorem dX7_share_58 : decode cX7_share 58 = .ok (.ishl, 1) := by decide +kernel
theorem dX7_share_59 : decode cX7_share 59 = .ok (.if_icmp .ge 80, 3) := by decide +kernel
theorem dX7_share_62 : decode cX7_share 62 = .ok (.aload_n 0, 1) := by decide +kernel
theorem dX7_share_63 : decode cX7_share 63 = .ok (.iload 5, 2) := by decide +kernel
theorem dX7_share_65 : decode cX7_share 65 = .ok (.invokevirtual 213, 3) := by decide +kernel
theorem dX7_share_68 : decode cX7_share 68 = .ok (.ifCond .eq 65, 3) := by decide +kernel
theorem dX7_share_71 : decode cX7_share 71 = .ok (.iconst 0, 1) := by decide +kernel
theorem dX7_share_72 : decode cX7_share 72 = .ok (.istore 6, 2) := by decide +kernel
theorem dX7_share_74 : decode cX7_share 74 = .ok (.iconst 0, 1) := by decide +kernel
theorem dX7_share_75 : decode cX7_share 75 = .ok (.istore 7, 2) := by decide +kernel
theorem dX7_share_77 : decode cX7_share 77 = .ok (.iload 5, 2) := by decide +kernel
theorem dX7_share_79 : decode cX7_share 79 = .ok (.iload 7, 2) := by decide +kernel
theorem dX7_share_81 : decode cX7_share 81 = .ok (.invokestatic 210, 3) := by decide +kernel
theorem dX7_share_84 : decode cX7_share 84 = .ok (.iload_n 1, 1) := by decide +kernel
theorem dX7_share_85 : decode cX7_share 85 = .ok (.if_icmp .eq 23, 3) := by decide +kernel
theorem dX7_share_88 : decode cX7_share 88 = .ok (.iload 6, 2) := by decide +kernel
theorem dX7_share_90 : decode cX7_share 90 = .ok (.iconst 1, 1) := by decide +kernel
theorem dX7_share_91 : decode cX7_share 91 = .ok (.iload 5, 2) := by decide +kernel
theorem dX7_share_93 : decode cX7_share 93 = .ok (.iload 7, 2) := by decide +kernel
theorem dX7_share_95 : decode cX7_share 95 = .ok (.invokestatic 210, 3) := by decide +kernel
theorem dX7_share_98 : decode cX7_share 98 = .ok (.ishl, 1) := by decide +kernel
theorem dX7_share_99 : decode cX7_share 99 = .ok (.ior, 1) := by decide +kernel
theorem dX7_share_100 : decode cX7_share 100 = .ok (.istore 6, 2) := by decide +kernel
theorem dX7_share_102 : decode cX7_share 102 = .ok (.iinc 7 1, 3) := by decide +kernel
theorem dX7_share_105 : decode cX7_share 105 = .ok (.goto (-28), 3) := by decide +kernel
theorem dX7_share_108 : decode cX7_share 108 = .ok (.iload_n 3, 1) := by decide +kernel
theorem dX7_share_109 : decode cX7_share 109 = .ok (.aload_n 0, 1) := by decide +kernel
theorem dX7_share_110 : decode cX7_share 110 = .ok (.getfield 56, 3) := by decide +kernel
theorem dX7_share_113 : decode cX7_share 113 = .ok (.iload 6, 2) := by decide +kernel
theorem dX7_share_115 : decode cX7_share 115 = .ok (.iconst 1, 1) := by decide +kernel
theorem dX7_share_116 : decode cX7_share 116 = .ok (.iload_n 1, 1) := by decide +kernel
theorem dX7_share_117 : decode cX7_share 117 = .ok (.ishl, 1) := by decide +kernel
theorem dX7_share_118 : decode cX7_share 118 = .ok (.ior, 1) := by decide +kernel
theorem dX7_share_119 : decode cX7_share 119 = .ok (.iaload, 1) := by decide +kernel
theorem dX7_share_120 : decode cX7_share 120 = .ok (.aload_n 0, 1) := by decide +kernel
theorem dX7_share_121 : decode cX7_share 121 = .ok (.getfield 56, 3) := by decide +kernel
theorem dX7_share_124 : decode cX7_share 124 = .ok (.iload 6, 2) := by decide +kernel
theorem dX7_share_126 : decode cX7_share 126 = .ok (.iaload, 1) := by decide +kernel
theorem dX7_share_127 : decode cX7_share 127 = .ok (.isub, 1) := by decide +kernel
theorem dX7_share_128 : decode cX7_share 128 = .ok (.iadd, 1) := by decide +kernel
theorem dX7_share_129 : decode cX7_share 129 = .ok (.istore_n 3, 1) := by decide +kernel
theorem dX7_share_130 : decode cX7_share 130 = .ok (.iinc 4 1, 3) := by decide +kernel
theorem dX7_share_133 : decode cX7_share 133 = .ok (.iinc 5 1, 3) := by decide +kernel
theorem dX7_share_136 : decode cX7_share 136 = .ok (.goto (-87), 3) := by decide +kernel
theorem dX7_share_139 : decode cX7_share 139 = .ok (.iload_n 3, 1) := by decide +kernel
theorem dX7_share_140 : decode cX7_share 140 = .ok (.iload 4, 2) := by decide +kernel
theorem dX7_share_142 : decode cX7_share 142 = .ok (.iload_n 2, 1) := by decide +kernel
theorem dX7_share_143 : decode cX7_share 143 = .ok (.invokestatic 216, 3) := by decide +kernel
theorem dX7_share_146 : decode cX7_share 146 = .ok (.ireturn, 1) := by decide +kernel
theorem dX7_see_0 : decode cX7_see 0 = .ok (.aload_n 0, 1) := by decide +kernel
theorem dX7_see_1 : decode cX7_see 1 = .ok (.iload_n 1, 1) := by decide +kernel
theorem dX7_see_2 : decode cX7_see 2 = .ok (.invokevirtual 178, 3) := by decide +kernel
theorem dX7_see_5 : decode cX7_see 5 = .ok (.ifCond .eq 17, 3) := by decide +kernel
theorem dX7_see_8 : decode cX7_see 8 = .ok (.aload_n 0, 1) := by decide +kernel
theorem dX7_see_9 : decode cX7_see 9 = .ok (.iload_n 2, 1) := by decide +kernel
theorem dX7_see_10 : decode cX7_see 10 = .ok (.invokevirtual 123, 3) := by decide +kernel
theorem dX7_see_13 : decode cX7_see 13 = .ok (.ifCond .ne 11, 3) := by decide +kernel
theorem dX7_see_16 : decode cX7_see 16 = .ok (.iload_n 2, 1) := by decide +kernel
theorem dX7_see_17 : decode cX7_see 17 = .ok (.bipush 9, 2) := by decide +kernel
theorem dX7_see_19 : decode cX7_see 19 = .ok (.if_icmp .eq 5, 3) := by decide +kernel
theorem dX7_see_22 : decode cX7_see 22 = .ok (.iconst (-1), 1) := by decide +kernel
theorem dX7_see_23 : decode cX7_see 23 = .ok (.ireturn, 1) := by decide +kernel
theorem dX7_see_24 : decode cX7_see 24 = .ok (.iload_n 3, 1) := by decide +kernel
theorem dX7_see_25 : decode cX7_see 25 = .ok (.i2l, 1) := by decide +kernel
theorem dX7_see_26 : decode cX7_see 26 = .ok (.lconst 0, 1) := by decide +kernel
theorem dX7_see_27 : decode cX7_see 27 = .ok (.lconst 1, 1) := by decide +kernel
theorem dX7_see_28 : decode cX7_see 28 = .ok (.invokestatic 67, 3) := by decide +kernel
theorem dX7_see_31 : decode cX7_see 31 = .ok (.ifCond .ne 6, 3) := by decide +kernel
theorem dX7_see_34 : decode cX7_see 34 = .ok (.bipush (-2), 2) := by decide +kernel
theorem dX7_see_36 : decode cX7_see 36 = .ok (.ireturn, 1) := by decide +kernel
theorem dX7_see_37 : decode cX7_see 37 = .ok (.aload_n 0, 1) := by decide +kernel
theorem dX7_see_38 : decode cX7_see 38 = .ok (.getfield 175, 3) := by decide +kernel
theorem dX7_see_41 : decode cX7_see 41 = .ok (.bipush 6, 2) := by decide +kernel
theorem dX7_see_43 : decode cX7_see 43 = .ok (.if_icmp .ne 6, 3) := by decide +kernel
theorem dX7_see_46 : decode cX7_see 46 = .ok (.bipush (-4), 2) := by decide +kernel
theorem dX7_see_48 : decode cX7_see 48 = .ok (.ireturn, 1) := by decide +kernel
theorem dX7_see_49 : decode cX7_see 49 = .ok (.aload_n 0, 1) := by decide +kernel
theorem dX7_see_50 : decode cX7_see 50 = .ok (.getfield 44, 3) := by decide +kernel
theorem dX7_see_53 : decode cX7_see 53 = .ok (.aload_n 0, 1) := by decide +kernel
theorem dX7_see_54 : decode cX7_see 54 = .ok (.getfield 175, 3) := by decide +kernel
theorem dX7_see_57 : decode cX7_see 57 = .ok (.iload_n 1, 1) := by decide +kernel
theorem dX7_see_58 : decode cX7_see 58 = .ok (.iastore, 1) := by decide +kernel
theorem dX7_see_59 : decode cX7_see 59 = .ok (.aload_n 0, 1) := by decide +kernel
theorem dX7_see_60 : decode cX7_see 60 = .ok (.getfield 47, 3) := by decide +kernel
theorem dX7_see_63 : decode cX7_see 63 = .ok (.aload_n 0, 1) := by decide +kernel
theorem dX7_see_64 : decode cX7_see 64 = .ok (.getfield 175, 3) := by decide +kernel
theorem dX7_see_67 : decode cX7_see 67 = .ok (.iload_n 2, 1) := by decide +kernel
theorem dX7_see_68 : decode cX7_see 68 = .ok (.iastore, 1) := by decide +kernel
theorem dX7_see_69 : decode cX7_see 69 = .ok (.aload_n 0, 1) := by decide +kernel
theorem dX7_see_70 : decode cX7_see 70 = .ok (.getfield 50, 3) := by decide +kernel
theorem dX7_see_73 : decode cX7_see 73 = .ok (.aload_n 0, 1) := by decide +kernel
theorem dX7_see_74 : decode cX7_see 74 = .ok (.getfield 175, 3) := by decide +kernel
theorem dX7_see_77 : decode cX7_see 77 = .ok (.iload_n 3, 1) := by decide +kernel
theorem dX7_see_78 : decode cX7_see 78 = .ok (.iastore, 1) := by decide +kernel
theorem dX7_see_79 : decode cX7_see 79 = .ok (.aload_n 0, 1) := by decide +kernel
theorem dX7_see_80 : decode cX7_see 80 = .ok (.dup, 1) := by decide +kernel
theorem dX7_see_81 : decode cX7_see 81 = .ok (.getfield 175, 3) := by decide +kernel
theorem dX7_see_84 : decode cX7_see 84 = .ok (.iconst 1, 1) := by decide +kernel
theorem dX7_see_85 : decode cX7_see 85 = .ok (.iadd, 1) := by decide +kernel
theorem dX7_see_86 : decode cX7_see 86 = .ok (.putfield 175, 3) := by decide +kernel
theorem dX7_see_89 : decode cX7_see 89 = .ok (.aload_n 0, 1) := by decide +kernel
theorem dX7_see_90 : decode cX7_see 90 = .ok (.getfield 175, 3) := by decide +kernel
theorem dX7_see_93 : decode cX7_see 93 = .ok (.ireturn, 1) := by decide +kernel
theorem dX7_unsee_0 : decode cX7_unsee 0 = .ok (.aload_n 0, 1) := by decide +kernel
theorem dX7_unsee_1 : decode cX7_unsee 1 = .ok (.getfield 175, 3) := by decide +kernel
theorem dX7_unsee_4 : decode cX7_unsee 4 = .ok (.istore_n 1, 1) := by decide +kernel
theorem dX7_unsee_5 : decode cX7_unsee 5 = .ok (.aload_n 0, 1) := by decide +kernel
theorem dX7_unsee_6 : decode cX7_unsee 6 = .ok (.iconst 0, 1) := by decide +kernel
theorem dX7_unsee_7 : decode cX7_unsee 7 = .ok (.putfield 175, 3) := by decide +kernel
theorem dX7_unsee_10 : decode cX7_unsee 10 = .ok (.iload_n 1, 1) := by decide +kernel
theorem dX7_unsee_11 : decode cX7_unsee 11 = .ok (.ireturn, 1) := by decide +kernel
theorem dX7_agrees_0 : decode cX7_agrees 0 = .ok (.aload_n 0, 1) := by decide +kernel
theorem dX7_agrees_1 : decode cX7_agrees 1 = .ok (.aload_n 0, 1) := by decide +kernel
theorem dX7_agrees_2 : decode cX7_agrees 2 = .ok (.getfield 22, 3) := by decide +kernel
theorem dX7_agrees_5 : decode cX7_agrees 5 = .ok (.aload_n 0, 1) := by decide +kernel
theorem dX7_agrees_6 : decode cX7_agrees 6 = .ok (.invokevirtual 147, 3) := by decide +kernel
theorem dX7_agrees_9 : decode cX7_agrees 9 = .ok (.invokevirtual 143, 3) := by decide +kernel
theorem dX7_agrees_12 : decode cX7_agrees 12 = .ok (.iconst 1, 1) := by decide +kernel
theorem dX7_agrees_13 : decode cX7_agrees 13 = .ok (.istore_n 1, 1) := by decide +kernel
theorem dX7_agrees_14 : decode cX7_agrees 14 = .ok (.iconst 0, 1) := by decide +kernel
theorem dX7_agrees_15 : decode cX7_agrees 15 = .ok (.istore_n 2, 1) := by decide +kernel
theorem dX7_agrees_16 : decode cX7_agrees 16 = .ok (.iload_n 2, 1) := by decide +kernel
theorem dX7_agrees_17 : decode cX7_agrees 17 = .ok (.aload_n 0, 1) := by decide +kernel
theorem dX7_agrees_18 : decode cX7_agrees 18 = .ok (.getfield 175, 3) := by decide +kernel
theorem dX7_agrees_21 : decode cX7_agrees 21 = .ok (.if_icmp .ge 90, 3) := by decide +kernel
theorem dX7_agrees_24 : decode cX7_agrees 24 = .ok (.aload_n 0, 1) := by decide +kernel
theorem dX7_agrees_25 : decode cX7_agrees 25 = .ok (.getfield 133, 3) := by decide +kernel
theorem dX7_agrees_28 : decode cX7_agrees 28 = .ok (.bipush (-9), 2) := by decide +kernel
theorem dX7_agrees_30 : decode cX7_agrees 30 = .ok (.if_icmp .eq 44, 3) := by decide +kernel
theorem dX7_agrees_33 : decode cX7_agrees 33 = .ok (.aload_n 0, 1) := by decide +kernel
theorem dX7_agrees_34 : decode cX7_agrees 34 = .ok (.aload_n 0, 1) := by decide +kernel
theorem dX7_agrees_35 : decode cX7_agrees 35 = .ok (.getfield 44, 3) := by decide +kernel
theorem dX7_agrees_38 : decode cX7_agrees 38 = .ok (.iload_n 2, 1) := by decide +kernel
theorem dX7_agrees_39 : decode cX7_agrees 39 = .ok (.iaload, 1) := by decide +kernel
theorem dX7_agrees_40 : decode cX7_agrees 40 = .ok (.invokevirtual 178, 3) := by decide +kernel
theorem dX7_agrees_43 : decode cX7_agrees 43 = .ok (.ifCond .eq 31, 3) := by decide +kernel
theorem dX7_agrees_46 : decode cX7_agrees 46 = .ok (.aload_n 0, 1) := by decide +kernel
theorem dX7_agrees_47 : decode cX7_agrees 47 = .ok (.aload_n 0, 1) := by decide +kernel
theorem dX7_agrees_48 : decode cX7_agrees 48 = .ok (.getfield 136, 3) := by decide +kernel
theorem dX7_agrees_51 : decode cX7_agrees 51 = .ok (.iconst 5, 1) := by decide +kernel
theorem dX7_agrees_52 : decode cX7_agrees 52 = .ok (.aload_n 0, 1) := by decide +kernel
theorem dX7_agrees_53 : decode cX7_agrees 53 = .ok (.getfield 44, 3) := by decide +kernel
theorem dX7_agrees_56 : decode cX7_agrees 56 = .ok (.iload_n 2, 1) := by decide +kernel
theorem dX7_agrees_57 : decode cX7_agrees 57 = .ok (.iaload, 1) := by decide +kernel
theorem dX7_agrees_58 : decode cX7_agrees 58 = .ok (.invokevirtual 119, 3) := by decide +kernel
theorem dX7_agrees_61 : decode cX7_agrees 61 = .ok (.aload_n 0, 1) := by decide +kernel
theorem dX7_agrees_62 : decode cX7_agrees 62 = .ok (.getfield 47, 3) := by decide +kernel
theorem dX7_agrees_65 : decode cX7_agrees 65 = .ok (.iload_n 2, 1) := by decide +kernel
theorem dX7_agrees_66 : decode cX7_agrees 66 = .ok (.iaload, 1) := by decide +kernel
theorem dX7_agrees_67 : decode cX7_agrees 67 = .ok (.if_icmp .ne 7, 3) := by decide +kernel
theorem dX7_agrees_70 : decode cX7_agrees 70 = .ok (.iconst 1, 1) := by decide +kernel
theorem dX7_agrees_71 : decode cX7_agrees 71 = .ok (.goto 4, 3) := by decide +kernel
theorem dX7_agrees_74 : decode cX7_agrees 74 = .ok (.iconst 0, 1) := by decide +kernel
theorem dX7_agrees_75 : decode cX7_agrees 75 = .ok (.istore_n 3, 1) := by decide +kernel
theorem dX7_agrees_76 : decode cX7_agrees 76 = .ok (.iload_n 1, 1) := by decide +kernel
theorem dX7_agrees_77 : decode cX7_agrees 77 = .ok (.ifCond .eq 26, 3) := by decide +kernel
theorem dX7_agrees_80 : decode cX7_agrees 80 = .ok (.iload_n 3, 1) := by decide +kernel
theorem dX7_agrees_81 : decode cX7_agrees 81 = .ok (.aload_n 0, 1) := by decide +kernel
theorem dX7_agrees_82 : decode cX7_agrees 82 = .ok (.getfield 50, 3) := by decide +kernel
theorem dX7_agrees_85 : decode cX7_agrees 85 = .ok (.iload_n 2, 1) := by decide +kernel
theorem dX7_agrees_86 : decode cX7_agrees 86 = .ok (.iaload, 1) := by decide +kernel
theorem dX7_agrees_87 : decode cX7_agrees 87 = .ok (.iconst 1, 1) := by decide +kernel
theorem dX7_agrees_88 : decode cX7_agrees 88 = .ok (.if_icmp .ne 7, 3) := by decide +kernel
theorem dX7_agrees_91 : decode cX7_agrees 91 = .ok (.iconst 1, 1) := by decide +kernel
theorem dX7_agrees_92 : decode cX7_agrees 92 = .ok (.goto 4, 3) := by decide +kernel
theorem dX7_agrees_95 : decode cX7_agrees 95 = .ok (.iconst 0, 1) := by decide +kernel
theorem dX7_agrees_96 : decode cX7_agrees 96 = .ok (.if_icmp .ne 7, 3) := by decide +kernel
theorem dX7_agrees_99 : decode cX7_agrees 99 = .ok (.iconst 1, 1) := by decide +kernel
theorem dX7_agrees_100 : decode cX7_agrees 100 = .ok (.goto 4, 3) := by decide +kernel
theorem dX7_agrees_103 : decode cX7_agrees 103 = .ok (.iconst 0, 1) := by decide +kernel
theorem dX7_agrees_104 : decode cX7_agrees 104 = .ok (.istore_n 1, 1) := by decide +kernel
theorem dX7_agrees_105 : decode cX7_agrees 105 = .ok (.iinc 2 1, 3) := by decide +kernel
theorem dX7_agrees_108 : decode cX7_agrees 108 = .ok (.goto (-92), 3) := by decide +kernel
theorem dX7_agrees_111 : decode cX7_agrees 111 = .ok (.iload_n 1, 1) := by decide +kernel
theorem dX7_agrees_112 : decode cX7_agrees 112 = .ok (.ireturn, 1) := by decide +kernel
theorem dX7_which_0 : decode cX7_which 0 = .ok (.iload_n 1, 1) := by decide +kernel
theorem dX7_which_1 : decode cX7_which 1 = .ok (.i2l, 1) := by decide +kernel
theorem dX7_which_2 : decode cX7_which 2 = .ok (.lconst 0, 1) := by decide +kernel
theorem dX7_which_3 : decode cX7_which 3 = .ok (.lconst 1, 1) := by decide +kernel
theorem dX7_which_4 : decode cX7_which 4 = .ok (.invokestatic 67, 3) := by decide +kernel
theorem dX7_which_7 : decode cX7_which 7 = .ok (.ifCond .ne 6, 3) := by decide +kernel
theorem dX7_which_10 : decode cX7_which 10 = .ok (.bipush (-2), 2) := by decide +kernel
theorem dX7_which_12 : decode cX7_which 12 = .ok (.ireturn, 1) := by decide +kernel
theorem dX7_which_13 : decode cX7_which 13 = .ok (.iconst 0, 1) := by decide +kernel
theorem dX7_which_14 : decode cX7_which 14 = .ok (.istore_n 2, 1) := by decide +kernel
theorem dX7_which_15 : decode cX7_which 15 = .ok (.bipush (-9), 2) := by decide +kernel
theorem dX7_which_17 : decode cX7_which 17 = .ok (.istore_n 3, 1) := by decide +kernel
theorem dX7_which_18 : decode cX7_which 18 = .ok (.aload_n 0, 1) := by decide +kernel
theorem dX7_which_19 : decode cX7_which 19 = .ok (.getfield 71, 3) := by decide +kernel
theorem dX7_which_22 : decode cX7_which 22 = .ok (.iconst 1, 1) := by decide +kernel
theorem dX7_which_23 : decode cX7_which 23 = .ok (.isub, 1) := by decide +kernel
theorem dX7_which_24 : decode cX7_which 24 = .ok (.istore 4, 2) := by decide +kernel
theorem dX7_which_26 : decode cX7_which 26 = .ok (.iload 4, 2) := by decide +kernel
theorem dX7_which_28 : decode cX7_which 28 = .ok (.ifCond .lt 74, 3) := by decide +kernel
theorem dX7_which_31 : decode cX7_which 31 = .ok (.bipush 9, 2) := by decide +kernel
theorem dX7_which_33 : decode cX7_which 33 = .ok (.istore 5, 2) := by decide +kernel
theorem dX7_which_35 : decode cX7_which 35 = .ok (.iload 5, 2) := by decide +kernel
theorem dX7_which_37 : decode cX7_which 37 = .ok (.ifCond .lt 59, 3) := by decide +kernel
theorem dX7_which_40 : decode cX7_which 40 = .ok (.aload_n 0, 1) := by decide +kernel
theorem dX7_which_41 : decode cX7_which 41 = .ok (.invokevirtual 157, 3) := by decide +kernel
theorem dX7_which_44 : decode cX7_which 44 = .ok (.aload_n 0, 1) := by decide +kernel
theorem dX7_which_45 : decode cX7_which 45 = .ok (.getfield 22, 3) := by decide +kernel
theorem dX7_which_48 : decode cX7_which 48 = .ok (.bipush 8, 2) := by decide +kernel
theorem dX7_which_50 : decode cX7_which 50 = .ok (.iload 4, 2) := by decide +kernel
theorem dX7_which_52 : decode cX7_which 52 = .ok (.iadd, 1) := by decide +kernel
theorem dX7_which_53 : decode cX7_which 53 = .ok (.iload 5, 2) := by decide +kernel
theorem dX7_which_55 : decode cX7_which 55 = .ok (.iastore, 1) := by decide +kernel
theorem dX7_which_56 : decode cX7_which 56 = .ok (.iload 5, 2) := by decide +kernel
theorem dX7_which_58 : decode cX7_which 58 = .ok (.aload_n 0, 1) := by decide +kernel
theorem dX7_which_59 : decode cX7_which 59 = .ok (.getfield 19, 3) := by decide +kernel
theorem dX7_which_62 : decode cX7_which 62 = .ok (.bipush 8, 2) := by decide +kernel
theorem dX7_which_64 : decode cX7_which 64 = .ok (.iload 4, 2) := by decide +kernel
theorem dX7_which_66 : decode cX7_which 66 = .ok (.iadd, 1) := by decide +kernel
theorem dX7_which_67 : decode cX7_which 67 = .ok (.iaload, 1) := by decide +kernel
theorem dX7_which_68 : decode cX7_which 68 = .ok (.if_icmp .eq 22, 3) := by decide +kernel
theorem dX7_which_71 : decode cX7_which 71 = .ok (.aload_n 0, 1) := by decide +kernel
theorem dX7_which_72 : decode cX7_which 72 = .ok (.invokevirtual 220, 3) := by decide +kernel
theorem dX7_which_75 : decode cX7_which 75 = .ok (.ifCond .eq 15, 3) := by decide +kernel
theorem dX7_which_78 : decode cX7_which 78 = .ok (.iinc 2 1, 3) := by decide +kernel
theorem dX7_which_81 : decode cX7_which 81 = .ok (.bipush 10, 2) := by decide +kernel
theorem dX7_which_83 : decode cX7_which 83 = .ok (.iload 4, 2) := by decide +kernel
theorem dX7_which_85 : decode cX7_which 85 = .ok (.imul, 1) := by decide +kernel
theorem dX7_which_86 : decode cX7_which 86 = .ok (.iload 5, 2) := by decide +kernel
theorem dX7_which_88 : decode cX7_which 88 = .ok (.iadd, 1) := by decide +kernel
theorem dX7_which_89 : decode cX7_which 89 = .ok (.istore_n 3, 1) := by decide +kernel
theorem dX7_which_90 : decode cX7_which 90 = .ok (.iinc 5 (-1), 3) := by decide +kernel
theorem dX7_which_93 : decode cX7_which 93 = .ok (.goto (-58), 3) := by decide +kernel
theorem dX7_which_96 : decode cX7_which 96 = .ok (.iinc 4 (-1), 3) := by decide +kernel
theorem dX7_which_99 : decode cX7_which 99 = .ok (.goto (-73), 3) := by decide +kernel
theorem dX7_which_102 : decode cX7_which 102 = .ok (.iload_n 1, 1) := by decide +kernel
theorem dX7_which_103 : decode cX7_which 103 = .ok (.ifCond .ne 7, 3) := by decide +kernel
theorem dX7_which_106 : decode cX7_which 106 = .ok (.iload_n 2, 1) := by decide +kernel
theorem dX7_which_107 : decode cX7_which 107 = .ok (.goto 4, 3) := by decide +kernel
theorem dX7_which_110 : decode cX7_which 110 = .ok (.iload_n 3, 1) := by decide +kernel
theorem dX7_which_111 : decode cX7_which 111 = .ok (.ireturn, 1) := by decide +kernel
theorem dX7_gone_0 : decode cX7_gone 0 = .ok (.iload_n 1, 1) := by decide +kernel
theorem dX7_gone_1 : decode cX7_gone 1 = .ok (.i2l, 1) := by decide +kernel
theorem dX7_gone_2 : decode cX7_gone 2 = .ok (.lconst 0, 1) := by decide +kernel
theorem dX7_gone_3 : decode cX7_gone 3 = .ok (.ldc2_w 224, 3) := by decide +kernel
theorem dX7_gone_6 : decode cX7_gone 6 = .ok (.invokestatic 67, 3) := by decide +kernel
theorem dX7_gone_9 : decode cX7_gone 9 = .ok (.ifCond .ne 6, 3) := by decide +kernel
theorem dX7_gone_12 : decode cX7_gone 12 = .ok (.bipush (-2), 2) := by decide +kernel
theorem dX7_gone_14 : decode cX7_gone 14 = .ok (.ireturn, 1) := by decide +kernel
theorem dX7_gone_15 : decode cX7_gone 15 = .ok (.iconst 0, 1) := by decide +kernel
theorem dX7_gone_16 : decode cX7_gone 16 = .ok (.istore_n 3, 1) := by decide +kernel
theorem dX7_gone_17 : decode cX7_gone 17 = .ok (.iconst 0, 1) := by decide +kernel
theorem dX7_gone_18 : decode cX7_gone 18 = .ok (.istore 4, 2) := by decide +kernel
theorem dX7_gone_20 : decode cX7_gone 20 = .ok (.iload 4, 2) := by decide +kernel
theorem dX7_gone_22 : decode cX7_gone 22 = .ok (.aload_n 0, 1) := by decide +kernel
theorem dX7_gone_23 : decode cX7_gone 23 = .ok (.invokevirtual 147, 3) := by decide +kernel
theorem dX7_gone_26 : decode cX7_gone 26 = .ok (.if_icmp .gt 77, 3) := by decide +kernel
theorem dX7_gone_29 : decode cX7_gone 29 = .ok (.iconst 1, 1) := by decide +kernel
theorem dX7_gone_30 : decode cX7_gone 30 = .ok (.istore 5, 2) := by decide +kernel
theorem dX7_gone_32 : decode cX7_gone 32 = .ok (.iconst 0, 1) := by decide +kernel
theorem dX7_gone_33 : decode cX7_gone 33 = .ok (.istore 6, 2) := by decide +kernel
theorem dX7_gone_35 : decode cX7_gone 35 = .ok (.iload 6, 2) := by decide +kernel
theorem dX7_gone_37 : decode cX7_gone 37 = .ok (.aload_n 0, 1) := by decide +kernel
theorem dX7_gone_38 : decode cX7_gone 38 = .ok (.getfield 71, 3) := by decide +kernel
theorem dX7_gone_41 : decode cX7_gone 41 = .ok (.if_icmp .ge 32, 3) := by decide +kernel
theorem dX7_gone_44 : decode cX7_gone 44 = .ok (.iload 5, 2) := by decide +kernel
theorem dX7_gone_46 : decode cX7_gone 46 = .ok (.iload 4, 2) := by decide +kernel
theorem dX7_gone_48 : decode cX7_gone 48 = .ok (.iload 6, 2) := by decide +kernel
theorem dX7_gone_50 : decode cX7_gone 50 = .ok (.invokestatic 126, 3) := by decide +kernel
theorem dX7_gone_53 : decode cX7_gone 53 = .ok (.ifCond .eq 10, 3) := by decide +kernel
theorem dX7_gone_56 : decode cX7_gone 56 = .ok (.bipush 10, 2) := by decide +kernel
theorem dX7_gone_58 : decode cX7_gone 58 = .ok (.iload_n 1, 1) := by decide +kernel
theorem dX7_gone_59 : decode cX7_gone 59 = .ok (.isub, 1) := by decide +kernel
theorem dX7_gone_60 : decode cX7_gone 60 = .ok (.goto 4, 3) := by decide +kernel
theorem dX7_gone_63 : decode cX7_gone 63 = .ok (.iload_n 1, 1) := by decide +kernel
theorem dX7_gone_64 : decode cX7_gone 64 = .ok (.imul, 1) := by decide +kernel
theorem dX7_gone_65 : decode cX7_gone 65 = .ok (.istore 5, 2) := by decide +kernel
theorem dX7_gone_67 : decode cX7_gone 67 = .ok (.iinc 6 1, 3) := by decide +kernel
theorem dX7_gone_70 : decode cX7_gone 70 = .ok (.goto (-35), 3) := by decide +kernel
theorem dX7_gone_73 : decode cX7_gone 73 = .ok (.iload_n 3, 1) := by decide +kernel
theorem dX7_gone_74 : decode cX7_gone 74 = .ok (.aload_n 0, 1) := by decide +kernel
theorem dX7_gone_75 : decode cX7_gone 75 = .ok (.aload_n 0, 1) := by decide +kernel
theorem dX7_gone_76 : decode cX7_gone 76 = .ok (.getfield 19, 3) := by decide +kernel
theorem dX7_gone_79 : decode cX7_gone 79 = .ok (.iload 4, 2) := by decide +kernel
theorem dX7_gone_81 : decode cX7_gone 81 = .ok (.invokevirtual 150, 3) := by decide +kernel
theorem dX7_gone_84 : decode cX7_gone 84 = .ok (.bipush (-9), 2) := by decide +kernel
theorem dX7_gone_86 : decode cX7_gone 86 = .ok (.if_icmp .ne 7, 3) := by decide +kernel
theorem dX7_gone_89 : decode cX7_gone 89 = .ok (.iconst 0, 1) := by decide +kernel
theorem dX7_gone_90 : decode cX7_gone 90 = .ok (.goto 5, 3) := by decide +kernel
theorem dX7_gone_93 : decode cX7_gone 93 = .ok (.iload 5, 2) := by decide +kernel
theorem dX7_gone_95 : decode cX7_gone 95 = .ok (.iadd, 1) := by decide +kernel
theorem dX7_gone_96 : decode cX7_gone 96 = .ok (.istore_n 3, 1) := by decide +kernel
theorem dX7_gone_97 : decode cX7_gone 97 = .ok (.iinc 4 1, 3) := by decide +kernel
theorem dX7_gone_100 : decode cX7_gone 100 = .ok (.goto (-80), 3) := by decide +kernel
theorem dX7_gone_103 : decode cX7_gone 103 = .ok (.iload_n 3, 1) := by decide +kernel
theorem dX7_gone_104 : decode cX7_gone 104 = .ok (.bipush 10, 2) := by decide +kernel
theorem dX7_gone_106 : decode cX7_gone 106 = .ok (.aload_n 0, 1) := by decide +kernel
theorem dX7_gone_107 : decode cX7_gone 107 = .ok (.getfield 71, 3) := by decide +kernel
theorem dX7_gone_110 : decode cX7_gone 110 = .ok (.invokestatic 116, 3) := by decide +kernel
theorem dX7_gone_113 : decode cX7_gone 113 = .ok (.iload_n 2, 1) := by decide +kernel
theorem dX7_gone_114 : decode cX7_gone 114 = .ok (.invokestatic 216, 3) := by decide +kernel
theorem dX7_gone_117 : decode cX7_gone 117 = .ok (.ireturn, 1) := by decide +kernel
theorem dX7_seed_0 : decode cX7_seed 0 = .ok (.aload_n 0, 1) := by decide +kernel
theorem dX7_seed_1 : decode cX7_seed 1 = .ok (.getfield 226, 3) := by decide +kernel
theorem dX7_seed_4 : decode cX7_seed 4 = .ok (.lstore_n 3, 1) := by decide +kernel
theorem dX7_seed_5 : decode cX7_seed 5 = .ok (.aload_n 0, 1) := by decide +kernel
theorem dX7_seed_6 : decode cX7_seed 6 = .ok (.lload_n 1, 1) := by decide +kernel
theorem dX7_seed_7 : decode cX7_seed 7 = .ok (.putfield 226, 3) := by decide +kernel
theorem dX7_seed_10 : decode cX7_seed 10 = .ok (.lload_n 3, 1) := by decide +kernel
theorem dX7_seed_11 : decode cX7_seed 11 = .ok (.lreturn, 1) := by decide +kernel
theorem dX7_drawn_0 : decode cX7_drawn 0 = .ok (.iload_n 1, 1) := by decide +kernel
theorem dX7_drawn_1 : decode cX7_drawn 1 = .ok (.i2l, 1) := by decide +kernel
theorem dX7_drawn_2 : decode cX7_drawn 2 = .ok (.lconst 1, 1) := by decide +kernel
theorem dX7_drawn_3 : decode cX7_drawn 3 = .ok (.ldc2_w 230, 3) := by decide +kernel
theorem dX7_drawn_6 : decode cX7_drawn 6 = .ok (.invokestatic 67, 3) := by decide +kernel
theorem dX7_drawn_9 : decode cX7_drawn 9 = .ok (.ifCond .ne 6, 3) := by decide +kernel
theorem dX7_drawn_12 : decode cX7_drawn 12 = .ok (.bipush (-2), 2) := by decide +kernel
theorem dX7_drawn_14 : decode cX7_drawn 14 = .ok (.ireturn, 1) := by decide +kernel
theorem dX7_drawn_15 : decode cX7_drawn 15 = .ok (.aload_n 0, 1) := by decide +kernel
theorem dX7_drawn_16 : decode cX7_drawn 16 = .ok (.invokevirtual 157, 3) := by decide +kernel
theorem dX7_drawn_19 : decode cX7_drawn 19 = .ok (.iconst 0, 1) := by decide +kernel
theorem dX7_drawn_20 : decode cX7_drawn 20 = .ok (.istore_n 2, 1) := by decide +kernel
theorem dX7_drawn_21 : decode cX7_drawn 21 = .ok (.iconst 0, 1) := by decide +kernel
theorem dX7_drawn_22 : decode cX7_drawn 22 = .ok (.istore_n 3, 1) := by decide +kernel
theorem dX7_drawn_23 : decode cX7_drawn 23 = .ok (.iload_n 3, 1) := by decide +kernel
theorem dX7_drawn_24 : decode cX7_drawn 24 = .ok (.iload_n 1, 1) := by decide +kernel
theorem dX7_drawn_25 : decode cX7_drawn 25 = .ok (.if_icmp .ge 95, 3) := by decide +kernel
theorem dX7_drawn_28 : decode cX7_drawn 28 = .ok (.iconst 0, 1) := by decide +kernel
theorem dX7_drawn_29 : decode cX7_drawn 29 = .ok (.istore 4, 2) := by decide +kernel
theorem dX7_drawn_31 : decode cX7_drawn 31 = .ok (.iload 4, 2) := by decide +kernel
theorem dX7_drawn_33 : decode cX7_drawn 33 = .ok (.aload_n 0, 1) := by decide +kernel
theorem dX7_drawn_34 : decode cX7_drawn 34 = .ok (.getfield 71, 3) := by decide +kernel
theorem dX7_drawn_37 : decode cX7_drawn 37 = .ok (.if_icmp .ge 47, 3) := by decide +kernel
theorem dX7_drawn_40 : decode cX7_drawn 40 = .ok (.aload_n 0, 1) := by decide +kernel
theorem dX7_drawn_41 : decode cX7_drawn 41 = .ok (.aload_n 0, 1) := by decide +kernel
theorem dX7_drawn_42 : decode cX7_drawn 42 = .ok (.getfield 226, 3) := by decide +kernel
theorem dX7_drawn_45 : decode cX7_drawn 45 = .ok (.ldc2_w 232, 3) := by decide +kernel
theorem dX7_drawn_48 : decode cX7_drawn 48 = .ok (.lmul, 1) := by decide +kernel
theorem dX7_drawn_49 : decode cX7_drawn 49 = .ok (.ldc2_w 234, 3) := by decide +kernel
theorem dX7_drawn_52 : decode cX7_drawn 52 = .ok (.ladd, 1) := by decide +kernel
theorem dX7_drawn_53 : decode cX7_drawn 53 = .ok (.putfield 226, 3) := by decide +kernel
theorem dX7_drawn_56 : decode cX7_drawn 56 = .ok (.aload_n 0, 1) := by decide +kernel
theorem dX7_drawn_57 : decode cX7_drawn 57 = .ok (.getfield 22, 3) := by decide +kernel
theorem dX7_drawn_60 : decode cX7_drawn 60 = .ok (.bipush 8, 2) := by decide +kernel
theorem dX7_drawn_62 : decode cX7_drawn 62 = .ok (.iload 4, 2) := by decide +kernel
theorem dX7_drawn_64 : decode cX7_drawn 64 = .ok (.iadd, 1) := by decide +kernel
theorem dX7_drawn_65 : decode cX7_drawn 65 = .ok (.aload_n 0, 1) := by decide +kernel
theorem dX7_drawn_66 : decode cX7_drawn 66 = .ok (.getfield 226, 3) := by decide +kernel
theorem dX7_drawn_69 : decode cX7_drawn 69 = .ok (.bipush 33, 2) := by decide +kernel
theorem dX7_drawn_71 : decode cX7_drawn 71 = .ok (.lushr, 1) := by decide +kernel
theorem dX7_drawn_72 : decode cX7_drawn 72 = .ok (.ldc2_w 224, 3) := by decide +kernel
theorem dX7_drawn_75 : decode cX7_drawn 75 = .ok (.lrem, 1) := by decide +kernel
theorem dX7_drawn_76 : decode cX7_drawn 76 = .ok (.l2i, 1) := by decide +kernel
theorem dX7_drawn_77 : decode cX7_drawn 77 = .ok (.iastore, 1) := by decide +kernel
theorem dX7_drawn_78 : decode cX7_drawn 78 = .ok (.iinc 4 1, 3) := by decide +kernel
theorem dX7_drawn_81 : decode cX7_drawn 81 = .ok (.goto (-50), 3) := by decide +kernel
theorem dX7_drawn_84 : decode cX7_drawn 84 = .ok (.aload_n 0, 1) := by decide +kernel
theorem dX7_drawn_85 : decode cX7_drawn 85 = .ok (.aload_n 0, 1) := by decide +kernel
theorem dX7_drawn_86 : decode cX7_drawn 86 = .ok (.getfield 22, 3) := by decide +kernel
theorem dX7_drawn_89 : decode cX7_drawn 89 = .ok (.aload_n 0, 1) := by decide +kernel
theorem dX7_drawn_90 : decode cX7_drawn 90 = .ok (.invokevirtual 147, 3) := by decide +kernel
theorem dX7_drawn_93 : decode cX7_drawn 93 = .ok (.invokevirtual 150, 3) := by decide +kernel
theorem dX7_drawn_96 : decode cX7_drawn 96 = .ok (.istore 4, 2) := by decide +kernel
theorem dX7_drawn_98 : decode cX7_drawn 98 = .ok (.iload_n 2, 1) := by decide +kernel
theorem dX7_drawn_99 : decode cX7_drawn 99 = .ok (.iload 4, 2) := by decide +kernel
theorem dX7_drawn_101 : decode cX7_drawn 101 = .ok (.bipush (-9), 2) := by decide +kernel
theorem dX7_drawn_103 : decode cX7_drawn 103 = .ok (.if_icmp .ne 7, 3) := by decide +kernel
theorem dX7_drawn_106 : decode cX7_drawn 106 = .ok (.iconst 0, 1) := by decide +kernel
theorem dX7_drawn_107 : decode cX7_drawn 107 = .ok (.goto 5, 3) := by decide +kernel
theorem dX7_drawn_110 : decode cX7_drawn 110 = .ok (.iload 4, 2) := by decide +kernel
theorem dX7_drawn_112 : decode cX7_drawn 112 = .ok (.iadd, 1) := by decide +kernel
theorem dX7_drawn_113 : decode cX7_drawn 113 = .ok (.istore_n 2, 1) := by decide +kernel
theorem dX7_drawn_114 : decode cX7_drawn 114 = .ok (.iinc 3 1, 3) := by decide +kernel
theorem dX7_drawn_117 : decode cX7_drawn 117 = .ok (.goto (-94), 3) := by decide +kernel
theorem dX7_drawn_120 : decode cX7_drawn 120 = .ok (.iload_n 2, 1) := by decide +kernel
theorem dX7_drawn_121 : decode cX7_drawn 121 = .ok (.ireturn, 1) := by decide +kernel
theorem dX7_keep_0 : decode cX7_keep 0 = .ok (.iload_n 1, 1) := by decide +kernel
theorem dX7_keep_1 : decode cX7_keep 1 = .ok (.i2l, 1) := by decide +kernel
theorem dX7_keep_2 : decode cX7_keep 2 = .ok (.lconst 0, 1) := by decide +kernel
theorem dX7_keep_3 : decode cX7_keep 3 = .ok (.lconst 1, 1) := by decide +kernel
theorem dX7_keep_4 : decode cX7_keep 4 = .ok (.invokestatic 67, 3) := by decide +kernel
theorem dX7_keep_7 : decode cX7_keep 7 = .ok (.ifCond .ne 5, 3) := by decide +kernel
theorem dX7_keep_10 : decode cX7_keep 10 = .ok (.iconst (-1), 1) := by decide +kernel
theorem dX7_keep_11 : decode cX7_keep 11 = .ok (.ireturn, 1) := by decide +kernel
theorem dX7_keep_12 : decode cX7_keep 12 = .ok (.aload_n 0, 1) := by decide +kernel
theorem dX7_keep_13 : decode cX7_keep 13 = .ok (.getfield 31, 3) := by decide +kernel
theorem dX7_keep_16 : decode cX7_keep 16 = .ok (.iload_n 1, 1) := by decide +kernel
theorem dX7_keep_17 : decode cX7_keep 17 = .ok (.iconst 1, 1) := by decide +kernel
theorem dX7_keep_18 : decode cX7_keep 18 = .ok (.bastore, 1) := by decide +kernel
theorem dX7_keep_19 : decode cX7_keep 19 = .ok (.iconst 0, 1) := by decide +kernel
theorem dX7_keep_20 : decode cX7_keep 20 = .ok (.istore_n 2, 1) := by decide +kernel
theorem dX7_keep_21 : decode cX7_keep 21 = .ok (.iload_n 2, 1) := by decide +kernel
theorem dX7_keep_22 : decode cX7_keep 22 = .ok (.bipush 13, 2) := by decide +kernel
theorem dX7_keep_24 : decode cX7_keep 24 = .ok (.if_icmp .ge 26, 3) := by decide +kernel
theorem dX7_keep_27 : decode cX7_keep 27 = .ok (.aload_n 0, 1) := by decide +kernel
theorem dX7_keep_28 : decode cX7_keep 28 = .ok (.getfield 28, 3) := by decide +kernel
theorem dX7_keep_31 : decode cX7_keep 31 = .ok (.bipush 13, 2) := by decide +kernel
theorem dX7_keep_33 : decode cX7_keep 33 = .ok (.iload_n 1, 1) := by decide +kernel
theorem dX7_keep_34 : decode cX7_keep 34 = .ok (.imul, 1) := by decide +kernel
theorem dX7_keep_35 : decode cX7_keep 35 = .ok (.iload_n 2, 1) := by decide +kernel
theorem dX7_keep_36 : decode cX7_keep 36 = .ok (.iadd, 1) := by decide +kernel
theorem dX7_keep_37 : decode cX7_keep 37 = .ok (.aload_n 0, 1) := by decide +kernel
theorem dX7_keep_38 : decode cX7_keep 38 = .ok (.getfield 19, 3) := by decide +kernel
theorem dX7_keep_41 : decode cX7_keep 41 = .ok (.iload_n 2, 1) := by decide +kernel
theorem dX7_keep_42 : decode cX7_keep 42 = .ok (.iaload, 1) := by decide +kernel
theorem dX7_keep_43 : decode cX7_keep 43 = .ok (.iastore, 1) := by decide +kernel
theorem dX7_keep_44 : decode cX7_keep 44 = .ok (.iinc 2 1, 3) := by decide +kernel
theorem dX7_keep_47 : decode cX7_keep 47 = .ok (.goto (-26), 3) := by decide +kernel
theorem dX7_keep_50 : decode cX7_keep 50 = .ok (.aload_n 0, 1) := by decide +kernel
theorem dX7_keep_51 : decode cX7_keep 51 = .ok (.getfield 71, 3) := by decide +kernel
theorem dX7_keep_54 : decode cX7_keep 54 = .ok (.ireturn, 1) := by decide +kernel
theorem dX7_again_0 : decode cX7_again 0 = .ok (.iload_n 1, 1) := by decide +kernel
theorem dX7_again_1 : decode cX7_again 1 = .ok (.i2l, 1) := by decide +kernel
theorem dX7_again_2 : decode cX7_again 2 = .ok (.lconst 0, 1) := by decide +kernel
theorem dX7_again_3 : decode cX7_again 3 = .ok (.lconst 1, 1) := by decide +kernel
theorem dX7_again_4 : decode cX7_again 4 = .ok (.invokestatic 67, 3) := by decide +kernel
theorem dX7_again_7 : decode cX7_again 7 = .ok (.ifCond .ne 5, 3) := by decide +kernel
theorem dX7_again_10 : decode cX7_again 10 = .ok (.iconst (-1), 1) := by decide +kernel
theorem dX7_again_11 : decode cX7_again 11 = .ok (.ireturn, 1) := by decide +kernel
theorem dX7_again_12 : decode cX7_again 12 = .ok (.aload_n 0, 1) := by decide +kernel
theorem dX7_again_13 : decode cX7_again 13 = .ok (.getfield 31, 3) := by decide +kernel
theorem dX7_again_16 : decode cX7_again 16 = .ok (.iload_n 1, 1) := by decide +kernel
theorem dX7_again_17 : decode cX7_again 17 = .ok (.baload, 1) := by decide +kernel
theorem dX7_again_18 : decode cX7_again 18 = .ok (.ifCond .ne 6, 3) := by decide +kernel
theorem dX7_again_21 : decode cX7_again 21 = .ok (.bipush (-3), 2) := by decide +kernel
theorem dX7_again_23 : decode cX7_again 23 = .ok (.ireturn, 1) := by decide +kernel
theorem dX7_again_24 : decode cX7_again 24 = .ok (.iconst 0, 1) := by decide +kernel
theorem dX7_again_25 : decode cX7_again 25 = .ok (.istore_n 2, 1) := by decide +kernel
theorem dX7_again_26 : decode cX7_again 26 = .ok (.iload_n 2, 1) := by decide +kernel
theorem dX7_again_27 : decode cX7_again 27 = .ok (.bipush 13, 2) := by decide +kernel
theorem dX7_again_29 : decode cX7_again 29 = .ok (.if_icmp .ge 26, 3) := by decide +kernel
theorem dX7_again_32 : decode cX7_again 32 = .ok (.aload_n 0, 1) := by decide +kernel
theorem dX7_again_33 : decode cX7_again 33 = .ok (.getfield 19, 3) := by decide +kernel
theorem dX7_again_36 : decode cX7_again 36 = .ok (.iload_n 2, 1) := by decide +kernel
theorem dX7_again_37 : decode cX7_again 37 = .ok (.aload_n 0, 1) := by decide +kernel
theorem dX7_again_38 : decode cX7_again 38 = .ok (.getfield 28, 3) := by decide +kernel
theorem dX7_again_41 : decode cX7_again 41 = .ok (.bipush 13, 2) := by decide +kernel
theorem dX7_again_43 : decode cX7_again 43 = .ok (.iload_n 1, 1) := by decide +kernel
theorem dX7_again_44 : decode cX7_again 44 = .ok (.imul, 1) := by decide +kernel
theorem dX7_again_45 : decode cX7_again 45 = .ok (.iload_n 2, 1) := by decide +kernel
theorem dX7_again_46 : decode cX7_again 46 = .ok (.iadd, 1) := by decide +kernel
theorem dX7_again_47 : decode cX7_again 47 = .ok (.iaload, 1) := by decide +kernel
theorem dX7_again_48 : decode cX7_again 48 = .ok (.iastore, 1) := by decide +kernel
theorem dX7_again_49 : decode cX7_again 49 = .ok (.iinc 2 1, 3) := by decide +kernel
theorem dX7_again_52 : decode cX7_again 52 = .ok (.goto (-26), 3) := by decide +kernel
theorem dX7_again_55 : decode cX7_again 55 = .ok (.aload_n 0, 1) := by decide +kernel
theorem dX7_again_56 : decode cX7_again 56 = .ok (.iconst 0, 1) := by decide +kernel
theorem dX7_again_57 : decode cX7_again 57 = .ok (.putfield 113, 3) := by decide +kernel
theorem dX7_again_60 : decode cX7_again 60 = .ok (.aload_n 0, 1) := by decide +kernel
theorem dX7_again_61 : decode cX7_again 61 = .ok (.getfield 71, 3) := by decide +kernel
theorem dX7_again_64 : decode cX7_again 64 = .ok (.ireturn, 1) := by decide +kernel
theorem dJ6_bitCount_0f7a4_0 : decode cJ6_bitCount_0f7a4 0 = .ok (.iload_n 0, 1) := by decide +kernel
theorem dJ6_bitCount_0f7a4_1 : decode cJ6_bitCount_0f7a4 1 = .ok (.iload_n 0, 1) := by decide +kernel
theorem dJ6_bitCount_0f7a4_2 : decode cJ6_bitCount_0f7a4 2 = .ok (.iconst 1, 1) := by decide +kernel
theorem dJ6_bitCount_0f7a4_3 : decode cJ6_bitCount_0f7a4 3 = .ok (.iushr, 1) := by decide +kernel
theorem dJ6_bitCount_0f7a4_4 : decode cJ6_bitCount_0f7a4 4 = .ok (.ldc_w 265, 3) := by decide +kernel
theorem dJ6_bitCount_0f7a4_7 : decode cJ6_bitCount_0f7a4 7 = .ok (.iand, 1) := by decide +kernel
theorem dJ6_bitCount_0f7a4_8 : decode cJ6_bitCount_0f7a4 8 = .ok (.isub, 1) := by decide +kernel
theorem dJ6_bitCount_0f7a4_9 : decode cJ6_bitCount_0f7a4 9 = .ok (.istore_n 0, 1) := by decide +kernel
theorem dJ6_bitCount_0f7a4_10 : decode cJ6_bitCount_0f7a4 10 = .ok (.iload_n 0, 1) := by decide +kernel
theorem dJ6_bitCount_0f7a4_11 : decode cJ6_bitCount_0f7a4 11 = .ok (.ldc_w 266, 3) := by decide +kernel
theorem dJ6_bitCount_0f7a4_14 : decode cJ6_bitCount_0f7a4 14 = .ok (.iand, 1) := by decide +kernel
theorem dJ6_bitCount_0f7a4_15 : decode cJ6_bitCount_0f7a4 15 = .ok (.iload_n 0, 1) := by decide +kernel
theorem dJ6_bitCount_0f7a4_16 : decode cJ6_bitCount_0f7a4 16 = .ok (.iconst 2, 1) := by decide +kernel
theorem dJ6_bitCount_0f7a4_17 : decode cJ6_bitCount_0f7a4 17 = .ok (.iushr, 1) := by decide +kernel
theorem dJ6_bitCount_0f7a4_18 : decode cJ6_bitCount_0f7a4 18 = .ok (.ldc_w 266, 3) := by decide +kernel
theorem dJ6_bitCount_0f7a4_21 : decode cJ6_bitCount_0f7a4 21 = .ok (.iand, 1) := by decide +kernel
theorem dJ6_bitCount_0f7a4_22 : decode cJ6_bitCount_0f7a4 22 = .ok (.iadd, 1) := by decide +kernel
theorem dJ6_bitCount_0f7a4_23 : decode cJ6_bitCount_0f7a4 23 = .ok (.istore_n 0, 1) := by decide +kernel
theorem dJ6_bitCount_0f7a4_24 : decode cJ6_bitCount_0f7a4 24 = .ok (.iload_n 0, 1) := by decide +kernel
theorem dJ6_bitCount_0f7a4_25 : decode cJ6_bitCount_0f7a4 25 = .ok (.iload_n 0, 1) := by decide +kernel
theorem dJ6_bitCount_0f7a4_26 : decode cJ6_bitCount_0f7a4 26 = .ok (.iconst 4, 1) := by decide +kernel
theorem dJ6_bitCount_0f7a4_27 : decode cJ6_bitCount_0f7a4 27 = .ok (.iushr, 1) := by decide +kernel
theorem dJ6_bitCount_0f7a4_28 : decode cJ6_bitCount_0f7a4 28 = .ok (.iadd, 1) := by decide +kernel
theorem dJ6_bitCount_0f7a4_29 : decode cJ6_bitCount_0f7a4 29 = .ok (.ldc_w 267, 3) := by decide +kernel
theorem dJ6_bitCount_0f7a4_32 : decode cJ6_bitCount_0f7a4 32 = .ok (.iand, 1) := by decide +kernel
theorem dJ6_bitCount_0f7a4_33 : decode cJ6_bitCount_0f7a4 33 = .ok (.istore_n 0, 1) := by decide +kernel
theorem dJ6_bitCount_0f7a4_34 : decode cJ6_bitCount_0f7a4 34 = .ok (.iload_n 0, 1) := by decide +kernel
theorem dJ6_bitCount_0f7a4_35 : decode cJ6_bitCount_0f7a4 35 = .ok (.iload_n 0, 1) := by decide +kernel
theorem dJ6_bitCount_0f7a4_36 : decode cJ6_bitCount_0f7a4 36 = .ok (.bipush 8, 2) := by decide +kernel
theorem dJ6_bitCount_0f7a4_38 : decode cJ6_bitCount_0f7a4 38 = .ok (.iushr, 1) := by decide +kernel
theorem dJ6_bitCount_0f7a4_39 : decode cJ6_bitCount_0f7a4 39 = .ok (.iadd, 1) := by decide +kernel
theorem dJ6_bitCount_0f7a4_40 : decode cJ6_bitCount_0f7a4 40 = .ok (.istore_n 0, 1) := by decide +kernel
theorem dJ6_bitCount_0f7a4_41 : decode cJ6_bitCount_0f7a4 41 = .ok (.iload_n 0, 1) := by decide +kernel
theorem dJ6_bitCount_0f7a4_42 : decode cJ6_bitCount_0f7a4 42 = .ok (.iload_n 0, 1) := by decide +kernel
theorem dJ6_bitCount_0f7a4_43 : decode cJ6_bitCount_0f7a4 43 = .ok (.bipush 16, 2) := by decide +kernel
theorem dJ6_bitCount_0f7a4_45 : decode cJ6_bitCount_0f7a4 45 = .ok (.iushr, 1) := by decide +kernel
theorem dJ6_bitCount_0f7a4_46 : decode cJ6_bitCount_0f7a4 46 = .ok (.iadd, 1) := by decide +kernel
theorem dJ6_bitCount_0f7a4_47 : decode cJ6_bitCount_0f7a4 47 = .ok (.istore_n 0, 1) := by decide +kernel
theorem dJ6_bitCount_0f7a4_48 : decode cJ6_bitCount_0f7a4 48 = .ok (.iload_n 0, 1) := by decide +kernel
theorem dJ6_bitCount_0f7a4_49 : decode cJ6_bitCount_0f7a4 49 = .ok (.bipush 63, 2) := by decide +kernel
theorem dJ6_bitCount_0f7a4_51 : decode cJ6_bitCount_0f7a4 51 = .ok (.iand, 1) := by decide +kernel
theorem dJ6_bitCount_0f7a4_52 : decode cJ6_bitCount_0f7a4 52 = .ok (.ireturn, 1) := by decide +kernel
end
section
/-! ===== the layer: all cells of the class and of the reference as one table of numbers ===== -/
def isNest : Cond → Bool
  | .fieldLinkNest .. => true
  | .methodLinkNest .. => true
  | _ => false
def gtbl : List Cond := lw_tbl.filter goodWord
def ntbl : List Cond := lw_tbl.filter isNest
theorem g_in {w : Cond} (h : w ∈ lw_tbl) (hg : goodWord w = true) : w ∈ gtbl := List.mem_filter.mpr ⟨h, hg⟩
theorem n_in {w : Cond} (h : w ∈ lw_tbl) (hg : isNest w = true) : w ∈ ntbl := List.mem_filter.mpr ⟨h, hg⟩
theorem n_warm {w : Cond} (hw : isNest w = true) {s U : State} (hW : s.WarmedH U.vm) (h : va_Nw w s) : va_Nw w U := by
  cases w <;> first | exact va_Nw.warmF hW h | exact va_Nw.warmM hW h | (simp [isNest] at hw; done)
theorem n_same {w : Cond} (hw : isNest w = true) {s U : State} (e : s.vm = U.vm) (h : va_Nw w s) : va_Nw w U := by
  cases w <;> first | exact va_Nw.same rfl e h | (simp [isNest] at hw; done)
abbrev Mem : Type := (Nat → Nat → Int32) × (Nat → Int64)
abbrev Glo : Type := (Nat → Nat) × va_G × ClassId × ClassId × ClassId
abbrev Ym : Type := MethodName × ByteArray × Nat × Option FieldType
/-- what a cell is: an array (0 of ints, 1 of booleans, 2 of references) of a length, or an object: the number of its kind, its slots (0 an int, 1 a long, t + 2 the cell t) -/
def shp : Nat → (Nat × Nat) ⊕ (Nat × List Nat)
  | 0 => .inr (6, [3, 5, 11, 17, 21, 22, 26, 30, 43, 0, 1])
  | 1 => .inr (5, [0, 4])
  | 2 => .inl (0, 60)
  | 3 => .inr (4, [0, 0, 0, 6, 7, 8, 9, 10])
  | 4 => .inl (0, 4) | 5 => .inl (0, 4) | 6 => .inl (0, 4) | 7 => .inl (0, 4) | 8 => .inl (0, 4)
  | 9 => .inr (4, [0, 0, 0, 12, 13, 14, 15, 16])
  | 10 => .inl (0, 4) | 11 => .inl (0, 4) | 12 => .inl (0, 4) | 13 => .inl (0, 4) | 14 => .inl (0, 4)
  | 15 => .inr (2, [0, 18, 19, 20])
  | 16 => .inl (0, 4) | 17 => .inl (0, 4) | 18 => .inl (0, 4)
  | 19 => .inr (1, [0, 0, 0])
  | 20 => .inr (0, [0, 23, 24, 25])
  | 21 => .inl (0, 14) | 22 => .inl (0, 14) | 23 => .inl (0, 14)
  | 24 => .inr (3, [0, 27, 28, 29])
  | 25 => .inl (0, 6) | 26 => .inl (0, 6) | 27 => .inl (1, 6)
  | 28 => .inl (2, 2)
  | 29 => .inr (4, [0, 0, 0, 32, 33, 34, 35, 36])
  | 30 => .inl (0, 4) | 31 => .inl (0, 4) | 32 => .inl (0, 4) | 33 => .inl (0, 4) | 34 => .inl (0, 4)
  | 35 => .inr (4, [0, 0, 0, 38, 39, 40, 41, 42])
  | 36 => .inl (0, 4) | 37 => .inl (0, 4) | 38 => .inl (0, 4) | 39 => .inl (0, 4) | 40 => .inl (0, 4)
  | 41 => .inl (0, 16)
  | 42 => .inr (7, [45, 0, 0, 0, 46, 47, 48, 49, 50, 0, 0, 51, 52, 0, 0, 53, 54, 55, 56, 57, 58, 0, 1, 0, 0, 59, 60, 0, 0, 0, 0])
  | 43 => .inl (0, 60)
  | 44 => .inl (0, 4) | 45 => .inl (0, 4)
  | 46 => .inl (0, 13) | 47 => .inl (0, 13)
  | 48 => .inl (0, 182)
  | 49 => .inl (0, 26)
  | 50 => .inl (1, 2)
  | 51 => .inl (0, 4) | 52 => .inl (0, 4)
  | 53 => .inl (0, 13)
  | 54 => .inl (0, 6) | 55 => .inl (0, 6) | 56 => .inl (0, 6)
  | 57 => .inl (0, 4)
  | 58 => .inl (0, 16)
  | _ => .inl (0, 0)
def ordv : Nat → Int32
  | 0 => 1 | 1 => 1 | 2 => 2 | 3 => 6 | _ => 24
def kref (j : Nat) : Nat := if j = 0 then 29 else 35
def fval (g : Glo) (μ : Mem) (i k kd : Nat) : Value := match kd with
  | 0 => .int (μ.1 i k)
  | 1 => .long (μ.2 i)
  | t + 2 => .ref (g.1 t)
def cel (g : Glo) (μ : Mem) (i : Nat) : va_E := match shp i with
  | .inl (0, n) => .inl (g.2.2.1, n, .inl (μ.1 i))
  | .inl (1, n) => .inl (g.2.2.2.1, n, .inl (μ.1 i))
  | .inl (_, n) => .inl (g.2.2.2.2, n, .inr (.inr (.inr (.inr (fun j => some (g.1 (kref j)))))))
  | .inr (c, ks) => .inr (c, ks.mapIdx (fun k kd => fval g μ i k kd))
def tys (g : Glo) : List (ClassId × FieldType) := [(g.2.2.1, .int), (g.2.2.2.1, .boolean), (g.2.2.2.2, .object "SkyTenders$Tender")]
def wld (g : Glo) (μ : Mem) : va_W := (List.range 59).map (fun i => (g.1 i, cel g μ i))
def cv (g : Glo) : Value → Value
  | .ref a => .ref (g.1 a)
  | v => v
def wr (μ : Mem) (i k : Nat) (x : Int32) : Mem := (fun a => if a = i then upd (μ.1 i) k x else μ.1 a, μ.2)
def wl (μ : Mem) (i : Nat) (x : Int64) : Mem := (μ.1, fun a => if a = i then x else μ.2 a)
def Own (g : Glo) (sz : Nat) : Nat → Prop := fun q => (∃ i, i < 59 ∧ q = g.1 i) ∨ sz ≤ q
def Inj (g : Glo) : Prop := ∀ i j : Nat, i < 59 → j < 59 → g.1 i = g.1 j → i = j
theorem cv_cat (g : Glo) (v : Value) : (cv g v).category = v.category := by cases v <;> rfl
theorem wld_len (g : Glo) (μ : Mem) : (wld g μ).length = 59 := by simp [wld]
theorem wld_at {g : Glo} {μ : Mem} {i : Nat} (h : i < 59) : (wld g μ)[i]? = some (g.1 i, cel g μ i) := by simp [wld, h]
theorem wld_some {g : Glo} {μ : Mem} {k : Nat} {q : Nat × va_E} (h : (wld g μ)[k]? = some q) : k < 59 ∧ q = (g.1 k, cel g μ k) := by
  have hl : k < 59 := by
    have := (List.getElem?_eq_some_iff.mp h).1
    rw [wld_len] at this
    exact this
  rw [wld_at hl] at h
  exact ⟨hl, (Option.some.inj h).symm⟩
theorem wld_D {g : Glo} (μ : Mem) {sz : Nat} (h : Inj g) : va_D (Own g sz) (wld g μ) := by
  refine ⟨fun i j p q hp hq e => ?_, fun k q hq => ?_⟩
  · obtain ⟨a1, rfl⟩ := wld_some hp
    obtain ⟨a2, rfl⟩ := wld_some hq
    exact h i j a1 a2 e
  · obtain ⟨a1, rfl⟩ := wld_some hq
    exact Or.inl ⟨k, a1, rfl⟩
theorem wld_set {g : Glo} {μ μ' : Mem} {i : Nat} (h : ∀ j, j ≠ i → cel g μ' j = cel g μ j) : wld g μ' = (wld g μ).set i (g.1 i, cel g μ' i) := by
  apply List.ext_getElem?
  intro j
  by_cases hj : j < 59
  · rw [wld_at hj]
    by_cases e : j = i
    · subst e
      rw [List.getElem?_set_self (by rw [wld_len]; exact hj)]
    · rw [List.getElem?_set_ne (Ne.symm e), wld_at hj, h j e]
  · rw [List.getElem?_eq_none (by rw [wld_len]; omega), List.getElem?_eq_none (by rw [List.length_set, wld_len]; omega)]
theorem cel_wr_ne {g : Glo} {μ : Mem} {i k : Nat} {x : Int32} {j : Nat} (h : j ≠ i) : cel g (wr μ i k x) j = cel g μ j := by
  have e : (wr μ i k x).1 j = μ.1 j := by simp [wr, h]
  have e2 : (wr μ i k x).2 = μ.2 := rfl
  have e3 : ∀ a b, fval g (wr μ i k x) j a b = fval g μ j a b := fun a b => by
    unfold fval
    rw [e, e2]
  unfold cel
  simp only [e, e3]
theorem cel_wl_ne {g : Glo} {μ : Mem} {i : Nat} {x : Int64} {j : Nat} (h : j ≠ i) : cel g (wl μ i x) j = cel g μ j := by
  have e : (wl μ i x).1 = μ.1 := rfl
  have e2 : (wl μ i x).2 j = μ.2 j := by simp [wl, h]
  have e3 : ∀ a b, fval g (wl μ i x) j a b = fval g μ j a b := fun a b => by
    unfold fval
    rw [e, e2]
  unfold cel
  simp only [e, e3]
theorem cel_i {g : Glo} {μ : Mem} {i n : Nat} (h : shp i = .inl (0, n)) : cel g μ i = .inl (g.2.2.1, n, .inl (μ.1 i)) := by unfold cel; rw [h]; rfl
theorem cel_z {g : Glo} {μ : Mem} {i n : Nat} (h : shp i = .inl (1, n)) : cel g μ i = .inl (g.2.2.2.1, n, .inl (μ.1 i)) := by unfold cel; rw [h]; rfl
theorem cel_q {g : Glo} {μ : Mem} {i n : Nat} (h : shp i = .inl (2, n)) : cel g μ i = .inl (g.2.2.2.2, n, .inr (.inr (.inr (.inr (fun j => some (g.1 (kref j))))))) := by unfold cel; rw [h]; rfl
theorem cel_o {g : Glo} {μ : Mem} {i c : Nat} {ks : List Nat} (h : shp i = .inr (c, ks)) : cel g μ i = .inr (c, ks.mapIdx (fun k kd => fval g μ i k kd)) := by unfold cel; rw [h]
theorem wr_at (μ : Mem) (i k : Nat) (x : Int32) : (wr μ i k x).1 i = upd (μ.1 i) k x := by simp [wr]
theorem wr_ne {μ : Mem} {i k j : Nat} {x : Int32} (h : j ≠ i) : (wr μ i k x).1 j = μ.1 j := by simp [wr, h]
theorem cel_wr_o {g : Glo} {μ : Mem} {i c k : Nat} {ks : List Nat} {x : Int32} (h : shp i = .inr (c, ks)) (hk : ks[k]? = some 0) : cel g (wr μ i k x) i = .inr (c, (ks.mapIdx (fun k kd => fval g μ i k kd)).set k (.int x)) := by
  rw [cel_o h]
  refine congrArg (fun l => Sum.inr (c, l)) ?_
  apply List.ext_getElem?
  intro j
  rw [List.getElem?_mapIdx, List.getElem?_set, List.getElem?_mapIdx, List.length_mapIdx]
  by_cases e : k = j
  · subst e
    have hl := (List.getElem?_eq_some_iff.mp hk).1
    rw [if_pos rfl, if_pos hl, hk]
    show some (fval g (wr μ i k x) i k 0) = _
    unfold fval
    simp [wr, upd]
  · rw [if_neg e]
    cases hq : ks[j]? with
    | none => rfl
    | some kd =>
      show some (fval g (wr μ i k x) i j kd) = some (fval g μ i j kd)
      have e2 : (wr μ i k x).1 i j = μ.1 i j := by simp [wr, upd, Ne.symm e]
      unfold fval
      rw [e2]
      rfl
theorem cel_wl_o {g : Glo} {μ : Mem} {i c k : Nat} {ks : List Nat} {x : Int64} (h : shp i = .inr (c, ks)) (hk : ks[k]? = some 1) (h1 : ∀ j, ks[j]? = some 1 → j = k) : cel g (wl μ i x) i = .inr (c, (ks.mapIdx (fun k kd => fval g μ i k kd)).set k (.long x)) := by
  rw [cel_o h]
  refine congrArg (fun l => Sum.inr (c, l)) ?_
  apply List.ext_getElem?
  intro j
  rw [List.getElem?_mapIdx, List.getElem?_set, List.getElem?_mapIdx, List.length_mapIdx]
  by_cases e : k = j
  · subst e
    have hl := (List.getElem?_eq_some_iff.mp hk).1
    rw [if_pos rfl, if_pos hl, hk]
    show some (fval g (wl μ i x) i k 1) = _
    unfold fval
    simp [wl]
  · rw [if_neg e]
    cases hq : ks[j]? with
    | none => rfl
    | some kd =>
      show some (fval g (wl μ i x) i j kd) = some (fval g μ i j kd)
      match kd, hq with
      | 0, _ => rfl
      | 1, hq => exact absurd (h1 j hq).symm e
      | t + 2, _ => rfl
/-! the locals -/
def lvR (g : Glo) (la : Array Slot) (ls : List (Option Value)) : Prop := la.size = ls.length ∧ lv_wf la ∧ ∀ (i : Nat) (v : Value), ls[i]? = some (some v) → la[i]? = some (.val (cv g v))
def kl2 : Option Value → Option Value
  | some (.long _) => none
  | some (.double _) => none
  | o => o
def ls1 : List (Option Value) → Nat → Value → List (Option Value)
  | [], _, _ => []
  | _ :: t, 0, v => some v :: t
  | a :: t, 1, v => kl2 a :: ls1 t 0 v
  | a :: t, (n + 2), v => a :: ls1 t (n + 1) v
def ls2 : List (Option Value) → Nat → Value → List (Option Value)
  | [], _, _ => []
  | [_], 0, v => [some v]
  | _ :: _ :: t, 0, v => some v :: none :: t
  | a :: t, 1, v => kl2 a :: ls2 t 0 v
  | a :: t, (n + 2), v => a :: ls2 t (n + 1) v
theorem kl2_some {o : Option Value} {w : Value} (h : kl2 o = some w) : o = some w ∧ ¬ w.category = 2 := by
  cases o with
  | none => cases h
  | some v => cases v <;> first | (cases h; exact ⟨rfl, fun z => by simp [Value.category] at z⟩) | (cases h; done)
theorem ls1_len : ∀ (ls : List (Option Value)) (i : Nat) (v : Value), (ls1 ls i v).length = ls.length
  | [], _, _ => rfl
  | _ :: t, 0, v => rfl
  | a :: t, 1, v => by simp [ls1, ls1_len t 0 v]
  | a :: t, (n + 2), v => by simp [ls1, ls1_len t (n + 1) v]
theorem ls2_len : ∀ (ls : List (Option Value)) (i : Nat) (v : Value), (ls2 ls i v).length = ls.length
  | [], _, _ => rfl
  | [_], 0, v => rfl
  | _ :: _ :: t, 0, v => rfl
  | a :: t, 1, v => by simp [ls2, ls2_len t 0 v]
  | a :: t, (n + 2), v => by simp [ls2, ls2_len t (n + 1) v]
theorem ls1_at : ∀ (ls : List (Option Value)) (i : Nat) (v : Value) (j : Nat) (w : Value), (ls1 ls i v)[j]? = some (some w) → (j = i ∧ w = v) ∨ (j ≠ i ∧ ls[j]? = some (some w) ∧ ¬ (j + 1 = i ∧ w.category = 2))
  | [], _, _, j, w, h => by simp [ls1] at h
  | _ :: t, 0, v, 0, w, h => by
    simp [ls1] at h
    exact Or.inl ⟨rfl, h.symm⟩
  | _ :: t, 0, v, j + 1, w, h => Or.inr ⟨by omega, h, by omega⟩
  | a :: t, 1, v, 0, w, h => by
    have h2 : kl2 a = some w := by simpa [ls1] using h
    obtain ⟨q1, q2⟩ := kl2_some h2
    exact Or.inr ⟨by omega, by simpa using q1, fun z => q2 z.2⟩
  | a :: t, 1, v, j + 1, w, h => by
    rcases ls1_at t 0 v j w h with ⟨q1, q2⟩ | ⟨q1, q2, q3⟩
    · exact Or.inl ⟨by omega, q2⟩
    · exact Or.inr ⟨by omega, q2, by omega⟩
  | a :: t, (n + 2), v, 0, w, h => Or.inr ⟨by omega, h, by omega⟩
  | a :: t, (n + 2), v, j + 1, w, h => by
    rcases ls1_at t (n + 1) v j w h with ⟨q1, q2⟩ | ⟨q1, q2, q3⟩
    · exact Or.inl ⟨by omega, q2⟩
    · exact Or.inr ⟨by omega, q2, fun z => q3 ⟨by omega, z.2⟩⟩
theorem ls2_at : ∀ (ls : List (Option Value)) (i : Nat) (v : Value) (j : Nat) (w : Value), (ls2 ls i v)[j]? = some (some w) → (j = i ∧ w = v) ∨ (j ≠ i ∧ j ≠ i + 1 ∧ ls[j]? = some (some w) ∧ ¬ (j + 1 = i ∧ w.category = 2))
  | [], _, _, j, w, h => by simp [ls2] at h
  | [_], 0, v, 0, w, h => by
    simp [ls2] at h
    exact Or.inl ⟨rfl, h.symm⟩
  | [_], 0, v, j + 1, w, h => by simp [ls2] at h
  | _ :: _ :: t, 0, v, 0, w, h => by
    simp [ls2] at h
    exact Or.inl ⟨rfl, h.symm⟩
  | _ :: _ :: t, 0, v, 1, w, h => by simp [ls2] at h
  | _ :: _ :: t, 0, v, j + 2, w, h => Or.inr ⟨by omega, by omega, h, by omega⟩
  | a :: t, 1, v, 0, w, h => by
    have h2 : kl2 a = some w := by simpa [ls2] using h
    obtain ⟨q1, q2⟩ := kl2_some h2
    exact Or.inr ⟨by omega, by omega, by simpa using q1, fun z => q2 z.2⟩
  | a :: t, 1, v, j + 1, w, h => by
    have h' : (ls2 t 0 v)[j]? = some (some w) := by simpa [ls2] using h
    rcases ls2_at t 0 v j w h' with ⟨q1, q2⟩ | ⟨q1, q1', q2, q3⟩
    · exact Or.inl ⟨by omega, q2⟩
    · exact Or.inr ⟨by omega, by omega, q2, by omega⟩
  | a :: t, (n + 2), v, 0, w, h => by
    have h' : a = some w := by simpa [ls2] using h
    exact Or.inr ⟨by omega, by omega, by simpa using h', by omega⟩
  | a :: t, (n + 2), v, j + 1, w, h => by
    have h' : (ls2 t (n + 1) v)[j]? = some (some w) := by simpa [ls2] using h
    rcases ls2_at t (n + 1) v j w h' with ⟨q1, q2⟩ | ⟨q1, q1', q2, q3⟩
    · exact Or.inl ⟨by omega, q2⟩
    · exact Or.inr ⟨by omega, by omega, q2, fun z => q3 ⟨by omega, z.2⟩⟩
def asl (g : Glo) (ls : List (Option Value)) : List (Nat × Value) := (List.range ls.length).filterMap (fun j => match ls[j]? with
  | some (some w) => some (j, cv g w)
  | _ => none)
theorem asl_mem {g : Glo} {ls : List (Option Value)} {j : Nat} {w : Value} (h : ls[j]? = some (some w)) : (j, cv g w) ∈ asl g ls := by
  refine List.mem_filterMap.mpr ⟨j, List.mem_range.mpr (List.getElem?_eq_some_iff.mp h).1, ?_⟩
  simp only [h]
theorem lvR.has {g : Glo} {la : Array Slot} {ls : List (Option Value)} (h : lvR g la ls) : lv_has la ls.length (asl g ls) := by
  refine ⟨h.1, h.2.1, fun q hq => ?_⟩
  obtain ⟨j, -, hj⟩ := List.mem_filterMap.mp hq
  cases e : ls[j]? with
  | none => rw [e] at hj; cases hj
  | some o =>
    cases o with
    | none => rw [e] at hj; cases hj
    | some w =>
      rw [e] at hj
      cases hj
      exact h.2.2 j w e
theorem lvR.st1 {g : Glo} {la' : Array Slot} {ls : List (Option Value)} {i : Nat} {v : Value} (h : lv_has la' ls.length ((i, cv g v) :: (asl g ls).filter (fun q => !(q.1 == i) && !(q.1 + 1 == i && q.2.category == 2)))) : lvR g la' (ls1 ls i v) := by
  refine ⟨by rw [ls1_len]; exact h.1, h.2.1, fun j w hj => ?_⟩
  rcases ls1_at ls i v j w hj with ⟨rfl, rfl⟩ | ⟨q1, q2, q3⟩
  · exact h.2.2 _ List.mem_cons_self
  · refine h.2.2 (j, cv g w) (List.mem_cons_of_mem _ (List.mem_filter.mpr ⟨asl_mem q2, ?_⟩))
    simp only [cv_cat, Bool.and_eq_true, Bool.not_eq_true', beq_eq_false_iff_ne, ne_eq, Bool.and_eq_false_iff]
    refine ⟨q1, ?_⟩
    by_cases e : j + 1 = i
    · exact Or.inr (fun z => q3 ⟨e, z⟩)
    · exact Or.inl e
theorem lvR.st2 {g : Glo} {la' : Array Slot} {ls : List (Option Value)} {i : Nat} {v : Value} (h : lv_has la' ls.length ((i, cv g v) :: (asl g ls).filter (fun q => !(q.1 == i) && (!(q.1 == i + 1) && !(q.1 + 1 == i && q.2.category == 2))))) : lvR g la' (ls2 ls i v) := by
  refine ⟨by rw [ls2_len]; exact h.1, h.2.1, fun j w hj => ?_⟩
  rcases ls2_at ls i v j w hj with ⟨rfl, rfl⟩ | ⟨q1, q1', q2, q3⟩
  · exact h.2.2 _ List.mem_cons_self
  · refine h.2.2 (j, cv g w) (List.mem_cons_of_mem _ (List.mem_filter.mpr ⟨asl_mem q2, ?_⟩))
    simp only [cv_cat, Bool.and_eq_true, Bool.not_eq_true', beq_eq_false_iff_ne, ne_eq, Bool.and_eq_false_iff]
    refine ⟨q1, q1', ?_⟩
    by_cases e : j + 1 = i
    · exact Or.inr (fun z => q3 ⟨e, z⟩)
    · exact Or.inl e
def enl : List Value → List (Option Value)
  | [] => []
  | v :: vs => (if v.category = 2 then [some v, none] else [some v]) ++ enl vs
theorem enl_len (g : Glo) : ∀ vs : List Value, (lg_sl (vs.map (cv g))).length = (enl vs).length
  | [] => rfl
  | v :: vs => by
    have ih := enl_len g vs
    simp only [lg_sl, enl, List.map_cons, List.flatMap_cons, List.length_append, cv_cat] at ih ⊢
    rw [ih]
    by_cases h : v.category = 2 <;> simp [h]
theorem enl_at (g : Glo) : ∀ (vs : List Value) (o j : Nat) (w : Value), (enl vs)[j]? = some (some w) → (o + j, cv g w) ∈ lv_args o (vs.map (cv g))
  | [], _, _, _, h => by simp [enl] at h
  | v :: vs, o, j, w, h => by
    simp only [List.map_cons, lv_args, cv_cat]
    by_cases hc : v.category = 2
    · simp only [enl, hc, if_true] at h ⊢
      match j, h with
      | 0, h =>
        have e : v = w := by simpa using h
        subst e
        exact List.mem_cons_self
      | 1, h => simp at h
      | j + 2, h =>
        have h' : (enl vs)[j]? = some (some w) := by simpa using h
        have := enl_at g vs (o + 2) j w h'
        rw [show o + (j + 2) = o + 2 + j by omega]
        exact List.mem_cons_of_mem _ this
    · simp only [enl, hc, if_false] at h ⊢
      match j, h with
      | 0, h =>
        have e : v = w := by simpa using h
        subst e
        exact List.mem_cons_self
      | j + 1, h =>
        have h' : (enl vs)[j]? = some (some w) := by simpa using h
        have := enl_at g vs (o + 1) j w h'
        rw [show o + (j + 1) = o + 1 + j by omega]
        exact List.mem_cons_of_mem _ this
def ent (vs : List Value) (n : Nat) : List (Option Value) := enl vs ++ List.replicate (n - (enl vs).length) none
theorem lvR.entry (g : Glo) (vs : List Value) {n : Nat} (h : (enl vs).length ≤ n) : lvR g ((lg_sl (vs.map (cv g)) ++ List.replicate (n - (lg_sl (vs.map (cv g))).length) Slot.unset).toArray) (ent vs n) := by
  have hh := lv_entry (vs.map (cv g)) (n := n) (by rw [enl_len]; exact h)
  refine ⟨by rw [hh.1]; simp [ent]; omega, hh.2.1, fun i v hi => ?_⟩
  have hi2 : (enl vs)[i]? = some (some v) := by
    unfold ent at hi
    by_cases hl : i < (enl vs).length
    · rw [List.getElem?_append_left hl] at hi
      exact hi
    · rw [List.getElem?_append_right (by omega)] at hi
      obtain ⟨z, hz⟩ := List.getElem?_eq_some_iff.mp hi
      simp at hz
  have := enl_at g vs 0 i v hi2
  rw [Nat.zero_add] at this
  exact hh.2.2 _ this
end
section
/-! ===== the machine at a frame, over the table of numbers ===== -/
abbrev Kx : Type := Program × Launch × Env × Room × State × MethodId × Array Value × List Frame × Method × Code × Glo × Nat × Nat
abbrev Kp (K : Kx) : Program := K.1
abbrev Kl (K : Kx) : Launch := K.2.1
abbrev Ke (K : Kx) : Env := K.2.2.1
abbrev KR (K : Kx) : Room := K.2.2.2.1
abbrev Ks (K : Kx) : State := K.2.2.2.2.1
abbrev Km (K : Kx) : MethodId := K.2.2.2.2.2.1
abbrev Ka (K : Kx) : Array Value := K.2.2.2.2.2.2.1
abbrev Kb (K : Kx) : List Frame := K.2.2.2.2.2.2.2.1
abbrev Kt (K : Kx) : Method := K.2.2.2.2.2.2.2.2.1
abbrev Kc (K : Kx) : Code := K.2.2.2.2.2.2.2.2.2.1
abbrev Kg (K : Kx) : Glo := K.2.2.2.2.2.2.2.2.2.2.1
abbrev Kn (K : Kx) : Nat := K.2.2.2.2.2.2.2.2.2.2.2.1
abbrev Kk (K : Kx) : Nat := K.2.2.2.2.2.2.2.2.2.2.2.2
abbrev WK (K : Kx) (H : Heap) (locs : List Loc) (Q : State → Prop) (f : JFrame) : Prop := W (Kp K) (Kl K) (Ke K) (KR K) (Ks K) (Km K) (Ka K) (Kb K) (Kt K) (Kc K) H locs (Kn K) (Kk K) Q f
def VV (K : Kx) (Q : State → Prop) (pc : Nat) (ls : List (Option Value)) (st : List Value) (μ : Mem) : Prop :=
  ∀ (H : Heap) (locs : List Loc) (la : Array Slot), lvR (Kg K) la ls → va_P (Kg K).2.1 vwCl (wld (Kg K) μ) H → va_S (Own (Kg K) (Ks K).heap.size) (Ks K).heap H locs → WK K H locs Q (F0 (Km K) pc la (st.map (cv (Kg K))))
def Stt (g : Glo) (U : State) : Prop := va_Z "SkyTenders" "ORDERS" "[I" (.ref (g.1 59)) (Own g U.heap.size) U U.heap ∧ va_T .int (g.1 59) 5 (fun j => .int (ordv j)) (Own g U.heap.size) U U.heap
def CtxOK (K : Kx) (Y : Ym) (d : Nat) : Prop :=
  (Kp K).tables.exec = Jvm.exec ∧ (Kc K).code = Y.2.1 ∧ (Kt K).sig.returnType = Y.2.2.2 ∧ (Kc K).maxLocals = Y.2.2.1 ∧ (Ks K).vm.findClass Y.1.cls = some (Km K).cls ∧ (∀ w ∈ gtbl, w.before (Ka K) (Ks K) = true) ∧ (Kt K).locks = false ∧ va_K (Kg K).2.1 vwCl (tys (Kg K)) (Ks K) ∧ (∀ w ∈ ntbl, va_Nw w (Ks K)) ∧ Inj (Kg K) ∧ Stt (Kg K) (Ks K) ∧ d + 1 ≤ (KR K).frames ∧ 64 * d + 64 ≤ (KR K).locals ∧ Kn K ≤ (KR K).cells ∧ Kk K ≤ (KR K).slots
section ROWS
variable {K : Kx} {Q : State → Prop} {Y : Ym} {d pc : Nat} {ls : List (Option Value)} {st : List Value} {μ : Mem}
theorem CtxOK.hx (h : CtxOK K Y d) : (Kp K).tables.exec = Jvm.exec := h.1
theorem CtxOK.hb (h : CtxOK K Y d) : (Kc K).code = Y.2.1 := h.2.1
theorem CtxOK.hr (h : CtxOK K Y d) : (Kt K).sig.returnType = Y.2.2.2 := h.2.2.1
theorem CtxOK.hm (h : CtxOK K Y d) : (Kc K).maxLocals = Y.2.2.1 := h.2.2.2.1
theorem CtxOK.ho (h : CtxOK K Y d) : (Ks K).vm.findClass Y.1.cls = some (Km K).cls := h.2.2.2.2.1
theorem CtxOK.ht (h : CtxOK K Y d) : ∀ w ∈ gtbl, w.before (Ka K) (Ks K) = true := h.2.2.2.2.2.1
theorem CtxOK.hl (h : CtxOK K Y d) : (Kt K).locks = false := h.2.2.2.2.2.2.1
theorem CtxOK.hk (h : CtxOK K Y d) : va_K (Kg K).2.1 vwCl (tys (Kg K)) (Ks K) := h.2.2.2.2.2.2.2.1
theorem CtxOK.hn (h : CtxOK K Y d) : ∀ w ∈ ntbl, va_Nw w (Ks K) := h.2.2.2.2.2.2.2.2.1
theorem CtxOK.hi (h : CtxOK K Y d) : Inj (Kg K) := h.2.2.2.2.2.2.2.2.2.1
theorem CtxOK.hs (h : CtxOK K Y d) : Stt (Kg K) (Ks K) := h.2.2.2.2.2.2.2.2.2.2.1
theorem CtxOK.hR (h : CtxOK K Y d) : d + 1 ≤ (KR K).frames ∧ 64 * d + 64 ≤ (KR K).locals ∧ Kn K ≤ (KR K).cells ∧ Kk K ≤ (KR K).slots := h.2.2.2.2.2.2.2.2.2.2.2
theorem VV.iconst {n : Int} {v : Int32} (hK : CtxOK K Y d) (hd : decode Y.2.1 pc = .ok (.iconst n, 1)) (hv : Int32.ofInt n = v) (k : VV K Q (pc + 1) ls (.int v :: st) μ) : VV K Q pc ls (st) μ :=
  fun H locs la h1 h2 h3 => lv_iconst hK.hx hK.hb hd hv (k H locs la h1 h2 h3)
theorem VV.bipush {n : Int} {v : Int32} (hK : CtxOK K Y d) (hd : decode Y.2.1 pc = .ok (.bipush n, 2)) (hv : (Int8.ofInt n).toInt32 = v) (k : VV K Q (pc + 2) ls (.int v :: st) μ) : VV K Q pc ls (st) μ :=
  fun H locs la h1 h2 h3 => lv_bipush hK.hx hK.hb hd hv (k H locs la h1 h2 h3)
theorem VV.sipush {n : Int} {v : Int32} (hK : CtxOK K Y d) (hd : decode Y.2.1 pc = .ok (.sipush n, 3)) (hv : (Int16.ofInt n).toInt32 = v) (k : VV K Q (pc + 3) ls (.int v :: st) μ) : VV K Q pc ls (st) μ :=
  fun H locs la h1 h2 h3 => lv_sipush hK.hx hK.hb hd hv (k H locs la h1 h2 h3)
theorem VV.lconst {n : Fin 2} {v : Int64} (hK : CtxOK K Y d) (hd : decode Y.2.1 pc = .ok (.lconst n, 1)) (hv : Int64.ofNat (n : Nat) = v) (k : VV K Q (pc + 1) ls (.long v :: st) μ) : VV K Q pc ls (st) μ :=
  fun H locs la h1 h2 h3 => lv_lconst hK.hx hK.hb hd hv (k H locs la h1 h2 h3)
theorem VV.aconst_null (hK : CtxOK K Y d) (hd : decode Y.2.1 pc = .ok (.aconst_null, 1)) (k : VV K Q (pc + 1) ls (.null :: st) μ) : VV K Q pc ls (st) μ :=
  fun H locs la h1 h2 h3 => lv_null hK.hx hK.hb hd (k H locs la h1 h2 h3)
theorem VV.iadd {x y : Int32} (hK : CtxOK K Y d) (hd : decode Y.2.1 pc = .ok (.iadd, 1)) (k : VV K Q (pc + 1) ls (.int (x + y) :: st) μ) : VV K Q pc ls (.int y :: .int x :: st) μ :=
  fun H locs la h1 h2 h3 => lv_iadd hK.hx hK.hb hd (k H locs la h1 h2 h3)
theorem VV.isub {x y : Int32} (hK : CtxOK K Y d) (hd : decode Y.2.1 pc = .ok (.isub, 1)) (k : VV K Q (pc + 1) ls (.int (x - y) :: st) μ) : VV K Q pc ls (.int y :: .int x :: st) μ :=
  fun H locs la h1 h2 h3 => lv_isub hK.hx hK.hb hd (k H locs la h1 h2 h3)
theorem VV.imul {x y : Int32} (hK : CtxOK K Y d) (hd : decode Y.2.1 pc = .ok (.imul, 1)) (k : VV K Q (pc + 1) ls (.int (x * y) :: st) μ) : VV K Q pc ls (.int y :: .int x :: st) μ :=
  fun H locs la h1 h2 h3 => lv_imul hK.hx hK.hb hd (k H locs la h1 h2 h3)
theorem VV.iand {x y : Int32} (hK : CtxOK K Y d) (hd : decode Y.2.1 pc = .ok (.iand, 1)) (k : VV K Q (pc + 1) ls (.int (x &&& y) :: st) μ) : VV K Q pc ls (.int y :: .int x :: st) μ :=
  fun H locs la h1 h2 h3 => lv_iand hK.hx hK.hb hd (k H locs la h1 h2 h3)
theorem VV.ior {x y : Int32} (hK : CtxOK K Y d) (hd : decode Y.2.1 pc = .ok (.ior, 1)) (k : VV K Q (pc + 1) ls (.int (x ||| y) :: st) μ) : VV K Q pc ls (.int y :: .int x :: st) μ :=
  fun H locs la h1 h2 h3 => lv_ior hK.hx hK.hb hd (k H locs la h1 h2 h3)
theorem VV.ixor {x y : Int32} (hK : CtxOK K Y d) (hd : decode Y.2.1 pc = .ok (.ixor, 1)) (k : VV K Q (pc + 1) ls (.int (x ^^^ y) :: st) μ) : VV K Q pc ls (.int y :: .int x :: st) μ :=
  fun H locs la h1 h2 h3 => lv_ixor hK.hx hK.hb hd (k H locs la h1 h2 h3)
theorem VV.ishl {x y : Int32} (hK : CtxOK K Y d) (hd : decode Y.2.1 pc = .ok (.ishl, 1)) (k : VV K Q (pc + 1) ls (.int (x <<< (y &&& 31)) :: st) μ) : VV K Q pc ls (.int y :: .int x :: st) μ :=
  fun H locs la h1 h2 h3 => lv_ishl hK.hx hK.hb hd (k H locs la h1 h2 h3)
theorem VV.ishr {x y : Int32} (hK : CtxOK K Y d) (hd : decode Y.2.1 pc = .ok (.ishr, 1)) (k : VV K Q (pc + 1) ls (.int (x >>> (y &&& 31)) :: st) μ) : VV K Q pc ls (.int y :: .int x :: st) μ :=
  fun H locs la h1 h2 h3 => lv_ishr hK.hx hK.hb hd (k H locs la h1 h2 h3)
theorem VV.idiv {x y : Int32} (hK : CtxOK K Y d) (hd : decode Y.2.1 pc = .ok (.idiv, 1)) (hne : ¬ y = 0) (k : VV K Q (pc + 1) ls (.int (x / y) :: st) μ) : VV K Q pc ls (.int y :: .int x :: st) μ :=
  fun H locs la h1 h2 h3 => lv_idiv hK.hx hK.hb hd hne (k H locs la h1 h2 h3)
theorem VV.irem {x y : Int32} (hK : CtxOK K Y d) (hd : decode Y.2.1 pc = .ok (.irem, 1)) (hne : ¬ y = 0) (k : VV K Q (pc + 1) ls (.int (x - x / y * y) :: st) μ) : VV K Q pc ls (.int y :: .int x :: st) μ :=
  fun H locs la h1 h2 h3 => lv_irem hK.hx hK.hb hd hne (k H locs la h1 h2 h3)
theorem VV.ineg {x : Int32} (hK : CtxOK K Y d) (hd : decode Y.2.1 pc = .ok (.ineg, 1)) (k : VV K Q (pc + 1) ls (.int (-x) :: st) μ) : VV K Q pc ls (.int x :: st) μ :=
  fun H locs la h1 h2 h3 => lv_ineg hK.hx hK.hb hd (k H locs la h1 h2 h3)
theorem VV.iushr {x y : Int32} (hK : CtxOK K Y d) (hd : decode Y.2.1 pc = .ok (.iushr, 1)) (k : VV K Q (pc + 1) ls (.int ((x.toUInt32 >>> (y.toUInt32 &&& Int32.toUInt32 31)).toInt32) :: st) μ) : VV K Q pc ls (.int y :: .int x :: st) μ :=
  fun H locs la h1 h2 h3 => lv_iushr hK.hx hK.hb hd rfl (k H locs la h1 h2 h3)
theorem VV.ladd {x y : Int64} (hK : CtxOK K Y d) (hd : decode Y.2.1 pc = .ok (.ladd, 1)) (k : VV K Q (pc + 1) ls (.long (x + y) :: st) μ) : VV K Q pc ls (.long y :: .long x :: st) μ :=
  fun H locs la h1 h2 h3 => lv_ladd hK.hx hK.hb hd (k H locs la h1 h2 h3)
theorem VV.lsub {x y : Int64} (hK : CtxOK K Y d) (hd : decode Y.2.1 pc = .ok (.lsub, 1)) (k : VV K Q (pc + 1) ls (.long (x - y) :: st) μ) : VV K Q pc ls (.long y :: .long x :: st) μ :=
  fun H locs la h1 h2 h3 => lv_lsub hK.hx hK.hb hd (k H locs la h1 h2 h3)
theorem VV.lmul {x y : Int64} (hK : CtxOK K Y d) (hd : decode Y.2.1 pc = .ok (.lmul, 1)) (k : VV K Q (pc + 1) ls (.long (x * y) :: st) μ) : VV K Q pc ls (.long y :: .long x :: st) μ :=
  fun H locs la h1 h2 h3 => lv_lmul hK.hx hK.hb hd (k H locs la h1 h2 h3)
theorem VV.land {x y : Int64} (hK : CtxOK K Y d) (hd : decode Y.2.1 pc = .ok (.land, 1)) (k : VV K Q (pc + 1) ls (.long (x &&& y) :: st) μ) : VV K Q pc ls (.long y :: .long x :: st) μ :=
  fun H locs la h1 h2 h3 => lv_land hK.hx hK.hb hd (k H locs la h1 h2 h3)
theorem VV.lor {x y : Int64} (hK : CtxOK K Y d) (hd : decode Y.2.1 pc = .ok (.lor, 1)) (k : VV K Q (pc + 1) ls (.long (x ||| y) :: st) μ) : VV K Q pc ls (.long y :: .long x :: st) μ :=
  fun H locs la h1 h2 h3 => lv_lor hK.hx hK.hb hd (k H locs la h1 h2 h3)
theorem VV.ldiv {x y : Int64} (hK : CtxOK K Y d) (hd : decode Y.2.1 pc = .ok (.ldiv, 1)) (hne : ¬ y = 0) (k : VV K Q (pc + 1) ls (.long (x / y) :: st) μ) : VV K Q pc ls (.long y :: .long x :: st) μ :=
  fun H locs la h1 h2 h3 => lv_ldiv hK.hx hK.hb hd hne (k H locs la h1 h2 h3)
theorem VV.lrem {x y : Int64} (hK : CtxOK K Y d) (hd : decode Y.2.1 pc = .ok (.lrem, 1)) (hne : ¬ y = 0) (k : VV K Q (pc + 1) ls (.long (x - x / y * y) :: st) μ) : VV K Q pc ls (.long y :: .long x :: st) μ :=
  fun H locs la h1 h2 h3 => lv_lrem hK.hx hK.hb hd hne (k H locs la h1 h2 h3)
theorem VV.lushr {x : Int64} {y : Int32} (hK : CtxOK K Y d) (hd : decode Y.2.1 pc = .ok (.lushr, 1)) (k : VV K Q (pc + 1) ls (.long ((x.toUInt64 >>> (y.toInt64.toUInt64 &&& Int64.toUInt64 63)).toInt64) :: st) μ) : VV K Q pc ls (.int y :: .long x :: st) μ :=
  fun H locs la h1 h2 h3 => lv_lushr hK.hx hK.hb hd rfl (k H locs la h1 h2 h3)
theorem VV.lshl {x : Int64} {y : Int32} (hK : CtxOK K Y d) (hd : decode Y.2.1 pc = .ok (.lshl, 1)) (k : VV K Q (pc + 1) ls (.long (x <<< (y.toInt64 &&& 63)) :: st) μ) : VV K Q pc ls (.int y :: .long x :: st) μ :=
  fun H locs la h1 h2 h3 => lv_lshl hK.hx hK.hb hd rfl (k H locs la h1 h2 h3)
theorem VV.lcmp {x y : Int64} (hK : CtxOK K Y d) (hd : decode Y.2.1 pc = .ok (.lcmp, 1)) (k : VV K Q (pc + 1) ls (.int (lg_cmp x y) :: st) μ) : VV K Q pc ls (.long y :: .long x :: st) μ :=
  fun H locs la h1 h2 h3 => W.lcmp hK.hx hK.hb hd (k H locs la h1 h2 h3)
theorem VV.i2l {x : Int32} (hK : CtxOK K Y d) (hd : decode Y.2.1 pc = .ok (.i2l, 1)) (k : VV K Q (pc + 1) ls (.long x.toInt64 :: st) μ) : VV K Q pc ls (.int x :: st) μ :=
  fun H locs la h1 h2 h3 => lv_i2l hK.hx hK.hb hd rfl (k H locs la h1 h2 h3)
theorem VV.l2i {x : Int64} (hK : CtxOK K Y d) (hd : decode Y.2.1 pc = .ok (.l2i, 1)) (k : VV K Q (pc + 1) ls (.int x.toInt32 :: st) μ) : VV K Q pc ls (.long x :: st) μ :=
  fun H locs la h1 h2 h3 => lv_l2i hK.hx hK.hb hd rfl (k H locs la h1 h2 h3)
theorem VV.dupi {x : Int32} (hK : CtxOK K Y d) (hd : decode Y.2.1 pc = .ok (.dup, 1)) (k : VV K Q (pc + 1) ls (.int x :: .int x :: st) μ) : VV K Q pc ls (.int x :: st) μ :=
  fun H locs la h1 h2 h3 => lv_dup hK.hx hK.hb hd rfl (k H locs la h1 h2 h3)
theorem VV.dupa {x : Nat} (hK : CtxOK K Y d) (hd : decode Y.2.1 pc = .ok (.dup, 1)) (k : VV K Q (pc + 1) ls (.ref x :: .ref x :: st) μ) : VV K Q pc ls (.ref x :: st) μ :=
  fun H locs la h1 h2 h3 => lv_dup hK.hx hK.hb hd rfl (k H locs la h1 h2 h3)
theorem VV.dup2ia {x : Int32} {y : Nat} (hK : CtxOK K Y d) (hd : decode Y.2.1 pc = .ok (.dup2, 1)) (k : VV K Q (pc + 1) ls (.int x :: .ref y :: .int x :: .ref y :: st) μ) : VV K Q pc ls (.int x :: .ref y :: st) μ :=
  fun H locs la h1 h2 h3 => lv_dup2_11 hK.hx hK.hb hd rfl rfl (k H locs la h1 h2 h3)
theorem VV.popi {x : Int32} (hK : CtxOK K Y d) (hd : decode Y.2.1 pc = .ok (.pop, 1)) (k : VV K Q (pc + 1) ls (st) μ) : VV K Q pc ls (.int x :: st) μ :=
  fun H locs la h1 h2 h3 => lv_pop hK.hx hK.hb hd rfl (k H locs la h1 h2 h3)
theorem VV.iload_n {k : Fin 4} {i : Nat} {x : Int32} (hK : CtxOK K Y d) (hd : decode Y.2.1 pc = .ok (.iload_n k, 1)) (hi : (k : Nat) = i) (hl : ls[i]? = some (some (.int x))) (kk : VV K Q (pc + 1) ls (.int x :: st) μ) : VV K Q pc ls st μ :=
  fun H locs la h1 h2 h3 => lv_iload_n hK.hx hK.hb hd hi (h1.2.2 _ _ hl) (kk H locs la h1 h2 h3)
theorem VV.iload {i : Nat} {x : Int32} (hK : CtxOK K Y d) (hd : decode Y.2.1 pc = .ok (.iload i, 2)) (hl : ls[i]? = some (some (.int x))) (kk : VV K Q (pc + 2) ls (.int x :: st) μ) : VV K Q pc ls st μ :=
  fun H locs la h1 h2 h3 => lv_iload hK.hx hK.hb hd (h1.2.2 _ _ hl) (kk H locs la h1 h2 h3)
theorem VV.lload_n {k : Fin 4} {i : Nat} {x : Int64} (hK : CtxOK K Y d) (hd : decode Y.2.1 pc = .ok (.lload_n k, 1)) (hi : (k : Nat) = i) (hl : ls[i]? = some (some (.long x))) (kk : VV K Q (pc + 1) ls (.long x :: st) μ) : VV K Q pc ls st μ :=
  fun H locs la h1 h2 h3 => lv_lload_n hK.hx hK.hb hd hi (h1.2.2 _ _ hl) (kk H locs la h1 h2 h3)
theorem VV.lload {i : Nat} {x : Int64} (hK : CtxOK K Y d) (hd : decode Y.2.1 pc = .ok (.lload i, 2)) (hl : ls[i]? = some (some (.long x))) (kk : VV K Q (pc + 2) ls (.long x :: st) μ) : VV K Q pc ls st μ :=
  fun H locs la h1 h2 h3 => lv_lload hK.hx hK.hb hd (h1.2.2 _ _ hl) (kk H locs la h1 h2 h3)
theorem VV.aload_n {k : Fin 4} {i : Nat} {x : Nat} (hK : CtxOK K Y d) (hd : decode Y.2.1 pc = .ok (.aload_n k, 1)) (hi : (k : Nat) = i) (hl : ls[i]? = some (some (.ref x))) (kk : VV K Q (pc + 1) ls (.ref x :: st) μ) : VV K Q pc ls st μ :=
  fun H locs la h1 h2 h3 => lv_aload_n hK.hx hK.hb hd hi (h1.2.2 _ _ hl) (kk H locs la h1 h2 h3)
theorem VV.aload {i : Nat} {x : Nat} (hK : CtxOK K Y d) (hd : decode Y.2.1 pc = .ok (.aload i, 2)) (hl : ls[i]? = some (some (.ref x))) (kk : VV K Q (pc + 2) ls (.ref x :: st) μ) : VV K Q pc ls st μ :=
  fun H locs la h1 h2 h3 => lv_aload hK.hx hK.hb hd (h1.2.2 _ _ hl) (kk H locs la h1 h2 h3)
theorem VV.aload_nN {k : Fin 4} {i : Nat} (hK : CtxOK K Y d) (hd : decode Y.2.1 pc = .ok (.aload_n k, 1)) (hi : (k : Nat) = i) (hl : ls[i]? = some (some .null)) (kk : VV K Q (pc + 1) ls (.null :: st) μ) : VV K Q pc ls st μ :=
  fun H locs la h1 h2 h3 => lv_aload_nN hK.hx hK.hb hd hi (h1.2.2 _ _ hl) (kk H locs la h1 h2 h3)
theorem VV.istore_n {k : Fin 4} {i : Nat} {x : Int32} {ls' : List (Option Value)} (hK : CtxOK K Y d) (hd : decode Y.2.1 pc = .ok (.istore_n k, 1)) (hi : (k : Nat) = i) (hn : i < ls.length) (hl : ls1 ls i (.int x) = ls') (kk : VV K Q (pc + 1) ls' st μ) : VV K Q pc ls (.int x :: st) μ :=
  fun H locs la h1 h2 h3 => lv_istore_n hK.hx hK.hb hd hi h1.has hn rfl (fun la' hh => by subst hl; exact kk H locs la' (lvR.st1 (v := .int x) hh) h2 h3)
theorem VV.istore {i : Nat} {x : Int32} {ls' : List (Option Value)} (hK : CtxOK K Y d) (hd : decode Y.2.1 pc = .ok (.istore i, 2)) (hn : i < ls.length) (hl : ls1 ls i (.int x) = ls') (kk : VV K Q (pc + 2) ls' st μ) : VV K Q pc ls (.int x :: st) μ :=
  fun H locs la h1 h2 h3 => lv_istore hK.hx hK.hb hd h1.has hn rfl (fun la' hh => by subst hl; exact kk H locs la' (lvR.st1 (v := .int x) hh) h2 h3)
theorem VV.lstore_n {k : Fin 4} {i : Nat} {x : Int64} {ls' : List (Option Value)} (hK : CtxOK K Y d) (hd : decode Y.2.1 pc = .ok (.lstore_n k, 1)) (hi : (k : Nat) = i) (hn : i + 1 < ls.length) (hl : ls2 ls i (.long x) = ls') (kk : VV K Q (pc + 1) ls' st μ) : VV K Q pc ls (.long x :: st) μ :=
  fun H locs la h1 h2 h3 => lv_lstore_n hK.hx hK.hb hd hi h1.has hn rfl (fun la' hh => by subst hl; exact kk H locs la' (lvR.st2 (v := .long x) hh) h2 h3)
theorem VV.lstore {i : Nat} {x : Int64} {ls' : List (Option Value)} (hK : CtxOK K Y d) (hd : decode Y.2.1 pc = .ok (.lstore i, 2)) (hn : i + 1 < ls.length) (hl : ls2 ls i (.long x) = ls') (kk : VV K Q (pc + 2) ls' st μ) : VV K Q pc ls (.long x :: st) μ :=
  fun H locs la h1 h2 h3 => lv_lstore hK.hx hK.hb hd h1.has hn rfl (fun la' hh => by subst hl; exact kk H locs la' (lvR.st2 (v := .long x) hh) h2 h3)
theorem VV.astore_n {k : Fin 4} {i : Nat} {x : Nat} {ls' : List (Option Value)} (hK : CtxOK K Y d) (hd : decode Y.2.1 pc = .ok (.astore_n k, 1)) (hi : (k : Nat) = i) (hn : i < ls.length) (hl : ls1 ls i (.ref x) = ls') (kk : VV K Q (pc + 1) ls' st μ) : VV K Q pc ls (.ref x :: st) μ :=
  fun H locs la h1 h2 h3 => lv_astore_n hK.hx hK.hb hd hi h1.has hn rfl (fun la' hh => by subst hl; exact kk H locs la' (lvR.st1 (v := .ref x) hh) h2 h3)
theorem VV.astore {i : Nat} {x : Nat} {ls' : List (Option Value)} (hK : CtxOK K Y d) (hd : decode Y.2.1 pc = .ok (.astore i, 2)) (hn : i < ls.length) (hl : ls1 ls i (.ref x) = ls') (kk : VV K Q (pc + 2) ls' st μ) : VV K Q pc ls (.ref x :: st) μ :=
  fun H locs la h1 h2 h3 => lv_astore hK.hx hK.hb hd h1.has hn rfl (fun la' hh => by subst hl; exact kk H locs la' (lvR.st1 (v := .ref x) hh) h2 h3)
theorem VV.astore_nN {k : Fin 4} {i : Nat} {ls' : List (Option Value)} (hK : CtxOK K Y d) (hd : decode Y.2.1 pc = .ok (.astore_n k, 1)) (hi : (k : Nat) = i) (hn : i < ls.length) (hl : ls1 ls i .null = ls') (kk : VV K Q (pc + 1) ls' st μ) : VV K Q pc ls (.null :: st) μ :=
  fun H locs la h1 h2 h3 => lv_astore_nN hK.hx hK.hb hd hi h1.has hn rfl (fun la' hh => by subst hl; exact kk H locs la' (lvR.st1 (v := .null) hh) h2 h3)
theorem VV.iinc {i : Nat} {n : Int} {x v : Int32} {ls' : List (Option Value)} (hK : CtxOK K Y d) (hd : decode Y.2.1 pc = .ok (.iinc i n, 3)) (hg : ls[i]? = some (some (.int x))) (hv : Int32.ofInt n = v) (hn : i < ls.length) (hl : ls1 ls i (.int (x + v)) = ls') (kk : VV K Q (pc + 3) ls' st μ) : VV K Q pc ls st μ := by
  intro H locs la h1 h2 h3
  obtain ⟨k, hk⟩ := List.getElem?_of_mem (asl_mem (g := Kg K) hg)
  subst hv
  exact lv_iinc hK.hx hK.hb hd h1.has hk rfl hn rfl (fun la' hh => by subst hl; exact kk H locs la' (lvR.st1 (v := .int (x + Int32.ofInt n)) hh) h2 h3)
theorem VV.if_eq {x : Int32} {off : Int} {tgt : Nat} (hK : CtxOK K Y d) (hd : decode Y.2.1 pc = .ok (.ifCond .eq off, 3)) (ht : (pc : Int) + off = (tgt : Int)) (kt : x = 0 → VV K Q tgt ls st μ) (kf : ¬ x = 0 → VV K Q (pc + 3) ls st μ) : VV K Q pc ls (.int x :: st) μ :=
  fun H locs la h1 h2 h3 => lv_if_eq hK.hx hK.hb hd ht (fun c => kt c H locs la h1 h2 h3) (fun c => kf c H locs la h1 h2 h3)
theorem VV.icmp_eq {x y : Int32} {off : Int} {tgt : Nat} (hK : CtxOK K Y d) (hd : decode Y.2.1 pc = .ok (.if_icmp .eq off, 3)) (ht : (pc : Int) + off = (tgt : Int)) (kt : x = y → VV K Q tgt ls st μ) (kf : ¬ x = y → VV K Q (pc + 3) ls st μ) : VV K Q pc ls (.int y :: .int x :: st) μ :=
  fun H locs la h1 h2 h3 => lv_icmp_eq hK.hx hK.hb hd ht (fun c => kt c H locs la h1 h2 h3) (fun c => kf c H locs la h1 h2 h3)
theorem VV.if_ne {x : Int32} {off : Int} {tgt : Nat} (hK : CtxOK K Y d) (hd : decode Y.2.1 pc = .ok (.ifCond .ne off, 3)) (ht : (pc : Int) + off = (tgt : Int)) (kt : ¬ x = 0 → VV K Q tgt ls st μ) (kf : x = 0 → VV K Q (pc + 3) ls st μ) : VV K Q pc ls (.int x :: st) μ :=
  fun H locs la h1 h2 h3 => lv_if_ne hK.hx hK.hb hd ht (fun c => kt c H locs la h1 h2 h3) (fun c => kf c H locs la h1 h2 h3)
theorem VV.icmp_ne {x y : Int32} {off : Int} {tgt : Nat} (hK : CtxOK K Y d) (hd : decode Y.2.1 pc = .ok (.if_icmp .ne off, 3)) (ht : (pc : Int) + off = (tgt : Int)) (kt : ¬ x = y → VV K Q tgt ls st μ) (kf : x = y → VV K Q (pc + 3) ls st μ) : VV K Q pc ls (.int y :: .int x :: st) μ :=
  fun H locs la h1 h2 h3 => lv_icmp_ne hK.hx hK.hb hd ht (fun c => kt c H locs la h1 h2 h3) (fun c => kf c H locs la h1 h2 h3)
theorem VV.if_lt {x : Int32} {off : Int} {tgt : Nat} (hK : CtxOK K Y d) (hd : decode Y.2.1 pc = .ok (.ifCond .lt off, 3)) (ht : (pc : Int) + off = (tgt : Int)) (kt : x < 0 → VV K Q tgt ls st μ) (kf : ¬ x < 0 → VV K Q (pc + 3) ls st μ) : VV K Q pc ls (.int x :: st) μ :=
  fun H locs la h1 h2 h3 => lv_if_lt hK.hx hK.hb hd ht (fun c => kt c H locs la h1 h2 h3) (fun c => kf c H locs la h1 h2 h3)
theorem VV.icmp_lt {x y : Int32} {off : Int} {tgt : Nat} (hK : CtxOK K Y d) (hd : decode Y.2.1 pc = .ok (.if_icmp .lt off, 3)) (ht : (pc : Int) + off = (tgt : Int)) (kt : x < y → VV K Q tgt ls st μ) (kf : ¬ x < y → VV K Q (pc + 3) ls st μ) : VV K Q pc ls (.int y :: .int x :: st) μ :=
  fun H locs la h1 h2 h3 => lv_icmp_lt hK.hx hK.hb hd ht (fun c => kt c H locs la h1 h2 h3) (fun c => kf c H locs la h1 h2 h3)
theorem VV.if_ge {x : Int32} {off : Int} {tgt : Nat} (hK : CtxOK K Y d) (hd : decode Y.2.1 pc = .ok (.ifCond .ge off, 3)) (ht : (pc : Int) + off = (tgt : Int)) (kt : 0 ≤ x → VV K Q tgt ls st μ) (kf : ¬ 0 ≤ x → VV K Q (pc + 3) ls st μ) : VV K Q pc ls (.int x :: st) μ :=
  fun H locs la h1 h2 h3 => lv_if_ge hK.hx hK.hb hd ht (fun c => kt c H locs la h1 h2 h3) (fun c => kf c H locs la h1 h2 h3)
theorem VV.icmp_ge {x y : Int32} {off : Int} {tgt : Nat} (hK : CtxOK K Y d) (hd : decode Y.2.1 pc = .ok (.if_icmp .ge off, 3)) (ht : (pc : Int) + off = (tgt : Int)) (kt : y ≤ x → VV K Q tgt ls st μ) (kf : ¬ y ≤ x → VV K Q (pc + 3) ls st μ) : VV K Q pc ls (.int y :: .int x :: st) μ :=
  fun H locs la h1 h2 h3 => lv_icmp_ge hK.hx hK.hb hd ht (fun c => kt c H locs la h1 h2 h3) (fun c => kf c H locs la h1 h2 h3)
theorem VV.if_gt {x : Int32} {off : Int} {tgt : Nat} (hK : CtxOK K Y d) (hd : decode Y.2.1 pc = .ok (.ifCond .gt off, 3)) (ht : (pc : Int) + off = (tgt : Int)) (kt : 0 < x → VV K Q tgt ls st μ) (kf : ¬ 0 < x → VV K Q (pc + 3) ls st μ) : VV K Q pc ls (.int x :: st) μ :=
  fun H locs la h1 h2 h3 => lv_if_gt hK.hx hK.hb hd ht (fun c => kt c H locs la h1 h2 h3) (fun c => kf c H locs la h1 h2 h3)
theorem VV.icmp_gt {x y : Int32} {off : Int} {tgt : Nat} (hK : CtxOK K Y d) (hd : decode Y.2.1 pc = .ok (.if_icmp .gt off, 3)) (ht : (pc : Int) + off = (tgt : Int)) (kt : y < x → VV K Q tgt ls st μ) (kf : ¬ y < x → VV K Q (pc + 3) ls st μ) : VV K Q pc ls (.int y :: .int x :: st) μ :=
  fun H locs la h1 h2 h3 => lv_icmp_gt hK.hx hK.hb hd ht (fun c => kt c H locs la h1 h2 h3) (fun c => kf c H locs la h1 h2 h3)
theorem VV.if_le {x : Int32} {off : Int} {tgt : Nat} (hK : CtxOK K Y d) (hd : decode Y.2.1 pc = .ok (.ifCond .le off, 3)) (ht : (pc : Int) + off = (tgt : Int)) (kt : x ≤ 0 → VV K Q tgt ls st μ) (kf : ¬ x ≤ 0 → VV K Q (pc + 3) ls st μ) : VV K Q pc ls (.int x :: st) μ :=
  fun H locs la h1 h2 h3 => lv_if_le hK.hx hK.hb hd ht (fun c => kt c H locs la h1 h2 h3) (fun c => kf c H locs la h1 h2 h3)
theorem VV.icmp_le {x y : Int32} {off : Int} {tgt : Nat} (hK : CtxOK K Y d) (hd : decode Y.2.1 pc = .ok (.if_icmp .le off, 3)) (ht : (pc : Int) + off = (tgt : Int)) (kt : x ≤ y → VV K Q tgt ls st μ) (kf : ¬ x ≤ y → VV K Q (pc + 3) ls st μ) : VV K Q pc ls (.int y :: .int x :: st) μ :=
  fun H locs la h1 h2 h3 => lv_icmp_le hK.hx hK.hb hd ht (fun c => kt c H locs la h1 h2 h3) (fun c => kf c H locs la h1 h2 h3)
theorem VV.goto_ {off : Int} {tgt : Nat} (hK : CtxOK K Y d) (hd : decode Y.2.1 pc = .ok (.goto off, 3)) (ht : (pc : Int) + off = (tgt : Int)) (k : VV K Q tgt ls st μ) : VV K Q pc ls st μ :=
  fun H locs la h1 h2 h3 => lv_goto hK.hx hK.hb hd ht (k H locs la h1 h2 h3)
theorem VV.ifnn {x : Nat} {off : Int} {tgt : Nat} (hK : CtxOK K Y d) (hd : decode Y.2.1 pc = .ok (.ifnonnull off, 3)) (ht : (pc : Int) + off = (tgt : Int)) (k : VV K Q tgt ls st μ) : VV K Q pc ls (.ref x :: st) μ :=
  fun H locs la h1 h2 h3 => lv_ifnonnull hK.hx hK.hb hd ht (k H locs la h1 h2 h3)
theorem VV.ifnnN {off : Int} (hK : CtxOK K Y d) (hd : decode Y.2.1 pc = .ok (.ifnonnull off, 3)) (k : VV K Q (pc + 3) ls st μ) : VV K Q pc ls (.null :: st) μ :=
  fun H locs la h1 h2 h3 => lv_ifnonnullN hK.hx hK.hb hd (k H locs la h1 h2 h3)
theorem VV.ldc2 {index : Nat} {v : Int64} (hK : CtxOK K Y d) (hc : Cond.constantLong Y.1.cls index v ∈ gtbl) (hd : decode Y.2.1 pc = .ok (.ldc2_w index, 3)) (k : VV K Q (pc + 3) ls (.long v :: st) μ) : VV K Q pc ls st μ :=
  fun H locs la h1 h2 h3 => lv_ldc2 hK.hx hK.hb hK.ho (hK.ht _ hc) hd (k H locs la h1 h2 h3)
theorem VV.ldcw {index : Nat} {v : Int32} (hK : CtxOK K Y d) (hc : Cond.constant Y.1.cls index v ∈ gtbl) (hd : decode Y.2.1 pc = .ok (.ldc_w index, 3)) (k : VV K Q (pc + 3) ls (.int v :: st) μ) : VV K Q pc ls st μ :=
  fun H locs la h1 h2 h3 => lv_ldcw hK.hx hK.hb hK.ho (hK.ht _ hc) hd (k H locs la h1 h2 h3)
theorem VV.tabi {dflt lo hi : Int} {offs : Array Int} {len : Nat} {x v : Int32} {off : Int} {tgt : Nat} (hK : CtxOK K Y d) (hd : decode Y.2.1 pc = .ok (.tableswitch dflt lo hi offs, len)) (c : x = v) (h : ¬ v.toInt < lo ∧ ¬ hi < v.toInt ∧ offs[(v.toInt - lo).toNat]? = some off ∧ (pc : Int) + off = (tgt : Int)) (k : VV K Q tgt ls st μ) : VV K Q pc ls (.int x :: st) μ := by
  subst c
  exact fun H locs la h1 h2 h3 => lv_tableIn hK.hx hK.hb hd h.1 h.2.1 h.2.2.1 h.2.2.2 (k H locs la h1 h2 h3)
theorem VV.tabo {dflt lo hi : Int} {offs : Array Int} {len : Nat} {x : Int32} {tgt : Nat} (hK : CtxOK K Y d) (hd : decode Y.2.1 pc = .ok (.tableswitch dflt lo hi offs, len)) (h : ∀ i : Int, lo ≤ i → i ≤ hi → ¬ x = Int32.ofInt i) (ht : (pc : Int) + dflt = (tgt : Int)) (k : VV K Q tgt ls st μ) : VV K Q pc ls (.int x :: st) μ := by
  have ho : x.toInt < lo ∨ hi < x.toInt := by
    by_cases h1 : x.toInt < lo
    · exact Or.inl h1
    · by_cases h2 : hi < x.toInt
      · exact Or.inr h2
      · exact absurd (Int32.ofInt_toInt x).symm (h x.toInt (by omega) (by omega))
  exact fun H locs la h1 h2 h3 => lv_tableOut hK.hx hK.hb hd ho ht (k H locs la h1 h2 h3)
theorem VV.look {dflt : Int} {ps : Array (Int × Int)} {len : Nat} {x : Int32} {off : Int} {tgt : Nat} (hK : CtxOK K Y d) (hd : decode Y.2.1 pc = .ok (.lookupswitch dflt ps, len)) (hp : (ps.toList.zip (ps.toList.drop 1)).all (fun (a, next) => a.1 < next.1) = true) (ho : Op.lookupswitch.offset ps.toList dflt x.toInt = off) (ht : (pc : Int) + off = (tgt : Int)) (k : VV K Q tgt ls st μ) : VV K Q pc ls (.int x :: st) μ :=
  fun H locs la h1 h2 h3 => lv_lookup hK.hx hK.hb hd hp ho ht (k H locs la h1 h2 h3)
/-! fields -/
def Fld (Y : Ym) (idx c k : Nat) : Prop := ∃ (C : String) (T : u_T) (N : Nat) (ty : Nat → FieldType), vwCl[c]? = some (C, T, N) ∧ k < N ∧ (∀ w ∈ u_ws C T N, w ∈ gtbl) ∧ (Cond.fieldLink Y.1.cls idx (T k).1 (T k).2.1 (T k).2.2.1 ∈ gtbl ∨ ∃ host, Cond.fieldLinkNest Y.1.cls idx (T k).1 (T k).2.1 (T k).2.2.1 host ∈ ntbl) ∧ (∀ j, j < N → parseFieldDescriptor (T j).2.2.1 = some (ty j)) ∧ (∀ a, a < N → ∀ b, b < N → a ≠ b → (T a).2.1 ≠ (T b).2.1)
def Fpt (c k : Nat) (fty : FieldType) : Prop := ∀ (C : String) (T : u_T) (N : Nat), vwCl[c]? = some (C, T, N) → (T k).2.2.2 = false ∧ parseFieldDescriptor (T k).2.2.1 = some fty
theorem VV.getV {idx c k i kd : Nat} {ks : List Nat} {v : Value} (hK : CtxOK K Y d) (hf : Fld Y idx c k) (hd : decode Y.2.1 pc = .ok (.getfield idx, 3)) (hi : i < 59) (hs : shp i = .inr (c, ks)) (hk : ks[k]? = some kd) (hv : fval (Kg K) μ i k kd = cv (Kg K) v) (kk : VV K Q (pc + 3) ls (v :: st) μ) : VV K Q pc ls (.ref i :: st) μ := by
  intro H locs la h1 h2 h3
  obtain ⟨C, T, N, ty, e1, e2, e3, e4, e5, e6⟩ := hf
  have he : (wld (Kg K) μ)[i]? = some ((Kg K).1 i, .inr (c, ks.mapIdx (fun k kd => fval (Kg K) μ i k kd))) := by rw [wld_at hi, cel_o hs]
  have hv2 : (ks.mapIdx (fun k kd => fval (Kg K) μ i k kd))[k]? = some (cv (Kg K) v) := by rw [List.getElem?_mapIdx, hk, ← hv]; rfl
  rcases e4 with e4 | ⟨host, e4⟩
  · exact va_get hK.hx hK.hb hK.ht e3 hK.ho hK.hk h2 i he e1 k e2 (hK.ht _ e4) (fun x h => h) hv2 hd (kk H locs la h1 h2 h3)
  · exact va_getN hK.hx hK.hb hK.ht e3 hK.ho hK.hk h2 i he e1 k e2 (va_Nw.use rfl (hK.hn _ e4)) (fun x h => h) hv2 hd (kk H locs la h1 h2 h3)
theorem VV.getI {idx c k i : Nat} {ks : List Nat} (hK : CtxOK K Y d) (hf : Fld Y idx c k) (hd : decode Y.2.1 pc = .ok (.getfield idx, 3)) (hi : i < 59) (hs : shp i = .inr (c, ks)) (hk : ks[k]? = some 0) (kk : VV K Q (pc + 3) ls (.int (μ.1 i k) :: st) μ) : VV K Q pc ls (.ref i :: st) μ := VV.getV hK hf hd hi hs hk rfl kk
theorem VV.getL {idx c k i : Nat} {ks : List Nat} (hK : CtxOK K Y d) (hf : Fld Y idx c k) (hd : decode Y.2.1 pc = .ok (.getfield idx, 3)) (hi : i < 59) (hs : shp i = .inr (c, ks)) (hk : ks[k]? = some 1) (kk : VV K Q (pc + 3) ls (.long (μ.2 i) :: st) μ) : VV K Q pc ls (.ref i :: st) μ := VV.getV hK hf hd hi hs hk rfl kk
theorem VV.getR {idx c k i t : Nat} {ks : List Nat} (hK : CtxOK K Y d) (hf : Fld Y idx c k) (hd : decode Y.2.1 pc = .ok (.getfield idx, 3)) (hi : i < 59) (hs : shp i = .inr (c, ks)) (hk : ks[k]? = some (t + 2)) (kk : VV K Q (pc + 3) ls (.ref t :: st) μ) : VV K Q pc ls (.ref i :: st) μ := VV.getV hK hf hd hi hs hk rfl kk
theorem VV.putI {idx c k i : Nat} {ks : List Nat} {x : Int32} (hK : CtxOK K Y d) (hf : Fld Y idx c k) (hp : Fpt c k .int) (hd : decode Y.2.1 pc = .ok (.putfield idx, 3)) (hi : i < 59) (hs : shp i = .inr (c, ks)) (hk : ks[k]? = some 0) (kk : VV K Q (pc + 3) ls st (wr μ i k x)) : VV K Q pc ls (.int x :: .ref i :: st) μ := by
  intro H locs la h1 h2 h3
  obtain ⟨C, T, N, ty, e1, e2, e3, e4, e5, e6⟩ := hf
  obtain ⟨f1, f2⟩ := hp C T N e1
  have he : (wld (Kg K) μ)[i]? = some ((Kg K).1 i, .inr (c, ks.mapIdx (fun k kd => fval (Kg K) μ i k kd))) := by rw [wld_at hi, cel_o hs]
  have hl : k < (ks.mapIdx (fun k kd => fval (Kg K) μ i k kd)).length := by rw [List.length_mapIdx]; exact (List.getElem?_eq_some_iff.mp hk).1
  have hw : wld (Kg K) (wr μ i k x) = (wld (Kg K) μ).set i ((Kg K).1 i, .inr (c, (ks.mapIdx (fun k kd => fval (Kg K) μ i k kd)).set k (.int x))) := by
    rw [wld_set (fun j hj => cel_wr_ne hj), cel_wr_o hs hk]
  rcases e4 with e4 | ⟨host, e4⟩
  · exact va_put hK.hx hK.hb hK.ht e3 ty e5 e6 hK.ho hK.hk h2 (wld_D μ hK.hi) h3 i he e1 k e2 (hK.ht _ e4) (fun x h => h) f1 f2 (vp_nar_int x) rfl hl hd (fun H1 locs1 p1 p2 p3 => kk H1 locs1 la h1 (by rw [hw]; exact p1) p3)
  · exact va_putN hK.hx hK.hb hK.ht e3 ty e5 e6 hK.ho hK.hk h2 (wld_D μ hK.hi) h3 i he e1 k e2 (va_Nw.use rfl (hK.hn _ e4)) (fun x h => h) f1 f2 (vp_nar_int x) rfl hl hd (fun H1 locs1 p1 p2 p3 => kk H1 locs1 la h1 (by rw [hw]; exact p1) p3)
theorem VV.putL {idx c k i : Nat} {ks : List Nat} {x : Int64} (hK : CtxOK K Y d) (hf : Fld Y idx c k) (hp : Fpt c k .long) (hd : decode Y.2.1 pc = .ok (.putfield idx, 3)) (hi : i < 59) (hs : shp i = .inr (c, ks)) (hk : ks[k]? = some 1) (hu : ∀ j, ks[j]? = some 1 → j = k) (kk : VV K Q (pc + 3) ls st (wl μ i x)) : VV K Q pc ls (.long x :: .ref i :: st) μ := by
  intro H locs la h1 h2 h3
  obtain ⟨C, T, N, ty, e1, e2, e3, e4, e5, e6⟩ := hf
  obtain ⟨f1, f2⟩ := hp C T N e1
  have he : (wld (Kg K) μ)[i]? = some ((Kg K).1 i, .inr (c, ks.mapIdx (fun k kd => fval (Kg K) μ i k kd))) := by rw [wld_at hi, cel_o hs]
  have hl : k < (ks.mapIdx (fun k kd => fval (Kg K) μ i k kd)).length := by rw [List.length_mapIdx]; exact (List.getElem?_eq_some_iff.mp hk).1
  have hw : wld (Kg K) (wl μ i x) = (wld (Kg K) μ).set i ((Kg K).1 i, .inr (c, (ks.mapIdx (fun k kd => fval (Kg K) μ i k kd)).set k (.long x))) := by
    rw [wld_set (fun j hj => cel_wl_ne hj), cel_wl_o hs hk hu]
  rcases e4 with e4 | ⟨host, e4⟩
  · exact va_put hK.hx hK.hb hK.ht e3 ty e5 e6 hK.ho hK.hk h2 (wld_D μ hK.hi) h3 i he e1 k e2 (hK.ht _ e4) (fun x h => h) f1 f2 rfl rfl hl hd (fun H1 locs1 p1 p2 p3 => kk H1 locs1 la h1 (by rw [hw]; exact p1) p3)
  · exact va_putN hK.hx hK.hb hK.ht e3 ty e5 e6 hK.ho hK.hk h2 (wld_D μ hK.hi) h3 i he e1 k e2 (va_Nw.use rfl (hK.hn _ e4)) (fun x h => h) f1 f2 rfl rfl hl hd (fun H1 locs1 p1 p2 p3 => kk H1 locs1 la h1 (by rw [hw]; exact p1) p3)
/-! arrays -/
theorem VV.iald {i n : Nat} {x : Int32} (hK : CtxOK K Y d) (hd : decode Y.2.1 pc = .ok (.iaload, 1)) (hi : i < 59) (hs : shp i = .inl (0, n)) (hx : vp_in x n) (kk : VV K Q (pc + 1) ls (.int (μ.1 i x.toNatClampNeg) :: st) μ) : VV K Q pc ls (.int x :: .ref i :: st) μ :=
  fun H locs la h1 h2 h3 => va_iald hK.hx hK.hb hK.hk h2 i 0 (n := n) (f := μ.1 i) (by rw [wld_at hi, cel_i hs]) rfl hx hd (kk H locs la h1 h2 h3)
theorem VV.zald {i n : Nat} {x : Int32} (hK : CtxOK K Y d) (hd : decode Y.2.1 pc = .ok (.baload, 1)) (hi : i < 59) (hs : shp i = .inl (1, n)) (hx : vp_in x n) (kk : VV K Q (pc + 1) ls (.int (μ.1 i x.toNatClampNeg) :: st) μ) : VV K Q pc ls (.int x :: .ref i :: st) μ :=
  fun H locs la h1 h2 h3 => va_zald hK.hx hK.hb hK.hk h2 i 1 (n := n) (f := μ.1 i) (by rw [wld_at hi, cel_z hs]) rfl hx hd (kk H locs la h1 h2 h3)
theorem VV.aald {i n : Nat} {x : Int32} (hK : CtxOK K Y d) (hd : decode Y.2.1 pc = .ok (.aaload, 1)) (hi : i < 59) (hs : shp i = .inl (2, n)) (hx : vp_in x n) (kk : VV K Q (pc + 1) ls (.ref (kref x.toNatClampNeg) :: st) μ) : VV K Q pc ls (.int x :: .ref i :: st) μ :=
  fun H locs la h1 h2 h3 => va_aldq hK.hx hK.hb hK.hk h2 i 2 (n := n) (f := fun j => some ((Kg K).1 (kref j))) (by rw [wld_at hi, cel_q hs]) rfl hx hd (kk H locs la h1 h2 h3)
theorem VV.alen {i n : Nat} {v : Int32} (hK : CtxOK K Y d) (hd : decode Y.2.1 pc = .ok (.arraylength, 1)) (hi : i < 59) (hs : shp i = .inl (0, n)) (hv : Int32.ofNat n = v) (kk : VV K Q (pc + 1) ls (.int v :: st) μ) : VV K Q pc ls (.ref i :: st) μ :=
  fun H locs la h1 h2 h3 => va_alen hK.hx hK.hb hK.hk h2 i 0 (x := (n, .inl (μ.1 i))) (by rw [wld_at hi, cel_i hs]) (ty := .int) rfl hv hd (kk H locs la h1 h2 h3)
theorem VV.iast {i n : Nat} {x v : Int32} (hK : CtxOK K Y d) (hd : decode Y.2.1 pc = .ok (.iastore, 1)) (hi : i < 59) (hs : shp i = .inl (0, n)) (hx : vp_in x n) (kk : VV K Q (pc + 1) ls st (wr μ i x.toNatClampNeg v)) : VV K Q pc ls (.int v :: .int x :: .ref i :: st) μ := by
  intro H locs la h1 h2 h3
  have hw : wld (Kg K) (wr μ i x.toNatClampNeg v) = (wld (Kg K) μ).set i ((Kg K).1 i, .inl ((Kg K).2.2.1, n, .inl (upd (μ.1 i) x.toNatClampNeg v))) := by
    rw [wld_set (fun j hj => cel_wr_ne hj), cel_i hs, wr_at]
  exact va_iast hK.hx hK.hb hK.hk h2 (wld_D μ hK.hi) h3 i 0 (n := n) (f := μ.1 i) (by rw [wld_at hi, cel_i hs]) rfl hx hd (fun H1 locs1 p1 p2 p3 => kk H1 locs1 la h1 (by rw [hw]; exact p1) p3)
theorem nar_z {x : Int32} (h : x = 0 ∨ x = 1) : vp_nar .boolean x = x := by
  rcases h with rfl | rfl <;> rfl
theorem VV.zast {i n : Nat} {x v : Int32} (hK : CtxOK K Y d) (hd : decode Y.2.1 pc = .ok (.bastore, 1)) (hi : i < 59) (hs : shp i = .inl (1, n)) (hx : vp_in x n) (hv : v = 0 ∨ v = 1) (kk : VV K Q (pc + 1) ls st (wr μ i x.toNatClampNeg v)) : VV K Q pc ls (.int v :: .int x :: .ref i :: st) μ := by
  intro H locs la h1 h2 h3
  have hw : wld (Kg K) (wr μ i x.toNatClampNeg v) = (wld (Kg K) μ).set i ((Kg K).1 i, .inl ((Kg K).2.2.2.1, n, .inl (upd (μ.1 i) x.toNatClampNeg (vp_nar .boolean v)))) := by
    rw [wld_set (fun j hj => cel_wr_ne hj), cel_z hs, wr_at, nar_z hv]
  exact va_zast hK.hx hK.hb hK.hk h2 (wld_D μ hK.hi) h3 i 1 (n := n) (f := μ.1 i) (by rw [wld_at hi, cel_z hs]) rfl hx hd (fun H1 locs1 p1 p2 p3 => kk H1 locs1 la h1 (by rw [hw]; exact p1) p3)
theorem VV.gets {index : Nat} (hK : CtxOK K Y d) (hl : Cond.fieldLink Y.1.cls index "SkyTenders" "ORDERS" "[I" ∈ gtbl) (hd : decode Y.2.1 pc = .ok (.getstatic index, 3)) (kk : VV K Q (pc + 3) ls (.ref 59 :: st) μ) : VV K Q pc ls st μ :=
  fun H locs la h1 h2 h3 => va_gets hK.hx hK.hb hK.hs.1 h3 hK.ho (hK.ht _ hl) (fun x h => h) hd (kk H locs la h1 h2 h3)
theorem VV.oald {x : Int32} (hK : CtxOK K Y d) (hd : decode Y.2.1 pc = .ok (.iaload, 1)) (hx : vp_in x 5) (kk : VV K Q (pc + 1) ls (.int (ordv x.toNatClampNeg) :: st) μ) : VV K Q pc ls (.int x :: .ref 59 :: st) μ :=
  fun H locs la h1 h2 h3 => va_ti hK.hx hK.hb hK.hs.2 h3 hx rfl hd (kk H locs la h1 h2 h3)
end ROWS
/-! ===== contracts ===== -/
def rmD (d : Nat) : Room := { frames := d, cells := 0, slots := 0, locals := 64 * d }
def wsY (Y : Ym) : List Cond := .code Y.1 Y.2.1 Y.2.2.1 Y.2.2.2 :: gtbl
def Pm (g : Glo) (μ : Mem) (sz : Nat) (U : State) : Prop := U.heap.size = sz ∧ va_P g.2.1 vwCl (wld g μ) U.heap ∧ va_K g.2.1 vwCl (tys g) U ∧ (∀ w ∈ ntbl, va_Nw w U) ∧ Inj g ∧ Stt g U
def Qm (g : Glo) (post : Option Value → Mem → Prop) : Array Value → State → Outcome → State → Prop := fun _ st oc t => ∃ (r : Option Value) (μ : Mem), oc = .returned (r.map (cv g)) ∧ post r μ ∧ va_P g.2.1 vwCl (wld g μ) t.heap ∧ va_F (Own g st.heap.size) st t
def Ct (d : Nat) (Y : Ym) (as : List Value) (μ : Mem) (post : Option Value → Mem → Prop) : Prop := ∀ (l : Launch) (g : Glo) (sz : Nat), Met l Y.1 (wsY Y) (rmD d) (va_Pc (as.map (cv g)) (Pm g μ sz)) (Qm g post) 0 0 (Own g sz)
def fin (K : Kx) (post : Option Value → Mem → Prop) : State → Prop := MQ (Kb K) (Qm (Kg K) post) (Ka K) (Ks K) (Kn K) (Kk K) (Own (Kg K) (Ks K).heap.size)
theorem Ct.of {Y : Ym} {d : Nat} {as : List Value} {μ : Mem} {post : Option Value → Mem → Prop} (hy : plainName Y.1.cls = true) (hn : (enl as).length ≤ Y.2.2.1) (h : ∀ K, CtxOK K Y d → VV K (fin K post) 0 (ent as Y.2.2.1) [] μ) : Ct (d + 1) Y as μ post := by
  intro l g sz
  refine Met.ofW (cc := Y.2.1) (maxL := Y.2.2.1) (ret := Y.2.2.2) hy rfl ?_
  intro p e s m args below meth c s₁ B hml hv
  obtain ⟨rfl, hsz, hP, hK, hN, hI, hS⟩ := hv
  subst hsz
  have hts := atoms_spec (ws := wsY Y) B.pre
  have hown : s.vm.findClass Y.1.cls = some m.cls := findClass_of_methodNamed B.named
  rw [lg_entry_eq]
  exact h (p, l, e, rmD (d + 1), s, m, (as.map (cv g)).toArray, below, meth, c, g, 0, 0) ⟨B.exec, B.bytes, B.returns, hml, hown, fun w hw => hts w (List.mem_cons_of_mem _ hw), B.notSynchronized, hK, hN, hI, hS, Nat.le_refl _, (by show 64 * d + 64 ≤ 64 * (d + 1); omega), Nat.le_refl 0, Nat.le_refl 0⟩ s.heap [] _ (lvR.entry g as hn) hP va_S.rf
def pI (post : Int32 → Mem → Prop) : Option Value → Mem → Prop := fun o μ => ∃ r : Int32, o = some (.int r) ∧ post r μ
def pL (post : Int64 → Mem → Prop) : Option Value → Mem → Prop := fun o μ => ∃ r : Int64, o = some (.long r) ∧ post r μ
def pV (post : Mem → Prop) : Option Value → Mem → Prop := fun o μ => o = none ∧ post μ
def pQ (post : Option Nat → Mem → Prop) : Option Value → Mem → Prop := fun o μ => ∃ r : Option Nat, o = some (va_rf r) ∧ post r μ
def CtI (d : Nat) (Y : Ym) (as : List Value) (μ : Mem) (post : Int32 → Mem → Prop) : Prop := Ct d Y as μ (pI post)
def CtL (d : Nat) (Y : Ym) (as : List Value) (μ : Mem) (post : Int64 → Mem → Prop) : Prop := Ct d Y as μ (pL post)
def CtV (d : Nat) (Y : Ym) (as : List Value) (μ : Mem) (post : Mem → Prop) : Prop := Ct d Y as μ (pV post)
def CtQ (d : Nat) (Y : Ym) (as : List Value) (μ : Mem) (post : Option Nat → Mem → Prop) : Prop := Ct d Y as μ (pQ post)
section RETS
variable {K : Kx} {Y : Ym} {d pc : Nat} {ls : List (Option Value)} {st : List Value} {μ : Mem}
theorem VV.iret {post : Int32 → Mem → Prop} {v : Int32} (hK : CtxOK K Y d) (hr : Y.2.2.2 = some .int) (hd : decode Y.2.1 pc = .ok (.ireturn, 1)) (hp : post v μ) : VV K (fin K (pI post)) pc ls [.int v] μ :=
  fun H locs la h1 h2 h3 => W.iret hK.hx hK.hb (hK.hr.trans hr) (fun t ht _ => ⟨some (.int v), μ, rfl, ⟨v, rfl, hp⟩, by rw [ht]; exact h2, h3.F ht⟩) h3.2.2 hd hK.hl
theorem VV.zret {post : Int32 → Mem → Prop} {v : Int32} (hK : CtxOK K Y d) (hr : Y.2.2.2 = some .boolean) (hd : decode Y.2.1 pc = .ok (.ireturn, 1)) (hv : v = 0 ∨ v = 1) (hp : post v μ) : VV K (fin K (pI post)) pc ls [.int v] μ :=
  fun H locs la h1 h2 h3 => W.zret hK.hx hK.hb (hK.hr.trans hr) (by rcases hv with rfl | rfl <;> rfl) (fun t ht _ => ⟨some (.int v), μ, rfl, ⟨v, rfl, hp⟩, by rw [ht]; exact h2, h3.F ht⟩) h3.2.2 hd hK.hl
theorem VV.lret {post : Int64 → Mem → Prop} {v : Int64} (hK : CtxOK K Y d) (hr : Y.2.2.2 = some .long) (hd : decode Y.2.1 pc = .ok (.lreturn, 1)) (hp : post v μ) : VV K (fin K (pL post)) pc ls [.long v] μ :=
  fun H locs la h1 h2 h3 => W.lret hK.hx hK.hb (hK.hr.trans hr) (fun t ht _ => ⟨some (.long v), μ, rfl, ⟨v, rfl, hp⟩, by rw [ht]; exact h2, h3.F ht⟩) h3.2.2 hd hK.hl
theorem VV.vret {post : Mem → Prop} (hK : CtxOK K Y d) (hr : Y.2.2.2 = none) (hd : decode Y.2.1 pc = .ok (.return_, 1)) (hp : post μ) : VV K (fin K (pV post)) pc ls [] μ :=
  fun H locs la h1 h2 h3 => W.vret hK.hx hK.hb (hK.hr.trans hr) (fun t ht _ => ⟨none, μ, rfl, ⟨rfl, hp⟩, by rw [ht]; exact h2, h3.F ht⟩) h3.2.2 hd hK.hl
theorem VV.aret {post : Option Nat → Mem → Prop} {q : Option Nat} {C : String} (hK : CtxOK K Y d) (hr : Y.2.2.2 = some (.object C)) (hd : decode Y.2.1 pc = .ok (.areturn, 1)) (hp : post q μ) : VV K (fin K (pQ post)) pc ls [va_rf q] μ :=
  fun H locs la h1 h2 h3 => W.aret hK.hx hK.hb (hK.hr.trans hr) (Or.inl ⟨C, rfl⟩) (by cases q; exact Or.inl rfl; exact Or.inr ⟨_, rfl⟩) (fun t ht _ => ⟨some (va_rf q), μ, rfl, ⟨q, rfl, hp⟩, by rw [ht]; exact h2, h3.F ht⟩) h3.2.2 hd hK.hl
end RETS
/-! ===== calls ===== -/
def MtL (Y : Ym) (idx : Nat) (Y' : Ym) : Prop := Cond.methodLink Y.1.cls idx Y'.1 ∈ gtbl ∨ ∃ host, Cond.methodLinkNest Y.1.cls idx Y'.1 host ∈ ntbl
def MtC (Y' : Ym) (n : Nat) : Prop := Cond.initialized Y'.1.cls ∈ gtbl ∧ Cond.code Y'.1 Y'.2.1 Y'.2.2.1 Y'.2.2.2 ∈ gtbl ∧ (Y'.1.cls ≠ "java/lang/invoke/MethodHandle" ∧ Y'.1.cls ≠ "java/lang/invoke/VarHandle" ∧ (parseMethodDescriptor Y'.1.desc).map (fun d => d.parameters.length) = some n) ∧ Y'.2.2.1 ≤ 40
def MtV (Y' : Ym) : Prop := Cond.instanceMethod Y'.1 ∈ gtbl ∧ Cond.selects Y'.1.cls Y'.1 Y'.1 ∈ gtbl
theorem good_g : ∀ w ∈ gtbl, (w.onTables && w.keeps) = true ∨ ∃ ty, w = .arrayClass ty := fun w hw => good_of_word (List.mem_filter.mp hw).2
theorem good_Y {Y' : Ym} (h : Cond.code Y'.1 Y'.2.1 Y'.2.2.1 Y'.2.2.2 ∈ gtbl) : GoodIn gtbl (wsY Y') := by
  intro w hw
  rcases List.mem_cons.mp hw with rfl | hw
  · exact ⟨h, good_g _ h⟩
  · exact ⟨hw, good_g _ hw⟩
theorem Own.mono {g : Glo} {a b : Nat} (h : a ≤ b) {q : Nat} (hq : Own g b q) : Own g a q := hq.elim Or.inl (fun z => Or.inr (Nat.le_trans h z))
theorem Pm.blind (g : Glo) (as : List Value) (μ : Mem) (sz : Nat) : FrameBlind (va_Pc as (Pm g μ sz)) := by
  intro a U f mk h
  obtain ⟨e, h1, h2, h3, h4, h5, h6, h7⟩ := h
  exact ⟨e, h1, h2, va_K.moved (u := U) (U := U.calling f mk a) (Vm.Alike.refl U.vm) h3, fun w hw => n_same (s := U) (U := U.calling f mk a) (List.mem_filter.mp hw).2 rfl (h4 w hw), h5, va_Z.moved (u := U) (U := U.calling f mk a) (Vm.Alike.refl U.vm) h6, va_T.moved (u := U) (U := U.calling f mk a) (Vm.Alike.refl U.vm) h7⟩
section CALLS
variable {K : Kx} {Q : State → Prop} {Y : Ym} {d pc : Nat} {ls : List (Option Value)} {st : List Value} {μ : Mem}
theorem pm_of (hK : CtxOK K Y d) {H : Heap} {locs : List Loc} (h2 : va_P (Kg K).2.1 vwCl (wld (Kg K) μ) H) (h3 : va_S (Own (Kg K) (Ks K).heap.size) (Ks K).heap H locs) (U : State) (hU : U.heap = H) (hW : (Ks K).WarmedH U.vm) : Pm (Kg K) μ H.size U := by
  subst hU
  exact ⟨rfl, h2, va_K.moved hW.alike hK.hk, fun w hw => n_warm (List.mem_filter.mp hw).2 hW (hK.hn w hw), hK.hi, va_Z.moved hW.alike ((hK.hs.1.kept h3.2.1).narrow (fun q hq => Own.mono h3.1 hq)), va_T.moved hW.alike ((hK.hs.2.kept h3.2.1).narrow (fun q hq => Own.mono h3.1 hq))⟩
theorem W_run {Qa : State → Outcome → State → Prop} {free : Addr → Prop} {rest st0 : List Value} {la : Array Slot} {H : Heap} {locs : List Loc} (hr : va_Run (Kp K) (Kl K) (Ke K) (KR K) (Ks K) (Km K) (Ka K) (Kb K) (Kt K) (Kc K) H locs (Kn K) (Kk K) 0 0 (F0 (Km K) pc la st0) rest Qa free)
    (kk : ∀ (v : Option Value) (st₀ t : State) (L : List Loc), st₀.heap = H → Qa st₀ (.returned v) t → (∀ q ∈ L, free q.base) → WK K t.heap (locs ++ L) Q (F0 (Km K) (pc + 3) la (v.toList ++ rest))) : WK K H locs Q (F0 (Km K) pc la st0) := by
  intro T hT X
  obtain ⟨v, st₀, t, T', L, h0, X', hL, e1, e2, hq, st⟩ := hr T hT X
  obtain ⟨t2, a1, b1⟩ := kk v st₀ t L h0 hq hL T' e1 X'
  exact ⟨t2, st t2 a1, b1⟩
theorem VV.back {g : Glo} (hg : Kg K = g) {post : Option Value → Mem → Prop} {a : Array Value} {v : Option Value} {st₀ t : State} {L locs : List Loc} {H : Heap} {la : Array Slot} {rest : List Value} (h1 : lvR (Kg K) la ls) (h3 : va_S (Own (Kg K) (Ks K).heap.size) (Ks K).heap H locs) (e0 : st₀.heap = H) (hq : Qm g post a st₀ (.returned v) t) (hL : ∀ q ∈ L, Own g H.size q.base) (hp : ∀ r μ', post r μ' → VV K Q (pc + 3) ls (r.toList ++ rest) μ') : WK K t.heap (locs ++ L) Q (F0 (Km K) (pc + 3) la (v.toList ++ rest.map (cv (Kg K)))) := by
  subst hg
  obtain ⟨r, μ', hv, hpo, hP', hF⟩ := hq
  cases hv
  have h := hp r μ' hpo t.heap (locs ++ L) la h1 hP' ⟨Nat.le_trans h3.1 (by rw [← e0]; exact hF.1), fun q a1 a2 => by
      rw [hF.2 q (by rw [e0]; exact Nat.lt_of_lt_of_le a1 h3.1) (fun z => a2 (Own.mono (by rw [e0]; exact h3.1) z)), e0]
      exact h3.2.1 q a1 a2, fun q hq => by
      rcases List.mem_append.mp hq with h | h
      · exact h3.2.2 q h
      · exact Own.mono h3.1 (hL q h)⟩
  cases r with
  | none => exact h
  | some w => exact h
theorem VV.callV {Y' : Ym} {idx n i ci : Nat} {ks : List Nat} {q : vw_C} {as rest : List Value} (hK : CtxOK K Y d) (hl : MtL Y idx Y') (hc : MtC Y' n) (hv : MtV Y') (hd : decode Y.2.1 pc = .ok (.invokevirtual idx, 3)) (hi : i < 59) (hs : shp i = .inr (ci, ks)) (hq : vwCl[ci]? = some q) (hqc : q.1 = Y'.1.cls) (hn : as.length = n) (hst : as.reverse ++ .ref i :: rest = st) (hlen : ls.length = Y.2.2.1) (hW : (rest.map fun v => v.category).sum ≤ 8) (hm : Ct d Y' (.ref i :: as) μ (fun r μ' => VV K Q (pc + 3) ls (r.toList ++ rest) μ')) : VV K Q pc ls st μ := by
  subst hst
  intro H locs la h1 h2 h3
  have hM := hm (Kl K) (Kg K) H.size
  have hpre : PreV (Ks K) H Y'.1.cls ((Kg K).1 i) (va_Pc ((Value.ref i :: as).map (cv (Kg K))) (Pm (Kg K) μ H.size)) (as.map (cv (Kg K))) := ⟨Pm.blind _ _ _ _, hqc ▸ va_recv hK.hk h2 hq (by rw [wld_at hi, cel_o hs]), fun U hU hW => ⟨rfl, pm_of hK h2 h3 U hU hW⟩⟩
  have hfix : CallFix (Kp K) (Km K) (Kc K) Y.2.1 Y.2.2.1 (Ks K) (Ka K) gtbl Y.1.cls := ⟨hK.hx, hK.hb, hK.hm, hK.ho, hK.ht⟩
  have hroom : (rmD d).frames + 1 ≤ (KR K).frames ∧ 8 + (Y'.2.2.1 + 11) + (rmD d).locals ≤ (KR K).locals := ⟨hK.hR.1, by have := hK.hR.2.1; have := hc.2.2.2; show 8 + (Y'.2.2.1 + 11) + 64 * d ≤ (KR K).locals; omega⟩
  have hcs : Kn K + 0 ≤ (KR K).cells ∧ Kk K + 0 ≤ (KR K).slots := hK.hR.2.2
  have hW2 : 2 * (F0 (Km K) pc la ((as.reverse ++ Value.ref i :: rest).map (cv (Kg K)))).monitorRoom + ((rest.map (cv (Kg K))).map fun v => v.category).sum ≤ 8 := by
    refine lv_room ?_
    rw [List.map_map]
    exact Nat.le_trans (Nat.le_of_eq (congrArg List.sum (List.map_congr_left (fun v _ => cv_cat (Kg K) v)))) hW
  have hstk : (as.reverse ++ Value.ref i :: rest).map (cv (Kg K)) = (as.map (cv (Kg K))).reverse ++ Value.ref ((Kg K).1 i) :: rest.map (cv (Kg K)) := by simp [cv]
  rcases hl with hl | ⟨host, hl⟩
  · refine W_run (va_runV (C := Y'.1.cls) (b := (Kg K).1 i) (As := as.map (cv (Kg K))) (rest := rest.map (cv (Kg K))) hfix hM ⟨callB_of n hK.ht (good_Y hc.2.1) rfl rfl rfl (hK.ht _ hc.1) (hK.ht _ hl) hc.2.2.1 hroom, hK.ht _ hv.1, hK.ht _ hv.2⟩ hpre rfl (by rw [List.length_map]; exact hn) (h1.1.trans hlen) hstk hW2 hd hcs) (fun v st₀ t L e0 hqq hL => VV.back rfl h1 h3 e0 hqq hL (fun r μ' h => h))
  · refine W_run (va_runVN (C := Y'.1.cls) (host := host) (b := (Kg K).1 i) (As := as.map (cv (Kg K))) (rest := rest.map (cv (Kg K))) hfix hM ⟨va_cnB n hK.ht (good_Y hc.2.1) rfl rfl rfl (hK.hn _ hl) (hK.ht _ hc.1) hc.2.2.1 hroom, hK.ht _ hv.1, hK.ht _ hv.2⟩ hpre rfl (by rw [List.length_map]; exact hn) (h1.1.trans hlen) hstk hW2 hd hcs) (fun v st₀ t L e0 hqq hL => VV.back rfl h1 h3 e0 hqq hL (fun r μ' h => h))
theorem VV.callS {Y' : Ym} {idx n : Nat} {as rest : List Value} (hK : CtxOK K Y d) (hl : MtL Y idx Y') (hc : MtC Y' n) (hv : Cond.static Y'.1 ∈ gtbl) (hd : decode Y.2.1 pc = .ok (.invokestatic idx, 3)) (hn : as.length = n) (hst : as.reverse ++ rest = st) (hlen : ls.length = Y.2.2.1) (hW : (rest.map fun v => v.category).sum ≤ 8) (hm : Ct d Y' as μ (fun r μ' => VV K Q (pc + 3) ls (r.toList ++ rest) μ')) : VV K Q pc ls st μ := by
  subst hst
  intro H locs la h1 h2 h3
  have hM := hm (Kl K) (Kg K) H.size
  have hpre : PreS (Ks K) H (va_Pc (as.map (cv (Kg K))) (Pm (Kg K) μ H.size)) (as.map (cv (Kg K))) := ⟨Pm.blind _ _ _ _, fun U hU hW => ⟨rfl, pm_of hK h2 h3 U hU hW⟩⟩
  have hfix : CallFix (Kp K) (Km K) (Kc K) Y.2.1 Y.2.2.1 (Ks K) (Ka K) gtbl Y.1.cls := ⟨hK.hx, hK.hb, hK.hm, hK.ho, hK.ht⟩
  have hroom : (rmD d).frames + 1 ≤ (KR K).frames ∧ 8 + (Y'.2.2.1 + 11) + (rmD d).locals ≤ (KR K).locals := ⟨hK.hR.1, by have := hK.hR.2.1; have := hc.2.2.2; show 8 + (Y'.2.2.1 + 11) + 64 * d ≤ (KR K).locals; omega⟩
  have hcs : Kn K + 0 ≤ (KR K).cells ∧ Kk K + 0 ≤ (KR K).slots := hK.hR.2.2
  have hW2 : 2 * (F0 (Km K) pc la ((as.reverse ++ rest).map (cv (Kg K)))).monitorRoom + ((rest.map (cv (Kg K))).map fun v => v.category).sum ≤ 8 := by
    refine lv_room ?_
    rw [List.map_map]
    exact Nat.le_trans (Nat.le_of_eq (congrArg List.sum (List.map_congr_left (fun v _ => cv_cat (Kg K) v)))) hW
  have hstk : (as.reverse ++ rest).map (cv (Kg K)) = (as.map (cv (Kg K))).reverse ++ rest.map (cv (Kg K)) := by simp
  rcases hl with hl | ⟨host, hl⟩
  · refine W_run (va_runS (As := as.map (cv (Kg K))) (rest := rest.map (cv (Kg K))) hfix hM ⟨callB_of n hK.ht (good_Y hc.2.1) rfl rfl rfl (hK.ht _ hc.1) (hK.ht _ hl) hc.2.2.1 hroom, hK.ht _ hv⟩ hpre rfl (by rw [List.length_map]; exact hn) (h1.1.trans hlen) hstk hW2 hd hcs) (fun v st₀ t L e0 hqq hL => VV.back rfl h1 h3 e0 hqq hL (fun r μ' h => h))
  · refine W_run (va_runSN (host := host) (As := as.map (cv (Kg K))) (rest := rest.map (cv (Kg K))) hfix hM ⟨va_cnB n hK.ht (good_Y hc.2.1) rfl rfl rfl (hK.hn _ hl) (hK.ht _ hc.1) hc.2.2.1 hroom, hK.ht _ hv, trivial⟩ hpre rfl (by rw [List.length_map]; exact hn) (h1.1.trans hlen) hstk hW2 hd hcs) (fun v st₀ t L e0 hqq hL => VV.back rfl h1 h3 e0 hqq hL (fun r μ' h => h))
end CALLS
/-- a contract with a weaker end -/
theorem Ct.mono {d : Nat} {Y : Ym} {as : List Value} {μ : Mem} {post post' : Option Value → Mem → Prop} (h : Ct d Y as μ post) (hp : ∀ r μ', post r μ' → post' r μ') : Ct d Y as μ post' := by
  intro l g sz
  have hM := h l g sz
  refine fun p e ha hc hk s m args below hf happ hP hfree => ?_
  obtain ⟨k, o, h1, h2, h3, ⟨r, μ', e1, e2, e3⟩, hQ⟩ := hM p e ha hc hk s m args below hf happ hP hfree
  exact ⟨k, o, h1, h2, h3, ⟨r, μ', e1, hp r μ' e2, e3⟩, hQ⟩
theorem CtI.mono {d : Nat} {Y : Ym} {as : List Value} {μ : Mem} {post post' : Int32 → Mem → Prop} (h : CtI d Y as μ post) (hp : ∀ r μ', post r μ' → post' r μ') : CtI d Y as μ post' := Ct.mono h (fun _ μ' ⟨x, e, q⟩ => ⟨x, e, hp x μ' q⟩)
theorem CtL.mono {d : Nat} {Y : Ym} {as : List Value} {μ : Mem} {post post' : Int64 → Mem → Prop} (h : CtL d Y as μ post) (hp : ∀ r μ', post r μ' → post' r μ') : CtL d Y as μ post' := Ct.mono h (fun _ μ' ⟨x, e, q⟩ => ⟨x, e, hp x μ' q⟩)
theorem CtV.mono {d : Nat} {Y : Ym} {as : List Value} {μ : Mem} {post post' : Mem → Prop} (h : CtV d Y as μ post) (hp : ∀ μ', post μ' → post' μ') : CtV d Y as μ post' := Ct.mono h (fun _ μ' ⟨e, q⟩ => ⟨e, hp μ' q⟩)
theorem CtQ.mono {d : Nat} {Y : Ym} {as : List Value} {μ : Mem} {post post' : Option Nat → Mem → Prop} (h : CtQ d Y as μ post) (hp : ∀ r μ', post r μ' → post' r μ') : CtQ d Y as μ post' := Ct.mono h (fun _ μ' ⟨x, e, q⟩ => ⟨x, e, hp x μ' q⟩)
/-- what a call leaves is what the walk goes on with -/
theorem CtI.ct {d : Nat} {Y : Ym} {as : List Value} {μ : Mem} {F : List Value → Mem → Prop} {rest : List Value} (h : CtI d Y as μ (fun r μ' => F (.int r :: rest) μ')) : Ct d Y as μ (fun r μ' => F (r.toList ++ rest) μ') := Ct.mono h (fun _ μ' ⟨x, e, q⟩ => by subst e; exact q)
theorem CtL.ct {d : Nat} {Y : Ym} {as : List Value} {μ : Mem} {F : List Value → Mem → Prop} {rest : List Value} (h : CtL d Y as μ (fun r μ' => F (.long r :: rest) μ')) : Ct d Y as μ (fun r μ' => F (r.toList ++ rest) μ') := Ct.mono h (fun _ μ' ⟨x, e, q⟩ => by subst e; exact q)
theorem CtV.ct {d : Nat} {Y : Ym} {as : List Value} {μ : Mem} {F : List Value → Mem → Prop} {rest : List Value} (h : CtV d Y as μ (fun μ' => F rest μ')) : Ct d Y as μ (fun r μ' => F (r.toList ++ rest) μ') := Ct.mono h (fun _ μ' ⟨e, q⟩ => by subst e; exact q)
theorem CtQ.ct {d : Nat} {Y : Ym} {as : List Value} {μ : Mem} {F : List Value → Mem → Prop} {rest : List Value} (h : CtQ d Y as μ (fun r μ' => F (va_rf r :: rest) μ')) : Ct d Y as μ (fun r μ' => F (r.toList ++ rest) μ') := Ct.mono h (fun _ μ' ⟨x, e, q⟩ => by subst e; exact q)
end
section
/-! ===== what the tables link, a fact each (printed by a program out of the tables) ===== -/
abbrev YX0_init : Ym := (yX0_init, cX0_init, 1, none)
abbrev YX0_add : Ym := (yX0_add, cX0_add, 4, none)
abbrev YX0_forgetFirst : Ym := (yX0_forgetFirst, cX0_forgetFirst, 2, none)
abbrev YX1_init : Ym := (yX1_init, cX1_init, 1, none)
abbrev YX2_init : Ym := (yX2_init, cX2_init, 1, none)
abbrev YX2_stockUp : Ym := (yX2_stockUp, cX2_stockUp, 4, none)
abbrev YX2_canServe : Ym := (yX2_canServe, cX2_canServe, 4, (some .boolean))
abbrev YX2_takeTried : Ym := (yX2_takeTried, cX2_takeTried, 4, none)
abbrev YX2_unitsBy : Ym := (yX2_unitsBy, cX2_unitsBy, 5, (some .int))
abbrev YX2_smells : Ym := (yX2_smells, cX2_smells, 3, (some .boolean))
abbrev YX3_init : Ym := (yX3_init, cX3_init, 1, none)
abbrev YX3_add : Ym := (yX3_add, cX3_add, 4, (some .boolean))
abbrev YX4_init : Ym := (yX4_init, cX4_init, 1, none)
abbrev YX4_become : Ym := (yX4_become, cX4_become, 3, none)
abbrev YX4_hasField : Ym := (yX4_hasField, cX4_hasField, 2, (some .boolean))
abbrev YX4_hasMaker : Ym := (yX4_hasMaker, cX4_hasMaker, 2, (some .boolean))
abbrev YX4_hasLeague : Ym := (yX4_hasLeague, cX4_hasLeague, 2, (some .boolean))
abbrev YX4_allMakers : Ym := (yX4_allMakers, cX4_allMakers, 1, (some .int))
abbrev YX4_makes : Ym := (yX4_makes, cX4_makes, 3, (some .boolean))
abbrev YX4_couldBeSecondHand : Ym := (yX4_couldBeSecondHand, cX4_couldBeSecondHand, 2, (some .boolean))
abbrev YX4_refusal : Ym := (yX4_refusal, cX4_refusal, 4, (some .int))
abbrev YX4_change : Ym := (yX4_change, cX4_change, 5, (some .int))
abbrev YX5_init : Ym := (yX5_init, cX5_init, 1, none)
abbrev YX5_append : Ym := (yX5_append, cX5_append, 2, (some .boolean))
abbrev YX5_readInto : Ym := (yX5_readInto, cX5_readInto, 4, (some .int))
abbrev YX5_behind : Ym := (yX5_behind, cX5_behind, 3, (some .int))
abbrev YX5_behindHead : Ym := (yX5_behindHead, cX5_behindHead, 2, (some .int))
abbrev YX5_behindFieldWeather : Ym := (yX5_behindFieldWeather, cX5_behindFieldWeather, 3, (some .int))
abbrev YX5_behindFieldUnits : Ym := (yX5_behindFieldUnits, cX5_behindFieldUnits, 3, (some .int))
abbrev YX5_behindMakerWeatherOrStock : Ym := (yX5_behindMakerWeatherOrStock, cX5_behindMakerWeatherOrStock, 4, (some .int))
abbrev YX5_behindMakerPrice : Ym := (yX5_behindMakerPrice, cX5_behindMakerPrice, 2, (some .int))
abbrev YX5_isFigure : Ym := (yX5_isFigure, cX5_isFigure, 1, (some .boolean))
abbrev YX5_weatherOf : Ym := (yX5_weatherOf, cX5_weatherOf, 1, (some .int))
abbrev YX6_init : Ym := (yX6_init, cX6_init, 2, none)
abbrev YX6_write : Ym := (yX6_write, cX6_write, 2, (some .int))
abbrev YX6_wipe : Ym := (yX6_wipe, cX6_wipe, 2, (some .int))
abbrev YX6_fault : Ym := (yX6_fault, cX6_fault, 1, (some .int))
abbrev YX6_tender : Ym := (yX6_tender, cX6_tender, 1, (some .int))
abbrev YX6_about : Ym := (yX6_about, cX6_about, 2, (some .int))
abbrev YX6_field : Ym := (yX6_field, cX6_field, 3, (some .int))
abbrev YX6_maker : Ym := (yX6_maker, cX6_maker, 3, (some .int))
abbrev YX6_reprice : Ym := (yX6_reprice, cX6_reprice, 3, (some .int))
abbrev YX6_restock : Ym := (yX6_restock, cX6_restock, 3, (some .int))
abbrev YX6_want : Ym := (yX6_want, cX6_want, 3, (some .int))
abbrev YX6_bear : Ym := (yX6_bear, cX6_bear, 2, (some .int))
abbrev YX6_undo : Ym := (yX6_undo, cX6_undo, 2, (some .int))
abbrev YX6_doNow : Ym := (yX6_doNow, cX6_doNow, 6, (some .int))
abbrev YX6_best : Ym := (yX6_best, cX6_best, 1, (some .int))
abbrev YX6_cost : Ym := (yX6_cost, cX6_cost, 6, (some .int))
abbrev YX6_gain : Ym := (yX6_gain, cX6_gain, 5, (some .int))
abbrev YX6_ran : Ym := (yX6_ran, cX6_ran, 2, (some .int))
abbrev YX6_least : Ym := (yX6_least, cX6_least, 2, (some .int))
abbrev YX6_most : Ym := (yX6_most, cX6_most, 2, (some .int))
abbrev YX6_holds : Ym := (yX6_holds, cX6_holds, 4, (some .int))
abbrev YX6_judge : Ym := (yX6_judge, cX6_judge, 5, (some .int))
abbrev YX6_share : Ym := (yX6_share, cX6_share, 9, (some .int))
abbrev YX6_see : Ym := (yX6_see, cX6_see, 4, (some .int))
abbrev YX6_unsee : Ym := (yX6_unsee, cX6_unsee, 2, (some .int))
abbrev YX6_which : Ym := (yX6_which, cX6_which, 6, (some .int))
abbrev YX6_gone : Ym := (yX6_gone, cX6_gone, 6, (some .int))
abbrev YX6_seed : Ym := (yX6_seed, cX6_seed, 5, (some .long))
abbrev YX6_drawn : Ym := (yX6_drawn, cX6_drawn, 5, (some .int))
abbrev YX6_keep : Ym := (yX6_keep, cX6_keep, 3, (some .int))
abbrev YX6_again : Ym := (yX6_again, cX6_again, 3, (some .int))
abbrev YX6_roomOf : Ym := (yX6_roomOf, cX6_roomOf, 2, (some (.object "SkyTenders$Tender")))
abbrev YX6_cheapest : Ym := (yX6_cheapest, cX6_cheapest, 3, (some .int))
abbrev YX6_serveFrom : Ym := (yX6_serveFrom, cX6_serveFrom, 7, none)
abbrev YX6_mostServed : Ym := (yX6_mostServed, cX6_mostServed, 3, (some .int))
abbrev YX6_countFrom : Ym := (yX6_countFrom, cX6_countFrom, 7, none)
abbrev YX6_unitsInBest : Ym := (yX6_unitsInBest, cX6_unitsInBest, 3, (some .int))
abbrev YX6_paidTo : Ym := (yX6_paidTo, cX6_paidTo, 7, (some .int))
abbrev YX6_runYears : Ym := (yX6_runYears, cX6_runYears, 5, none)
abbrev YX6_sharesOf : Ym := (yX6_sharesOf, cX6_sharesOf, 4, (some .int))
abbrev YX6_canBe : Ym := (yX6_canBe, cX6_canBe, 7, (some .boolean))
abbrev YX6_changesTrial : Ym := (yX6_changesTrial, cX6_changesTrial, 4, (some .boolean))
abbrev YX6_allSeenIsSo : Ym := (yX6_allSeenIsSo, cX6_allSeenIsSo, 6, (some .boolean))
abbrev YX6_chanceOfLeft : Ym := (yX6_chanceOfLeft, cX6_chanceOfLeft, 5, (some .int))
abbrev YX6_partOfFraction : Ym := (yX6_partOfFraction, cX6_partOfFraction, 7, (some .int))
abbrev YX6_spell : Ym := (yX6_spell, cX6_spell, 7, (some .boolean))
abbrev YX6_asFigures : Ym := (yX6_asFigures, cX6_asFigures, 4, (some .int))
abbrev YX7_init : Ym := (yX7_init, cX7_init, 1, none)
abbrev YX7_in : Ym := (yX7_in, cX7_in, 6, (some .boolean))
abbrev YX7_has : Ym := (yX7_has, cX7_has, 2, (some .boolean))
abbrev YX7_power : Ym := (yX7_power, cX7_power, 4, (some .int))
abbrev YX7_divisor : Ym := (yX7_divisor, cX7_divisor, 5, (some .int))
abbrev YX7_fraction : Ym := (yX7_fraction, cX7_fraction, 4, (some .int))
abbrev YX7_isField : Ym := (yX7_isField, cX7_isField, 2, (some .boolean))
abbrev YX7_isMaker : Ym := (yX7_isMaker, cX7_isMaker, 2, (some .boolean))
abbrev YX7_allMakers : Ym := (yX7_allMakers, cX7_allMakers, 1, (some .int))
abbrev YX7_write : Ym := (yX7_write, cX7_write, 2, (some .int))
abbrev YX7_wipe : Ym := (yX7_wipe, cX7_wipe, 2, (some .int))
abbrev YX7_weatherOf : Ym := (yX7_weatherOf, cX7_weatherOf, 1, (some .int))
abbrev YX7_take : Ym := (yX7_take, cX7_take, 4, (some .boolean))
abbrev YX7_takePart : Ym := (yX7_takePart, cX7_takePart, 2, (some .boolean))
abbrev YX7_takeMore : Ym := (yX7_takeMore, cX7_takeMore, 4, (some .boolean))
abbrev YX7_readText : Ym := (yX7_readText, cX7_readText, 2, (some .int))
abbrev YX7_fault : Ym := (yX7_fault, cX7_fault, 1, (some .int))
abbrev YX7_tender : Ym := (yX7_tender, cX7_tender, 2, (some .int))
abbrev YX7_servedBy : Ym := (yX7_servedBy, cX7_servedBy, 5, (some .int))
abbrev YX7_mayServe : Ym := (yX7_mayServe, cX7_mayServe, 8, (some .boolean))
abbrev YX7_costOf : Ym := (yX7_costOf, cX7_costOf, 10, (some .int))
abbrev YX7_find : Ym := (yX7_find, cX7_find, 5, none)
abbrev YX7_leastBy : Ym := (yX7_leastBy, cX7_leastBy, 3, (some .int))
abbrev YX7_unitsOf : Ym := (yX7_unitsOf, cX7_unitsOf, 5, (some .int))
abbrev YX7_paid : Ym := (yX7_paid, cX7_paid, 5, (some .int))
abbrev YX7_mostOf : Ym := (yX7_mostOf, cX7_mostOf, 7, (some .int))
abbrev YX7_run : Ym := (yX7_run, cX7_run, 4, none)
abbrev YX7_layTrial : Ym := (yX7_layTrial, cX7_layTrial, 2, none)
abbrev YX7_about : Ym := (yX7_about, cX7_about, 2, (some .int))
abbrev YX7_field : Ym := (yX7_field, cX7_field, 3, (some .int))
abbrev YX7_maker : Ym := (yX7_maker, cX7_maker, 3, (some .int))
abbrev YX7_change : Ym := (yX7_change, cX7_change, 4, none)
abbrev YX7_reprice : Ym := (yX7_reprice, cX7_reprice, 4, (some .int))
abbrev YX7_restock : Ym := (yX7_restock, cX7_restock, 4, (some .int))
abbrev YX7_want : Ym := (yX7_want, cX7_want, 4, (some .int))
abbrev YX7_bear : Ym := (yX7_bear, cX7_bear, 3, (some .int))
abbrev YX7_undo : Ym := (yX7_undo, cX7_undo, 2, (some .int))
abbrev YX7_best : Ym := (yX7_best, cX7_best, 3, (some .int))
abbrev YX7_cost : Ym := (yX7_cost, cX7_cost, 6, (some .int))
abbrev YX7_gain : Ym := (yX7_gain, cX7_gain, 4, (some .int))
abbrev YX7_ran : Ym := (yX7_ran, cX7_ran, 4, (some .int))
abbrev YX7_least : Ym := (yX7_least, cX7_least, 2, (some .int))
abbrev YX7_most : Ym := (yX7_most, cX7_most, 2, (some .int))
abbrev YX7_sharesOf : Ym := (yX7_sharesOf, cX7_sharesOf, 5, (some .int))
abbrev YX7_holds : Ym := (yX7_holds, cX7_holds, 3, (some .int))
abbrev YX7_judged : Ym := (yX7_judged, cX7_judged, 5, (some .boolean))
abbrev YX7_tenThousands : Ym := (yX7_tenThousands, cX7_tenThousands, 4, (some .long))
abbrev YX7_judge : Ym := (yX7_judge, cX7_judge, 6, (some .int))
abbrev YX7_makerAt : Ym := (yX7_makerAt, cX7_makerAt, 2, (some .int))
abbrev YX7_isOrder : Ym := (yX7_isOrder, cX7_isOrder, 4, (some .boolean))
abbrev YX7_share : Ym := (yX7_share, cX7_share, 8, (some .int))
abbrev YX7_see : Ym := (yX7_see, cX7_see, 4, (some .int))
abbrev YX7_unsee : Ym := (yX7_unsee, cX7_unsee, 2, (some .int))
abbrev YX7_agrees : Ym := (yX7_agrees, cX7_agrees, 4, (some .boolean))
abbrev YX7_which : Ym := (yX7_which, cX7_which, 6, (some .int))
abbrev YX7_gone : Ym := (yX7_gone, cX7_gone, 7, (some .int))
abbrev YX7_seed : Ym := (yX7_seed, cX7_seed, 5, (some .long))
abbrev YX7_drawn : Ym := (yX7_drawn, cX7_drawn, 5, (some .int))
abbrev YX7_keep : Ym := (yX7_keep, cX7_keep, 3, (some .int))
abbrev YX7_again : Ym := (yX7_again, cX7_again, 3, (some .int))
abbrev YJ6_bitCount_0f7a4 : Ym := (yJ6_bitCount_0f7a4, cJ6_bitCount_0f7a4, 1, (some .int))
abbrev YL_law : Ym := (x, code, maxLocals, ret)
theorem gX0 : ∀ w ∈ u_ws RX0 TX0 4, w ∈ gtbl := fun w h => g_in (iX0 w h) (List.all_eq_true.mp (show (u_ws RX0 TX0 4).all goodWord = true by decide +kernel) w h)
theorem gX1 : ∀ w ∈ u_ws RX1 TX1 3, w ∈ gtbl := fun w h => g_in (iX1 w h) (List.all_eq_true.mp (show (u_ws RX1 TX1 3).all goodWord = true by decide +kernel) w h)
theorem gX2 : ∀ w ∈ u_ws RX2 TX2 4, w ∈ gtbl := fun w h => g_in (iX2 w h) (List.all_eq_true.mp (show (u_ws RX2 TX2 4).all goodWord = true by decide +kernel) w h)
theorem gX3 : ∀ w ∈ u_ws RX3 TX3 4, w ∈ gtbl := fun w h => g_in (iX3 w h) (List.all_eq_true.mp (show (u_ws RX3 TX3 4).all goodWord = true by decide +kernel) w h)
theorem gX4 : ∀ w ∈ u_ws RX4 TX4 8, w ∈ gtbl := fun w h => g_in (iX4 w h) (List.all_eq_true.mp (show (u_ws RX4 TX4 8).all goodWord = true by decide +kernel) w h)
theorem gX5 : ∀ w ∈ u_ws RX5 TX5 2, w ∈ gtbl := fun w h => g_in (iX5 w h) (List.all_eq_true.mp (show (u_ws RX5 TX5 2).all goodWord = true by decide +kernel) w h)
theorem gX6 : ∀ w ∈ u_ws RX6 TX6 11, w ∈ gtbl := fun w h => g_in (iX6 w h) (List.all_eq_true.mp (show (u_ws RX6 TX6 11).all goodWord = true by decide +kernel) w h)
theorem gX7 : ∀ w ∈ u_ws RX7 TX7 31, w ∈ gtbl := fun w h => g_in (iX7 w h) (List.all_eq_true.mp (show (u_ws RX7 TX7 31).all goodWord = true by decide +kernel) w h)
theorem lL_9 (Y : Ym) (h : Y.1.cls = RL) : MtL Y 9 YX6_init := Or.inl (by rw [h]; exact g_in (List.mem_of_getElem? (i := 66) (by decide +kernel)) rfl)
theorem lX6_11 (Y : Ym) (h : Y.1.cls = RX6) : MtL Y 11 YX5_init := Or.inr ⟨"SkyTenders", by rw [h]; exact n_in (List.mem_of_getElem? (i := 74) (by decide +kernel)) rfl⟩
theorem fX5_9 (Y : Ym) (h : Y.1.cls = RX5) : Fld Y 9 5 0 := ⟨RX5, TX5, 2, tyX5, rfl, by decide, gX5, Or.inl (by rw [h]; exact g_in (List.mem_of_getElem? (i := 78) (by decide +kernel)) rfl), tyX5_ok, nmX5⟩
theorem fX6_74 (Y : Ym) (h : Y.1.cls = RX6) : Fld Y 74 5 0 := ⟨RX5, TX5, 2, tyX5, rfl, by decide, gX5, Or.inr ⟨"SkyTenders", by rw [h]; exact n_in (List.mem_of_getElem? (i := 79) (by decide +kernel)) rfl⟩, tyX5_ok, nmX5⟩
theorem fX5_15 (Y : Ym) (h : Y.1.cls = RX5) : Fld Y 15 5 1 := ⟨RX5, TX5, 2, tyX5, rfl, by decide, gX5, Or.inl (by rw [h]; exact g_in (List.mem_of_getElem? (i := 80) (by decide +kernel)) rfl), tyX5_ok, nmX5⟩
theorem lX6_18 (Y : Ym) (h : Y.1.cls = RX6) : MtL Y 18 YX4_init := Or.inr ⟨"SkyTenders", by rw [h]; exact n_in (List.mem_of_getElem? (i := 89) (by decide +kernel)) rfl⟩
theorem fX4_9 (Y : Ym) (h : Y.1.cls = RX4) : Fld Y 9 4 0 := ⟨RX4, TX4, 8, tyX4, rfl, by decide, gX4, Or.inl (by rw [h]; exact g_in (List.mem_of_getElem? (i := 93) (by decide +kernel)) rfl), tyX4_ok, nmX4⟩
theorem fX5_19 (Y : Ym) (h : Y.1.cls = RX5) : Fld Y 19 4 0 := ⟨RX4, TX4, 8, tyX4, rfl, by decide, gX4, Or.inr ⟨"SkyTenders", by rw [h]; exact n_in (List.mem_of_getElem? (i := 94) (by decide +kernel)) rfl⟩, tyX4_ok, nmX4⟩
theorem fX2_40 (Y : Ym) (h : Y.1.cls = RX2) : Fld Y 40 4 0 := ⟨RX4, TX4, 8, tyX4, rfl, by decide, gX4, Or.inr ⟨"SkyTenders", by rw [h]; exact n_in (List.mem_of_getElem? (i := 95) (by decide +kernel)) rfl⟩, tyX4_ok, nmX4⟩
theorem fX6_94 (Y : Ym) (h : Y.1.cls = RX6) : Fld Y 94 4 0 := ⟨RX4, TX4, 8, tyX4, rfl, by decide, gX4, Or.inr ⟨"SkyTenders", by rw [h]; exact n_in (List.mem_of_getElem? (i := 96) (by decide +kernel)) rfl⟩, tyX4_ok, nmX4⟩
theorem fX4_15 (Y : Ym) (h : Y.1.cls = RX4) : Fld Y 15 4 1 := ⟨RX4, TX4, 8, tyX4, rfl, by decide, gX4, Or.inl (by rw [h]; exact g_in (List.mem_of_getElem? (i := 97) (by decide +kernel)) rfl), tyX4_ok, nmX4⟩
theorem fX2_25 (Y : Ym) (h : Y.1.cls = RX2) : Fld Y 25 4 1 := ⟨RX4, TX4, 8, tyX4, rfl, by decide, gX4, Or.inr ⟨"SkyTenders", by rw [h]; exact n_in (List.mem_of_getElem? (i := 98) (by decide +kernel)) rfl⟩, tyX4_ok, nmX4⟩
theorem fX5_24 (Y : Ym) (h : Y.1.cls = RX5) : Fld Y 24 4 1 := ⟨RX4, TX4, 8, tyX4, rfl, by decide, gX4, Or.inr ⟨"SkyTenders", by rw [h]; exact n_in (List.mem_of_getElem? (i := 99) (by decide +kernel)) rfl⟩, tyX4_ok, nmX4⟩
theorem fX6_91 (Y : Ym) (h : Y.1.cls = RX6) : Fld Y 91 4 1 := ⟨RX4, TX4, 8, tyX4, rfl, by decide, gX4, Or.inr ⟨"SkyTenders", by rw [h]; exact n_in (List.mem_of_getElem? (i := 100) (by decide +kernel)) rfl⟩, tyX4_ok, nmX4⟩
theorem fX4_18 (Y : Ym) (h : Y.1.cls = RX4) : Fld Y 18 4 2 := ⟨RX4, TX4, 8, tyX4, rfl, by decide, gX4, Or.inl (by rw [h]; exact g_in (List.mem_of_getElem? (i := 101) (by decide +kernel)) rfl), tyX4_ok, nmX4⟩
theorem fX6_81 (Y : Ym) (h : Y.1.cls = RX6) : Fld Y 81 4 2 := ⟨RX4, TX4, 8, tyX4, rfl, by decide, gX4, Or.inr ⟨"SkyTenders", by rw [h]; exact n_in (List.mem_of_getElem? (i := 102) (by decide +kernel)) rfl⟩, tyX4_ok, nmX4⟩
theorem fX4_21 (Y : Ym) (h : Y.1.cls = RX4) : Fld Y 21 4 3 := ⟨RX4, TX4, 8, tyX4, rfl, by decide, gX4, Or.inl (by rw [h]; exact g_in (List.mem_of_getElem? (i := 103) (by decide +kernel)) rfl), tyX4_ok, nmX4⟩
theorem fX5_54 (Y : Ym) (h : Y.1.cls = RX5) : Fld Y 54 4 3 := ⟨RX4, TX4, 8, tyX4, rfl, by decide, gX4, Or.inr ⟨"SkyTenders", by rw [h]; exact n_in (List.mem_of_getElem? (i := 104) (by decide +kernel)) rfl⟩, tyX4_ok, nmX4⟩
theorem fX6_118 (Y : Ym) (h : Y.1.cls = RX6) : Fld Y 118 4 3 := ⟨RX4, TX4, 8, tyX4, rfl, by decide, gX4, Or.inr ⟨"SkyTenders", by rw [h]; exact n_in (List.mem_of_getElem? (i := 105) (by decide +kernel)) rfl⟩, tyX4_ok, nmX4⟩
theorem fX4_25 (Y : Ym) (h : Y.1.cls = RX4) : Fld Y 25 4 4 := ⟨RX4, TX4, 8, tyX4, rfl, by decide, gX4, Or.inl (by rw [h]; exact g_in (List.mem_of_getElem? (i := 106) (by decide +kernel)) rfl), tyX4_ok, nmX4⟩
theorem fX2_37 (Y : Ym) (h : Y.1.cls = RX2) : Fld Y 37 4 4 := ⟨RX4, TX4, 8, tyX4, rfl, by decide, gX4, Or.inr ⟨"SkyTenders", by rw [h]; exact n_in (List.mem_of_getElem? (i := 107) (by decide +kernel)) rfl⟩, tyX4_ok, nmX4⟩
theorem fX5_57 (Y : Ym) (h : Y.1.cls = RX5) : Fld Y 57 4 4 := ⟨RX4, TX4, 8, tyX4, rfl, by decide, gX4, Or.inr ⟨"SkyTenders", by rw [h]; exact n_in (List.mem_of_getElem? (i := 108) (by decide +kernel)) rfl⟩, tyX4_ok, nmX4⟩
theorem fX6_121 (Y : Ym) (h : Y.1.cls = RX6) : Fld Y 121 4 4 := ⟨RX4, TX4, 8, tyX4, rfl, by decide, gX4, Or.inr ⟨"SkyTenders", by rw [h]; exact n_in (List.mem_of_getElem? (i := 109) (by decide +kernel)) rfl⟩, tyX4_ok, nmX4⟩
theorem fX4_28 (Y : Ym) (h : Y.1.cls = RX4) : Fld Y 28 4 5 := ⟨RX4, TX4, 8, tyX4, rfl, by decide, gX4, Or.inl (by rw [h]; exact g_in (List.mem_of_getElem? (i := 110) (by decide +kernel)) rfl), tyX4_ok, nmX4⟩
theorem fX5_47 (Y : Ym) (h : Y.1.cls = RX5) : Fld Y 47 4 5 := ⟨RX4, TX4, 8, tyX4, rfl, by decide, gX4, Or.inr ⟨"SkyTenders", by rw [h]; exact n_in (List.mem_of_getElem? (i := 111) (by decide +kernel)) rfl⟩, tyX4_ok, nmX4⟩
theorem fX6_130 (Y : Ym) (h : Y.1.cls = RX6) : Fld Y 130 4 5 := ⟨RX4, TX4, 8, tyX4, rfl, by decide, gX4, Or.inr ⟨"SkyTenders", by rw [h]; exact n_in (List.mem_of_getElem? (i := 112) (by decide +kernel)) rfl⟩, tyX4_ok, nmX4⟩
theorem fX4_31 (Y : Ym) (h : Y.1.cls = RX4) : Fld Y 31 4 6 := ⟨RX4, TX4, 8, tyX4, rfl, by decide, gX4, Or.inl (by rw [h]; exact g_in (List.mem_of_getElem? (i := 113) (by decide +kernel)) rfl), tyX4_ok, nmX4⟩
theorem fX2_30 (Y : Ym) (h : Y.1.cls = RX2) : Fld Y 30 4 6 := ⟨RX4, TX4, 8, tyX4, rfl, by decide, gX4, Or.inr ⟨"SkyTenders", by rw [h]; exact n_in (List.mem_of_getElem? (i := 114) (by decide +kernel)) rfl⟩, tyX4_ok, nmX4⟩
theorem fX5_64 (Y : Ym) (h : Y.1.cls = RX5) : Fld Y 64 4 6 := ⟨RX4, TX4, 8, tyX4, rfl, by decide, gX4, Or.inr ⟨"SkyTenders", by rw [h]; exact n_in (List.mem_of_getElem? (i := 115) (by decide +kernel)) rfl⟩, tyX4_ok, nmX4⟩
theorem fX6_133 (Y : Ym) (h : Y.1.cls = RX6) : Fld Y 133 4 6 := ⟨RX4, TX4, 8, tyX4, rfl, by decide, gX4, Or.inr ⟨"SkyTenders", by rw [h]; exact n_in (List.mem_of_getElem? (i := 116) (by decide +kernel)) rfl⟩, tyX4_ok, nmX4⟩
theorem fX4_34 (Y : Ym) (h : Y.1.cls = RX4) : Fld Y 34 4 7 := ⟨RX4, TX4, 8, tyX4, rfl, by decide, gX4, Or.inl (by rw [h]; exact g_in (List.mem_of_getElem? (i := 117) (by decide +kernel)) rfl), tyX4_ok, nmX4⟩
theorem fX6_136 (Y : Ym) (h : Y.1.cls = RX6) : Fld Y 136 4 7 := ⟨RX4, TX4, 8, tyX4, rfl, by decide, gX4, Or.inr ⟨"SkyTenders", by rw [h]; exact n_in (List.mem_of_getElem? (i := 118) (by decide +kernel)) rfl⟩, tyX4_ok, nmX4⟩
theorem fX5_67 (Y : Ym) (h : Y.1.cls = RX5) : Fld Y 67 4 7 := ⟨RX4, TX4, 8, tyX4, rfl, by decide, gX4, Or.inr ⟨"SkyTenders", by rw [h]; exact n_in (List.mem_of_getElem? (i := 119) (by decide +kernel)) rfl⟩, tyX4_ok, nmX4⟩
theorem lX6_28 (Y : Ym) (h : Y.1.cls = RX6) : MtL Y 28 YX2_init := Or.inr ⟨"SkyTenders", by rw [h]; exact n_in (List.mem_of_getElem? (i := 139) (by decide +kernel)) rfl⟩
theorem fX2_9 (Y : Ym) (h : Y.1.cls = RX2) : Fld Y 9 2 0 := ⟨RX2, TX2, 4, tyX2, rfl, by decide, gX2, Or.inl (by rw [h]; exact g_in (List.mem_of_getElem? (i := 143) (by decide +kernel)) rfl), tyX2_ok, nmX2⟩
theorem fX6_239 (Y : Ym) (h : Y.1.cls = RX6) : Fld Y 239 2 0 := ⟨RX2, TX2, 4, tyX2, rfl, by decide, gX2, Or.inr ⟨"SkyTenders", by rw [h]; exact n_in (List.mem_of_getElem? (i := 144) (by decide +kernel)) rfl⟩, tyX2_ok, nmX2⟩
theorem fX2_15 (Y : Ym) (h : Y.1.cls = RX2) : Fld Y 15 2 1 := ⟨RX2, TX2, 4, tyX2, rfl, by decide, gX2, Or.inl (by rw [h]; exact g_in (List.mem_of_getElem? (i := 145) (by decide +kernel)) rfl), tyX2_ok, nmX2⟩
theorem fX6_124 (Y : Ym) (h : Y.1.cls = RX6) : Fld Y 124 2 1 := ⟨RX2, TX2, 4, tyX2, rfl, by decide, gX2, Or.inr ⟨"SkyTenders", by rw [h]; exact n_in (List.mem_of_getElem? (i := 146) (by decide +kernel)) rfl⟩, tyX2_ok, nmX2⟩
theorem fX2_19 (Y : Ym) (h : Y.1.cls = RX2) : Fld Y 19 2 2 := ⟨RX2, TX2, 4, tyX2, rfl, by decide, gX2, Or.inl (by rw [h]; exact g_in (List.mem_of_getElem? (i := 147) (by decide +kernel)) rfl), tyX2_ok, nmX2⟩
theorem fX6_250 (Y : Ym) (h : Y.1.cls = RX6) : Fld Y 250 2 2 := ⟨RX2, TX2, 4, tyX2, rfl, by decide, gX2, Or.inr ⟨"SkyTenders", by rw [h]; exact n_in (List.mem_of_getElem? (i := 148) (by decide +kernel)) rfl⟩, tyX2_ok, nmX2⟩
theorem fX2_22 (Y : Ym) (h : Y.1.cls = RX2) : Fld Y 22 2 3 := ⟨RX2, TX2, 4, tyX2, rfl, by decide, gX2, Or.inl (by rw [h]; exact g_in (List.mem_of_getElem? (i := 149) (by decide +kernel)) rfl), tyX2_ok, nmX2⟩
theorem fX6_187 (Y : Ym) (h : Y.1.cls = RX6) : Fld Y 187 2 3 := ⟨RX2, TX2, 4, tyX2, rfl, by decide, gX2, Or.inr ⟨"SkyTenders", by rw [h]; exact n_in (List.mem_of_getElem? (i := 150) (by decide +kernel)) rfl⟩, tyX2_ok, nmX2⟩
theorem lX6_35 (Y : Ym) (h : Y.1.cls = RX6) : MtL Y 35 YX1_init := Or.inr ⟨"SkyTenders", by rw [h]; exact n_in (List.mem_of_getElem? (i := 162) (by decide +kernel)) rfl⟩
theorem fX1_9 (Y : Ym) (h : Y.1.cls = RX1) : Fld Y 9 1 0 := ⟨RX1, TX1, 3, tyX1, rfl, by decide, gX1, Or.inl (by rw [h]; exact g_in (List.mem_of_getElem? (i := 166) (by decide +kernel)) rfl), tyX1_ok, nmX1⟩
theorem fX6_111 (Y : Ym) (h : Y.1.cls = RX6) : Fld Y 111 1 0 := ⟨RX1, TX1, 3, tyX1, rfl, by decide, gX1, Or.inr ⟨"SkyTenders", by rw [h]; exact n_in (List.mem_of_getElem? (i := 167) (by decide +kernel)) rfl⟩, tyX1_ok, nmX1⟩
theorem fX1_15 (Y : Ym) (h : Y.1.cls = RX1) : Fld Y 15 1 1 := ⟨RX1, TX1, 3, tyX1, rfl, by decide, gX1, Or.inl (by rw [h]; exact g_in (List.mem_of_getElem? (i := 168) (by decide +kernel)) rfl), tyX1_ok, nmX1⟩
theorem fX6_193 (Y : Ym) (h : Y.1.cls = RX6) : Fld Y 193 1 1 := ⟨RX1, TX1, 3, tyX1, rfl, by decide, gX1, Or.inr ⟨"SkyTenders", by rw [h]; exact n_in (List.mem_of_getElem? (i := 169) (by decide +kernel)) rfl⟩, tyX1_ok, nmX1⟩
theorem fX1_18 (Y : Ym) (h : Y.1.cls = RX1) : Fld Y 18 1 2 := ⟨RX1, TX1, 3, tyX1, rfl, by decide, gX1, Or.inl (by rw [h]; exact g_in (List.mem_of_getElem? (i := 170) (by decide +kernel)) rfl), tyX1_ok, nmX1⟩
theorem fX6_190 (Y : Ym) (h : Y.1.cls = RX6) : Fld Y 190 1 2 := ⟨RX1, TX1, 3, tyX1, rfl, by decide, gX1, Or.inr ⟨"SkyTenders", by rw [h]; exact n_in (List.mem_of_getElem? (i := 171) (by decide +kernel)) rfl⟩, tyX1_ok, nmX1⟩
theorem lX6_42 (Y : Ym) (h : Y.1.cls = RX6) : MtL Y 42 YX0_init := Or.inr ⟨"SkyTenders", by rw [h]; exact n_in (List.mem_of_getElem? (i := 181) (by decide +kernel)) rfl⟩
theorem fX0_9 (Y : Ym) (h : Y.1.cls = RX0) : Fld Y 9 0 0 := ⟨RX0, TX0, 4, tyX0, rfl, by decide, gX0, Or.inl (by rw [h]; exact g_in (List.mem_of_getElem? (i := 185) (by decide +kernel)) rfl), tyX0_ok, nmX0⟩
theorem fX6_88 (Y : Ym) (h : Y.1.cls = RX6) : Fld Y 88 0 0 := ⟨RX0, TX0, 4, tyX0, rfl, by decide, gX0, Or.inr ⟨"SkyTenders", by rw [h]; exact n_in (List.mem_of_getElem? (i := 186) (by decide +kernel)) rfl⟩, tyX0_ok, nmX0⟩
theorem fX0_15 (Y : Ym) (h : Y.1.cls = RX0) : Fld Y 15 0 1 := ⟨RX0, TX0, 4, tyX0, rfl, by decide, gX0, Or.inl (by rw [h]; exact g_in (List.mem_of_getElem? (i := 187) (by decide +kernel)) rfl), tyX0_ok, nmX0⟩
theorem fX6_149 (Y : Ym) (h : Y.1.cls = RX6) : Fld Y 149 0 1 := ⟨RX0, TX0, 4, tyX0, rfl, by decide, gX0, Or.inr ⟨"SkyTenders", by rw [h]; exact n_in (List.mem_of_getElem? (i := 188) (by decide +kernel)) rfl⟩, tyX0_ok, nmX0⟩
theorem fX0_19 (Y : Ym) (h : Y.1.cls = RX0) : Fld Y 19 0 2 := ⟨RX0, TX0, 4, tyX0, rfl, by decide, gX0, Or.inl (by rw [h]; exact g_in (List.mem_of_getElem? (i := 189) (by decide +kernel)) rfl), tyX0_ok, nmX0⟩
theorem fX6_152 (Y : Ym) (h : Y.1.cls = RX6) : Fld Y 152 0 2 := ⟨RX0, TX0, 4, tyX0, rfl, by decide, gX0, Or.inr ⟨"SkyTenders", by rw [h]; exact n_in (List.mem_of_getElem? (i := 190) (by decide +kernel)) rfl⟩, tyX0_ok, nmX0⟩
theorem fX0_22 (Y : Ym) (h : Y.1.cls = RX0) : Fld Y 22 0 3 := ⟨RX0, TX0, 4, tyX0, rfl, by decide, gX0, Or.inl (by rw [h]; exact g_in (List.mem_of_getElem? (i := 191) (by decide +kernel)) rfl), tyX0_ok, nmX0⟩
theorem fX6_155 (Y : Ym) (h : Y.1.cls = RX6) : Fld Y 155 0 3 := ⟨RX0, TX0, 4, tyX0, rfl, by decide, gX0, Or.inr ⟨"SkyTenders", by rw [h]; exact n_in (List.mem_of_getElem? (i := 192) (by decide +kernel)) rfl⟩, tyX0_ok, nmX0⟩
theorem lX6_49 (Y : Ym) (h : Y.1.cls = RX6) : MtL Y 49 YX3_init := Or.inr ⟨"SkyTenders", by rw [h]; exact n_in (List.mem_of_getElem? (i := 204) (by decide +kernel)) rfl⟩
theorem fX3_9 (Y : Ym) (h : Y.1.cls = RX3) : Fld Y 9 3 0 := ⟨RX3, TX3, 4, tyX3, rfl, by decide, gX3, Or.inl (by rw [h]; exact g_in (List.mem_of_getElem? (i := 208) (by decide +kernel)) rfl), tyX3_ok, nmX3⟩
theorem fX6_114 (Y : Ym) (h : Y.1.cls = RX6) : Fld Y 114 3 0 := ⟨RX3, TX3, 4, tyX3, rfl, by decide, gX3, Or.inr ⟨"SkyTenders", by rw [h]; exact n_in (List.mem_of_getElem? (i := 209) (by decide +kernel)) rfl⟩, tyX3_ok, nmX3⟩
theorem fX3_15 (Y : Ym) (h : Y.1.cls = RX3) : Fld Y 15 3 1 := ⟨RX3, TX3, 4, tyX3, rfl, by decide, gX3, Or.inl (by rw [h]; exact g_in (List.mem_of_getElem? (i := 210) (by decide +kernel)) rfl), tyX3_ok, nmX3⟩
theorem fX6_266 (Y : Ym) (h : Y.1.cls = RX6) : Fld Y 266 3 1 := ⟨RX3, TX3, 4, tyX3, rfl, by decide, gX3, Or.inr ⟨"SkyTenders", by rw [h]; exact n_in (List.mem_of_getElem? (i := 211) (by decide +kernel)) rfl⟩, tyX3_ok, nmX3⟩
theorem fX3_19 (Y : Ym) (h : Y.1.cls = RX3) : Fld Y 19 3 2 := ⟨RX3, TX3, 4, tyX3, rfl, by decide, gX3, Or.inl (by rw [h]; exact g_in (List.mem_of_getElem? (i := 212) (by decide +kernel)) rfl), tyX3_ok, nmX3⟩
theorem fX6_269 (Y : Ym) (h : Y.1.cls = RX6) : Fld Y 269 3 2 := ⟨RX3, TX3, 4, tyX3, rfl, by decide, gX3, Or.inr ⟨"SkyTenders", by rw [h]; exact n_in (List.mem_of_getElem? (i := 213) (by decide +kernel)) rfl⟩, tyX3_ok, nmX3⟩
theorem fX3_22 (Y : Ym) (h : Y.1.cls = RX3) : Fld Y 22 3 3 := ⟨RX3, TX3, 4, tyX3, rfl, by decide, gX3, Or.inl (by rw [h]; exact g_in (List.mem_of_getElem? (i := 214) (by decide +kernel)) rfl), tyX3_ok, nmX3⟩
theorem fX6_270 (Y : Ym) (h : Y.1.cls = RX6) : Fld Y 270 3 3 := ⟨RX3, TX3, 4, tyX3, rfl, by decide, gX3, Or.inr ⟨"SkyTenders", by rw [h]; exact n_in (List.mem_of_getElem? (i := 215) (by decide +kernel)) rfl⟩, tyX3_ok, nmX3⟩
theorem fX6_12 (Y : Ym) (h : Y.1.cls = RX6) : Fld Y 12 6 0 := ⟨RX6, TX6, 11, tyX6, rfl, by decide, gX6, Or.inl (by rw [h]; exact g_in (List.mem_of_getElem? (i := 227) (by decide +kernel)) rfl), tyX6_ok, nmX6⟩
theorem fX6_19 (Y : Ym) (h : Y.1.cls = RX6) : Fld Y 19 6 1 := ⟨RX6, TX6, 11, tyX6, rfl, by decide, gX6, Or.inl (by rw [h]; exact g_in (List.mem_of_getElem? (i := 228) (by decide +kernel)) rfl), tyX6_ok, nmX6⟩
theorem fX6_23 (Y : Ym) (h : Y.1.cls = RX6) : Fld Y 23 6 2 := ⟨RX6, TX6, 11, tyX6, rfl, by decide, gX6, Or.inl (by rw [h]; exact g_in (List.mem_of_getElem? (i := 229) (by decide +kernel)) rfl), tyX6_ok, nmX6⟩
theorem fX6_29 (Y : Ym) (h : Y.1.cls = RX6) : Fld Y 29 6 3 := ⟨RX6, TX6, 11, tyX6, rfl, by decide, gX6, Or.inl (by rw [h]; exact g_in (List.mem_of_getElem? (i := 230) (by decide +kernel)) rfl), tyX6_ok, nmX6⟩
theorem fX6_36 (Y : Ym) (h : Y.1.cls = RX6) : Fld Y 36 6 4 := ⟨RX6, TX6, 11, tyX6, rfl, by decide, gX6, Or.inl (by rw [h]; exact g_in (List.mem_of_getElem? (i := 231) (by decide +kernel)) rfl), tyX6_ok, nmX6⟩
theorem fX6_43 (Y : Ym) (h : Y.1.cls = RX6) : Fld Y 43 6 5 := ⟨RX6, TX6, 11, tyX6, rfl, by decide, gX6, Or.inl (by rw [h]; exact g_in (List.mem_of_getElem? (i := 232) (by decide +kernel)) rfl), tyX6_ok, nmX6⟩
theorem fX6_50 (Y : Ym) (h : Y.1.cls = RX6) : Fld Y 50 6 6 := ⟨RX6, TX6, 11, tyX6, rfl, by decide, gX6, Or.inl (by rw [h]; exact g_in (List.mem_of_getElem? (i := 233) (by decide +kernel)) rfl), tyX6_ok, nmX6⟩
theorem fX6_54 (Y : Ym) (h : Y.1.cls = RX6) : Fld Y 54 6 7 := ⟨RX6, TX6, 11, tyX6, rfl, by decide, gX6, Or.inl (by rw [h]; exact g_in (List.mem_of_getElem? (i := 234) (by decide +kernel)) rfl), tyX6_ok, nmX6⟩
theorem fX6_58 (Y : Ym) (h : Y.1.cls = RX6) : Fld Y 58 6 8 := ⟨RX6, TX6, 11, tyX6, rfl, by decide, gX6, Or.inl (by rw [h]; exact g_in (List.mem_of_getElem? (i := 235) (by decide +kernel)) rfl), tyX6_ok, nmX6⟩
theorem fX6_62 (Y : Ym) (h : Y.1.cls = RX6) : Fld Y 62 6 9 := ⟨RX6, TX6, 11, tyX6, rfl, by decide, gX6, Or.inl (by rw [h]; exact g_in (List.mem_of_getElem? (i := 236) (by decide +kernel)) rfl), tyX6_ok, nmX6⟩
theorem fX6_66 (Y : Ym) (h : Y.1.cls = RX6) : Fld Y 66 6 10 := ⟨RX6, TX6, 11, tyX6, rfl, by decide, gX6, Or.inl (by rw [h]; exact g_in (List.mem_of_getElem? (i := 237) (by decide +kernel)) rfl), tyX6_ok, nmX6⟩
theorem lL_13 (Y : Ym) (h : Y.1.cls = RL) : MtL Y 13 YX6_write := Or.inl (by rw [h]; exact g_in (List.mem_of_getElem? (i := 261) (by decide +kernel)) rfl)
theorem lX6_70 (Y : Ym) (h : Y.1.cls = RX6) : MtL Y 70 YX5_append := Or.inr ⟨"SkyTenders", by rw [h]; exact n_in (List.mem_of_getElem? (i := 265) (by decide +kernel)) rfl⟩
theorem lL_18 (Y : Ym) (h : Y.1.cls = RL) : MtL Y 18 YX6_wipe := Or.inl (by rw [h]; exact g_in (List.mem_of_getElem? (i := 269) (by decide +kernel)) rfl)
theorem lL_23 (Y : Ym) (h : Y.1.cls = RL) : MtL Y 23 YX6_fault := Or.inl (by rw [h]; exact g_in (List.mem_of_getElem? (i := 273) (by decide +kernel)) rfl)
theorem lX6_77 (Y : Ym) (h : Y.1.cls = RX6) : MtL Y 77 YX5_readInto := Or.inr ⟨"SkyTenders", by rw [h]; exact n_in (List.mem_of_getElem? (i := 277) (by decide +kernel)) rfl⟩
theorem lX5_27 (Y : Ym) (h : Y.1.cls = RX5) : MtL Y 27 YX5_behind := Or.inl (by rw [h]; exact g_in (List.mem_of_getElem? (i := 281) (by decide +kernel)) rfl)
theorem lX5_31 (Y : Ym) (h : Y.1.cls = RX5) : MtL Y 31 YX5_behindHead := Or.inl (by rw [h]; exact g_in (List.mem_of_getElem? (i := 284) (by decide +kernel)) rfl)
theorem lX5_35 (Y : Ym) (h : Y.1.cls = RX5) : MtL Y 35 YX5_behindFieldWeather := Or.inl (by rw [h]; exact g_in (List.mem_of_getElem? (i := 287) (by decide +kernel)) rfl)
theorem lX5_50 (Y : Ym) (h : Y.1.cls = RX5) : MtL Y 50 YX5_weatherOf := Or.inl (by rw [h]; exact g_in (List.mem_of_getElem? (i := 290) (by decide +kernel)) rfl)
theorem lX5_38 (Y : Ym) (h : Y.1.cls = RX5) : MtL Y 38 YX5_behindFieldUnits := Or.inl (by rw [h]; exact g_in (List.mem_of_getElem? (i := 293) (by decide +kernel)) rfl)
theorem lX5_41 (Y : Ym) (h : Y.1.cls = RX5) : MtL Y 41 YX5_behindMakerWeatherOrStock := Or.inl (by rw [h]; exact g_in (List.mem_of_getElem? (i := 296) (by decide +kernel)) rfl)
theorem lX5_60 (Y : Ym) (h : Y.1.cls = RX5) : MtL Y 60 YX5_isFigure := Or.inl (by rw [h]; exact g_in (List.mem_of_getElem? (i := 299) (by decide +kernel)) rfl)
theorem lX5_44 (Y : Ym) (h : Y.1.cls = RX5) : MtL Y 44 YX5_behindMakerPrice := Or.inl (by rw [h]; exact g_in (List.mem_of_getElem? (i := 302) (by decide +kernel)) rfl)
theorem lL_27 (Y : Ym) (h : Y.1.cls = RL) : MtL Y 27 YX6_tender := Or.inl (by rw [h]; exact g_in (List.mem_of_getElem? (i := 305) (by decide +kernel)) rfl)
theorem lX6_84 (Y : Ym) (h : Y.1.cls = RX6) : MtL Y 84 YX4_become := Or.inr ⟨"SkyTenders", by rw [h]; exact n_in (List.mem_of_getElem? (i := 309) (by decide +kernel)) rfl⟩
theorem lL_31 (Y : Ym) (h : Y.1.cls = RL) : MtL Y 31 YX6_about := Or.inl (by rw [h]; exact g_in (List.mem_of_getElem? (i := 313) (by decide +kernel)) rfl)
theorem lX6_97 (Y : Ym) (h : Y.1.cls = RX6) : MtL Y 97 YX4_allMakers := Or.inr ⟨"SkyTenders", by rw [h]; exact n_in (List.mem_of_getElem? (i := 317) (by decide +kernel)) rfl⟩
theorem lX6_101 (Y : Ym) (h : Y.1.cls = RX6) : MtL Y 101 YX6_cheapest := Or.inl (by rw [h]; exact g_in (List.mem_of_getElem? (i := 321) (by decide +kernel)) rfl)
theorem lX6_176 (Y : Ym) (h : Y.1.cls = RX6) : MtL Y 176 YX2_stockUp := Or.inr ⟨"SkyTenders", by rw [h]; exact n_in (List.mem_of_getElem? (i := 325) (by decide +kernel)) rfl⟩
theorem lX6_242 (Y : Ym) (h : Y.1.cls = RX6) : MtL Y 242 YX6_serveFrom := Or.inl (by rw [h]; exact g_in (List.mem_of_getElem? (i := 329) (by decide +kernel)) rfl)
theorem lX6_246 (Y : Ym) (h : Y.1.cls = RX6) : MtL Y 246 YX2_takeTried := Or.inr ⟨"SkyTenders", by rw [h]; exact n_in (List.mem_of_getElem? (i := 332) (by decide +kernel)) rfl⟩
theorem lX6_183 (Y : Ym) (h : Y.1.cls = RX6) : MtL Y 183 YX2_canServe := Or.inr ⟨"SkyTenders", by rw [h]; exact n_in (List.mem_of_getElem? (i := 336) (by decide +kernel)) rfl⟩
theorem lX2_33 (Y : Ym) (h : Y.1.cls = RX2) : MtL Y 33 YX4_makes := Or.inr ⟨"SkyTenders", by rw [h]; exact n_in (List.mem_of_getElem? (i := 340) (by decide +kernel)) rfl⟩
theorem lX6_180 (Y : Ym) (h : Y.1.cls = RX6) : MtL Y 180 YX4_couldBeSecondHand := Or.inr ⟨"SkyTenders", by rw [h]; exact n_in (List.mem_of_getElem? (i := 344) (by decide +kernel)) rfl⟩
theorem lX6_105 (Y : Ym) (h : Y.1.cls = RX6) : MtL Y 105 YX6_mostServed := Or.inl (by rw [h]; exact g_in (List.mem_of_getElem? (i := 348) (by decide +kernel)) rfl)
theorem lX6_253 (Y : Ym) (h : Y.1.cls = RX6) : MtL Y 253 YX6_countFrom := Or.inl (by rw [h]; exact g_in (List.mem_of_getElem? (i := 352) (by decide +kernel)) rfl)
theorem lX6_108 (Y : Ym) (h : Y.1.cls = RX6) : MtL Y 108 YX6_runYears := Or.inl (by rw [h]; exact g_in (List.mem_of_getElem? (i := 355) (by decide +kernel)) rfl)
theorem lX6_259 (Y : Ym) (h : Y.1.cls = RX6) : MtL Y 259 YX2_smells := Or.inr ⟨"SkyTenders", by rw [h]; exact n_in (List.mem_of_getElem? (i := 359) (by decide +kernel)) rfl⟩
theorem lX6_256 (Y : Ym) (h : Y.1.cls = RX6) : MtL Y 256 YX2_unitsBy := Or.inr ⟨"SkyTenders", by rw [h]; exact n_in (List.mem_of_getElem? (i := 363) (by decide +kernel)) rfl⟩
theorem lL_35 (Y : Ym) (h : Y.1.cls = RL) : MtL Y 35 YX6_field := Or.inl (by rw [h]; exact g_in (List.mem_of_getElem? (i := 367) (by decide +kernel)) rfl)
theorem lX6_115 (Y : Ym) (h : Y.1.cls = RX6) : MtL Y 115 YX4_hasField := Or.inr ⟨"SkyTenders", by rw [h]; exact n_in (List.mem_of_getElem? (i := 371) (by decide +kernel)) rfl⟩
theorem lL_40 (Y : Ym) (h : Y.1.cls = RL) : MtL Y 40 YX6_maker := Or.inl (by rw [h]; exact g_in (List.mem_of_getElem? (i := 375) (by decide +kernel)) rfl)
theorem lX6_127 (Y : Ym) (h : Y.1.cls = RX6) : MtL Y 127 YX4_hasMaker := Or.inr ⟨"SkyTenders", by rw [h]; exact n_in (List.mem_of_getElem? (i := 379) (by decide +kernel)) rfl⟩
theorem lX6_139 (Y : Ym) (h : Y.1.cls = RX6) : MtL Y 139 YX6_unitsInBest := Or.inl (by rw [h]; exact g_in (List.mem_of_getElem? (i := 383) (by decide +kernel)) rfl)
theorem lX6_142 (Y : Ym) (h : Y.1.cls = RX6) : MtL Y 142 YX6_paidTo := Or.inl (by rw [h]; exact g_in (List.mem_of_getElem? (i := 387) (by decide +kernel)) rfl)
theorem lL_44 (Y : Ym) (h : Y.1.cls = RL) : MtL Y 44 YX6_reprice := Or.inl (by rw [h]; exact g_in (List.mem_of_getElem? (i := 391) (by decide +kernel)) rfl)
theorem lX6_145 (Y : Ym) (h : Y.1.cls = RX6) : MtL Y 145 YX6_doNow := Or.inl (by rw [h]; exact g_in (List.mem_of_getElem? (i := 395) (by decide +kernel)) rfl)
theorem lX6_161 (Y : Ym) (h : Y.1.cls = RX6) : MtL Y 161 YX4_refusal := Or.inr ⟨"SkyTenders", by rw [h]; exact n_in (List.mem_of_getElem? (i := 399) (by decide +kernel)) rfl⟩
theorem lX4_41 (Y : Ym) (h : Y.1.cls = RX4) : MtL Y 41 YX4_hasMaker := Or.inl (by rw [h]; exact g_in (List.mem_of_getElem? (i := 403) (by decide +kernel)) rfl)
theorem lX4_45 (Y : Ym) (h : Y.1.cls = RX4) : MtL Y 45 YX4_hasField := Or.inl (by rw [h]; exact g_in (List.mem_of_getElem? (i := 404) (by decide +kernel)) rfl)
theorem lX6_158 (Y : Ym) (h : Y.1.cls = RX6) : MtL Y 158 YX4_change := Or.inr ⟨"SkyTenders", by rw [h]; exact n_in (List.mem_of_getElem? (i := 405) (by decide +kernel)) rfl⟩
theorem lX6_164 (Y : Ym) (h : Y.1.cls = RX6) : MtL Y 164 YX0_add := Or.inr ⟨"SkyTenders", by rw [h]; exact n_in (List.mem_of_getElem? (i := 409) (by decide +kernel)) rfl⟩
theorem lX0_25 (Y : Ym) (h : Y.1.cls = RX0) : MtL Y 25 YX0_forgetFirst := Or.inl (by rw [h]; exact g_in (List.mem_of_getElem? (i := 413) (by decide +kernel)) rfl)
theorem lL_48 (Y : Ym) (h : Y.1.cls = RL) : MtL Y 48 YX6_restock := Or.inl (by rw [h]; exact g_in (List.mem_of_getElem? (i := 417) (by decide +kernel)) rfl)
theorem lL_52 (Y : Ym) (h : Y.1.cls = RL) : MtL Y 52 YX6_want := Or.inl (by rw [h]; exact g_in (List.mem_of_getElem? (i := 421) (by decide +kernel)) rfl)
theorem lL_56 (Y : Ym) (h : Y.1.cls = RL) : MtL Y 56 YX6_bear := Or.inl (by rw [h]; exact g_in (List.mem_of_getElem? (i := 425) (by decide +kernel)) rfl)
theorem lL_60 (Y : Ym) (h : Y.1.cls = RL) : MtL Y 60 YX6_undo := Or.inl (by rw [h]; exact g_in (List.mem_of_getElem? (i := 429) (by decide +kernel)) rfl)
theorem lL_64 (Y : Ym) (h : Y.1.cls = RL) : MtL Y 64 YX6_best := Or.inl (by rw [h]; exact g_in (List.mem_of_getElem? (i := 433) (by decide +kernel)) rfl)
theorem lX6_168 (Y : Ym) (h : Y.1.cls = RX6) : MtL Y 168 YX6_asFigures := Or.inl (by rw [h]; exact g_in (List.mem_of_getElem? (i := 437) (by decide +kernel)) rfl)
theorem lL_68 (Y : Ym) (h : Y.1.cls = RL) : MtL Y 68 YX6_cost := Or.inl (by rw [h]; exact g_in (List.mem_of_getElem? (i := 440) (by decide +kernel)) rfl)
theorem lX6_172 (Y : Ym) (h : Y.1.cls = RX6) : MtL Y 172 YX6_spell := Or.inl (by rw [h]; exact g_in (List.mem_of_getElem? (i := 444) (by decide +kernel)) rfl)
theorem kX6_233 (Y : Ym) (h : Y.1.cls = RX6) : Cond.constantLong Y.1.cls 233 10 ∈ gtbl := by rw [h]; exact g_in (List.mem_of_getElem? (i := 448) (by decide +kernel)) rfl
theorem lL_72 (Y : Ym) (h : Y.1.cls = RL) : MtL Y 72 YX6_gain := Or.inl (by rw [h]; exact g_in (List.mem_of_getElem? (i := 449) (by decide +kernel)) rfl)
theorem lL_76 (Y : Ym) (h : Y.1.cls = RL) : MtL Y 76 YX6_ran := Or.inl (by rw [h]; exact g_in (List.mem_of_getElem? (i := 453) (by decide +kernel)) rfl)
theorem lL_80 (Y : Ym) (h : Y.1.cls = RL) : MtL Y 80 YX6_least := Or.inl (by rw [h]; exact g_in (List.mem_of_getElem? (i := 457) (by decide +kernel)) rfl)
theorem lX6_196 (Y : Ym) (h : Y.1.cls = RX6) : MtL Y 196 YX4_hasLeague := Or.inr ⟨"SkyTenders", by rw [h]; exact n_in (List.mem_of_getElem? (i := 461) (by decide +kernel)) rfl⟩
theorem lX4_37 (Y : Ym) (h : Y.1.cls = RX4) : MtL Y 37 YX4_allMakers := Or.inl (by rw [h]; exact g_in (List.mem_of_getElem? (i := 465) (by decide +kernel)) rfl)
theorem lL_84 (Y : Ym) (h : Y.1.cls = RL) : MtL Y 84 YX6_most := Or.inl (by rw [h]; exact g_in (List.mem_of_getElem? (i := 466) (by decide +kernel)) rfl)
theorem lL_88 (Y : Ym) (h : Y.1.cls = RL) : MtL Y 88 YX6_holds := Or.inl (by rw [h]; exact g_in (List.mem_of_getElem? (i := 470) (by decide +kernel)) rfl)
theorem lX6_199 (Y : Ym) (h : Y.1.cls = RX6) : MtL Y 199 YX6_sharesOf := Or.inl (by rw [h]; exact g_in (List.mem_of_getElem? (i := 474) (by decide +kernel)) rfl)
theorem lL_94 (Y : Ym) (h : Y.1.cls = RL) : MtL Y 94 YX6_judge := Or.inl (by rw [h]; exact g_in (List.mem_of_getElem? (i := 478) (by decide +kernel)) rfl)
theorem lX6_203 (Y : Ym) (h : Y.1.cls = RX6) : MtL Y 203 YX6_canBe := Or.inl (by rw [h]; exact g_in (List.mem_of_getElem? (i := 482) (by decide +kernel)) rfl)
theorem lX6_262 (Y : Ym) (h : Y.1.cls = RX6) : MtL Y 262 YX6_changesTrial := Or.inl (by rw [h]; exact g_in (List.mem_of_getElem? (i := 486) (by decide +kernel)) rfl)
theorem lL_99 (Y : Ym) (h : Y.1.cls = RL) : MtL Y 99 YX6_share := Or.inl (by rw [h]; exact g_in (List.mem_of_getElem? (i := 490) (by decide +kernel)) rfl)
theorem lX6_206 (Y : Ym) (h : Y.1.cls = RX6) : MtL Y 206 YJ6_bitCount_0f7a4 := Or.inl (by rw [h]; exact g_in (List.mem_of_getElem? (i := 494) (by decide +kernel)) rfl)
theorem kJ6_265 (Y : Ym) (h : Y.1.cls = RJ6) : Cond.constant Y.1.cls 265 1431655765 ∈ gtbl := by rw [h]; exact g_in (List.mem_of_getElem? (i := 497) (by decide +kernel)) rfl
theorem kJ6_266 (Y : Ym) (h : Y.1.cls = RJ6) : Cond.constant Y.1.cls 266 858993459 ∈ gtbl := by rw [h]; exact g_in (List.mem_of_getElem? (i := 498) (by decide +kernel)) rfl
theorem kJ6_267 (Y : Ym) (h : Y.1.cls = RJ6) : Cond.constant Y.1.cls 267 252645135 ∈ gtbl := by rw [h]; exact g_in (List.mem_of_getElem? (i := 499) (by decide +kernel)) rfl
theorem fX6_211 (Y : Ym) (h : Y.1.cls = RX6) : Cond.fieldLink Y.1.cls 211 "SkyTenders" "ORDERS" "[I" ∈ gtbl := by rw [h]; exact g_in (List.mem_of_getElem? (i := 500) (by decide +kernel)) rfl
theorem lX6_214 (Y : Ym) (h : Y.1.cls = RX6) : MtL Y 214 YX6_partOfFraction := Or.inl (by rw [h]; exact g_in (List.mem_of_getElem? (i := 502) (by decide +kernel)) rfl)
theorem lL_104 (Y : Ym) (h : Y.1.cls = RL) : MtL Y 104 YX6_see := Or.inl (by rw [h]; exact g_in (List.mem_of_getElem? (i := 505) (by decide +kernel)) rfl)
theorem lX6_218 (Y : Ym) (h : Y.1.cls = RX6) : MtL Y 218 YX3_add := Or.inr ⟨"SkyTenders", by rw [h]; exact n_in (List.mem_of_getElem? (i := 509) (by decide +kernel)) rfl⟩
theorem lL_109 (Y : Ym) (h : Y.1.cls = RL) : MtL Y 109 YX6_unsee := Or.inl (by rw [h]; exact g_in (List.mem_of_getElem? (i := 513) (by decide +kernel)) rfl)
theorem lL_113 (Y : Ym) (h : Y.1.cls = RL) : MtL Y 113 YX6_which := Or.inl (by rw [h]; exact g_in (List.mem_of_getElem? (i := 517) (by decide +kernel)) rfl)
theorem lX6_221 (Y : Ym) (h : Y.1.cls = RX6) : MtL Y 221 YX6_allSeenIsSo := Or.inl (by rw [h]; exact g_in (List.mem_of_getElem? (i := 521) (by decide +kernel)) rfl)
theorem lL_117 (Y : Ym) (h : Y.1.cls = RL) : MtL Y 117 YX6_gone := Or.inl (by rw [h]; exact g_in (List.mem_of_getElem? (i := 525) (by decide +kernel)) rfl)
theorem lX6_225 (Y : Ym) (h : Y.1.cls = RX6) : MtL Y 225 YX6_chanceOfLeft := Or.inl (by rw [h]; exact g_in (List.mem_of_getElem? (i := 529) (by decide +kernel)) rfl)
theorem lL_121 (Y : Ym) (h : Y.1.cls = RL) : MtL Y 121 YX6_seed := Or.inl (by rw [h]; exact g_in (List.mem_of_getElem? (i := 533) (by decide +kernel)) rfl)
theorem lL_126 (Y : Ym) (h : Y.1.cls = RL) : MtL Y 126 YX6_drawn := Or.inl (by rw [h]; exact g_in (List.mem_of_getElem? (i := 537) (by decide +kernel)) rfl)
theorem kX6_229 (Y : Ym) (h : Y.1.cls = RX6) : Cond.constantLong Y.1.cls 229 6364136223846793005 ∈ gtbl := by rw [h]; exact g_in (List.mem_of_getElem? (i := 541) (by decide +kernel)) rfl
theorem kX6_231 (Y : Ym) (h : Y.1.cls = RX6) : Cond.constantLong Y.1.cls 231 1442695040888963407 ∈ gtbl := by rw [h]; exact g_in (List.mem_of_getElem? (i := 542) (by decide +kernel)) rfl
theorem lL_130 (Y : Ym) (h : Y.1.cls = RL) : MtL Y 130 YX6_keep := Or.inl (by rw [h]; exact g_in (List.mem_of_getElem? (i := 543) (by decide +kernel)) rfl)
theorem lX6_235 (Y : Ym) (h : Y.1.cls = RX6) : MtL Y 235 YX6_roomOf := Or.inl (by rw [h]; exact g_in (List.mem_of_getElem? (i := 547) (by decide +kernel)) rfl)
theorem lL_134 (Y : Ym) (h : Y.1.cls = RL) : MtL Y 134 YX6_again := Or.inl (by rw [h]; exact g_in (List.mem_of_getElem? (i := 551) (by decide +kernel)) rfl)
theorem lL_12 (Y : Ym) (h : Y.1.cls = RL) : MtL Y 12 YX7_init := Or.inl (by rw [h]; exact g_in (List.mem_of_getElem? (i := 557) (by decide +kernel)) rfl)
theorem fX7_7 (Y : Ym) (h : Y.1.cls = RX7) : Fld Y 7 7 0 := ⟨RX7, TX7, 31, tyX7, rfl, by decide, gX7, Or.inl (by rw [h]; exact g_in (List.mem_of_getElem? (i := 561) (by decide +kernel)) rfl), tyX7_ok, nmX7⟩
theorem fX7_76 (Y : Ym) (h : Y.1.cls = RX7) : Fld Y 76 7 1 := ⟨RX7, TX7, 31, tyX7, rfl, by decide, gX7, Or.inl (by rw [h]; exact g_in (List.mem_of_getElem? (i := 562) (by decide +kernel)) rfl), tyX7_ok, nmX7⟩
theorem fX7_63 (Y : Ym) (h : Y.1.cls = RX7) : Fld Y 63 7 2 := ⟨RX7, TX7, 31, tyX7, rfl, by decide, gX7, Or.inl (by rw [h]; exact g_in (List.mem_of_getElem? (i := 563) (by decide +kernel)) rfl), tyX7_ok, nmX7⟩
theorem fX7_71 (Y : Ym) (h : Y.1.cls = RX7) : Fld Y 71 7 3 := ⟨RX7, TX7, 31, tyX7, rfl, by decide, gX7, Or.inl (by rw [h]; exact g_in (List.mem_of_getElem? (i := 564) (by decide +kernel)) rfl), tyX7_ok, nmX7⟩
theorem fX7_13 (Y : Ym) (h : Y.1.cls = RX7) : Fld Y 13 7 4 := ⟨RX7, TX7, 31, tyX7, rfl, by decide, gX7, Or.inl (by rw [h]; exact g_in (List.mem_of_getElem? (i := 565) (by decide +kernel)) rfl), tyX7_ok, nmX7⟩
theorem fX7_16 (Y : Ym) (h : Y.1.cls = RX7) : Fld Y 16 7 5 := ⟨RX7, TX7, 31, tyX7, rfl, by decide, gX7, Or.inl (by rw [h]; exact g_in (List.mem_of_getElem? (i := 566) (by decide +kernel)) rfl), tyX7_ok, nmX7⟩
theorem fX7_19 (Y : Ym) (h : Y.1.cls = RX7) : Fld Y 19 7 6 := ⟨RX7, TX7, 31, tyX7, rfl, by decide, gX7, Or.inl (by rw [h]; exact g_in (List.mem_of_getElem? (i := 567) (by decide +kernel)) rfl), tyX7_ok, nmX7⟩
theorem fX7_22 (Y : Ym) (h : Y.1.cls = RX7) : Fld Y 22 7 7 := ⟨RX7, TX7, 31, tyX7, rfl, by decide, gX7, Or.inl (by rw [h]; exact g_in (List.mem_of_getElem? (i := 568) (by decide +kernel)) rfl), tyX7_ok, nmX7⟩
theorem fX7_25 (Y : Ym) (h : Y.1.cls = RX7) : Fld Y 25 7 8 := ⟨RX7, TX7, 31, tyX7, rfl, by decide, gX7, Or.inl (by rw [h]; exact g_in (List.mem_of_getElem? (i := 569) (by decide +kernel)) rfl), tyX7_ok, nmX7⟩
theorem fX7_113 (Y : Ym) (h : Y.1.cls = RX7) : Fld Y 113 7 9 := ⟨RX7, TX7, 31, tyX7, rfl, by decide, gX7, Or.inl (by rw [h]; exact g_in (List.mem_of_getElem? (i := 570) (by decide +kernel)) rfl), tyX7_ok, nmX7⟩
theorem fX7_184 (Y : Ym) (h : Y.1.cls = RX7) : Fld Y 184 7 10 := ⟨RX7, TX7, 31, tyX7, rfl, by decide, gX7, Or.inl (by rw [h]; exact g_in (List.mem_of_getElem? (i := 571) (by decide +kernel)) rfl), tyX7_ok, nmX7⟩
theorem fX7_28 (Y : Ym) (h : Y.1.cls = RX7) : Fld Y 28 7 11 := ⟨RX7, TX7, 31, tyX7, rfl, by decide, gX7, Or.inl (by rw [h]; exact g_in (List.mem_of_getElem? (i := 572) (by decide +kernel)) rfl), tyX7_ok, nmX7⟩
theorem fX7_31 (Y : Ym) (h : Y.1.cls = RX7) : Fld Y 31 7 12 := ⟨RX7, TX7, 31, tyX7, rfl, by decide, gX7, Or.inl (by rw [h]; exact g_in (List.mem_of_getElem? (i := 573) (by decide +kernel)) rfl), tyX7_ok, nmX7⟩
theorem fX7_94 (Y : Ym) (h : Y.1.cls = RX7) : Fld Y 94 7 13 := ⟨RX7, TX7, 31, tyX7, rfl, by decide, gX7, Or.inl (by rw [h]; exact g_in (List.mem_of_getElem? (i := 574) (by decide +kernel)) rfl), tyX7_ok, nmX7⟩
theorem fX7_99 (Y : Ym) (h : Y.1.cls = RX7) : Fld Y 99 7 14 := ⟨RX7, TX7, 31, tyX7, rfl, by decide, gX7, Or.inl (by rw [h]; exact g_in (List.mem_of_getElem? (i := 575) (by decide +kernel)) rfl), tyX7_ok, nmX7⟩
theorem fX7_35 (Y : Ym) (h : Y.1.cls = RX7) : Fld Y 35 7 15 := ⟨RX7, TX7, 31, tyX7, rfl, by decide, gX7, Or.inl (by rw [h]; exact g_in (List.mem_of_getElem? (i := 576) (by decide +kernel)) rfl), tyX7_ok, nmX7⟩
theorem fX7_38 (Y : Ym) (h : Y.1.cls = RX7) : Fld Y 38 7 16 := ⟨RX7, TX7, 31, tyX7, rfl, by decide, gX7, Or.inl (by rw [h]; exact g_in (List.mem_of_getElem? (i := 577) (by decide +kernel)) rfl), tyX7_ok, nmX7⟩
theorem fX7_41 (Y : Ym) (h : Y.1.cls = RX7) : Fld Y 41 7 17 := ⟨RX7, TX7, 31, tyX7, rfl, by decide, gX7, Or.inl (by rw [h]; exact g_in (List.mem_of_getElem? (i := 578) (by decide +kernel)) rfl), tyX7_ok, nmX7⟩
theorem fX7_44 (Y : Ym) (h : Y.1.cls = RX7) : Fld Y 44 7 18 := ⟨RX7, TX7, 31, tyX7, rfl, by decide, gX7, Or.inl (by rw [h]; exact g_in (List.mem_of_getElem? (i := 579) (by decide +kernel)) rfl), tyX7_ok, nmX7⟩
theorem fX7_47 (Y : Ym) (h : Y.1.cls = RX7) : Fld Y 47 7 19 := ⟨RX7, TX7, 31, tyX7, rfl, by decide, gX7, Or.inl (by rw [h]; exact g_in (List.mem_of_getElem? (i := 580) (by decide +kernel)) rfl), tyX7_ok, nmX7⟩
theorem fX7_50 (Y : Ym) (h : Y.1.cls = RX7) : Fld Y 50 7 20 := ⟨RX7, TX7, 31, tyX7, rfl, by decide, gX7, Or.inl (by rw [h]; exact g_in (List.mem_of_getElem? (i := 581) (by decide +kernel)) rfl), tyX7_ok, nmX7⟩
theorem fX7_175 (Y : Ym) (h : Y.1.cls = RX7) : Fld Y 175 7 21 := ⟨RX7, TX7, 31, tyX7, rfl, by decide, gX7, Or.inl (by rw [h]; exact g_in (List.mem_of_getElem? (i := 582) (by decide +kernel)) rfl), tyX7_ok, nmX7⟩
theorem fX7_226 (Y : Ym) (h : Y.1.cls = RX7) : Fld Y 226 7 22 := ⟨RX7, TX7, 31, tyX7, rfl, by decide, gX7, Or.inl (by rw [h]; exact g_in (List.mem_of_getElem? (i := 583) (by decide +kernel)) rfl), tyX7_ok, nmX7⟩
theorem fX7_133 (Y : Ym) (h : Y.1.cls = RX7) : Fld Y 133 7 23 := ⟨RX7, TX7, 31, tyX7, rfl, by decide, gX7, Or.inl (by rw [h]; exact g_in (List.mem_of_getElem? (i := 584) (by decide +kernel)) rfl), tyX7_ok, nmX7⟩
theorem fX7_136 (Y : Ym) (h : Y.1.cls = RX7) : Fld Y 136 7 24 := ⟨RX7, TX7, 31, tyX7, rfl, by decide, gX7, Or.inl (by rw [h]; exact g_in (List.mem_of_getElem? (i := 585) (by decide +kernel)) rfl), tyX7_ok, nmX7⟩
theorem fX7_53 (Y : Ym) (h : Y.1.cls = RX7) : Fld Y 53 7 25 := ⟨RX7, TX7, 31, tyX7, rfl, by decide, gX7, Or.inl (by rw [h]; exact g_in (List.mem_of_getElem? (i := 586) (by decide +kernel)) rfl), tyX7_ok, nmX7⟩
theorem fX7_56 (Y : Ym) (h : Y.1.cls = RX7) : Fld Y 56 7 26 := ⟨RX7, TX7, 31, tyX7, rfl, by decide, gX7, Or.inl (by rw [h]; exact g_in (List.mem_of_getElem? (i := 587) (by decide +kernel)) rfl), tyX7_ok, nmX7⟩
theorem fX7_87 (Y : Ym) (h : Y.1.cls = RX7) : Fld Y 87 7 27 := ⟨RX7, TX7, 31, tyX7, rfl, by decide, gX7, Or.inl (by rw [h]; exact g_in (List.mem_of_getElem? (i := 588) (by decide +kernel)) rfl), tyX7_ok, nmX7⟩
theorem fX7_160 (Y : Ym) (h : Y.1.cls = RX7) : Fld Y 160 7 28 := ⟨RX7, TX7, 31, tyX7, rfl, by decide, gX7, Or.inl (by rw [h]; exact g_in (List.mem_of_getElem? (i := 589) (by decide +kernel)) rfl), tyX7_ok, nmX7⟩
theorem fX7_163 (Y : Ym) (h : Y.1.cls = RX7) : Fld Y 163 7 29 := ⟨RX7, TX7, 31, tyX7, rfl, by decide, gX7, Or.inl (by rw [h]; exact g_in (List.mem_of_getElem? (i := 590) (by decide +kernel)) rfl), tyX7_ok, nmX7⟩
theorem fX7_166 (Y : Ym) (h : Y.1.cls = RX7) : Fld Y 166 7 30 := ⟨RX7, TX7, 31, tyX7, rfl, by decide, gX7, Or.inl (by rw [h]; exact g_in (List.mem_of_getElem? (i := 591) (by decide +kernel)) rfl), tyX7_ok, nmX7⟩
theorem lL_17 (Y : Ym) (h : Y.1.cls = RL) : MtL Y 17 YX7_write := Or.inl (by rw [h]; exact g_in (List.mem_of_getElem? (i := 655) (by decide +kernel)) rfl)
theorem kX7_74 (Y : Ym) (h : Y.1.cls = RX7) : Cond.constantLong Y.1.cls 74 255 ∈ gtbl := by rw [h]; exact g_in (List.mem_of_getElem? (i := 659) (by decide +kernel)) rfl
theorem lX7_67 (Y : Ym) (h : Y.1.cls = RX7) : MtL Y 67 YX7_in := Or.inl (by rw [h]; exact g_in (List.mem_of_getElem? (i := 660) (by decide +kernel)) rfl)
theorem lL_22 (Y : Ym) (h : Y.1.cls = RL) : MtL Y 22 YX7_wipe := Or.inl (by rw [h]; exact g_in (List.mem_of_getElem? (i := 663) (by decide +kernel)) rfl)
theorem lL_26 (Y : Ym) (h : Y.1.cls = RL) : MtL Y 26 YX7_fault := Or.inl (by rw [h]; exact g_in (List.mem_of_getElem? (i := 667) (by decide +kernel)) rfl)
theorem lX7_109 (Y : Ym) (h : Y.1.cls = RX7) : MtL Y 109 YX7_readText := Or.inl (by rw [h]; exact g_in (List.mem_of_getElem? (i := 671) (by decide +kernel)) rfl)
theorem lX7_106 (Y : Ym) (h : Y.1.cls = RX7) : MtL Y 106 YX7_take := Or.inl (by rw [h]; exact g_in (List.mem_of_getElem? (i := 675) (by decide +kernel)) rfl)
theorem lX7_79 (Y : Ym) (h : Y.1.cls = RX7) : MtL Y 79 YX7_weatherOf := Or.inl (by rw [h]; exact g_in (List.mem_of_getElem? (i := 679) (by decide +kernel)) rfl)
theorem kX7_83 (Y : Ym) (h : Y.1.cls = RX7) : Cond.constantLong Y.1.cls 83 48 ∈ gtbl := by rw [h]; exact g_in (List.mem_of_getElem? (i := 682) (by decide +kernel)) rfl
theorem kX7_85 (Y : Ym) (h : Y.1.cls = RX7) : Cond.constantLong Y.1.cls 85 57 ∈ gtbl := by rw [h]; exact g_in (List.mem_of_getElem? (i := 683) (by decide +kernel)) rfl
theorem lX7_90 (Y : Ym) (h : Y.1.cls = RX7) : MtL Y 90 YX7_takePart := Or.inl (by rw [h]; exact g_in (List.mem_of_getElem? (i := 684) (by decide +kernel)) rfl)
theorem kX7_97 (Y : Ym) (h : Y.1.cls = RX7) : Cond.constantLong Y.1.cls 97 5 ∈ gtbl := by rw [h]; exact g_in (List.mem_of_getElem? (i := 688) (by decide +kernel)) rfl
theorem lX7_102 (Y : Ym) (h : Y.1.cls = RX7) : MtL Y 102 YX7_takeMore := Or.inl (by rw [h]; exact g_in (List.mem_of_getElem? (i := 689) (by decide +kernel)) rfl)
theorem lL_30 (Y : Ym) (h : Y.1.cls = RL) : MtL Y 30 YX7_tender := Or.inl (by rw [h]; exact g_in (List.mem_of_getElem? (i := 693) (by decide +kernel)) rfl)
theorem lL_34 (Y : Ym) (h : Y.1.cls = RL) : MtL Y 34 YX7_about := Or.inl (by rw [h]; exact g_in (List.mem_of_getElem? (i := 697) (by decide +kernel)) rfl)
theorem lX7_147 (Y : Ym) (h : Y.1.cls = RX7) : MtL Y 147 YX7_allMakers := Or.inl (by rw [h]; exact g_in (List.mem_of_getElem? (i := 701) (by decide +kernel)) rfl)
theorem lX7_150 (Y : Ym) (h : Y.1.cls = RX7) : MtL Y 150 YX7_leastBy := Or.inl (by rw [h]; exact g_in (List.mem_of_getElem? (i := 705) (by decide +kernel)) rfl)
theorem lX7_143 (Y : Ym) (h : Y.1.cls = RX7) : MtL Y 143 YX7_find := Or.inl (by rw [h]; exact g_in (List.mem_of_getElem? (i := 709) (by decide +kernel)) rfl)
theorem lX7_116 (Y : Ym) (h : Y.1.cls = RX7) : MtL Y 116 YX7_power := Or.inl (by rw [h]; exact g_in (List.mem_of_getElem? (i := 713) (by decide +kernel)) rfl)
theorem lX7_139 (Y : Ym) (h : Y.1.cls = RX7) : MtL Y 139 YX7_costOf := Or.inl (by rw [h]; exact g_in (List.mem_of_getElem? (i := 716) (by decide +kernel)) rfl)
theorem lX7_119 (Y : Ym) (h : Y.1.cls = RX7) : MtL Y 119 YX7_servedBy := Or.inl (by rw [h]; exact g_in (List.mem_of_getElem? (i := 720) (by decide +kernel)) rfl)
theorem lX7_129 (Y : Ym) (h : Y.1.cls = RX7) : MtL Y 129 YX7_mayServe := Or.inl (by rw [h]; exact g_in (List.mem_of_getElem? (i := 724) (by decide +kernel)) rfl)
theorem lX7_123 (Y : Ym) (h : Y.1.cls = RX7) : MtL Y 123 YX7_isMaker := Or.inl (by rw [h]; exact g_in (List.mem_of_getElem? (i := 728) (by decide +kernel)) rfl)
theorem lX7_126 (Y : Ym) (h : Y.1.cls = RX7) : MtL Y 126 YX7_has := Or.inl (by rw [h]; exact g_in (List.mem_of_getElem? (i := 732) (by decide +kernel)) rfl)
theorem lX7_169 (Y : Ym) (h : Y.1.cls = RX7) : MtL Y 169 YX7_mostOf := Or.inl (by rw [h]; exact g_in (List.mem_of_getElem? (i := 735) (by decide +kernel)) rfl)
theorem lX7_172 (Y : Ym) (h : Y.1.cls = RX7) : MtL Y 172 YX7_run := Or.inl (by rw [h]; exact g_in (List.mem_of_getElem? (i := 739) (by decide +kernel)) rfl)
theorem lX7_157 (Y : Ym) (h : Y.1.cls = RX7) : MtL Y 157 YX7_layTrial := Or.inl (by rw [h]; exact g_in (List.mem_of_getElem? (i := 743) (by decide +kernel)) rfl)
theorem lX7_154 (Y : Ym) (h : Y.1.cls = RX7) : MtL Y 154 YX7_unitsOf := Or.inl (by rw [h]; exact g_in (List.mem_of_getElem? (i := 747) (by decide +kernel)) rfl)
theorem lL_39 (Y : Ym) (h : Y.1.cls = RL) : MtL Y 39 YX7_field := Or.inl (by rw [h]; exact g_in (List.mem_of_getElem? (i := 751) (by decide +kernel)) rfl)
theorem lX7_178 (Y : Ym) (h : Y.1.cls = RX7) : MtL Y 178 YX7_isField := Or.inl (by rw [h]; exact g_in (List.mem_of_getElem? (i := 755) (by decide +kernel)) rfl)
theorem lL_43 (Y : Ym) (h : Y.1.cls = RL) : MtL Y 43 YX7_maker := Or.inl (by rw [h]; exact g_in (List.mem_of_getElem? (i := 759) (by decide +kernel)) rfl)
theorem lX7_181 (Y : Ym) (h : Y.1.cls = RX7) : MtL Y 181 YX7_paid := Or.inl (by rw [h]; exact g_in (List.mem_of_getElem? (i := 763) (by decide +kernel)) rfl)
theorem lL_47 (Y : Ym) (h : Y.1.cls = RL) : MtL Y 47 YX7_reprice := Or.inl (by rw [h]; exact g_in (List.mem_of_getElem? (i := 767) (by decide +kernel)) rfl)
theorem kX7_187 (Y : Ym) (h : Y.1.cls = RX7) : Cond.constantLong Y.1.cls 187 9 ∈ gtbl := by rw [h]; exact g_in (List.mem_of_getElem? (i := 771) (by decide +kernel)) rfl
theorem lX7_189 (Y : Ym) (h : Y.1.cls = RX7) : MtL Y 189 YX7_change := Or.inl (by rw [h]; exact g_in (List.mem_of_getElem? (i := 772) (by decide +kernel)) rfl)
theorem lL_51 (Y : Ym) (h : Y.1.cls = RL) : MtL Y 51 YX7_restock := Or.inl (by rw [h]; exact g_in (List.mem_of_getElem? (i := 776) (by decide +kernel)) rfl)
theorem lL_55 (Y : Ym) (h : Y.1.cls = RL) : MtL Y 55 YX7_want := Or.inl (by rw [h]; exact g_in (List.mem_of_getElem? (i := 780) (by decide +kernel)) rfl)
theorem lL_59 (Y : Ym) (h : Y.1.cls = RL) : MtL Y 59 YX7_bear := Or.inl (by rw [h]; exact g_in (List.mem_of_getElem? (i := 784) (by decide +kernel)) rfl)
theorem kX7_193 (Y : Ym) (h : Y.1.cls = RX7) : Cond.constantLong Y.1.cls 193 4 ∈ gtbl := by rw [h]; exact g_in (List.mem_of_getElem? (i := 788) (by decide +kernel)) rfl
theorem lL_63 (Y : Ym) (h : Y.1.cls = RL) : MtL Y 63 YX7_undo := Or.inl (by rw [h]; exact g_in (List.mem_of_getElem? (i := 789) (by decide +kernel)) rfl)
theorem lL_67 (Y : Ym) (h : Y.1.cls = RL) : MtL Y 67 YX7_best := Or.inl (by rw [h]; exact g_in (List.mem_of_getElem? (i := 793) (by decide +kernel)) rfl)
theorem lL_71 (Y : Ym) (h : Y.1.cls = RL) : MtL Y 71 YX7_cost := Or.inl (by rw [h]; exact g_in (List.mem_of_getElem? (i := 797) (by decide +kernel)) rfl)
theorem lL_75 (Y : Ym) (h : Y.1.cls = RL) : MtL Y 75 YX7_gain := Or.inl (by rw [h]; exact g_in (List.mem_of_getElem? (i := 801) (by decide +kernel)) rfl)
theorem lL_79 (Y : Ym) (h : Y.1.cls = RL) : MtL Y 79 YX7_ran := Or.inl (by rw [h]; exact g_in (List.mem_of_getElem? (i := 805) (by decide +kernel)) rfl)
theorem kX7_195 (Y : Ym) (h : Y.1.cls = RX7) : Cond.constantLong Y.1.cls 195 2 ∈ gtbl := by rw [h]; exact g_in (List.mem_of_getElem? (i := 809) (by decide +kernel)) rfl
theorem lL_83 (Y : Ym) (h : Y.1.cls = RL) : MtL Y 83 YX7_least := Or.inl (by rw [h]; exact g_in (List.mem_of_getElem? (i := 810) (by decide +kernel)) rfl)
theorem lL_87 (Y : Ym) (h : Y.1.cls = RL) : MtL Y 87 YX7_most := Or.inl (by rw [h]; exact g_in (List.mem_of_getElem? (i := 814) (by decide +kernel)) rfl)
theorem lL_91 (Y : Ym) (h : Y.1.cls = RL) : MtL Y 91 YX7_holds := Or.inl (by rw [h]; exact g_in (List.mem_of_getElem? (i := 818) (by decide +kernel)) rfl)
theorem lX7_197 (Y : Ym) (h : Y.1.cls = RX7) : MtL Y 197 YX7_sharesOf := Or.inl (by rw [h]; exact g_in (List.mem_of_getElem? (i := 822) (by decide +kernel)) rfl)
theorem lL_98 (Y : Ym) (h : Y.1.cls = RL) : MtL Y 98 YX7_judge := Or.inl (by rw [h]; exact g_in (List.mem_of_getElem? (i := 826) (by decide +kernel)) rfl)
theorem lX7_202 (Y : Ym) (h : Y.1.cls = RX7) : MtL Y 202 YX7_tenThousands := Or.inl (by rw [h]; exact g_in (List.mem_of_getElem? (i := 830) (by decide +kernel)) rfl)
theorem kX7_200 (Y : Ym) (h : Y.1.cls = RX7) : Cond.constantLong Y.1.cls 200 10000 ∈ gtbl := by rw [h]; exact g_in (List.mem_of_getElem? (i := 833) (by decide +kernel)) rfl
theorem lX7_206 (Y : Ym) (h : Y.1.cls = RX7) : MtL Y 206 YX7_judged := Or.inl (by rw [h]; exact g_in (List.mem_of_getElem? (i := 834) (by decide +kernel)) rfl)
theorem lL_103 (Y : Ym) (h : Y.1.cls = RL) : MtL Y 103 YX7_share := Or.inl (by rw [h]; exact g_in (List.mem_of_getElem? (i := 838) (by decide +kernel)) rfl)
theorem lX7_213 (Y : Ym) (h : Y.1.cls = RX7) : MtL Y 213 YX7_isOrder := Or.inl (by rw [h]; exact g_in (List.mem_of_getElem? (i := 842) (by decide +kernel)) rfl)
theorem lX7_210 (Y : Ym) (h : Y.1.cls = RX7) : MtL Y 210 YX7_makerAt := Or.inl (by rw [h]; exact g_in (List.mem_of_getElem? (i := 846) (by decide +kernel)) rfl)
theorem lX7_216 (Y : Ym) (h : Y.1.cls = RX7) : MtL Y 216 YX7_fraction := Or.inl (by rw [h]; exact g_in (List.mem_of_getElem? (i := 849) (by decide +kernel)) rfl)
theorem lX7_59 (Y : Ym) (h : Y.1.cls = RX7) : MtL Y 59 YX7_divisor := Or.inl (by rw [h]; exact g_in (List.mem_of_getElem? (i := 852) (by decide +kernel)) rfl)
theorem lL_108 (Y : Ym) (h : Y.1.cls = RL) : MtL Y 108 YX7_see := Or.inl (by rw [h]; exact g_in (List.mem_of_getElem? (i := 855) (by decide +kernel)) rfl)
theorem lL_112 (Y : Ym) (h : Y.1.cls = RL) : MtL Y 112 YX7_unsee := Or.inl (by rw [h]; exact g_in (List.mem_of_getElem? (i := 859) (by decide +kernel)) rfl)
theorem lL_116 (Y : Ym) (h : Y.1.cls = RL) : MtL Y 116 YX7_which := Or.inl (by rw [h]; exact g_in (List.mem_of_getElem? (i := 863) (by decide +kernel)) rfl)
theorem lX7_220 (Y : Ym) (h : Y.1.cls = RX7) : MtL Y 220 YX7_agrees := Or.inl (by rw [h]; exact g_in (List.mem_of_getElem? (i := 867) (by decide +kernel)) rfl)
theorem lL_120 (Y : Ym) (h : Y.1.cls = RL) : MtL Y 120 YX7_gone := Or.inl (by rw [h]; exact g_in (List.mem_of_getElem? (i := 871) (by decide +kernel)) rfl)
theorem kX7_224 (Y : Ym) (h : Y.1.cls = RX7) : Cond.constantLong Y.1.cls 224 10 ∈ gtbl := by rw [h]; exact g_in (List.mem_of_getElem? (i := 875) (by decide +kernel)) rfl
theorem lL_125 (Y : Ym) (h : Y.1.cls = RL) : MtL Y 125 YX7_seed := Or.inl (by rw [h]; exact g_in (List.mem_of_getElem? (i := 876) (by decide +kernel)) rfl)
theorem lL_129 (Y : Ym) (h : Y.1.cls = RL) : MtL Y 129 YX7_drawn := Or.inl (by rw [h]; exact g_in (List.mem_of_getElem? (i := 880) (by decide +kernel)) rfl)
theorem kX7_230 (Y : Ym) (h : Y.1.cls = RX7) : Cond.constantLong Y.1.cls 230 20 ∈ gtbl := by rw [h]; exact g_in (List.mem_of_getElem? (i := 884) (by decide +kernel)) rfl
theorem kX7_232 (Y : Ym) (h : Y.1.cls = RX7) : Cond.constantLong Y.1.cls 232 6364136223846793005 ∈ gtbl := by rw [h]; exact g_in (List.mem_of_getElem? (i := 885) (by decide +kernel)) rfl
theorem kX7_234 (Y : Ym) (h : Y.1.cls = RX7) : Cond.constantLong Y.1.cls 234 1442695040888963407 ∈ gtbl := by rw [h]; exact g_in (List.mem_of_getElem? (i := 886) (by decide +kernel)) rfl
theorem lL_133 (Y : Ym) (h : Y.1.cls = RL) : MtL Y 133 YX7_keep := Or.inl (by rw [h]; exact g_in (List.mem_of_getElem? (i := 887) (by decide +kernel)) rfl)
theorem lL_137 (Y : Ym) (h : Y.1.cls = RL) : MtL Y 137 YX7_again := Or.inl (by rw [h]; exact g_in (List.mem_of_getElem? (i := 891) (by decide +kernel)) rfl)
theorem kL_92 (Y : Ym) (h : Y.1.cls = RL) : Cond.constantLong Y.1.cls 92 4294967295 ∈ gtbl := by rw [h]; exact g_in (List.mem_of_getElem? (i := 895) (by decide +kernel)) rfl
theorem mcX0_add : MtC YX0_add 3 := ⟨g_in (List.mem_of_getElem? (i := 60) (by decide +kernel)) rfl, g_in (List.mem_of_getElem? (i := 412) (by decide +kernel)) rfl, by decide +kernel, by decide⟩
theorem mvX0_add : MtV YX0_add := ⟨g_in (List.mem_of_getElem? (i := 411) (by decide +kernel)) rfl, g_in (List.mem_of_getElem? (i := 21) (by decide +kernel)) rfl⟩
theorem mcX0_forgetFirst : MtC YX0_forgetFirst 0 := ⟨g_in (List.mem_of_getElem? (i := 60) (by decide +kernel)) rfl, g_in (List.mem_of_getElem? (i := 416) (by decide +kernel)) rfl, by decide +kernel, by decide⟩
theorem mvX0_forgetFirst : MtV YX0_forgetFirst := ⟨g_in (List.mem_of_getElem? (i := 415) (by decide +kernel)) rfl, g_in (List.mem_of_getElem? (i := 22) (by decide +kernel)) rfl⟩
theorem mcX2_stockUp : MtC YX2_stockUp 2 := ⟨g_in (List.mem_of_getElem? (i := 58) (by decide +kernel)) rfl, g_in (List.mem_of_getElem? (i := 328) (by decide +kernel)) rfl, by decide +kernel, by decide⟩
theorem mvX2_stockUp : MtV YX2_stockUp := ⟨g_in (List.mem_of_getElem? (i := 327) (by decide +kernel)) rfl, g_in (List.mem_of_getElem? (i := 5) (by decide +kernel)) rfl⟩
theorem mcX2_canServe : MtC YX2_canServe 3 := ⟨g_in (List.mem_of_getElem? (i := 58) (by decide +kernel)) rfl, g_in (List.mem_of_getElem? (i := 339) (by decide +kernel)) rfl, by decide +kernel, by decide⟩
theorem mvX2_canServe : MtV YX2_canServe := ⟨g_in (List.mem_of_getElem? (i := 338) (by decide +kernel)) rfl, g_in (List.mem_of_getElem? (i := 7) (by decide +kernel)) rfl⟩
theorem mcX2_takeTried : MtC YX2_takeTried 2 := ⟨g_in (List.mem_of_getElem? (i := 58) (by decide +kernel)) rfl, g_in (List.mem_of_getElem? (i := 335) (by decide +kernel)) rfl, by decide +kernel, by decide⟩
theorem mvX2_takeTried : MtV YX2_takeTried := ⟨g_in (List.mem_of_getElem? (i := 334) (by decide +kernel)) rfl, g_in (List.mem_of_getElem? (i := 6) (by decide +kernel)) rfl⟩
theorem mcX2_unitsBy : MtC YX2_unitsBy 2 := ⟨g_in (List.mem_of_getElem? (i := 58) (by decide +kernel)) rfl, g_in (List.mem_of_getElem? (i := 366) (by decide +kernel)) rfl, by decide +kernel, by decide⟩
theorem mvX2_unitsBy : MtV YX2_unitsBy := ⟨g_in (List.mem_of_getElem? (i := 365) (by decide +kernel)) rfl, g_in (List.mem_of_getElem? (i := 13) (by decide +kernel)) rfl⟩
theorem mcX2_smells : MtC YX2_smells 1 := ⟨g_in (List.mem_of_getElem? (i := 58) (by decide +kernel)) rfl, g_in (List.mem_of_getElem? (i := 362) (by decide +kernel)) rfl, by decide +kernel, by decide⟩
theorem mvX2_smells : MtV YX2_smells := ⟨g_in (List.mem_of_getElem? (i := 361) (by decide +kernel)) rfl, g_in (List.mem_of_getElem? (i := 12) (by decide +kernel)) rfl⟩
theorem mcX3_add : MtC YX3_add 3 := ⟨g_in (List.mem_of_getElem? (i := 61) (by decide +kernel)) rfl, g_in (List.mem_of_getElem? (i := 512) (by decide +kernel)) rfl, by decide +kernel, by decide⟩
theorem mvX3_add : MtV YX3_add := ⟨g_in (List.mem_of_getElem? (i := 511) (by decide +kernel)) rfl, g_in (List.mem_of_getElem? (i := 28) (by decide +kernel)) rfl⟩
theorem mcX4_become : MtC YX4_become 1 := ⟨g_in (List.mem_of_getElem? (i := 57) (by decide +kernel)) rfl, g_in (List.mem_of_getElem? (i := 312) (by decide +kernel)) rfl, by decide +kernel, by decide⟩
theorem mvX4_become : MtV YX4_become := ⟨g_in (List.mem_of_getElem? (i := 311) (by decide +kernel)) rfl, g_in (List.mem_of_getElem? (i := 2) (by decide +kernel)) rfl⟩
theorem mcX4_hasField : MtC YX4_hasField 1 := ⟨g_in (List.mem_of_getElem? (i := 57) (by decide +kernel)) rfl, g_in (List.mem_of_getElem? (i := 374) (by decide +kernel)) rfl, by decide +kernel, by decide⟩
theorem mvX4_hasField : MtV YX4_hasField := ⟨g_in (List.mem_of_getElem? (i := 373) (by decide +kernel)) rfl, g_in (List.mem_of_getElem? (i := 14) (by decide +kernel)) rfl⟩
theorem mcX4_hasMaker : MtC YX4_hasMaker 1 := ⟨g_in (List.mem_of_getElem? (i := 57) (by decide +kernel)) rfl, g_in (List.mem_of_getElem? (i := 382) (by decide +kernel)) rfl, by decide +kernel, by decide⟩
theorem mvX4_hasMaker : MtV YX4_hasMaker := ⟨g_in (List.mem_of_getElem? (i := 381) (by decide +kernel)) rfl, g_in (List.mem_of_getElem? (i := 15) (by decide +kernel)) rfl⟩
theorem mcX4_hasLeague : MtC YX4_hasLeague 1 := ⟨g_in (List.mem_of_getElem? (i := 57) (by decide +kernel)) rfl, g_in (List.mem_of_getElem? (i := 464) (by decide +kernel)) rfl, by decide +kernel, by decide⟩
theorem mvX4_hasLeague : MtV YX4_hasLeague := ⟨g_in (List.mem_of_getElem? (i := 463) (by decide +kernel)) rfl, g_in (List.mem_of_getElem? (i := 24) (by decide +kernel)) rfl⟩
theorem mcX4_allMakers : MtC YX4_allMakers 0 := ⟨g_in (List.mem_of_getElem? (i := 57) (by decide +kernel)) rfl, g_in (List.mem_of_getElem? (i := 320) (by decide +kernel)) rfl, by decide +kernel, by decide⟩
theorem mvX4_allMakers : MtV YX4_allMakers := ⟨g_in (List.mem_of_getElem? (i := 319) (by decide +kernel)) rfl, g_in (List.mem_of_getElem? (i := 3) (by decide +kernel)) rfl⟩
theorem mcX4_makes : MtC YX4_makes 2 := ⟨g_in (List.mem_of_getElem? (i := 57) (by decide +kernel)) rfl, g_in (List.mem_of_getElem? (i := 343) (by decide +kernel)) rfl, by decide +kernel, by decide⟩
theorem mvX4_makes : MtV YX4_makes := ⟨g_in (List.mem_of_getElem? (i := 342) (by decide +kernel)) rfl, g_in (List.mem_of_getElem? (i := 8) (by decide +kernel)) rfl⟩
theorem mcX4_couldBeSecondHand : MtC YX4_couldBeSecondHand 1 := ⟨g_in (List.mem_of_getElem? (i := 57) (by decide +kernel)) rfl, g_in (List.mem_of_getElem? (i := 347) (by decide +kernel)) rfl, by decide +kernel, by decide⟩
theorem mvX4_couldBeSecondHand : MtV YX4_couldBeSecondHand := ⟨g_in (List.mem_of_getElem? (i := 346) (by decide +kernel)) rfl, g_in (List.mem_of_getElem? (i := 9) (by decide +kernel)) rfl⟩
theorem mcX4_refusal : MtC YX4_refusal 3 := ⟨g_in (List.mem_of_getElem? (i := 57) (by decide +kernel)) rfl, g_in (List.mem_of_getElem? (i := 402) (by decide +kernel)) rfl, by decide +kernel, by decide⟩
theorem mvX4_refusal : MtV YX4_refusal := ⟨g_in (List.mem_of_getElem? (i := 401) (by decide +kernel)) rfl, g_in (List.mem_of_getElem? (i := 19) (by decide +kernel)) rfl⟩
theorem mcX4_change : MtC YX4_change 3 := ⟨g_in (List.mem_of_getElem? (i := 57) (by decide +kernel)) rfl, g_in (List.mem_of_getElem? (i := 408) (by decide +kernel)) rfl, by decide +kernel, by decide⟩
theorem mvX4_change : MtV YX4_change := ⟨g_in (List.mem_of_getElem? (i := 407) (by decide +kernel)) rfl, g_in (List.mem_of_getElem? (i := 20) (by decide +kernel)) rfl⟩
theorem mcX5_append : MtC YX5_append 1 := ⟨g_in (List.mem_of_getElem? (i := 56) (by decide +kernel)) rfl, g_in (List.mem_of_getElem? (i := 268) (by decide +kernel)) rfl, by decide +kernel, by decide⟩
theorem mvX5_append : MtV YX5_append := ⟨g_in (List.mem_of_getElem? (i := 267) (by decide +kernel)) rfl, g_in (List.mem_of_getElem? (i := 0) (by decide +kernel)) rfl⟩
theorem mcX5_readInto : MtC YX5_readInto 1 := ⟨g_in (List.mem_of_getElem? (i := 56) (by decide +kernel)) rfl, g_in (List.mem_of_getElem? (i := 280) (by decide +kernel)) rfl, by decide +kernel, by decide⟩
theorem mvX5_readInto : MtV YX5_readInto := ⟨g_in (List.mem_of_getElem? (i := 279) (by decide +kernel)) rfl, g_in (List.mem_of_getElem? (i := 1) (by decide +kernel)) rfl⟩
theorem mcX5_behind : MtC YX5_behind 3 := ⟨g_in (List.mem_of_getElem? (i := 56) (by decide +kernel)) rfl, g_in (List.mem_of_getElem? (i := 283) (by decide +kernel)) rfl, by decide +kernel, by decide⟩
theorem msX5_behind : Cond.static YX5_behind.1 ∈ gtbl := g_in (List.mem_of_getElem? (i := 282) (by decide +kernel)) rfl
theorem mcX5_behindHead : MtC YX5_behindHead 2 := ⟨g_in (List.mem_of_getElem? (i := 56) (by decide +kernel)) rfl, g_in (List.mem_of_getElem? (i := 286) (by decide +kernel)) rfl, by decide +kernel, by decide⟩
theorem msX5_behindHead : Cond.static YX5_behindHead.1 ∈ gtbl := g_in (List.mem_of_getElem? (i := 285) (by decide +kernel)) rfl
theorem mcX5_behindFieldWeather : MtC YX5_behindFieldWeather 2 := ⟨g_in (List.mem_of_getElem? (i := 56) (by decide +kernel)) rfl, g_in (List.mem_of_getElem? (i := 289) (by decide +kernel)) rfl, by decide +kernel, by decide⟩
theorem msX5_behindFieldWeather : Cond.static YX5_behindFieldWeather.1 ∈ gtbl := g_in (List.mem_of_getElem? (i := 288) (by decide +kernel)) rfl
theorem mcX5_behindFieldUnits : MtC YX5_behindFieldUnits 2 := ⟨g_in (List.mem_of_getElem? (i := 56) (by decide +kernel)) rfl, g_in (List.mem_of_getElem? (i := 295) (by decide +kernel)) rfl, by decide +kernel, by decide⟩
theorem msX5_behindFieldUnits : Cond.static YX5_behindFieldUnits.1 ∈ gtbl := g_in (List.mem_of_getElem? (i := 294) (by decide +kernel)) rfl
theorem mcX5_behindMakerWeatherOrStock : MtC YX5_behindMakerWeatherOrStock 2 := ⟨g_in (List.mem_of_getElem? (i := 56) (by decide +kernel)) rfl, g_in (List.mem_of_getElem? (i := 298) (by decide +kernel)) rfl, by decide +kernel, by decide⟩
theorem msX5_behindMakerWeatherOrStock : Cond.static YX5_behindMakerWeatherOrStock.1 ∈ gtbl := g_in (List.mem_of_getElem? (i := 297) (by decide +kernel)) rfl
theorem mcX5_behindMakerPrice : MtC YX5_behindMakerPrice 2 := ⟨g_in (List.mem_of_getElem? (i := 56) (by decide +kernel)) rfl, g_in (List.mem_of_getElem? (i := 304) (by decide +kernel)) rfl, by decide +kernel, by decide⟩
theorem msX5_behindMakerPrice : Cond.static YX5_behindMakerPrice.1 ∈ gtbl := g_in (List.mem_of_getElem? (i := 303) (by decide +kernel)) rfl
theorem mcX5_isFigure : MtC YX5_isFigure 1 := ⟨g_in (List.mem_of_getElem? (i := 56) (by decide +kernel)) rfl, g_in (List.mem_of_getElem? (i := 301) (by decide +kernel)) rfl, by decide +kernel, by decide⟩
theorem msX5_isFigure : Cond.static YX5_isFigure.1 ∈ gtbl := g_in (List.mem_of_getElem? (i := 300) (by decide +kernel)) rfl
theorem mcX5_weatherOf : MtC YX5_weatherOf 1 := ⟨g_in (List.mem_of_getElem? (i := 56) (by decide +kernel)) rfl, g_in (List.mem_of_getElem? (i := 292) (by decide +kernel)) rfl, by decide +kernel, by decide⟩
theorem msX5_weatherOf : Cond.static YX5_weatherOf.1 ∈ gtbl := g_in (List.mem_of_getElem? (i := 291) (by decide +kernel)) rfl
theorem mcX6_write : MtC YX6_write 1 := ⟨g_in (List.mem_of_getElem? (i := 55) (by decide +kernel)) rfl, g_in (List.mem_of_getElem? (i := 264) (by decide +kernel)) rfl, by decide +kernel, by decide⟩
theorem mvX6_write : MtV YX6_write := ⟨g_in (List.mem_of_getElem? (i := 262) (by decide +kernel)) rfl, g_in (List.mem_of_getElem? (i := 263) (by decide +kernel)) rfl⟩
theorem mcX6_wipe : MtC YX6_wipe 0 := ⟨g_in (List.mem_of_getElem? (i := 55) (by decide +kernel)) rfl, g_in (List.mem_of_getElem? (i := 272) (by decide +kernel)) rfl, by decide +kernel, by decide⟩
theorem mvX6_wipe : MtV YX6_wipe := ⟨g_in (List.mem_of_getElem? (i := 270) (by decide +kernel)) rfl, g_in (List.mem_of_getElem? (i := 271) (by decide +kernel)) rfl⟩
theorem mcX6_fault : MtC YX6_fault 0 := ⟨g_in (List.mem_of_getElem? (i := 55) (by decide +kernel)) rfl, g_in (List.mem_of_getElem? (i := 276) (by decide +kernel)) rfl, by decide +kernel, by decide⟩
theorem mvX6_fault : MtV YX6_fault := ⟨g_in (List.mem_of_getElem? (i := 274) (by decide +kernel)) rfl, g_in (List.mem_of_getElem? (i := 275) (by decide +kernel)) rfl⟩
theorem mcX6_tender : MtC YX6_tender 0 := ⟨g_in (List.mem_of_getElem? (i := 55) (by decide +kernel)) rfl, g_in (List.mem_of_getElem? (i := 308) (by decide +kernel)) rfl, by decide +kernel, by decide⟩
theorem mvX6_tender : MtV YX6_tender := ⟨g_in (List.mem_of_getElem? (i := 306) (by decide +kernel)) rfl, g_in (List.mem_of_getElem? (i := 307) (by decide +kernel)) rfl⟩
theorem mcX6_about : MtC YX6_about 1 := ⟨g_in (List.mem_of_getElem? (i := 55) (by decide +kernel)) rfl, g_in (List.mem_of_getElem? (i := 316) (by decide +kernel)) rfl, by decide +kernel, by decide⟩
theorem mvX6_about : MtV YX6_about := ⟨g_in (List.mem_of_getElem? (i := 314) (by decide +kernel)) rfl, g_in (List.mem_of_getElem? (i := 315) (by decide +kernel)) rfl⟩
theorem mcX6_field : MtC YX6_field 2 := ⟨g_in (List.mem_of_getElem? (i := 55) (by decide +kernel)) rfl, g_in (List.mem_of_getElem? (i := 370) (by decide +kernel)) rfl, by decide +kernel, by decide⟩
theorem mvX6_field : MtV YX6_field := ⟨g_in (List.mem_of_getElem? (i := 368) (by decide +kernel)) rfl, g_in (List.mem_of_getElem? (i := 369) (by decide +kernel)) rfl⟩
theorem mcX6_maker : MtC YX6_maker 2 := ⟨g_in (List.mem_of_getElem? (i := 55) (by decide +kernel)) rfl, g_in (List.mem_of_getElem? (i := 378) (by decide +kernel)) rfl, by decide +kernel, by decide⟩
theorem mvX6_maker : MtV YX6_maker := ⟨g_in (List.mem_of_getElem? (i := 376) (by decide +kernel)) rfl, g_in (List.mem_of_getElem? (i := 377) (by decide +kernel)) rfl⟩
theorem mcX6_reprice : MtC YX6_reprice 2 := ⟨g_in (List.mem_of_getElem? (i := 55) (by decide +kernel)) rfl, g_in (List.mem_of_getElem? (i := 394) (by decide +kernel)) rfl, by decide +kernel, by decide⟩
theorem mvX6_reprice : MtV YX6_reprice := ⟨g_in (List.mem_of_getElem? (i := 392) (by decide +kernel)) rfl, g_in (List.mem_of_getElem? (i := 393) (by decide +kernel)) rfl⟩
theorem mcX6_restock : MtC YX6_restock 2 := ⟨g_in (List.mem_of_getElem? (i := 55) (by decide +kernel)) rfl, g_in (List.mem_of_getElem? (i := 420) (by decide +kernel)) rfl, by decide +kernel, by decide⟩
theorem mvX6_restock : MtV YX6_restock := ⟨g_in (List.mem_of_getElem? (i := 418) (by decide +kernel)) rfl, g_in (List.mem_of_getElem? (i := 419) (by decide +kernel)) rfl⟩
theorem mcX6_want : MtC YX6_want 2 := ⟨g_in (List.mem_of_getElem? (i := 55) (by decide +kernel)) rfl, g_in (List.mem_of_getElem? (i := 424) (by decide +kernel)) rfl, by decide +kernel, by decide⟩
theorem mvX6_want : MtV YX6_want := ⟨g_in (List.mem_of_getElem? (i := 422) (by decide +kernel)) rfl, g_in (List.mem_of_getElem? (i := 423) (by decide +kernel)) rfl⟩
theorem mcX6_bear : MtC YX6_bear 1 := ⟨g_in (List.mem_of_getElem? (i := 55) (by decide +kernel)) rfl, g_in (List.mem_of_getElem? (i := 428) (by decide +kernel)) rfl, by decide +kernel, by decide⟩
theorem mvX6_bear : MtV YX6_bear := ⟨g_in (List.mem_of_getElem? (i := 426) (by decide +kernel)) rfl, g_in (List.mem_of_getElem? (i := 427) (by decide +kernel)) rfl⟩
theorem mcX6_undo : MtC YX6_undo 0 := ⟨g_in (List.mem_of_getElem? (i := 55) (by decide +kernel)) rfl, g_in (List.mem_of_getElem? (i := 432) (by decide +kernel)) rfl, by decide +kernel, by decide⟩
theorem mvX6_undo : MtV YX6_undo := ⟨g_in (List.mem_of_getElem? (i := 430) (by decide +kernel)) rfl, g_in (List.mem_of_getElem? (i := 431) (by decide +kernel)) rfl⟩
theorem mcX6_doNow : MtC YX6_doNow 3 := ⟨g_in (List.mem_of_getElem? (i := 55) (by decide +kernel)) rfl, g_in (List.mem_of_getElem? (i := 398) (by decide +kernel)) rfl, by decide +kernel, by decide⟩
theorem mvX6_doNow : MtV YX6_doNow := ⟨g_in (List.mem_of_getElem? (i := 397) (by decide +kernel)) rfl, g_in (List.mem_of_getElem? (i := 18) (by decide +kernel)) rfl⟩
theorem mcX6_best : MtC YX6_best 0 := ⟨g_in (List.mem_of_getElem? (i := 55) (by decide +kernel)) rfl, g_in (List.mem_of_getElem? (i := 436) (by decide +kernel)) rfl, by decide +kernel, by decide⟩
theorem mvX6_best : MtV YX6_best := ⟨g_in (List.mem_of_getElem? (i := 434) (by decide +kernel)) rfl, g_in (List.mem_of_getElem? (i := 435) (by decide +kernel)) rfl⟩
theorem mcX6_cost : MtC YX6_cost 1 := ⟨g_in (List.mem_of_getElem? (i := 55) (by decide +kernel)) rfl, g_in (List.mem_of_getElem? (i := 443) (by decide +kernel)) rfl, by decide +kernel, by decide⟩
theorem mvX6_cost : MtV YX6_cost := ⟨g_in (List.mem_of_getElem? (i := 441) (by decide +kernel)) rfl, g_in (List.mem_of_getElem? (i := 442) (by decide +kernel)) rfl⟩
theorem mcX6_gain : MtC YX6_gain 2 := ⟨g_in (List.mem_of_getElem? (i := 55) (by decide +kernel)) rfl, g_in (List.mem_of_getElem? (i := 452) (by decide +kernel)) rfl, by decide +kernel, by decide⟩
theorem mvX6_gain : MtV YX6_gain := ⟨g_in (List.mem_of_getElem? (i := 450) (by decide +kernel)) rfl, g_in (List.mem_of_getElem? (i := 451) (by decide +kernel)) rfl⟩
theorem mcX6_ran : MtC YX6_ran 1 := ⟨g_in (List.mem_of_getElem? (i := 55) (by decide +kernel)) rfl, g_in (List.mem_of_getElem? (i := 456) (by decide +kernel)) rfl, by decide +kernel, by decide⟩
theorem mvX6_ran : MtV YX6_ran := ⟨g_in (List.mem_of_getElem? (i := 454) (by decide +kernel)) rfl, g_in (List.mem_of_getElem? (i := 455) (by decide +kernel)) rfl⟩
theorem mcX6_least : MtC YX6_least 1 := ⟨g_in (List.mem_of_getElem? (i := 55) (by decide +kernel)) rfl, g_in (List.mem_of_getElem? (i := 460) (by decide +kernel)) rfl, by decide +kernel, by decide⟩
theorem mvX6_least : MtV YX6_least := ⟨g_in (List.mem_of_getElem? (i := 458) (by decide +kernel)) rfl, g_in (List.mem_of_getElem? (i := 459) (by decide +kernel)) rfl⟩
theorem mcX6_most : MtC YX6_most 1 := ⟨g_in (List.mem_of_getElem? (i := 55) (by decide +kernel)) rfl, g_in (List.mem_of_getElem? (i := 469) (by decide +kernel)) rfl, by decide +kernel, by decide⟩
theorem mvX6_most : MtV YX6_most := ⟨g_in (List.mem_of_getElem? (i := 467) (by decide +kernel)) rfl, g_in (List.mem_of_getElem? (i := 468) (by decide +kernel)) rfl⟩
theorem mcX6_holds : MtC YX6_holds 1 := ⟨g_in (List.mem_of_getElem? (i := 55) (by decide +kernel)) rfl, g_in (List.mem_of_getElem? (i := 473) (by decide +kernel)) rfl, by decide +kernel, by decide⟩
theorem mvX6_holds : MtV YX6_holds := ⟨g_in (List.mem_of_getElem? (i := 471) (by decide +kernel)) rfl, g_in (List.mem_of_getElem? (i := 472) (by decide +kernel)) rfl⟩
theorem mcX6_judge : MtC YX6_judge 2 := ⟨g_in (List.mem_of_getElem? (i := 55) (by decide +kernel)) rfl, g_in (List.mem_of_getElem? (i := 481) (by decide +kernel)) rfl, by decide +kernel, by decide⟩
theorem mvX6_judge : MtV YX6_judge := ⟨g_in (List.mem_of_getElem? (i := 479) (by decide +kernel)) rfl, g_in (List.mem_of_getElem? (i := 480) (by decide +kernel)) rfl⟩
theorem mcX6_share : MtC YX6_share 2 := ⟨g_in (List.mem_of_getElem? (i := 55) (by decide +kernel)) rfl, g_in (List.mem_of_getElem? (i := 493) (by decide +kernel)) rfl, by decide +kernel, by decide⟩
theorem mvX6_share : MtV YX6_share := ⟨g_in (List.mem_of_getElem? (i := 491) (by decide +kernel)) rfl, g_in (List.mem_of_getElem? (i := 492) (by decide +kernel)) rfl⟩
theorem mcX6_see : MtC YX6_see 3 := ⟨g_in (List.mem_of_getElem? (i := 55) (by decide +kernel)) rfl, g_in (List.mem_of_getElem? (i := 508) (by decide +kernel)) rfl, by decide +kernel, by decide⟩
theorem mvX6_see : MtV YX6_see := ⟨g_in (List.mem_of_getElem? (i := 506) (by decide +kernel)) rfl, g_in (List.mem_of_getElem? (i := 507) (by decide +kernel)) rfl⟩
theorem mcX6_unsee : MtC YX6_unsee 0 := ⟨g_in (List.mem_of_getElem? (i := 55) (by decide +kernel)) rfl, g_in (List.mem_of_getElem? (i := 516) (by decide +kernel)) rfl, by decide +kernel, by decide⟩
theorem mvX6_unsee : MtV YX6_unsee := ⟨g_in (List.mem_of_getElem? (i := 514) (by decide +kernel)) rfl, g_in (List.mem_of_getElem? (i := 515) (by decide +kernel)) rfl⟩
theorem mcX6_which : MtC YX6_which 1 := ⟨g_in (List.mem_of_getElem? (i := 55) (by decide +kernel)) rfl, g_in (List.mem_of_getElem? (i := 520) (by decide +kernel)) rfl, by decide +kernel, by decide⟩
theorem mvX6_which : MtV YX6_which := ⟨g_in (List.mem_of_getElem? (i := 518) (by decide +kernel)) rfl, g_in (List.mem_of_getElem? (i := 519) (by decide +kernel)) rfl⟩
theorem mcX6_gone : MtC YX6_gone 2 := ⟨g_in (List.mem_of_getElem? (i := 55) (by decide +kernel)) rfl, g_in (List.mem_of_getElem? (i := 528) (by decide +kernel)) rfl, by decide +kernel, by decide⟩
theorem mvX6_gone : MtV YX6_gone := ⟨g_in (List.mem_of_getElem? (i := 526) (by decide +kernel)) rfl, g_in (List.mem_of_getElem? (i := 527) (by decide +kernel)) rfl⟩
theorem mcX6_seed : MtC YX6_seed 1 := ⟨g_in (List.mem_of_getElem? (i := 55) (by decide +kernel)) rfl, g_in (List.mem_of_getElem? (i := 536) (by decide +kernel)) rfl, by decide +kernel, by decide⟩
theorem mvX6_seed : MtV YX6_seed := ⟨g_in (List.mem_of_getElem? (i := 534) (by decide +kernel)) rfl, g_in (List.mem_of_getElem? (i := 535) (by decide +kernel)) rfl⟩
theorem mcX6_drawn : MtC YX6_drawn 1 := ⟨g_in (List.mem_of_getElem? (i := 55) (by decide +kernel)) rfl, g_in (List.mem_of_getElem? (i := 540) (by decide +kernel)) rfl, by decide +kernel, by decide⟩
theorem mvX6_drawn : MtV YX6_drawn := ⟨g_in (List.mem_of_getElem? (i := 538) (by decide +kernel)) rfl, g_in (List.mem_of_getElem? (i := 539) (by decide +kernel)) rfl⟩
theorem mcX6_keep : MtC YX6_keep 1 := ⟨g_in (List.mem_of_getElem? (i := 55) (by decide +kernel)) rfl, g_in (List.mem_of_getElem? (i := 546) (by decide +kernel)) rfl, by decide +kernel, by decide⟩
theorem mvX6_keep : MtV YX6_keep := ⟨g_in (List.mem_of_getElem? (i := 544) (by decide +kernel)) rfl, g_in (List.mem_of_getElem? (i := 545) (by decide +kernel)) rfl⟩
theorem mcX6_again : MtC YX6_again 1 := ⟨g_in (List.mem_of_getElem? (i := 55) (by decide +kernel)) rfl, g_in (List.mem_of_getElem? (i := 554) (by decide +kernel)) rfl, by decide +kernel, by decide⟩
theorem mvX6_again : MtV YX6_again := ⟨g_in (List.mem_of_getElem? (i := 552) (by decide +kernel)) rfl, g_in (List.mem_of_getElem? (i := 553) (by decide +kernel)) rfl⟩
theorem mcX6_roomOf : MtC YX6_roomOf 1 := ⟨g_in (List.mem_of_getElem? (i := 55) (by decide +kernel)) rfl, g_in (List.mem_of_getElem? (i := 550) (by decide +kernel)) rfl, by decide +kernel, by decide⟩
theorem mvX6_roomOf : MtV YX6_roomOf := ⟨g_in (List.mem_of_getElem? (i := 549) (by decide +kernel)) rfl, g_in (List.mem_of_getElem? (i := 31) (by decide +kernel)) rfl⟩
theorem mcX6_cheapest : MtC YX6_cheapest 2 := ⟨g_in (List.mem_of_getElem? (i := 55) (by decide +kernel)) rfl, g_in (List.mem_of_getElem? (i := 324) (by decide +kernel)) rfl, by decide +kernel, by decide⟩
theorem mvX6_cheapest : MtV YX6_cheapest := ⟨g_in (List.mem_of_getElem? (i := 323) (by decide +kernel)) rfl, g_in (List.mem_of_getElem? (i := 4) (by decide +kernel)) rfl⟩
theorem mcX6_serveFrom : MtC YX6_serveFrom 5 := ⟨g_in (List.mem_of_getElem? (i := 55) (by decide +kernel)) rfl, g_in (List.mem_of_getElem? (i := 331) (by decide +kernel)) rfl, by decide +kernel, by decide⟩
theorem msX6_serveFrom : Cond.static YX6_serveFrom.1 ∈ gtbl := g_in (List.mem_of_getElem? (i := 330) (by decide +kernel)) rfl
theorem mcX6_mostServed : MtC YX6_mostServed 2 := ⟨g_in (List.mem_of_getElem? (i := 55) (by decide +kernel)) rfl, g_in (List.mem_of_getElem? (i := 351) (by decide +kernel)) rfl, by decide +kernel, by decide⟩
theorem mvX6_mostServed : MtV YX6_mostServed := ⟨g_in (List.mem_of_getElem? (i := 350) (by decide +kernel)) rfl, g_in (List.mem_of_getElem? (i := 10) (by decide +kernel)) rfl⟩
theorem mcX6_countFrom : MtC YX6_countFrom 5 := ⟨g_in (List.mem_of_getElem? (i := 55) (by decide +kernel)) rfl, g_in (List.mem_of_getElem? (i := 354) (by decide +kernel)) rfl, by decide +kernel, by decide⟩
theorem msX6_countFrom : Cond.static YX6_countFrom.1 ∈ gtbl := g_in (List.mem_of_getElem? (i := 353) (by decide +kernel)) rfl
theorem mcX6_unitsInBest : MtC YX6_unitsInBest 2 := ⟨g_in (List.mem_of_getElem? (i := 55) (by decide +kernel)) rfl, g_in (List.mem_of_getElem? (i := 386) (by decide +kernel)) rfl, by decide +kernel, by decide⟩
theorem mvX6_unitsInBest : MtV YX6_unitsInBest := ⟨g_in (List.mem_of_getElem? (i := 385) (by decide +kernel)) rfl, g_in (List.mem_of_getElem? (i := 16) (by decide +kernel)) rfl⟩
theorem mcX6_paidTo : MtC YX6_paidTo 2 := ⟨g_in (List.mem_of_getElem? (i := 55) (by decide +kernel)) rfl, g_in (List.mem_of_getElem? (i := 390) (by decide +kernel)) rfl, by decide +kernel, by decide⟩
theorem mvX6_paidTo : MtV YX6_paidTo := ⟨g_in (List.mem_of_getElem? (i := 389) (by decide +kernel)) rfl, g_in (List.mem_of_getElem? (i := 17) (by decide +kernel)) rfl⟩
theorem mcX6_runYears : MtC YX6_runYears 0 := ⟨g_in (List.mem_of_getElem? (i := 55) (by decide +kernel)) rfl, g_in (List.mem_of_getElem? (i := 358) (by decide +kernel)) rfl, by decide +kernel, by decide⟩
theorem mvX6_runYears : MtV YX6_runYears := ⟨g_in (List.mem_of_getElem? (i := 357) (by decide +kernel)) rfl, g_in (List.mem_of_getElem? (i := 11) (by decide +kernel)) rfl⟩
theorem mcX6_sharesOf : MtC YX6_sharesOf 1 := ⟨g_in (List.mem_of_getElem? (i := 55) (by decide +kernel)) rfl, g_in (List.mem_of_getElem? (i := 477) (by decide +kernel)) rfl, by decide +kernel, by decide⟩
theorem mvX6_sharesOf : MtV YX6_sharesOf := ⟨g_in (List.mem_of_getElem? (i := 476) (by decide +kernel)) rfl, g_in (List.mem_of_getElem? (i := 25) (by decide +kernel)) rfl⟩
theorem mcX6_canBe : MtC YX6_canBe 1 := ⟨g_in (List.mem_of_getElem? (i := 55) (by decide +kernel)) rfl, g_in (List.mem_of_getElem? (i := 485) (by decide +kernel)) rfl, by decide +kernel, by decide⟩
theorem mvX6_canBe : MtV YX6_canBe := ⟨g_in (List.mem_of_getElem? (i := 484) (by decide +kernel)) rfl, g_in (List.mem_of_getElem? (i := 26) (by decide +kernel)) rfl⟩
theorem mcX6_changesTrial : MtC YX6_changesTrial 3 := ⟨g_in (List.mem_of_getElem? (i := 55) (by decide +kernel)) rfl, g_in (List.mem_of_getElem? (i := 489) (by decide +kernel)) rfl, by decide +kernel, by decide⟩
theorem mvX6_changesTrial : MtV YX6_changesTrial := ⟨g_in (List.mem_of_getElem? (i := 488) (by decide +kernel)) rfl, g_in (List.mem_of_getElem? (i := 27) (by decide +kernel)) rfl⟩
theorem mcX6_allSeenIsSo : MtC YX6_allSeenIsSo 1 := ⟨g_in (List.mem_of_getElem? (i := 55) (by decide +kernel)) rfl, g_in (List.mem_of_getElem? (i := 524) (by decide +kernel)) rfl, by decide +kernel, by decide⟩
theorem mvX6_allSeenIsSo : MtV YX6_allSeenIsSo := ⟨g_in (List.mem_of_getElem? (i := 523) (by decide +kernel)) rfl, g_in (List.mem_of_getElem? (i := 29) (by decide +kernel)) rfl⟩
theorem mcX6_chanceOfLeft : MtC YX6_chanceOfLeft 2 := ⟨g_in (List.mem_of_getElem? (i := 55) (by decide +kernel)) rfl, g_in (List.mem_of_getElem? (i := 532) (by decide +kernel)) rfl, by decide +kernel, by decide⟩
theorem mvX6_chanceOfLeft : MtV YX6_chanceOfLeft := ⟨g_in (List.mem_of_getElem? (i := 531) (by decide +kernel)) rfl, g_in (List.mem_of_getElem? (i := 30) (by decide +kernel)) rfl⟩
theorem mcX6_partOfFraction : MtC YX6_partOfFraction 3 := ⟨g_in (List.mem_of_getElem? (i := 55) (by decide +kernel)) rfl, g_in (List.mem_of_getElem? (i := 504) (by decide +kernel)) rfl, by decide +kernel, by decide⟩
theorem msX6_partOfFraction : Cond.static YX6_partOfFraction.1 ∈ gtbl := g_in (List.mem_of_getElem? (i := 503) (by decide +kernel)) rfl
theorem mcX6_spell : MtC YX6_spell 2 := ⟨g_in (List.mem_of_getElem? (i := 55) (by decide +kernel)) rfl, g_in (List.mem_of_getElem? (i := 447) (by decide +kernel)) rfl, by decide +kernel, by decide⟩
theorem mvX6_spell : MtV YX6_spell := ⟨g_in (List.mem_of_getElem? (i := 446) (by decide +kernel)) rfl, g_in (List.mem_of_getElem? (i := 23) (by decide +kernel)) rfl⟩
theorem mcX6_asFigures : MtC YX6_asFigures 2 := ⟨g_in (List.mem_of_getElem? (i := 55) (by decide +kernel)) rfl, g_in (List.mem_of_getElem? (i := 439) (by decide +kernel)) rfl, by decide +kernel, by decide⟩
theorem msX6_asFigures : Cond.static YX6_asFigures.1 ∈ gtbl := g_in (List.mem_of_getElem? (i := 438) (by decide +kernel)) rfl
theorem mcX7_in : MtC YX7_in 3 := ⟨g_in (List.mem_of_getElem? (i := 62) (by decide +kernel)) rfl, g_in (List.mem_of_getElem? (i := 662) (by decide +kernel)) rfl, by decide +kernel, by decide⟩
theorem msX7_in : Cond.static YX7_in.1 ∈ gtbl := g_in (List.mem_of_getElem? (i := 661) (by decide +kernel)) rfl
theorem mcX7_has : MtC YX7_has 2 := ⟨g_in (List.mem_of_getElem? (i := 62) (by decide +kernel)) rfl, g_in (List.mem_of_getElem? (i := 734) (by decide +kernel)) rfl, by decide +kernel, by decide⟩
theorem msX7_has : Cond.static YX7_has.1 ∈ gtbl := g_in (List.mem_of_getElem? (i := 733) (by decide +kernel)) rfl
theorem mcX7_power : MtC YX7_power 2 := ⟨g_in (List.mem_of_getElem? (i := 62) (by decide +kernel)) rfl, g_in (List.mem_of_getElem? (i := 715) (by decide +kernel)) rfl, by decide +kernel, by decide⟩
theorem msX7_power : Cond.static YX7_power.1 ∈ gtbl := g_in (List.mem_of_getElem? (i := 714) (by decide +kernel)) rfl
theorem mcX7_divisor : MtC YX7_divisor 2 := ⟨g_in (List.mem_of_getElem? (i := 62) (by decide +kernel)) rfl, g_in (List.mem_of_getElem? (i := 854) (by decide +kernel)) rfl, by decide +kernel, by decide⟩
theorem msX7_divisor : Cond.static YX7_divisor.1 ∈ gtbl := g_in (List.mem_of_getElem? (i := 853) (by decide +kernel)) rfl
theorem mcX7_fraction : MtC YX7_fraction 3 := ⟨g_in (List.mem_of_getElem? (i := 62) (by decide +kernel)) rfl, g_in (List.mem_of_getElem? (i := 851) (by decide +kernel)) rfl, by decide +kernel, by decide⟩
theorem msX7_fraction : Cond.static YX7_fraction.1 ∈ gtbl := g_in (List.mem_of_getElem? (i := 850) (by decide +kernel)) rfl
theorem mcX7_isField : MtC YX7_isField 1 := ⟨g_in (List.mem_of_getElem? (i := 62) (by decide +kernel)) rfl, g_in (List.mem_of_getElem? (i := 758) (by decide +kernel)) rfl, by decide +kernel, by decide⟩
theorem mvX7_isField : MtV YX7_isField := ⟨g_in (List.mem_of_getElem? (i := 757) (by decide +kernel)) rfl, g_in (List.mem_of_getElem? (i := 47) (by decide +kernel)) rfl⟩
theorem mcX7_isMaker : MtC YX7_isMaker 1 := ⟨g_in (List.mem_of_getElem? (i := 62) (by decide +kernel)) rfl, g_in (List.mem_of_getElem? (i := 731) (by decide +kernel)) rfl, by decide +kernel, by decide⟩
theorem mvX7_isMaker : MtV YX7_isMaker := ⟨g_in (List.mem_of_getElem? (i := 730) (by decide +kernel)) rfl, g_in (List.mem_of_getElem? (i := 42) (by decide +kernel)) rfl⟩
theorem mcX7_allMakers : MtC YX7_allMakers 0 := ⟨g_in (List.mem_of_getElem? (i := 62) (by decide +kernel)) rfl, g_in (List.mem_of_getElem? (i := 704) (by decide +kernel)) rfl, by decide +kernel, by decide⟩
theorem mvX7_allMakers : MtV YX7_allMakers := ⟨g_in (List.mem_of_getElem? (i := 703) (by decide +kernel)) rfl, g_in (List.mem_of_getElem? (i := 36) (by decide +kernel)) rfl⟩
theorem mcX7_write : MtC YX7_write 1 := ⟨g_in (List.mem_of_getElem? (i := 62) (by decide +kernel)) rfl, g_in (List.mem_of_getElem? (i := 658) (by decide +kernel)) rfl, by decide +kernel, by decide⟩
theorem mvX7_write : MtV YX7_write := ⟨g_in (List.mem_of_getElem? (i := 656) (by decide +kernel)) rfl, g_in (List.mem_of_getElem? (i := 657) (by decide +kernel)) rfl⟩
theorem mcX7_wipe : MtC YX7_wipe 0 := ⟨g_in (List.mem_of_getElem? (i := 62) (by decide +kernel)) rfl, g_in (List.mem_of_getElem? (i := 666) (by decide +kernel)) rfl, by decide +kernel, by decide⟩
theorem mvX7_wipe : MtV YX7_wipe := ⟨g_in (List.mem_of_getElem? (i := 664) (by decide +kernel)) rfl, g_in (List.mem_of_getElem? (i := 665) (by decide +kernel)) rfl⟩
theorem mcX7_weatherOf : MtC YX7_weatherOf 1 := ⟨g_in (List.mem_of_getElem? (i := 62) (by decide +kernel)) rfl, g_in (List.mem_of_getElem? (i := 681) (by decide +kernel)) rfl, by decide +kernel, by decide⟩
theorem msX7_weatherOf : Cond.static YX7_weatherOf.1 ∈ gtbl := g_in (List.mem_of_getElem? (i := 680) (by decide +kernel)) rfl
theorem mcX7_take : MtC YX7_take 1 := ⟨g_in (List.mem_of_getElem? (i := 62) (by decide +kernel)) rfl, g_in (List.mem_of_getElem? (i := 678) (by decide +kernel)) rfl, by decide +kernel, by decide⟩
theorem mvX7_take : MtV YX7_take := ⟨g_in (List.mem_of_getElem? (i := 677) (by decide +kernel)) rfl, g_in (List.mem_of_getElem? (i := 33) (by decide +kernel)) rfl⟩
theorem mcX7_takePart : MtC YX7_takePart 1 := ⟨g_in (List.mem_of_getElem? (i := 62) (by decide +kernel)) rfl, g_in (List.mem_of_getElem? (i := 687) (by decide +kernel)) rfl, by decide +kernel, by decide⟩
theorem mvX7_takePart : MtV YX7_takePart := ⟨g_in (List.mem_of_getElem? (i := 686) (by decide +kernel)) rfl, g_in (List.mem_of_getElem? (i := 34) (by decide +kernel)) rfl⟩
theorem mcX7_takeMore : MtC YX7_takeMore 2 := ⟨g_in (List.mem_of_getElem? (i := 62) (by decide +kernel)) rfl, g_in (List.mem_of_getElem? (i := 692) (by decide +kernel)) rfl, by decide +kernel, by decide⟩
theorem mvX7_takeMore : MtV YX7_takeMore := ⟨g_in (List.mem_of_getElem? (i := 691) (by decide +kernel)) rfl, g_in (List.mem_of_getElem? (i := 35) (by decide +kernel)) rfl⟩
theorem mcX7_readText : MtC YX7_readText 0 := ⟨g_in (List.mem_of_getElem? (i := 62) (by decide +kernel)) rfl, g_in (List.mem_of_getElem? (i := 674) (by decide +kernel)) rfl, by decide +kernel, by decide⟩
theorem mvX7_readText : MtV YX7_readText := ⟨g_in (List.mem_of_getElem? (i := 673) (by decide +kernel)) rfl, g_in (List.mem_of_getElem? (i := 32) (by decide +kernel)) rfl⟩
theorem mcX7_fault : MtC YX7_fault 0 := ⟨g_in (List.mem_of_getElem? (i := 62) (by decide +kernel)) rfl, g_in (List.mem_of_getElem? (i := 670) (by decide +kernel)) rfl, by decide +kernel, by decide⟩
theorem mvX7_fault : MtV YX7_fault := ⟨g_in (List.mem_of_getElem? (i := 668) (by decide +kernel)) rfl, g_in (List.mem_of_getElem? (i := 669) (by decide +kernel)) rfl⟩
theorem mcX7_tender : MtC YX7_tender 0 := ⟨g_in (List.mem_of_getElem? (i := 62) (by decide +kernel)) rfl, g_in (List.mem_of_getElem? (i := 696) (by decide +kernel)) rfl, by decide +kernel, by decide⟩
theorem mvX7_tender : MtV YX7_tender := ⟨g_in (List.mem_of_getElem? (i := 694) (by decide +kernel)) rfl, g_in (List.mem_of_getElem? (i := 695) (by decide +kernel)) rfl⟩
theorem mcX7_servedBy : MtC YX7_servedBy 3 := ⟨g_in (List.mem_of_getElem? (i := 62) (by decide +kernel)) rfl, g_in (List.mem_of_getElem? (i := 723) (by decide +kernel)) rfl, by decide +kernel, by decide⟩
theorem mvX7_servedBy : MtV YX7_servedBy := ⟨g_in (List.mem_of_getElem? (i := 722) (by decide +kernel)) rfl, g_in (List.mem_of_getElem? (i := 40) (by decide +kernel)) rfl⟩
theorem mcX7_mayServe : MtC YX7_mayServe 5 := ⟨g_in (List.mem_of_getElem? (i := 62) (by decide +kernel)) rfl, g_in (List.mem_of_getElem? (i := 727) (by decide +kernel)) rfl, by decide +kernel, by decide⟩
theorem mvX7_mayServe : MtV YX7_mayServe := ⟨g_in (List.mem_of_getElem? (i := 726) (by decide +kernel)) rfl, g_in (List.mem_of_getElem? (i := 41) (by decide +kernel)) rfl⟩
theorem mcX7_costOf : MtC YX7_costOf 4 := ⟨g_in (List.mem_of_getElem? (i := 62) (by decide +kernel)) rfl, g_in (List.mem_of_getElem? (i := 719) (by decide +kernel)) rfl, by decide +kernel, by decide⟩
theorem mvX7_costOf : MtV YX7_costOf := ⟨g_in (List.mem_of_getElem? (i := 718) (by decide +kernel)) rfl, g_in (List.mem_of_getElem? (i := 39) (by decide +kernel)) rfl⟩
theorem mcX7_find : MtC YX7_find 2 := ⟨g_in (List.mem_of_getElem? (i := 62) (by decide +kernel)) rfl, g_in (List.mem_of_getElem? (i := 712) (by decide +kernel)) rfl, by decide +kernel, by decide⟩
theorem mvX7_find : MtV YX7_find := ⟨g_in (List.mem_of_getElem? (i := 711) (by decide +kernel)) rfl, g_in (List.mem_of_getElem? (i := 38) (by decide +kernel)) rfl⟩
theorem mcX7_leastBy : MtC YX7_leastBy 2 := ⟨g_in (List.mem_of_getElem? (i := 62) (by decide +kernel)) rfl, g_in (List.mem_of_getElem? (i := 708) (by decide +kernel)) rfl, by decide +kernel, by decide⟩
theorem mvX7_leastBy : MtV YX7_leastBy := ⟨g_in (List.mem_of_getElem? (i := 707) (by decide +kernel)) rfl, g_in (List.mem_of_getElem? (i := 37) (by decide +kernel)) rfl⟩
theorem mcX7_unitsOf : MtC YX7_unitsOf 2 := ⟨g_in (List.mem_of_getElem? (i := 62) (by decide +kernel)) rfl, g_in (List.mem_of_getElem? (i := 750) (by decide +kernel)) rfl, by decide +kernel, by decide⟩
theorem mvX7_unitsOf : MtV YX7_unitsOf := ⟨g_in (List.mem_of_getElem? (i := 749) (by decide +kernel)) rfl, g_in (List.mem_of_getElem? (i := 46) (by decide +kernel)) rfl⟩
theorem mcX7_paid : MtC YX7_paid 2 := ⟨g_in (List.mem_of_getElem? (i := 62) (by decide +kernel)) rfl, g_in (List.mem_of_getElem? (i := 766) (by decide +kernel)) rfl, by decide +kernel, by decide⟩
theorem mvX7_paid : MtV YX7_paid := ⟨g_in (List.mem_of_getElem? (i := 765) (by decide +kernel)) rfl, g_in (List.mem_of_getElem? (i := 48) (by decide +kernel)) rfl⟩
theorem mcX7_mostOf : MtC YX7_mostOf 2 := ⟨g_in (List.mem_of_getElem? (i := 62) (by decide +kernel)) rfl, g_in (List.mem_of_getElem? (i := 738) (by decide +kernel)) rfl, by decide +kernel, by decide⟩
theorem mvX7_mostOf : MtV YX7_mostOf := ⟨g_in (List.mem_of_getElem? (i := 737) (by decide +kernel)) rfl, g_in (List.mem_of_getElem? (i := 43) (by decide +kernel)) rfl⟩
theorem mcX7_run : MtC YX7_run 0 := ⟨g_in (List.mem_of_getElem? (i := 62) (by decide +kernel)) rfl, g_in (List.mem_of_getElem? (i := 742) (by decide +kernel)) rfl, by decide +kernel, by decide⟩
theorem mvX7_run : MtV YX7_run := ⟨g_in (List.mem_of_getElem? (i := 741) (by decide +kernel)) rfl, g_in (List.mem_of_getElem? (i := 44) (by decide +kernel)) rfl⟩
theorem mcX7_layTrial : MtC YX7_layTrial 0 := ⟨g_in (List.mem_of_getElem? (i := 62) (by decide +kernel)) rfl, g_in (List.mem_of_getElem? (i := 746) (by decide +kernel)) rfl, by decide +kernel, by decide⟩
theorem mvX7_layTrial : MtV YX7_layTrial := ⟨g_in (List.mem_of_getElem? (i := 745) (by decide +kernel)) rfl, g_in (List.mem_of_getElem? (i := 45) (by decide +kernel)) rfl⟩
theorem mcX7_about : MtC YX7_about 1 := ⟨g_in (List.mem_of_getElem? (i := 62) (by decide +kernel)) rfl, g_in (List.mem_of_getElem? (i := 700) (by decide +kernel)) rfl, by decide +kernel, by decide⟩
theorem mvX7_about : MtV YX7_about := ⟨g_in (List.mem_of_getElem? (i := 698) (by decide +kernel)) rfl, g_in (List.mem_of_getElem? (i := 699) (by decide +kernel)) rfl⟩
theorem mcX7_field : MtC YX7_field 2 := ⟨g_in (List.mem_of_getElem? (i := 62) (by decide +kernel)) rfl, g_in (List.mem_of_getElem? (i := 754) (by decide +kernel)) rfl, by decide +kernel, by decide⟩
theorem mvX7_field : MtV YX7_field := ⟨g_in (List.mem_of_getElem? (i := 752) (by decide +kernel)) rfl, g_in (List.mem_of_getElem? (i := 753) (by decide +kernel)) rfl⟩
theorem mcX7_maker : MtC YX7_maker 2 := ⟨g_in (List.mem_of_getElem? (i := 62) (by decide +kernel)) rfl, g_in (List.mem_of_getElem? (i := 762) (by decide +kernel)) rfl, by decide +kernel, by decide⟩
theorem mvX7_maker : MtV YX7_maker := ⟨g_in (List.mem_of_getElem? (i := 760) (by decide +kernel)) rfl, g_in (List.mem_of_getElem? (i := 761) (by decide +kernel)) rfl⟩
theorem mcX7_change : MtC YX7_change 2 := ⟨g_in (List.mem_of_getElem? (i := 62) (by decide +kernel)) rfl, g_in (List.mem_of_getElem? (i := 775) (by decide +kernel)) rfl, by decide +kernel, by decide⟩
theorem mvX7_change : MtV YX7_change := ⟨g_in (List.mem_of_getElem? (i := 774) (by decide +kernel)) rfl, g_in (List.mem_of_getElem? (i := 49) (by decide +kernel)) rfl⟩
theorem mcX7_reprice : MtC YX7_reprice 2 := ⟨g_in (List.mem_of_getElem? (i := 62) (by decide +kernel)) rfl, g_in (List.mem_of_getElem? (i := 770) (by decide +kernel)) rfl, by decide +kernel, by decide⟩
theorem mvX7_reprice : MtV YX7_reprice := ⟨g_in (List.mem_of_getElem? (i := 768) (by decide +kernel)) rfl, g_in (List.mem_of_getElem? (i := 769) (by decide +kernel)) rfl⟩
theorem mcX7_restock : MtC YX7_restock 2 := ⟨g_in (List.mem_of_getElem? (i := 62) (by decide +kernel)) rfl, g_in (List.mem_of_getElem? (i := 779) (by decide +kernel)) rfl, by decide +kernel, by decide⟩
theorem mvX7_restock : MtV YX7_restock := ⟨g_in (List.mem_of_getElem? (i := 777) (by decide +kernel)) rfl, g_in (List.mem_of_getElem? (i := 778) (by decide +kernel)) rfl⟩
theorem mcX7_want : MtC YX7_want 2 := ⟨g_in (List.mem_of_getElem? (i := 62) (by decide +kernel)) rfl, g_in (List.mem_of_getElem? (i := 783) (by decide +kernel)) rfl, by decide +kernel, by decide⟩
theorem mvX7_want : MtV YX7_want := ⟨g_in (List.mem_of_getElem? (i := 781) (by decide +kernel)) rfl, g_in (List.mem_of_getElem? (i := 782) (by decide +kernel)) rfl⟩
theorem mcX7_bear : MtC YX7_bear 1 := ⟨g_in (List.mem_of_getElem? (i := 62) (by decide +kernel)) rfl, g_in (List.mem_of_getElem? (i := 787) (by decide +kernel)) rfl, by decide +kernel, by decide⟩
theorem mvX7_bear : MtV YX7_bear := ⟨g_in (List.mem_of_getElem? (i := 785) (by decide +kernel)) rfl, g_in (List.mem_of_getElem? (i := 786) (by decide +kernel)) rfl⟩
theorem mcX7_undo : MtC YX7_undo 0 := ⟨g_in (List.mem_of_getElem? (i := 62) (by decide +kernel)) rfl, g_in (List.mem_of_getElem? (i := 792) (by decide +kernel)) rfl, by decide +kernel, by decide⟩
theorem mvX7_undo : MtV YX7_undo := ⟨g_in (List.mem_of_getElem? (i := 790) (by decide +kernel)) rfl, g_in (List.mem_of_getElem? (i := 791) (by decide +kernel)) rfl⟩
theorem mcX7_best : MtC YX7_best 0 := ⟨g_in (List.mem_of_getElem? (i := 62) (by decide +kernel)) rfl, g_in (List.mem_of_getElem? (i := 796) (by decide +kernel)) rfl, by decide +kernel, by decide⟩
theorem mvX7_best : MtV YX7_best := ⟨g_in (List.mem_of_getElem? (i := 794) (by decide +kernel)) rfl, g_in (List.mem_of_getElem? (i := 795) (by decide +kernel)) rfl⟩
theorem mcX7_cost : MtC YX7_cost 1 := ⟨g_in (List.mem_of_getElem? (i := 62) (by decide +kernel)) rfl, g_in (List.mem_of_getElem? (i := 800) (by decide +kernel)) rfl, by decide +kernel, by decide⟩
theorem mvX7_cost : MtV YX7_cost := ⟨g_in (List.mem_of_getElem? (i := 798) (by decide +kernel)) rfl, g_in (List.mem_of_getElem? (i := 799) (by decide +kernel)) rfl⟩
theorem mcX7_gain : MtC YX7_gain 2 := ⟨g_in (List.mem_of_getElem? (i := 62) (by decide +kernel)) rfl, g_in (List.mem_of_getElem? (i := 804) (by decide +kernel)) rfl, by decide +kernel, by decide⟩
theorem mvX7_gain : MtV YX7_gain := ⟨g_in (List.mem_of_getElem? (i := 802) (by decide +kernel)) rfl, g_in (List.mem_of_getElem? (i := 803) (by decide +kernel)) rfl⟩
theorem mcX7_ran : MtC YX7_ran 1 := ⟨g_in (List.mem_of_getElem? (i := 62) (by decide +kernel)) rfl, g_in (List.mem_of_getElem? (i := 808) (by decide +kernel)) rfl, by decide +kernel, by decide⟩
theorem mvX7_ran : MtV YX7_ran := ⟨g_in (List.mem_of_getElem? (i := 806) (by decide +kernel)) rfl, g_in (List.mem_of_getElem? (i := 807) (by decide +kernel)) rfl⟩
theorem mcX7_least : MtC YX7_least 1 := ⟨g_in (List.mem_of_getElem? (i := 62) (by decide +kernel)) rfl, g_in (List.mem_of_getElem? (i := 813) (by decide +kernel)) rfl, by decide +kernel, by decide⟩
theorem mvX7_least : MtV YX7_least := ⟨g_in (List.mem_of_getElem? (i := 811) (by decide +kernel)) rfl, g_in (List.mem_of_getElem? (i := 812) (by decide +kernel)) rfl⟩
theorem mcX7_most : MtC YX7_most 1 := ⟨g_in (List.mem_of_getElem? (i := 62) (by decide +kernel)) rfl, g_in (List.mem_of_getElem? (i := 817) (by decide +kernel)) rfl, by decide +kernel, by decide⟩
theorem mvX7_most : MtV YX7_most := ⟨g_in (List.mem_of_getElem? (i := 815) (by decide +kernel)) rfl, g_in (List.mem_of_getElem? (i := 816) (by decide +kernel)) rfl⟩
theorem mcX7_sharesOf : MtC YX7_sharesOf 2 := ⟨g_in (List.mem_of_getElem? (i := 62) (by decide +kernel)) rfl, g_in (List.mem_of_getElem? (i := 825) (by decide +kernel)) rfl, by decide +kernel, by decide⟩
theorem mvX7_sharesOf : MtV YX7_sharesOf := ⟨g_in (List.mem_of_getElem? (i := 824) (by decide +kernel)) rfl, g_in (List.mem_of_getElem? (i := 50) (by decide +kernel)) rfl⟩
theorem mcX7_holds : MtC YX7_holds 1 := ⟨g_in (List.mem_of_getElem? (i := 62) (by decide +kernel)) rfl, g_in (List.mem_of_getElem? (i := 821) (by decide +kernel)) rfl, by decide +kernel, by decide⟩
theorem mvX7_holds : MtV YX7_holds := ⟨g_in (List.mem_of_getElem? (i := 819) (by decide +kernel)) rfl, g_in (List.mem_of_getElem? (i := 820) (by decide +kernel)) rfl⟩
theorem mcX7_judged : MtC YX7_judged 4 := ⟨g_in (List.mem_of_getElem? (i := 62) (by decide +kernel)) rfl, g_in (List.mem_of_getElem? (i := 837) (by decide +kernel)) rfl, by decide +kernel, by decide⟩
theorem mvX7_judged : MtV YX7_judged := ⟨g_in (List.mem_of_getElem? (i := 836) (by decide +kernel)) rfl, g_in (List.mem_of_getElem? (i := 51) (by decide +kernel)) rfl⟩
theorem mcX7_tenThousands : MtC YX7_tenThousands 1 := ⟨g_in (List.mem_of_getElem? (i := 62) (by decide +kernel)) rfl, g_in (List.mem_of_getElem? (i := 832) (by decide +kernel)) rfl, by decide +kernel, by decide⟩
theorem msX7_tenThousands : Cond.static YX7_tenThousands.1 ∈ gtbl := g_in (List.mem_of_getElem? (i := 831) (by decide +kernel)) rfl
theorem mcX7_judge : MtC YX7_judge 2 := ⟨g_in (List.mem_of_getElem? (i := 62) (by decide +kernel)) rfl, g_in (List.mem_of_getElem? (i := 829) (by decide +kernel)) rfl, by decide +kernel, by decide⟩
theorem mvX7_judge : MtV YX7_judge := ⟨g_in (List.mem_of_getElem? (i := 827) (by decide +kernel)) rfl, g_in (List.mem_of_getElem? (i := 828) (by decide +kernel)) rfl⟩
theorem mcX7_makerAt : MtC YX7_makerAt 2 := ⟨g_in (List.mem_of_getElem? (i := 62) (by decide +kernel)) rfl, g_in (List.mem_of_getElem? (i := 848) (by decide +kernel)) rfl, by decide +kernel, by decide⟩
theorem msX7_makerAt : Cond.static YX7_makerAt.1 ∈ gtbl := g_in (List.mem_of_getElem? (i := 847) (by decide +kernel)) rfl
theorem mcX7_isOrder : MtC YX7_isOrder 1 := ⟨g_in (List.mem_of_getElem? (i := 62) (by decide +kernel)) rfl, g_in (List.mem_of_getElem? (i := 845) (by decide +kernel)) rfl, by decide +kernel, by decide⟩
theorem mvX7_isOrder : MtV YX7_isOrder := ⟨g_in (List.mem_of_getElem? (i := 844) (by decide +kernel)) rfl, g_in (List.mem_of_getElem? (i := 52) (by decide +kernel)) rfl⟩
theorem mcX7_share : MtC YX7_share 2 := ⟨g_in (List.mem_of_getElem? (i := 62) (by decide +kernel)) rfl, g_in (List.mem_of_getElem? (i := 841) (by decide +kernel)) rfl, by decide +kernel, by decide⟩
theorem mvX7_share : MtV YX7_share := ⟨g_in (List.mem_of_getElem? (i := 839) (by decide +kernel)) rfl, g_in (List.mem_of_getElem? (i := 840) (by decide +kernel)) rfl⟩
theorem mcX7_see : MtC YX7_see 3 := ⟨g_in (List.mem_of_getElem? (i := 62) (by decide +kernel)) rfl, g_in (List.mem_of_getElem? (i := 858) (by decide +kernel)) rfl, by decide +kernel, by decide⟩
theorem mvX7_see : MtV YX7_see := ⟨g_in (List.mem_of_getElem? (i := 856) (by decide +kernel)) rfl, g_in (List.mem_of_getElem? (i := 857) (by decide +kernel)) rfl⟩
theorem mcX7_unsee : MtC YX7_unsee 0 := ⟨g_in (List.mem_of_getElem? (i := 62) (by decide +kernel)) rfl, g_in (List.mem_of_getElem? (i := 862) (by decide +kernel)) rfl, by decide +kernel, by decide⟩
theorem mvX7_unsee : MtV YX7_unsee := ⟨g_in (List.mem_of_getElem? (i := 860) (by decide +kernel)) rfl, g_in (List.mem_of_getElem? (i := 861) (by decide +kernel)) rfl⟩
theorem mcX7_agrees : MtC YX7_agrees 0 := ⟨g_in (List.mem_of_getElem? (i := 62) (by decide +kernel)) rfl, g_in (List.mem_of_getElem? (i := 870) (by decide +kernel)) rfl, by decide +kernel, by decide⟩
theorem mvX7_agrees : MtV YX7_agrees := ⟨g_in (List.mem_of_getElem? (i := 869) (by decide +kernel)) rfl, g_in (List.mem_of_getElem? (i := 53) (by decide +kernel)) rfl⟩
theorem mcX7_which : MtC YX7_which 1 := ⟨g_in (List.mem_of_getElem? (i := 62) (by decide +kernel)) rfl, g_in (List.mem_of_getElem? (i := 866) (by decide +kernel)) rfl, by decide +kernel, by decide⟩
theorem mvX7_which : MtV YX7_which := ⟨g_in (List.mem_of_getElem? (i := 864) (by decide +kernel)) rfl, g_in (List.mem_of_getElem? (i := 865) (by decide +kernel)) rfl⟩
theorem mcX7_gone : MtC YX7_gone 2 := ⟨g_in (List.mem_of_getElem? (i := 62) (by decide +kernel)) rfl, g_in (List.mem_of_getElem? (i := 874) (by decide +kernel)) rfl, by decide +kernel, by decide⟩
theorem mvX7_gone : MtV YX7_gone := ⟨g_in (List.mem_of_getElem? (i := 872) (by decide +kernel)) rfl, g_in (List.mem_of_getElem? (i := 873) (by decide +kernel)) rfl⟩
theorem mcX7_seed : MtC YX7_seed 1 := ⟨g_in (List.mem_of_getElem? (i := 62) (by decide +kernel)) rfl, g_in (List.mem_of_getElem? (i := 879) (by decide +kernel)) rfl, by decide +kernel, by decide⟩
theorem mvX7_seed : MtV YX7_seed := ⟨g_in (List.mem_of_getElem? (i := 877) (by decide +kernel)) rfl, g_in (List.mem_of_getElem? (i := 878) (by decide +kernel)) rfl⟩
theorem mcX7_drawn : MtC YX7_drawn 1 := ⟨g_in (List.mem_of_getElem? (i := 62) (by decide +kernel)) rfl, g_in (List.mem_of_getElem? (i := 883) (by decide +kernel)) rfl, by decide +kernel, by decide⟩
theorem mvX7_drawn : MtV YX7_drawn := ⟨g_in (List.mem_of_getElem? (i := 881) (by decide +kernel)) rfl, g_in (List.mem_of_getElem? (i := 882) (by decide +kernel)) rfl⟩
theorem mcX7_keep : MtC YX7_keep 1 := ⟨g_in (List.mem_of_getElem? (i := 62) (by decide +kernel)) rfl, g_in (List.mem_of_getElem? (i := 890) (by decide +kernel)) rfl, by decide +kernel, by decide⟩
theorem mvX7_keep : MtV YX7_keep := ⟨g_in (List.mem_of_getElem? (i := 888) (by decide +kernel)) rfl, g_in (List.mem_of_getElem? (i := 889) (by decide +kernel)) rfl⟩
theorem mcX7_again : MtC YX7_again 1 := ⟨g_in (List.mem_of_getElem? (i := 62) (by decide +kernel)) rfl, g_in (List.mem_of_getElem? (i := 894) (by decide +kernel)) rfl, by decide +kernel, by decide⟩
theorem mvX7_again : MtV YX7_again := ⟨g_in (List.mem_of_getElem? (i := 892) (by decide +kernel)) rfl, g_in (List.mem_of_getElem? (i := 893) (by decide +kernel)) rfl⟩
theorem mcJ6_bitCount_0f7a4 : MtC YJ6_bitCount_0f7a4 1 := ⟨g_in (List.mem_of_getElem? (i := 63) (by decide +kernel)) rfl, g_in (List.mem_of_getElem? (i := 496) (by decide +kernel)) rfl, by decide +kernel, by decide⟩
theorem msJ6_bitCount_0f7a4 : Cond.static YJ6_bitCount_0f7a4.1 ∈ gtbl := g_in (List.mem_of_getElem? (i := 495) (by decide +kernel)) rfl
theorem fp0_0 : Fpt 0 0 .int := fun C T N h => by cases h; exact ⟨rfl, by decide +kernel⟩
theorem fp1_0 : Fpt 1 0 .int := fun C T N h => by cases h; exact ⟨rfl, by decide +kernel⟩
theorem fp1_1 : Fpt 1 1 .int := fun C T N h => by cases h; exact ⟨rfl, by decide +kernel⟩
theorem fp1_2 : Fpt 1 2 .int := fun C T N h => by cases h; exact ⟨rfl, by decide +kernel⟩
theorem fp2_0 : Fpt 2 0 .int := fun C T N h => by cases h; exact ⟨rfl, by decide +kernel⟩
theorem fp3_0 : Fpt 3 0 .int := fun C T N h => by cases h; exact ⟨rfl, by decide +kernel⟩
theorem fp4_0 : Fpt 4 0 .int := fun C T N h => by cases h; exact ⟨rfl, by decide +kernel⟩
theorem fp4_1 : Fpt 4 1 .int := fun C T N h => by cases h; exact ⟨rfl, by decide +kernel⟩
theorem fp4_2 : Fpt 4 2 .int := fun C T N h => by cases h; exact ⟨rfl, by decide +kernel⟩
theorem fp5_0 : Fpt 5 0 .int := fun C T N h => by cases h; exact ⟨rfl, by decide +kernel⟩
theorem fp6_9 : Fpt 6 9 .int := fun C T N h => by cases h; exact ⟨rfl, by decide +kernel⟩
theorem fp6_10 : Fpt 6 10 .long := fun C T N h => by cases h; exact ⟨rfl, by decide +kernel⟩
theorem fp7_1 : Fpt 7 1 .int := fun C T N h => by cases h; exact ⟨rfl, by decide +kernel⟩
theorem fp7_2 : Fpt 7 2 .int := fun C T N h => by cases h; exact ⟨rfl, by decide +kernel⟩
theorem fp7_3 : Fpt 7 3 .int := fun C T N h => by cases h; exact ⟨rfl, by decide +kernel⟩
theorem fp7_9 : Fpt 7 9 .int := fun C T N h => by cases h; exact ⟨rfl, by decide +kernel⟩
theorem fp7_10 : Fpt 7 10 .int := fun C T N h => by cases h; exact ⟨rfl, by decide +kernel⟩
theorem fp7_13 : Fpt 7 13 .int := fun C T N h => by cases h; exact ⟨rfl, by decide +kernel⟩
theorem fp7_14 : Fpt 7 14 .int := fun C T N h => by cases h; exact ⟨rfl, by decide +kernel⟩
theorem fp7_21 : Fpt 7 21 .int := fun C T N h => by cases h; exact ⟨rfl, by decide +kernel⟩
theorem fp7_22 : Fpt 7 22 .long := fun C T N h => by cases h; exact ⟨rfl, by decide +kernel⟩
theorem fp7_23 : Fpt 7 23 .int := fun C T N h => by cases h; exact ⟨rfl, by decide +kernel⟩
theorem fp7_24 : Fpt 7 24 .int := fun C T N h => by cases h; exact ⟨rfl, by decide +kernel⟩
theorem fp7_27 : Fpt 7 27 .int := fun C T N h => by cases h; exact ⟨rfl, by decide +kernel⟩
theorem fp7_28 : Fpt 7 28 .int := fun C T N h => by cases h; exact ⟨rfl, by decide +kernel⟩
theorem fp7_29 : Fpt 7 29 .int := fun C T N h => by cases h; exact ⟨rfl, by decide +kernel⟩
theorem fp7_30 : Fpt 7 30 .int := fun C T N h => by cases h; exact ⟨rfl, by decide +kernel⟩
end
