-- ===== PART A: goes FIRST, ahead of the names: the tables' words, and 'selects' of the private methods out of them =====
/-- a private method of a class that the tables say can be made, by its rows of tables_1 -/
def lw_okq (q : MethodName × Nat) : Prop := (q.1.cls ≠ "java/lang/invoke/MethodHandle" ∧ q.1.cls ≠ "java/lang/invoke/VarHandle") ∧ Cond.instantiable q.1.cls q.2 ∈ tables_1 ∧ Cond.privateMethod q.1 ∈ tables_1 ∧ Cond.instanceMethod q.1 ∈ tables_1
theorem lw_p0 : lw_okq (⟨"EndSums", "layAllAnew", "()V"⟩, 11) := ⟨⟨by decide +kernel, by decide +kernel⟩, List.mem_of_getElem? (i := 16) (by decide +kernel), List.mem_of_getElem? (i := 223) (by decide +kernel), List.mem_of_getElem? (i := 224) (by decide +kernel)⟩
theorem lw_p1 : lw_okq (⟨"EndSums", "lineAt", "(I)LEndSums$Line;"⟩, 11) := ⟨⟨by decide +kernel, by decide +kernel⟩, List.mem_of_getElem? (i := 16) (by decide +kernel), List.mem_of_getElem? (i := 227) (by decide +kernel), List.mem_of_getElem? (i := 228) (by decide +kernel)⟩
theorem lw_p2 : lw_okq (⟨"EndSums$Works", "layAsItLies", "(LEndSums$Line;)V"⟩, 4) := ⟨⟨by decide +kernel, by decide +kernel⟩, List.mem_of_getElem? (i := 70) (by decide +kernel), List.mem_of_getElem? (i := 231) (by decide +kernel), List.mem_of_getElem? (i := 232) (by decide +kernel)⟩
theorem lw_p3 : lw_okq (⟨"EndSums$Works", "hold", "(LEndSums$Line;)V"⟩, 4) := ⟨⟨by decide +kernel, by decide +kernel⟩, List.mem_of_getElem? (i := 70) (by decide +kernel), List.mem_of_getElem? (i := 235) (by decide +kernel), List.mem_of_getElem? (i := 236) (by decide +kernel)⟩
theorem lw_p4 : lw_okq (⟨"EndSums$Line", "size", "()I"⟩, 2) := ⟨⟨by decide +kernel, by decide +kernel⟩, List.mem_of_getElem? (i := 92) (by decide +kernel), List.mem_of_getElem? (i := 239) (by decide +kernel), List.mem_of_getElem? (i := 240) (by decide +kernel)⟩
theorem lw_p5 : lw_okq (⟨"EndSums$Line", "itemAt", "(I)I"⟩, 2) := ⟨⟨by decide +kernel, by decide +kernel⟩, List.mem_of_getElem? (i := 92) (by decide +kernel), List.mem_of_getElem? (i := 243) (by decide +kernel), List.mem_of_getElem? (i := 244) (by decide +kernel)⟩
theorem lw_p6 : lw_okq (⟨"EndSums$Line", "endOf", "(I)I"⟩, 2) := ⟨⟨by decide +kernel, by decide +kernel⟩, List.mem_of_getElem? (i := 92) (by decide +kernel), List.mem_of_getElem? (i := 247) (by decide +kernel), List.mem_of_getElem? (i := 248) (by decide +kernel)⟩
theorem lw_p7 : lw_okq (⟨"EndSums$Line", "pile", "(I)LEndSums$Pile;"⟩, 2) := ⟨⟨by decide +kernel, by decide +kernel⟩, List.mem_of_getElem? (i := 92) (by decide +kernel), List.mem_of_getElem? (i := 251) (by decide +kernel), List.mem_of_getElem? (i := 252) (by decide +kernel)⟩
theorem lw_p8 : lw_okq (⟨"EndSums$Line", "heightOf", "(I)I"⟩, 2) := ⟨⟨by decide +kernel, by decide +kernel⟩, List.mem_of_getElem? (i := 92) (by decide +kernel), List.mem_of_getElem? (i := 255) (by decide +kernel), List.mem_of_getElem? (i := 256) (by decide +kernel)⟩
theorem lw_p9 : lw_okq (⟨"EndSums$Works", "lay", "(LEndSums$Line;III)V"⟩, 4) := ⟨⟨by decide +kernel, by decide +kernel⟩, List.mem_of_getElem? (i := 70) (by decide +kernel), List.mem_of_getElem? (i := 265) (by decide +kernel), List.mem_of_getElem? (i := 266) (by decide +kernel)⟩
theorem lw_p10 : lw_okq (⟨"EndSums$Works", "make", "(LEndSums$Pile;II)V"⟩, 4) := ⟨⟨by decide +kernel, by decide +kernel⟩, List.mem_of_getElem? (i := 70) (by decide +kernel), List.mem_of_getElem? (i := 270) (by decide +kernel), List.mem_of_getElem? (i := 271) (by decide +kernel)⟩
theorem lw_p11 : lw_okq (⟨"EndSums$Joining", "emptyP", "()J"⟩, 4) := ⟨⟨by decide +kernel, by decide +kernel⟩, List.mem_of_getElem? (i := 24) (by decide +kernel), List.mem_of_getElem? (i := 274) (by decide +kernel), List.mem_of_getElem? (i := 275) (by decide +kernel)⟩
theorem lw_p12 : lw_okq (⟨"EndSums$Joining", "emptyQ", "()J"⟩, 4) := ⟨⟨by decide +kernel, by decide +kernel⟩, List.mem_of_getElem? (i := 24) (by decide +kernel), List.mem_of_getElem? (i := 283) (by decide +kernel), List.mem_of_getElem? (i := 284) (by decide +kernel)⟩
theorem lw_p13 : lw_okq (⟨"EndSums$Joining", "elementP", "(I)J"⟩, 4) := ⟨⟨by decide +kernel, by decide +kernel⟩, List.mem_of_getElem? (i := 24) (by decide +kernel), List.mem_of_getElem? (i := 287) (by decide +kernel), List.mem_of_getElem? (i := 288) (by decide +kernel)⟩
theorem lw_p14 : lw_okq (⟨"EndSums$Table", "kindOf", "(I)I"⟩, 3) := ⟨⟨by decide +kernel, by decide +kernel⟩, List.mem_of_getElem? (i := 30) (by decide +kernel), List.mem_of_getElem? (i := 291) (by decide +kernel), List.mem_of_getElem? (i := 292) (by decide +kernel)⟩
theorem lw_p15 : lw_okq (⟨"EndSums$Joining", "elementQ", "(I)J"⟩, 4) := ⟨⟨by decide +kernel, by decide +kernel⟩, List.mem_of_getElem? (i := 24) (by decide +kernel), List.mem_of_getElem? (i := 295) (by decide +kernel), List.mem_of_getElem? (i := 296) (by decide +kernel)⟩
def lw_privs_1 : List (MethodName × Nat) := [(⟨"EndSums", "layAllAnew", "()V"⟩, 11), (⟨"EndSums", "lineAt", "(I)LEndSums$Line;"⟩, 11), (⟨"EndSums$Works", "layAsItLies", "(LEndSums$Line;)V"⟩, 4), (⟨"EndSums$Works", "hold", "(LEndSums$Line;)V"⟩, 4), (⟨"EndSums$Line", "size", "()I"⟩, 2), (⟨"EndSums$Line", "itemAt", "(I)I"⟩, 2), (⟨"EndSums$Line", "endOf", "(I)I"⟩, 2), (⟨"EndSums$Line", "pile", "(I)LEndSums$Pile;"⟩, 2), (⟨"EndSums$Line", "heightOf", "(I)I"⟩, 2), (⟨"EndSums$Works", "lay", "(LEndSums$Line;III)V"⟩, 4), (⟨"EndSums$Works", "make", "(LEndSums$Pile;II)V"⟩, 4), (⟨"EndSums$Joining", "emptyP", "()J"⟩, 4), (⟨"EndSums$Joining", "emptyQ", "()J"⟩, 4), (⟨"EndSums$Joining", "elementP", "(I)J"⟩, 4), (⟨"EndSums$Table", "kindOf", "(I)I"⟩, 3), (⟨"EndSums$Joining", "elementQ", "(I)J"⟩, 4)]
theorem lw_r1 : ∀ q ∈ lw_privs_1, lw_okq q := List.forall_mem_cons.mpr ⟨lw_p0, List.forall_mem_cons.mpr ⟨lw_p1, List.forall_mem_cons.mpr ⟨lw_p2, List.forall_mem_cons.mpr ⟨lw_p3, List.forall_mem_cons.mpr ⟨lw_p4, List.forall_mem_cons.mpr ⟨lw_p5, List.forall_mem_cons.mpr ⟨lw_p6, List.forall_mem_cons.mpr ⟨lw_p7, List.forall_mem_cons.mpr ⟨lw_p8, List.forall_mem_cons.mpr ⟨lw_p9, List.forall_mem_cons.mpr ⟨lw_p10, List.forall_mem_cons.mpr ⟨lw_p11, List.forall_mem_cons.mpr ⟨lw_p12, List.forall_mem_cons.mpr ⟨lw_p13, List.forall_mem_cons.mpr ⟨lw_p14, List.forall_mem_cons.mpr ⟨lw_p15, fun _ h => absurd h List.not_mem_nil⟩⟩⟩⟩⟩⟩⟩⟩⟩⟩⟩⟩⟩⟩⟩⟩
theorem lw_p16 : lw_okq (⟨"EndSums$Joining", "join", "(JJJJ)V"⟩, 4) := ⟨⟨by decide +kernel, by decide +kernel⟩, List.mem_of_getElem? (i := 24) (by decide +kernel), List.mem_of_getElem? (i := 307) (by decide +kernel), List.mem_of_getElem? (i := 308) (by decide +kernel)⟩
theorem lw_p17 : lw_okq (⟨"EndSums$Joining", "startWith", "(JJ)V"⟩, 4) := ⟨⟨by decide +kernel, by decide +kernel⟩, List.mem_of_getElem? (i := 24) (by decide +kernel), List.mem_of_getElem? (i := 311) (by decide +kernel), List.mem_of_getElem? (i := 312) (by decide +kernel)⟩
theorem lw_p18 : lw_okq (⟨"EndSums$Table", "entry", "(II)I"⟩, 3) := ⟨⟨by decide +kernel, by decide +kernel⟩, List.mem_of_getElem? (i := 30) (by decide +kernel), List.mem_of_getElem? (i := 329) (by decide +kernel), List.mem_of_getElem? (i := 330) (by decide +kernel)⟩
theorem lw_p19 : lw_okq (⟨"EndSums$Pile", "grow", "(IJJI)V"⟩, 5) := ⟨⟨by decide +kernel, by decide +kernel⟩, List.mem_of_getElem? (i := 98) (by decide +kernel), List.mem_of_getElem? (i := 333) (by decide +kernel), List.mem_of_getElem? (i := 334) (by decide +kernel)⟩
theorem lw_p20 : lw_okq (⟨"EndSums$Text", "firstWrongInTable", "()I"⟩, 2) := ⟨⟨by decide +kernel, by decide +kernel⟩, List.mem_of_getElem? (i := 144) (by decide +kernel), List.mem_of_getElem? (i := 345) (by decide +kernel), List.mem_of_getElem? (i := 346) (by decide +kernel)⟩
theorem lw_p21 : lw_okq (⟨"EndSums$Text", "firstRow", "()I"⟩, 2) := ⟨⟨by decide +kernel, by decide +kernel⟩, List.mem_of_getElem? (i := 144) (by decide +kernel), List.mem_of_getElem? (i := 349) (by decide +kernel), List.mem_of_getElem? (i := 350) (by decide +kernel)⟩
theorem lw_p22 : lw_okq (⟨"EndSums$Text", "fitsTable", "(II)Z"⟩, 2) := ⟨⟨by decide +kernel, by decide +kernel⟩, List.mem_of_getElem? (i := 144) (by decide +kernel), List.mem_of_getElem? (i := 354) (by decide +kernel), List.mem_of_getElem? (i := 355) (by decide +kernel)⟩
theorem lw_p23 : lw_okq (⟨"EndSums$Text", "signOrBehind", "(I)I"⟩, 2) := ⟨⟨by decide +kernel, by decide +kernel⟩, List.mem_of_getElem? (i := 144) (by decide +kernel), List.mem_of_getElem? (i := 358) (by decide +kernel), List.mem_of_getElem? (i := 359) (by decide +kernel)⟩
theorem lw_p24 : lw_okq (⟨"EndSums$Table", "read", "(LEndSums$Text;)V"⟩, 3) := ⟨⟨by decide +kernel, by decide +kernel⟩, List.mem_of_getElem? (i := 30) (by decide +kernel), List.mem_of_getElem? (i := 365) (by decide +kernel), List.mem_of_getElem? (i := 366) (by decide +kernel)⟩
theorem lw_p25 : lw_okq (⟨"EndSums$Text", "signAt", "(I)I"⟩, 2) := ⟨⟨by decide +kernel, by decide +kernel⟩, List.mem_of_getElem? (i := 144) (by decide +kernel), List.mem_of_getElem? (i := 370) (by decide +kernel), List.mem_of_getElem? (i := 371) (by decide +kernel)⟩
theorem lw_p26 : lw_okq (⟨"EndSums$Table", "neutralOne", "()I"⟩, 3) := ⟨⟨by decide +kernel, by decide +kernel⟩, List.mem_of_getElem? (i := 30) (by decide +kernel), List.mem_of_getElem? (i := 375) (by decide +kernel), List.mem_of_getElem? (i := 376) (by decide +kernel)⟩
theorem lw_p27 : lw_okq (⟨"EndSums$Table", "firstNotAlike", "()I"⟩, 3) := ⟨⟨by decide +kernel, by decide +kernel⟩, List.mem_of_getElem? (i := 30) (by decide +kernel), List.mem_of_getElem? (i := 380) (by decide +kernel), List.mem_of_getElem? (i := 381) (by decide +kernel)⟩
theorem lw_p28 : lw_okq (⟨"EndSums", "tell", "(JJJ)V"⟩, 11) := ⟨⟨by decide +kernel, by decide +kernel⟩, List.mem_of_getElem? (i := 16) (by decide +kernel), List.mem_of_getElem? (i := 384) (by decide +kernel), List.mem_of_getElem? (i := 385) (by decide +kernel)⟩
theorem lw_p29 : lw_okq (⟨"EndSums", "tell", "(JJ)V"⟩, 11) := ⟨⟨by decide +kernel, by decide +kernel⟩, List.mem_of_getElem? (i := 16) (by decide +kernel), List.mem_of_getElem? (i := 388) (by decide +kernel), List.mem_of_getElem? (i := 389) (by decide +kernel)⟩
theorem lw_p30 : lw_okq (⟨"EndSums", "tell", "(J)V"⟩, 11) := ⟨⟨by decide +kernel, by decide +kernel⟩, List.mem_of_getElem? (i := 16) (by decide +kernel), List.mem_of_getElem? (i := 392) (by decide +kernel), List.mem_of_getElem? (i := 393) (by decide +kernel)⟩
theorem lw_p31 : lw_okq (⟨"EndSums", "tellMore", "(J)V"⟩, 11) := ⟨⟨by decide +kernel, by decide +kernel⟩, List.mem_of_getElem? (i := 16) (by decide +kernel), List.mem_of_getElem? (i := 396) (by decide +kernel), List.mem_of_getElem? (i := 397) (by decide +kernel)⟩
def lw_privs_2 : List (MethodName × Nat) := [(⟨"EndSums$Joining", "join", "(JJJJ)V"⟩, 4), (⟨"EndSums$Joining", "startWith", "(JJ)V"⟩, 4), (⟨"EndSums$Table", "entry", "(II)I"⟩, 3), (⟨"EndSums$Pile", "grow", "(IJJI)V"⟩, 5), (⟨"EndSums$Text", "firstWrongInTable", "()I"⟩, 2), (⟨"EndSums$Text", "firstRow", "()I"⟩, 2), (⟨"EndSums$Text", "fitsTable", "(II)Z"⟩, 2), (⟨"EndSums$Text", "signOrBehind", "(I)I"⟩, 2), (⟨"EndSums$Table", "read", "(LEndSums$Text;)V"⟩, 3), (⟨"EndSums$Text", "signAt", "(I)I"⟩, 2), (⟨"EndSums$Table", "neutralOne", "()I"⟩, 3), (⟨"EndSums$Table", "firstNotAlike", "()I"⟩, 3), (⟨"EndSums", "tell", "(JJJ)V"⟩, 11), (⟨"EndSums", "tell", "(JJ)V"⟩, 11), (⟨"EndSums", "tell", "(J)V"⟩, 11), (⟨"EndSums", "tellMore", "(J)V"⟩, 11)]
theorem lw_r2 : ∀ q ∈ lw_privs_2, lw_okq q := List.forall_mem_cons.mpr ⟨lw_p16, List.forall_mem_cons.mpr ⟨lw_p17, List.forall_mem_cons.mpr ⟨lw_p18, List.forall_mem_cons.mpr ⟨lw_p19, List.forall_mem_cons.mpr ⟨lw_p20, List.forall_mem_cons.mpr ⟨lw_p21, List.forall_mem_cons.mpr ⟨lw_p22, List.forall_mem_cons.mpr ⟨lw_p23, List.forall_mem_cons.mpr ⟨lw_p24, List.forall_mem_cons.mpr ⟨lw_p25, List.forall_mem_cons.mpr ⟨lw_p26, List.forall_mem_cons.mpr ⟨lw_p27, List.forall_mem_cons.mpr ⟨lw_p28, List.forall_mem_cons.mpr ⟨lw_p29, List.forall_mem_cons.mpr ⟨lw_p30, List.forall_mem_cons.mpr ⟨lw_p31, fun _ h => absurd h List.not_mem_nil⟩⟩⟩⟩⟩⟩⟩⟩⟩⟩⟩⟩⟩⟩⟩⟩
theorem lw_p32 : lw_okq (⟨"EndSums$Table", "become", "(LEndSums$Table;)V"⟩, 3) := ⟨⟨by decide +kernel, by decide +kernel⟩, List.mem_of_getElem? (i := 30) (by decide +kernel), List.mem_of_getElem? (i := 400) (by decide +kernel), List.mem_of_getElem? (i := 401) (by decide +kernel)⟩
theorem lw_p33 : lw_okq (⟨"EndSums$Joining", "start", "(I)V"⟩, 4) := ⟨⟨by decide +kernel, by decide +kernel⟩, List.mem_of_getElem? (i := 24) (by decide +kernel), List.mem_of_getElem? (i := 412) (by decide +kernel), List.mem_of_getElem? (i := 413) (by decide +kernel)⟩
theorem lw_p34 : lw_okq (⟨"EndSums$Joining", "follow", "(I)V"⟩, 4) := ⟨⟨by decide +kernel, by decide +kernel⟩, List.mem_of_getElem? (i := 24) (by decide +kernel), List.mem_of_getElem? (i := 418) (by decide +kernel), List.mem_of_getElem? (i := 419) (by decide +kernel)⟩
theorem lw_p35 : lw_okq (⟨"EndSums$Joining", "comesTo", "(JJ)Z"⟩, 4) := ⟨⟨by decide +kernel, by decide +kernel⟩, List.mem_of_getElem? (i := 24) (by decide +kernel), List.mem_of_getElem? (i := 423) (by decide +kernel), List.mem_of_getElem? (i := 424) (by decide +kernel)⟩
theorem lw_p36 : lw_okq (⟨"EndSums", "tell", "(JJJJ)V"⟩, 11) := ⟨⟨by decide +kernel, by decide +kernel⟩, List.mem_of_getElem? (i := 16) (by decide +kernel), List.mem_of_getElem? (i := 427) (by decide +kernel), List.mem_of_getElem? (i := 428) (by decide +kernel)⟩
theorem lw_p37 : lw_okq (⟨"EndSums$Joining", "power", "(II)I"⟩, 4) := ⟨⟨by decide +kernel, by decide +kernel⟩, List.mem_of_getElem? (i := 24) (by decide +kernel), List.mem_of_getElem? (i := 436) (by decide +kernel), List.mem_of_getElem? (i := 437) (by decide +kernel)⟩
theorem lw_p38 : lw_okq (⟨"EndSums$Joining", "startEmpty", "()V"⟩, 4) := ⟨⟨by decide +kernel, by decide +kernel⟩, List.mem_of_getElem? (i := 24) (by decide +kernel), List.mem_of_getElem? (i := 440) (by decide +kernel), List.mem_of_getElem? (i := 441) (by decide +kernel)⟩
theorem lw_p39 : lw_okq (⟨"EndSums", "keepSum", "(I)V"⟩, 11) := ⟨⟨by decide +kernel, by decide +kernel⟩, List.mem_of_getElem? (i := 16) (by decide +kernel), List.mem_of_getElem? (i := 453) (by decide +kernel), List.mem_of_getElem? (i := 454) (by decide +kernel)⟩
theorem lw_p40 : lw_okq (⟨"EndSums", "firstSumLike", "(I)I"⟩, 11) := ⟨⟨by decide +kernel, by decide +kernel⟩, List.mem_of_getElem? (i := 16) (by decide +kernel), List.mem_of_getElem? (i := 458) (by decide +kernel), List.mem_of_getElem? (i := 459) (by decide +kernel)⟩
theorem lw_p41 : lw_okq (⟨"EndSums", "sumIsJust", "(IJJ)Z"⟩, 11) := ⟨⟨by decide +kernel, by decide +kernel⟩, List.mem_of_getElem? (i := 16) (by decide +kernel), List.mem_of_getElem? (i := 463) (by decide +kernel), List.mem_of_getElem? (i := 464) (by decide +kernel)⟩
theorem lw_p42 : lw_okq (⟨"EndSums$Joining", "unlikeItems", "()I"⟩, 4) := ⟨⟨by decide +kernel, by decide +kernel⟩, List.mem_of_getElem? (i := 24) (by decide +kernel), List.mem_of_getElem? (i := 471) (by decide +kernel), List.mem_of_getElem? (i := 472) (by decide +kernel)⟩
theorem lw_p43 : lw_okq (⟨"EndSums$Joining", "undo", "(II)Z"⟩, 4) := ⟨⟨by decide +kernel, by decide +kernel⟩, List.mem_of_getElem? (i := 24) (by decide +kernel), List.mem_of_getElem? (i := 475) (by decide +kernel), List.mem_of_getElem? (i := 476) (by decide +kernel)⟩
theorem lw_p44 : lw_okq (⟨"EndSums$Works", "put", "(LEndSums$Line;II)V"⟩, 4) := ⟨⟨by decide +kernel, by decide +kernel⟩, List.mem_of_getElem? (i := 70) (by decide +kernel), List.mem_of_getElem? (i := 488) (by decide +kernel), List.mem_of_getElem? (i := 489) (by decide +kernel)⟩
theorem lw_p45 : lw_okq (⟨"EndSums$Works", "take", "(LEndSums$Line;I)I"⟩, 4) := ⟨⟨by decide +kernel, by decide +kernel⟩, List.mem_of_getElem? (i := 70) (by decide +kernel), List.mem_of_getElem? (i := 497) (by decide +kernel), List.mem_of_getElem? (i := 498) (by decide +kernel)⟩
theorem lw_p46 : lw_okq (⟨"EndSums$Line", "become", "(LEndSums$Line;)V"⟩, 2) := ⟨⟨by decide +kernel, by decide +kernel⟩, List.mem_of_getElem? (i := 92) (by decide +kernel), List.mem_of_getElem? (i := 505) (by decide +kernel), List.mem_of_getElem? (i := 506) (by decide +kernel)⟩
theorem lw_p47 : lw_okq (⟨"EndSums$Pile", "become", "(LEndSums$Pile;)V"⟩, 5) := ⟨⟨by decide +kernel, by decide +kernel⟩, List.mem_of_getElem? (i := 98) (by decide +kernel), List.mem_of_getElem? (i := 509) (by decide +kernel), List.mem_of_getElem? (i := 510) (by decide +kernel)⟩
def lw_privs_3 : List (MethodName × Nat) := [(⟨"EndSums$Table", "become", "(LEndSums$Table;)V"⟩, 3), (⟨"EndSums$Joining", "start", "(I)V"⟩, 4), (⟨"EndSums$Joining", "follow", "(I)V"⟩, 4), (⟨"EndSums$Joining", "comesTo", "(JJ)Z"⟩, 4), (⟨"EndSums", "tell", "(JJJJ)V"⟩, 11), (⟨"EndSums$Joining", "power", "(II)I"⟩, 4), (⟨"EndSums$Joining", "startEmpty", "()V"⟩, 4), (⟨"EndSums", "keepSum", "(I)V"⟩, 11), (⟨"EndSums", "firstSumLike", "(I)I"⟩, 11), (⟨"EndSums", "sumIsJust", "(IJJ)Z"⟩, 11), (⟨"EndSums$Joining", "unlikeItems", "()I"⟩, 4), (⟨"EndSums$Joining", "undo", "(II)Z"⟩, 4), (⟨"EndSums$Works", "put", "(LEndSums$Line;II)V"⟩, 4), (⟨"EndSums$Works", "take", "(LEndSums$Line;I)I"⟩, 4), (⟨"EndSums$Line", "become", "(LEndSums$Line;)V"⟩, 2), (⟨"EndSums$Pile", "become", "(LEndSums$Pile;)V"⟩, 5)]
theorem lw_r3 : ∀ q ∈ lw_privs_3, lw_okq q := List.forall_mem_cons.mpr ⟨lw_p32, List.forall_mem_cons.mpr ⟨lw_p33, List.forall_mem_cons.mpr ⟨lw_p34, List.forall_mem_cons.mpr ⟨lw_p35, List.forall_mem_cons.mpr ⟨lw_p36, List.forall_mem_cons.mpr ⟨lw_p37, List.forall_mem_cons.mpr ⟨lw_p38, List.forall_mem_cons.mpr ⟨lw_p39, List.forall_mem_cons.mpr ⟨lw_p40, List.forall_mem_cons.mpr ⟨lw_p41, List.forall_mem_cons.mpr ⟨lw_p42, List.forall_mem_cons.mpr ⟨lw_p43, List.forall_mem_cons.mpr ⟨lw_p44, List.forall_mem_cons.mpr ⟨lw_p45, List.forall_mem_cons.mpr ⟨lw_p46, List.forall_mem_cons.mpr ⟨lw_p47, fun _ h => absurd h List.not_mem_nil⟩⟩⟩⟩⟩⟩⟩⟩⟩⟩⟩⟩⟩⟩⟩⟩
theorem lw_p48 : lw_okq (⟨"EndSums$Works", "split", "(LEndSums$Line;ILEndSums$Line;)V"⟩, 4) := ⟨⟨by decide +kernel, by decide +kernel⟩, List.mem_of_getElem? (i := 70) (by decide +kernel), List.mem_of_getElem? (i := 524) (by decide +kernel), List.mem_of_getElem? (i := 525) (by decide +kernel)⟩
theorem lw_p49 : lw_okq (⟨"EndSums$Works", "turn", "(LEndSums$Line;)V"⟩, 4) := ⟨⟨by decide +kernel, by decide +kernel⟩, List.mem_of_getElem? (i := 70) (by decide +kernel), List.mem_of_getElem? (i := 532) (by decide +kernel), List.mem_of_getElem? (i := 533) (by decide +kernel)⟩
theorem lw_p50 : lw_okq (⟨"EndSums$Works", "remake", "(LEndSums$Pile;IIII)V"⟩, 4) := ⟨⟨by decide +kernel, by decide +kernel⟩, List.mem_of_getElem? (i := 70) (by decide +kernel), List.mem_of_getElem? (i := 544) (by decide +kernel), List.mem_of_getElem? (i := 545) (by decide +kernel)⟩
theorem lw_p51 : lw_okq (⟨"EndSums", "sumUp", "(LEndSums$Line;II)V"⟩, 11) := ⟨⟨by decide +kernel, by decide +kernel⟩, List.mem_of_getElem? (i := 16) (by decide +kernel), List.mem_of_getElem? (i := 560) (by decide +kernel), List.mem_of_getElem? (i := 561) (by decide +kernel)⟩
theorem lw_p52 : lw_okq (⟨"EndSums$Text", "firstWrongInActs", "()I"⟩, 2) := ⟨⟨by decide +kernel, by decide +kernel⟩, List.mem_of_getElem? (i := 144) (by decide +kernel), List.mem_of_getElem? (i := 572) (by decide +kernel), List.mem_of_getElem? (i := 573) (by decide +kernel)⟩
theorem lw_p53 : lw_okq (⟨"EndSums$Text", "isPut", "(I)Z"⟩, 2) := ⟨⟨by decide +kernel, by decide +kernel⟩, List.mem_of_getElem? (i := 144) (by decide +kernel), List.mem_of_getElem? (i := 576) (by decide +kernel), List.mem_of_getElem? (i := 577) (by decide +kernel)⟩
theorem lw_p54 : lw_okq (⟨"EndSums$Text", "isAct", "(I)Z"⟩, 2) := ⟨⟨by decide +kernel, by decide +kernel⟩, List.mem_of_getElem? (i := 144) (by decide +kernel), List.mem_of_getElem? (i := 581) (by decide +kernel), List.mem_of_getElem? (i := 582) (by decide +kernel)⟩
theorem lw_p55 : lw_okq (⟨"EndSums$Text", "digitsFrom", "(II)I"⟩, 2) := ⟨⟨by decide +kernel, by decide +kernel⟩, List.mem_of_getElem? (i := 144) (by decide +kernel), List.mem_of_getElem? (i := 585) (by decide +kernel), List.mem_of_getElem? (i := 586) (by decide +kernel)⟩
theorem lw_p56 : lw_okq (⟨"EndSums$Text", "itemBehind", "(II)I"⟩, 2) := ⟨⟨by decide +kernel, by decide +kernel⟩, List.mem_of_getElem? (i := 144) (by decide +kernel), List.mem_of_getElem? (i := 594) (by decide +kernel), List.mem_of_getElem? (i := 595) (by decide +kernel)⟩
theorem lw_p57 : lw_okq (⟨"EndSums", "act", "(LEndSums$Line;II)Z"⟩, 11) := ⟨⟨by decide +kernel, by decide +kernel⟩, List.mem_of_getElem? (i := 16) (by decide +kernel), List.mem_of_getElem? (i := 598) (by decide +kernel), List.mem_of_getElem? (i := 599) (by decide +kernel)⟩
theorem lw_p58 : lw_okq (⟨"EndSums$Text", "grow", "(I)V"⟩, 2) := ⟨⟨by decide +kernel, by decide +kernel⟩, List.mem_of_getElem? (i := 144) (by decide +kernel), List.mem_of_getElem? (i := 606) (by decide +kernel), List.mem_of_getElem? (i := 607) (by decide +kernel)⟩
theorem lw_p59 : lw_okq (⟨"EndSums", "stretch", "(LEndSums$Line;I)V"⟩, 11) := ⟨⟨by decide +kernel, by decide +kernel⟩, List.mem_of_getElem? (i := 16) (by decide +kernel), List.mem_of_getElem? (i := 635) (by decide +kernel), List.mem_of_getElem? (i := 636) (by decide +kernel)⟩
theorem lw_p60 : lw_okq (⟨"EndSums", "firstAtMost", "(II)I"⟩, 11) := ⟨⟨by decide +kernel, by decide +kernel⟩, List.mem_of_getElem? (i := 16) (by decide +kernel), List.mem_of_getElem? (i := 640) (by decide +kernel), List.mem_of_getElem? (i := 641) (by decide +kernel)⟩
theorem lw_p61 : lw_okq (⟨"EndSums", "sumsJust", "(JJI)I"⟩, 11) := ⟨⟨by decide +kernel, by decide +kernel⟩, List.mem_of_getElem? (i := 16) (by decide +kernel), List.mem_of_getElem? (i := 652) (by decide +kernel), List.mem_of_getElem? (i := 653) (by decide +kernel)⟩
theorem lw_p62 : lw_okq (⟨"EndSums", "firstJust", "(JJI)I"⟩, 11) := ⟨⟨by decide +kernel, by decide +kernel⟩, List.mem_of_getElem? (i := 16) (by decide +kernel), List.mem_of_getElem? (i := 656) (by decide +kernel), List.mem_of_getElem? (i := 657) (by decide +kernel)⟩
theorem lw_p63 : lw_okq (⟨"EndSums", "sumFirsts", "(LEndSums$Line;)V"⟩, 11) := ⟨⟨by decide +kernel, by decide +kernel⟩, List.mem_of_getElem? (i := 16) (by decide +kernel), List.mem_of_getElem? (i := 677) (by decide +kernel), List.mem_of_getElem? (i := 678) (by decide +kernel)⟩
def lw_privs_4 : List (MethodName × Nat) := [(⟨"EndSums$Works", "split", "(LEndSums$Line;ILEndSums$Line;)V"⟩, 4), (⟨"EndSums$Works", "turn", "(LEndSums$Line;)V"⟩, 4), (⟨"EndSums$Works", "remake", "(LEndSums$Pile;IIII)V"⟩, 4), (⟨"EndSums", "sumUp", "(LEndSums$Line;II)V"⟩, 11), (⟨"EndSums$Text", "firstWrongInActs", "()I"⟩, 2), (⟨"EndSums$Text", "isPut", "(I)Z"⟩, 2), (⟨"EndSums$Text", "isAct", "(I)Z"⟩, 2), (⟨"EndSums$Text", "digitsFrom", "(II)I"⟩, 2), (⟨"EndSums$Text", "itemBehind", "(II)I"⟩, 2), (⟨"EndSums", "act", "(LEndSums$Line;II)Z"⟩, 11), (⟨"EndSums$Text", "grow", "(I)V"⟩, 2), (⟨"EndSums", "stretch", "(LEndSums$Line;I)V"⟩, 11), (⟨"EndSums", "firstAtMost", "(II)I"⟩, 11), (⟨"EndSums", "sumsJust", "(JJI)I"⟩, 11), (⟨"EndSums", "firstJust", "(JJI)I"⟩, 11), (⟨"EndSums", "sumFirsts", "(LEndSums$Line;)V"⟩, 11)]
theorem lw_r4 : ∀ q ∈ lw_privs_4, lw_okq q := List.forall_mem_cons.mpr ⟨lw_p48, List.forall_mem_cons.mpr ⟨lw_p49, List.forall_mem_cons.mpr ⟨lw_p50, List.forall_mem_cons.mpr ⟨lw_p51, List.forall_mem_cons.mpr ⟨lw_p52, List.forall_mem_cons.mpr ⟨lw_p53, List.forall_mem_cons.mpr ⟨lw_p54, List.forall_mem_cons.mpr ⟨lw_p55, List.forall_mem_cons.mpr ⟨lw_p56, List.forall_mem_cons.mpr ⟨lw_p57, List.forall_mem_cons.mpr ⟨lw_p58, List.forall_mem_cons.mpr ⟨lw_p59, List.forall_mem_cons.mpr ⟨lw_p60, List.forall_mem_cons.mpr ⟨lw_p61, List.forall_mem_cons.mpr ⟨lw_p62, List.forall_mem_cons.mpr ⟨lw_p63, fun _ h => absurd h List.not_mem_nil⟩⟩⟩⟩⟩⟩⟩⟩⟩⟩⟩⟩⟩⟩⟩⟩
theorem lw_p64 : lw_okq (⟨"EndSums", "sumsLike", "(II)I"⟩, 11) := ⟨⟨by decide +kernel, by decide +kernel⟩, List.mem_of_getElem? (i := 16) (by decide +kernel), List.mem_of_getElem? (i := 681) (by decide +kernel), List.mem_of_getElem? (i := 682) (by decide +kernel)⟩
theorem lw_p65 : lw_okq (⟨"EndSums$Line", "cellsSharedWith", "(LEndSums$Line;)I"⟩, 2) := ⟨⟨by decide +kernel, by decide +kernel⟩, List.mem_of_getElem? (i := 92) (by decide +kernel), List.mem_of_getElem? (i := 692) (by decide +kernel), List.mem_of_getElem? (i := 693) (by decide +kernel)⟩
theorem lw_p66 : lw_okq (⟨"EndSums$Line", "markOf", "(I)I"⟩, 2) := ⟨⟨by decide +kernel, by decide +kernel⟩, List.mem_of_getElem? (i := 92) (by decide +kernel), List.mem_of_getElem? (i := 697) (by decide +kernel), List.mem_of_getElem? (i := 698) (by decide +kernel)⟩
theorem lw_p67 : lw_okq (⟨"EndSums$Line", "hasCell", "(III)Z"⟩, 2) := ⟨⟨by decide +kernel, by decide +kernel⟩, List.mem_of_getElem? (i := 92) (by decide +kernel), List.mem_of_getElem? (i := 701) (by decide +kernel), List.mem_of_getElem? (i := 702) (by decide +kernel)⟩
theorem lw_p68 : lw_okq (⟨"EndSums$Pile", "has", "(II)Z"⟩, 5) := ⟨⟨by decide +kernel, by decide +kernel⟩, List.mem_of_getElem? (i := 98) (by decide +kernel), List.mem_of_getElem? (i := 705) (by decide +kernel), List.mem_of_getElem? (i := 706) (by decide +kernel)⟩
theorem lw_p69 : lw_okq (⟨"EndSums$Line", "hasItemsOf", "(LEndSums$Line;)Z"⟩, 2) := ⟨⟨by decide +kernel, by decide +kernel⟩, List.mem_of_getElem? (i := 92) (by decide +kernel), List.mem_of_getElem? (i := 709) (by decide +kernel), List.mem_of_getElem? (i := 710) (by decide +kernel)⟩
theorem lw_p70 : lw_okq (⟨"EndSums", "linesWithCell", "(LEndSums$Line;II)I"⟩, 11) := ⟨⟨by decide +kernel, by decide +kernel⟩, List.mem_of_getElem? (i := 16) (by decide +kernel), List.mem_of_getElem? (i := 718) (by decide +kernel), List.mem_of_getElem? (i := 719) (by decide +kernel)⟩
theorem lw_p71 : lw_okq (⟨"EndSums$Takings", "seek", "(III)V"⟩, 6) := ⟨⟨by decide +kernel, by decide +kernel⟩, List.mem_of_getElem? (i := 158) (by decide +kernel), List.mem_of_getElem? (i := 734) (by decide +kernel), List.mem_of_getElem? (i := 735) (by decide +kernel)⟩
theorem lw_p72 : lw_okq (⟨"EndSums$Takings", "offer", "(IIII)V"⟩, 6) := ⟨⟨by decide +kernel, by decide +kernel⟩, List.mem_of_getElem? (i := 158) (by decide +kernel), List.mem_of_getElem? (i := 743) (by decide +kernel), List.mem_of_getElem? (i := 744) (by decide +kernel)⟩
theorem lw_p73 : lw_okq (⟨"EndSums$Takings", "swap", "()V"⟩, 6) := ⟨⟨by decide +kernel, by decide +kernel⟩, List.mem_of_getElem? (i := 158) (by decide +kernel), List.mem_of_getElem? (i := 747) (by decide +kernel), List.mem_of_getElem? (i := 748) (by decide +kernel)⟩
theorem lw_p74 : lw_okq (⟨"EndSums$Takings", "choose", "(I)V"⟩, 6) := ⟨⟨by decide +kernel, by decide +kernel⟩, List.mem_of_getElem? (i := 158) (by decide +kernel), List.mem_of_getElem? (i := 751) (by decide +kernel), List.mem_of_getElem? (i := 752) (by decide +kernel)⟩
theorem lw_p75 : lw_okq (⟨"java/lang/Throwable", "fillInStackTrace", "(I)Ljava/lang/Throwable;"⟩, 6) := ⟨⟨by decide +kernel, by decide +kernel⟩, List.mem_of_getElem? (i := 803) (by decide +kernel), List.mem_of_getElem? (i := 801) (by decide +kernel), List.mem_of_getElem? (i := 802) (by decide +kernel)⟩
theorem lw_p76 : lw_okq (⟨"EndSumsModel", "joinsTwo", "(II)V"⟩, 32) := ⟨⟨by decide +kernel, by decide +kernel⟩, List.mem_of_getElem? (i := 852) (by decide +kernel), List.mem_of_getElem? (i := 963) (by decide +kernel), List.mem_of_getElem? (i := 964) (by decide +kernel)⟩
theorem lw_p77 : lw_okq (⟨"EndSumsModel", "element", "(I)V"⟩, 32) := ⟨⟨by decide +kernel, by decide +kernel⟩, List.mem_of_getElem? (i := 852) (by decide +kernel), List.mem_of_getElem? (i := 967) (by decide +kernel), List.mem_of_getElem? (i := 968) (by decide +kernel)⟩
theorem lw_p78 : lw_okq (⟨"EndSumsModel", "is", "(JJ)V"⟩, 32) := ⟨⟨by decide +kernel, by decide +kernel⟩, List.mem_of_getElem? (i := 852) (by decide +kernel), List.mem_of_getElem? (i := 971) (by decide +kernel), List.mem_of_getElem? (i := 972) (by decide +kernel)⟩
theorem lw_p79 : lw_okq (⟨"EndSumsModel", "leaps", "(I)I"⟩, 32) := ⟨⟨by decide +kernel, by decide +kernel⟩, List.mem_of_getElem? (i := 852) (by decide +kernel), List.mem_of_getElem? (i := 975) (by decide +kernel), List.mem_of_getElem? (i := 976) (by decide +kernel)⟩
def lw_privs_5 : List (MethodName × Nat) := [(⟨"EndSums", "sumsLike", "(II)I"⟩, 11), (⟨"EndSums$Line", "cellsSharedWith", "(LEndSums$Line;)I"⟩, 2), (⟨"EndSums$Line", "markOf", "(I)I"⟩, 2), (⟨"EndSums$Line", "hasCell", "(III)Z"⟩, 2), (⟨"EndSums$Pile", "has", "(II)Z"⟩, 5), (⟨"EndSums$Line", "hasItemsOf", "(LEndSums$Line;)Z"⟩, 2), (⟨"EndSums", "linesWithCell", "(LEndSums$Line;II)I"⟩, 11), (⟨"EndSums$Takings", "seek", "(III)V"⟩, 6), (⟨"EndSums$Takings", "offer", "(IIII)V"⟩, 6), (⟨"EndSums$Takings", "swap", "()V"⟩, 6), (⟨"EndSums$Takings", "choose", "(I)V"⟩, 6), (⟨"java/lang/Throwable", "fillInStackTrace", "(I)Ljava/lang/Throwable;"⟩, 6), (⟨"EndSumsModel", "joinsTwo", "(II)V"⟩, 32), (⟨"EndSumsModel", "element", "(I)V"⟩, 32), (⟨"EndSumsModel", "is", "(JJ)V"⟩, 32), (⟨"EndSumsModel", "leaps", "(I)I"⟩, 32)]
theorem lw_r5 : ∀ q ∈ lw_privs_5, lw_okq q := List.forall_mem_cons.mpr ⟨lw_p64, List.forall_mem_cons.mpr ⟨lw_p65, List.forall_mem_cons.mpr ⟨lw_p66, List.forall_mem_cons.mpr ⟨lw_p67, List.forall_mem_cons.mpr ⟨lw_p68, List.forall_mem_cons.mpr ⟨lw_p69, List.forall_mem_cons.mpr ⟨lw_p70, List.forall_mem_cons.mpr ⟨lw_p71, List.forall_mem_cons.mpr ⟨lw_p72, List.forall_mem_cons.mpr ⟨lw_p73, List.forall_mem_cons.mpr ⟨lw_p74, List.forall_mem_cons.mpr ⟨lw_p75, List.forall_mem_cons.mpr ⟨lw_p76, List.forall_mem_cons.mpr ⟨lw_p77, List.forall_mem_cons.mpr ⟨lw_p78, List.forall_mem_cons.mpr ⟨lw_p79, fun _ h => absurd h List.not_mem_nil⟩⟩⟩⟩⟩⟩⟩⟩⟩⟩⟩⟩⟩⟩⟩⟩
theorem lw_p80 : lw_okq (⟨"EndSumsModel", "join", "(JJJJ)V"⟩, 32) := ⟨⟨by decide +kernel, by decide +kernel⟩, List.mem_of_getElem? (i := 852) (by decide +kernel), List.mem_of_getElem? (i := 985) (by decide +kernel), List.mem_of_getElem? (i := 986) (by decide +kernel)⟩
theorem lw_p81 : lw_okq (⟨"EndSumsModel", "arrangedBy", "(II)I"⟩, 32) := ⟨⟨by decide +kernel, by decide +kernel⟩, List.mem_of_getElem? (i := 852) (by decide +kernel), List.mem_of_getElem? (i := 995) (by decide +kernel), List.mem_of_getElem? (i := 996) (by decide +kernel)⟩
theorem lw_p82 : lw_okq (⟨"EndSumsModel", "enters", "(J)V"⟩, 32) := ⟨⟨by decide +kernel, by decide +kernel⟩, List.mem_of_getElem? (i := 852) (by decide +kernel), List.mem_of_getElem? (i := 1003) (by decide +kernel), List.mem_of_getElem? (i := 1004) (by decide +kernel)⟩
theorem lw_p83 : lw_okq (⟨"EndSumsModel", "power", "(II)I"⟩, 32) := ⟨⟨by decide +kernel, by decide +kernel⟩, List.mem_of_getElem? (i := 852) (by decide +kernel), List.mem_of_getElem? (i := 1012) (by decide +kernel), List.mem_of_getElem? (i := 1013) (by decide +kernel)⟩
theorem lw_p84 : lw_okq (⟨"EndSumsModel", "empty", "()V"⟩, 32) := ⟨⟨by decide +kernel, by decide +kernel⟩, List.mem_of_getElem? (i := 852) (by decide +kernel), List.mem_of_getElem? (i := 1016) (by decide +kernel), List.mem_of_getElem? (i := 1017) (by decide +kernel)⟩
theorem lw_p85 : lw_okq (⟨"EndSumsModel", "laysAll", "()V"⟩, 32) := ⟨⟨by decide +kernel, by decide +kernel⟩, List.mem_of_getElem? (i := 852) (by decide +kernel), List.mem_of_getElem? (i := 1035) (by decide +kernel), List.mem_of_getElem? (i := 1036) (by decide +kernel)⟩
theorem lw_p86 : lw_okq (⟨"EndSumsModel", "takesItems", "(I)I"⟩, 32) := ⟨⟨by decide +kernel, by decide +kernel⟩, List.mem_of_getElem? (i := 852) (by decide +kernel), List.mem_of_getElem? (i := 1039) (by decide +kernel), List.mem_of_getElem? (i := 1040) (by decide +kernel)⟩
theorem lw_p87 : lw_okq (⟨"EndSumsModel", "sizeOf", "(I)I"⟩, 32) := ⟨⟨by decide +kernel, by decide +kernel⟩, List.mem_of_getElem? (i := 852) (by decide +kernel), List.mem_of_getElem? (i := 1043) (by decide +kernel), List.mem_of_getElem? (i := 1044) (by decide +kernel)⟩
theorem lw_p88 : lw_okq (⟨"EndSumsModel", "itemAt", "(II)I"⟩, 32) := ⟨⟨by decide +kernel, by decide +kernel⟩, List.mem_of_getElem? (i := 852) (by decide +kernel), List.mem_of_getElem? (i := 1047) (by decide +kernel), List.mem_of_getElem? (i := 1048) (by decide +kernel)⟩
theorem lw_p89 : lw_okq (⟨"EndSumsModel", "placeOf", "(II)I"⟩, 32) := ⟨⟨by decide +kernel, by decide +kernel⟩, List.mem_of_getElem? (i := 852) (by decide +kernel), List.mem_of_getElem? (i := 1051) (by decide +kernel), List.mem_of_getElem? (i := 1052) (by decide +kernel)⟩
theorem lw_p90 : lw_okq (⟨"EndSumsModel", "lays", "(IIII)V"⟩, 32) := ⟨⟨by decide +kernel, by decide +kernel⟩, List.mem_of_getElem? (i := 852) (by decide +kernel), List.mem_of_getElem? (i := 1058) (by decide +kernel), List.mem_of_getElem? (i := 1059) (by decide +kernel)⟩
theorem lw_p91 : lw_okq (⟨"EndSumsModel", "makes", "(II)V"⟩, 32) := ⟨⟨by decide +kernel, by decide +kernel⟩, List.mem_of_getElem? (i := 852) (by decide +kernel), List.mem_of_getElem? (i := 1062) (by decide +kernel), List.mem_of_getElem? (i := 1063) (by decide +kernel)⟩
theorem lw_p92 : lw_okq (⟨"EndSumsModel", "reads", "()V"⟩, 32) := ⟨⟨by decide +kernel, by decide +kernel⟩, List.mem_of_getElem? (i := 852) (by decide +kernel), List.mem_of_getElem? (i := 1070) (by decide +kernel), List.mem_of_getElem? (i := 1071) (by decide +kernel)⟩
theorem lw_p93 : lw_okq (⟨"EndSumsModel", "readsTable", "()Z"⟩, 32) := ⟨⟨by decide +kernel, by decide +kernel⟩, List.mem_of_getElem? (i := 852) (by decide +kernel), List.mem_of_getElem? (i := 1074) (by decide +kernel), List.mem_of_getElem? (i := 1075) (by decide +kernel)⟩
theorem lw_p94 : lw_okq (⟨"EndSumsModel", "takesSign", "(I)Z"⟩, 32) := ⟨⟨by decide +kernel, by decide +kernel⟩, List.mem_of_getElem? (i := 852) (by decide +kernel), List.mem_of_getElem? (i := 1080) (by decide +kernel), List.mem_of_getElem? (i := 1081) (by decide +kernel)⟩
theorem lw_p95 : lw_okq (⟨"EndSumsModel", "isDigit", "()Z"⟩, 32) := ⟨⟨by decide +kernel, by decide +kernel⟩, List.mem_of_getElem? (i := 852) (by decide +kernel), List.mem_of_getElem? (i := 1084) (by decide +kernel), List.mem_of_getElem? (i := 1085) (by decide +kernel)⟩
def lw_privs_6 : List (MethodName × Nat) := [(⟨"EndSumsModel", "join", "(JJJJ)V"⟩, 32), (⟨"EndSumsModel", "arrangedBy", "(II)I"⟩, 32), (⟨"EndSumsModel", "enters", "(J)V"⟩, 32), (⟨"EndSumsModel", "power", "(II)I"⟩, 32), (⟨"EndSumsModel", "empty", "()V"⟩, 32), (⟨"EndSumsModel", "laysAll", "()V"⟩, 32), (⟨"EndSumsModel", "takesItems", "(I)I"⟩, 32), (⟨"EndSumsModel", "sizeOf", "(I)I"⟩, 32), (⟨"EndSumsModel", "itemAt", "(II)I"⟩, 32), (⟨"EndSumsModel", "placeOf", "(II)I"⟩, 32), (⟨"EndSumsModel", "lays", "(IIII)V"⟩, 32), (⟨"EndSumsModel", "makes", "(II)V"⟩, 32), (⟨"EndSumsModel", "reads", "()V"⟩, 32), (⟨"EndSumsModel", "readsTable", "()Z"⟩, 32), (⟨"EndSumsModel", "takesSign", "(I)Z"⟩, 32), (⟨"EndSumsModel", "isDigit", "()Z"⟩, 32)]
theorem lw_r6 : ∀ q ∈ lw_privs_6, lw_okq q := List.forall_mem_cons.mpr ⟨lw_p80, List.forall_mem_cons.mpr ⟨lw_p81, List.forall_mem_cons.mpr ⟨lw_p82, List.forall_mem_cons.mpr ⟨lw_p83, List.forall_mem_cons.mpr ⟨lw_p84, List.forall_mem_cons.mpr ⟨lw_p85, List.forall_mem_cons.mpr ⟨lw_p86, List.forall_mem_cons.mpr ⟨lw_p87, List.forall_mem_cons.mpr ⟨lw_p88, List.forall_mem_cons.mpr ⟨lw_p89, List.forall_mem_cons.mpr ⟨lw_p90, List.forall_mem_cons.mpr ⟨lw_p91, List.forall_mem_cons.mpr ⟨lw_p92, List.forall_mem_cons.mpr ⟨lw_p93, List.forall_mem_cons.mpr ⟨lw_p94, List.forall_mem_cons.mpr ⟨lw_p95, fun _ h => absurd h List.not_mem_nil⟩⟩⟩⟩⟩⟩⟩⟩⟩⟩⟩⟩⟩⟩⟩⟩
theorem lw_p96 : lw_okq (⟨"EndSumsModel", "hasUnlike", "()Z"⟩, 32) := ⟨⟨by decide +kernel, by decide +kernel⟩, List.mem_of_getElem? (i := 852) (by decide +kernel), List.mem_of_getElem? (i := 1089) (by decide +kernel), List.mem_of_getElem? (i := 1090) (by decide +kernel)⟩
theorem lw_p97 : lw_okq (⟨"EndSumsModel", "read", "(II)I"⟩, 32) := ⟨⟨by decide +kernel, by decide +kernel⟩, List.mem_of_getElem? (i := 852) (by decide +kernel), List.mem_of_getElem? (i := 1093) (by decide +kernel), List.mem_of_getElem? (i := 1094) (by decide +kernel)⟩
theorem lw_p98 : lw_okq (⟨"EndSumsModel", "isNeutral", "(I)Z"⟩, 32) := ⟨⟨by decide +kernel, by decide +kernel⟩, List.mem_of_getElem? (i := 852) (by decide +kernel), List.mem_of_getElem? (i := 1097) (by decide +kernel), List.mem_of_getElem? (i := 1098) (by decide +kernel)⟩
theorem lw_p99 : lw_okq (⟨"EndSumsModel", "takesOne", "(II)I"⟩, 32) := ⟨⟨by decide +kernel, by decide +kernel⟩, List.mem_of_getElem? (i := 852) (by decide +kernel), List.mem_of_getElem? (i := 1116) (by decide +kernel), List.mem_of_getElem? (i := 1117) (by decide +kernel)⟩
theorem lw_p100 : lw_okq (⟨"EndSumsModel", "tellsWork", "(II)I"⟩, 32) := ⟨⟨by decide +kernel, by decide +kernel⟩, List.mem_of_getElem? (i := 852) (by decide +kernel), List.mem_of_getElem? (i := 1120) (by decide +kernel), List.mem_of_getElem? (i := 1121) (by decide +kernel)⟩
theorem lw_p101 : lw_okq (⟨"EndSumsModel", "copiesTo", "(II)V"⟩, 32) := ⟨⟨by decide +kernel, by decide +kernel⟩, List.mem_of_getElem? (i := 852) (by decide +kernel), List.mem_of_getElem? (i := 1128) (by decide +kernel), List.mem_of_getElem? (i := 1129) (by decide +kernel)⟩
theorem lw_p102 : lw_okq (⟨"EndSumsModel", "turns", "(I)I"⟩, 32) := ⟨⟨by decide +kernel, by decide +kernel⟩, List.mem_of_getElem? (i := 852) (by decide +kernel), List.mem_of_getElem? (i := 1144) (by decide +kernel), List.mem_of_getElem? (i := 1145) (by decide +kernel)⟩
theorem lw_p103 : lw_okq (⟨"EndSumsModel", "isAt", "(II)Z"⟩, 32) := ⟨⟨by decide +kernel, by decide +kernel⟩, List.mem_of_getElem? (i := 852) (by decide +kernel), List.mem_of_getElem? (i := 1152) (by decide +kernel), List.mem_of_getElem? (i := 1153) (by decide +kernel)⟩
theorem lw_p104 : lw_okq (⟨"EndSumsModel", "makesAgain", "(IZII)V"⟩, 32) := ⟨⟨by decide +kernel, by decide +kernel⟩, List.mem_of_getElem? (i := 852) (by decide +kernel), List.mem_of_getElem? (i := 1156) (by decide +kernel), List.mem_of_getElem? (i := 1157) (by decide +kernel)⟩
theorem lw_p105 : lw_okq (⟨"EndSumsModel", "entersSummary", "(I)V"⟩, 32) := ⟨⟨by decide +kernel, by decide +kernel⟩, List.mem_of_getElem? (i := 852) (by decide +kernel), List.mem_of_getElem? (i := 1173) (by decide +kernel), List.mem_of_getElem? (i := 1174) (by decide +kernel)⟩
theorem lw_p106 : lw_okq (⟨"EndSumsModel", "summary", "(I)V"⟩, 32) := ⟨⟨by decide +kernel, by decide +kernel⟩, List.mem_of_getElem? (i := 852) (by decide +kernel), List.mem_of_getElem? (i := 1177) (by decide +kernel), List.mem_of_getElem? (i := 1178) (by decide +kernel)⟩
theorem lw_p107 : lw_okq (⟨"EndSumsModel", "passes", "()V"⟩, 32) := ⟨⟨by decide +kernel, by decide +kernel⟩, List.mem_of_getElem? (i := 852) (by decide +kernel), List.mem_of_getElem? (i := 1189) (by decide +kernel), List.mem_of_getElem? (i := 1190) (by decide +kernel)⟩
theorem lw_p108 : lw_okq (⟨"EndSumsModel", "readsAct", "(I)Z"⟩, 32) := ⟨⟨by decide +kernel, by decide +kernel⟩, List.mem_of_getElem? (i := 852) (by decide +kernel), List.mem_of_getElem? (i := 1193) (by decide +kernel), List.mem_of_getElem? (i := 1194) (by decide +kernel)⟩
theorem lw_p109 : lw_okq (⟨"EndSumsModel", "does", "(II)Z"⟩, 32) := ⟨⟨by decide +kernel, by decide +kernel⟩, List.mem_of_getElem? (i := 852) (by decide +kernel), List.mem_of_getElem? (i := 1197) (by decide +kernel), List.mem_of_getElem? (i := 1198) (by decide +kernel)⟩
theorem lw_p110 : lw_okq (⟨"EndSumsModel", "sums", "(III)V"⟩, 32) := ⟨⟨by decide +kernel, by decide +kernel⟩, List.mem_of_getElem? (i := 852) (by decide +kernel), List.mem_of_getElem? (i := 1213) (by decide +kernel), List.mem_of_getElem? (i := 1214) (by decide +kernel)⟩
theorem lw_p111 : lw_okq (⟨"EndSumsModel", "drainsBy", "(II)I"⟩, 32) := ⟨⟨by decide +kernel, by decide +kernel⟩, List.mem_of_getElem? (i := 852) (by decide +kernel), List.mem_of_getElem? (i := 1241) (by decide +kernel), List.mem_of_getElem? (i := 1242) (by decide +kernel)⟩
def lw_privs_7 : List (MethodName × Nat) := [(⟨"EndSumsModel", "hasUnlike", "()Z"⟩, 32), (⟨"EndSumsModel", "read", "(II)I"⟩, 32), (⟨"EndSumsModel", "isNeutral", "(I)Z"⟩, 32), (⟨"EndSumsModel", "takesOne", "(II)I"⟩, 32), (⟨"EndSumsModel", "tellsWork", "(II)I"⟩, 32), (⟨"EndSumsModel", "copiesTo", "(II)V"⟩, 32), (⟨"EndSumsModel", "turns", "(I)I"⟩, 32), (⟨"EndSumsModel", "isAt", "(II)Z"⟩, 32), (⟨"EndSumsModel", "makesAgain", "(IZII)V"⟩, 32), (⟨"EndSumsModel", "entersSummary", "(I)V"⟩, 32), (⟨"EndSumsModel", "summary", "(I)V"⟩, 32), (⟨"EndSumsModel", "passes", "()V"⟩, 32), (⟨"EndSumsModel", "readsAct", "(I)Z"⟩, 32), (⟨"EndSumsModel", "does", "(II)Z"⟩, 32), (⟨"EndSumsModel", "sums", "(III)V"⟩, 32), (⟨"EndSumsModel", "drainsBy", "(II)I"⟩, 32)]
theorem lw_r7 : ∀ q ∈ lw_privs_7, lw_okq q := List.forall_mem_cons.mpr ⟨lw_p96, List.forall_mem_cons.mpr ⟨lw_p97, List.forall_mem_cons.mpr ⟨lw_p98, List.forall_mem_cons.mpr ⟨lw_p99, List.forall_mem_cons.mpr ⟨lw_p100, List.forall_mem_cons.mpr ⟨lw_p101, List.forall_mem_cons.mpr ⟨lw_p102, List.forall_mem_cons.mpr ⟨lw_p103, List.forall_mem_cons.mpr ⟨lw_p104, List.forall_mem_cons.mpr ⟨lw_p105, List.forall_mem_cons.mpr ⟨lw_p106, List.forall_mem_cons.mpr ⟨lw_p107, List.forall_mem_cons.mpr ⟨lw_p108, List.forall_mem_cons.mpr ⟨lw_p109, List.forall_mem_cons.mpr ⟨lw_p110, List.forall_mem_cons.mpr ⟨lw_p111, fun _ h => absurd h List.not_mem_nil⟩⟩⟩⟩⟩⟩⟩⟩⟩⟩⟩⟩⟩⟩⟩⟩
theorem lw_p112 : lw_okq (⟨"EndSumsModel", "begins", "(I)V"⟩, 32) := ⟨⟨by decide +kernel, by decide +kernel⟩, List.mem_of_getElem? (i := 852) (by decide +kernel), List.mem_of_getElem? (i := 1245) (by decide +kernel), List.mem_of_getElem? (i := 1246) (by decide +kernel)⟩
theorem lw_p113 : lw_okq (⟨"EndSumsModel", "costs", "(I)I"⟩, 32) := ⟨⟨by decide +kernel, by decide +kernel⟩, List.mem_of_getElem? (i := 852) (by decide +kernel), List.mem_of_getElem? (i := 1249) (by decide +kernel), List.mem_of_getElem? (i := 1250) (by decide +kernel)⟩
theorem lw_p114 : lw_okq (⟨"EndSumsModel", "hasCell", "(II)Z"⟩, 32) := ⟨⟨by decide +kernel, by decide +kernel⟩, List.mem_of_getElem? (i := 852) (by decide +kernel), List.mem_of_getElem? (i := 1272) (by decide +kernel), List.mem_of_getElem? (i := 1273) (by decide +kernel)⟩
def lw_privs_8 : List (MethodName × Nat) := [(⟨"EndSumsModel", "begins", "(I)V"⟩, 32), (⟨"EndSumsModel", "costs", "(I)I"⟩, 32), (⟨"EndSumsModel", "hasCell", "(II)Z"⟩, 32)]
theorem lw_r8 : ∀ q ∈ lw_privs_8, lw_okq q := List.forall_mem_cons.mpr ⟨lw_p112, List.forall_mem_cons.mpr ⟨lw_p113, List.forall_mem_cons.mpr ⟨lw_p114, fun _ h => absurd h List.not_mem_nil⟩⟩⟩
def lw_privs : List (MethodName × Nat) := lw_privs_1 ++ (lw_privs_2 ++ (lw_privs_3 ++ (lw_privs_4 ++ (lw_privs_5 ++ (lw_privs_6 ++ (lw_privs_7 ++ (lw_privs_8)))))))
def lw_tbl : List Cond := k2_sels lw_privs ++ tables_1
theorem lw_privs_ok : ∀ q ∈ lw_privs, lw_okq q := by
  show ∀ q ∈ lw_privs_1 ++ (lw_privs_2 ++ (lw_privs_3 ++ (lw_privs_4 ++ (lw_privs_5 ++ (lw_privs_6 ++ (lw_privs_7 ++ (lw_privs_8))))))), lw_okq q
  exact List.forall_mem_append.mpr ⟨lw_r1, List.forall_mem_append.mpr ⟨lw_r2, List.forall_mem_append.mpr ⟨lw_r3, List.forall_mem_append.mpr ⟨lw_r4, List.forall_mem_append.mpr ⟨lw_r5, List.forall_mem_append.mpr ⟨lw_r6, List.forall_mem_append.mpr ⟨lw_r7, lw_r8⟩⟩⟩⟩⟩⟩⟩

def RX0 : String := "EndSums$Joining"
def TX0 : u_T := fun k => match k with
  | 0 => ("EndSums$Joining", "kind", "I", false)
  | 1 => ("EndSums$Joining", "table", "LEndSums$Table;", true)
  | 2 => ("EndSums$Joining", "p", "J", false)
  | _ => ("EndSums$Joining", "q", "J", false)
def tyX0 : Nat → FieldType := fun k => match k with
  | 0 => .int
  | 1 => .object "EndSums$Table"
  | 2 => .long
  | _ => .long
abbrev wsX00 : List Cond := u_ws RX0 TX0 4
theorem nmX0 : ∀ a, a < 4 → ∀ b, b < 4 → a ≠ b → (TX0 a).2.1 ≠ (TX0 b).2.1 := by decide +kernel
theorem tyX0_ok : ∀ k, k < 4 → parseFieldDescriptor (TX0 k).2.2.1 = some (tyX0 k) := by decide +kernel
abbrev cX0_init : ByteArray := prog_2_method_1_code
def yX0_init : MethodName := ⟨RX0, "<init>", "()V"⟩
abbrev cX0_startWith : ByteArray := prog_2_method_2_code
def yX0_startWith : MethodName := ⟨RX0, "startWith", "(JJ)V"⟩
abbrev cX0_comesTo : ByteArray := prog_2_method_3_code
def yX0_comesTo : MethodName := ⟨RX0, "comesTo", "(JJ)Z"⟩
abbrev cX0_startEmpty : ByteArray := prog_2_method_4_code
def yX0_startEmpty : MethodName := ⟨RX0, "startEmpty", "()V"⟩
abbrev cX0_start : ByteArray := prog_2_method_5_code
def yX0_start : MethodName := ⟨RX0, "start", "(I)V"⟩
abbrev cX0_follow : ByteArray := prog_2_method_6_code
def yX0_follow : MethodName := ⟨RX0, "follow", "(I)V"⟩
abbrev cX0_emptyP : ByteArray := prog_2_method_7_code
def yX0_emptyP : MethodName := ⟨RX0, "emptyP", "()J"⟩
abbrev cX0_emptyQ : ByteArray := prog_2_method_8_code
def yX0_emptyQ : MethodName := ⟨RX0, "emptyQ", "()J"⟩
abbrev cX0_elementP : ByteArray := prog_2_method_9_code
def yX0_elementP : MethodName := ⟨RX0, "elementP", "(I)J"⟩
abbrev cX0_elementQ : ByteArray := prog_2_method_10_code
def yX0_elementQ : MethodName := ⟨RX0, "elementQ", "(I)J"⟩
abbrev cX0_join : ByteArray := prog_2_method_11_code
def yX0_join : MethodName := ⟨RX0, "join", "(JJJJ)V"⟩
abbrev cX0_greatestDivisor : ByteArray := prog_2_method_12_code
def yX0_greatestDivisor : MethodName := ⟨RX0, "greatestDivisor", "(JJ)J"⟩
abbrev cX0_arrangement : ByteArray := prog_2_method_13_code
def yX0_arrangement : MethodName := ⟨RX0, "arrangement", "(I)I"⟩
abbrev cX0_leaps : ByteArray := prog_2_method_14_code
def yX0_leaps : MethodName := ⟨RX0, "leaps", "(I)I"⟩
abbrev cX0_arranged : ByteArray := prog_2_method_15_code
def yX0_arranged : MethodName := ⟨RX0, "arranged", "(II)I"⟩
abbrev cX0_power : ByteArray := prog_2_method_16_code
def yX0_power : MethodName := ⟨RX0, "power", "(II)I"⟩
abbrev cX0_unlikeItems : ByteArray := prog_2_method_17_code
def yX0_unlikeItems : MethodName := ⟨RX0, "unlikeItems", "()I"⟩
abbrev cX0_undo : ByteArray := prog_2_method_18_code
def yX0_undo : MethodName := ⟨RX0, "undo", "(II)Z"⟩
def RX1 : String := "EndSums$Line"
def TX1 : u_T := fun k => match k with
  | 0 => ("EndSums$Line", "front", "LEndSums$Pile;", true)
  | _ => ("EndSums$Line", "back", "LEndSums$Pile;", true)
def tyX1 : Nat → FieldType := fun k => match k with
  | 0 => .object "EndSums$Pile"
  | _ => .object "EndSums$Pile"
abbrev wsX10 : List Cond := u_ws RX1 TX1 2
theorem nmX1 : ∀ a, a < 2 → ∀ b, b < 2 → a ≠ b → (TX1 a).2.1 ≠ (TX1 b).2.1 := by decide +kernel
theorem tyX1_ok : ∀ k, k < 2 → parseFieldDescriptor (TX1 k).2.2.1 = some (tyX1 k) := by decide +kernel
abbrev cX1_init : ByteArray := prog_3_method_1_code
def yX1_init : MethodName := ⟨RX1, "<init>", "()V"⟩
abbrev cX1_size : ByteArray := prog_3_method_2_code
def yX1_size : MethodName := ⟨RX1, "size", "()I"⟩
abbrev cX1_pile : ByteArray := prog_3_method_3_code
def yX1_pile : MethodName := ⟨RX1, "pile", "(I)LEndSums$Pile;"⟩
abbrev cX1_endOf : ByteArray := prog_3_method_4_code
def yX1_endOf : MethodName := ⟨RX1, "endOf", "(I)I"⟩
abbrev cX1_heightOf : ByteArray := prog_3_method_5_code
def yX1_heightOf : MethodName := ⟨RX1, "heightOf", "(I)I"⟩
abbrev cX1_itemAt : ByteArray := prog_3_method_6_code
def yX1_itemAt : MethodName := ⟨RX1, "itemAt", "(I)I"⟩
abbrev cX1_markOf : ByteArray := prog_3_method_7_code
def yX1_markOf : MethodName := ⟨RX1, "markOf", "(I)I"⟩
abbrev cX1_become : ByteArray := prog_3_method_8_code
def yX1_become : MethodName := ⟨RX1, "become", "(LEndSums$Line;)V"⟩
abbrev cX1_hasCell : ByteArray := prog_3_method_9_code
def yX1_hasCell : MethodName := ⟨RX1, "hasCell", "(III)Z"⟩
abbrev cX1_cellsSharedWith : ByteArray := prog_3_method_10_code
def yX1_cellsSharedWith : MethodName := ⟨RX1, "cellsSharedWith", "(LEndSums$Line;)I"⟩
abbrev cX1_hasItemsOf : ByteArray := prog_3_method_11_code
def yX1_hasItemsOf : MethodName := ⟨RX1, "hasItemsOf", "(LEndSums$Line;)Z"⟩
def RX2 : String := "EndSums$Pile"
def TX2 : u_T := fun k => match k with
  | 0 => ("EndSums$Pile", "size", "I", false)
  | 1 => ("EndSums$Pile", "items", "[I", true)
  | 2 => ("EndSums$Pile", "ps", "[J", true)
  | 3 => ("EndSums$Pile", "qs", "[J", true)
  | _ => ("EndSums$Pile", "marks", "[I", true)
def tyX2 : Nat → FieldType := fun k => match k with
  | 0 => .int
  | 1 => .array .int
  | 2 => .array .long
  | 3 => .array .long
  | _ => .array .int
abbrev wsX20 : List Cond := u_ws RX2 TX2 5
theorem nmX2 : ∀ a, a < 5 → ∀ b, b < 5 → a ≠ b → (TX2 a).2.1 ≠ (TX2 b).2.1 := by decide +kernel
theorem tyX2_ok : ∀ k, k < 5 → parseFieldDescriptor (TX2 k).2.2.1 = some (tyX2 k) := by decide +kernel
abbrev cX2_init : ByteArray := prog_4_method_1_code
def yX2_init : MethodName := ⟨RX2, "<init>", "()V"⟩
abbrev cX2_grow : ByteArray := prog_4_method_2_code
def yX2_grow : MethodName := ⟨RX2, "grow", "(IJJI)V"⟩
abbrev cX2_become : ByteArray := prog_4_method_3_code
def yX2_become : MethodName := ⟨RX2, "become", "(LEndSums$Pile;)V"⟩
abbrev cX2_has : ByteArray := prog_4_method_4_code
def yX2_has : MethodName := ⟨RX2, "has", "(II)Z"⟩
def RX3 : String := "EndSums$Table"
def TX3 : u_T := fun k => match k with
  | 0 => ("EndSums$Table", "n", "I", false)
  | 1 => ("EndSums$Table", "neutral", "I", false)
  | _ => ("EndSums$Table", "entries", "[I", true)
def tyX3 : Nat → FieldType := fun k => match k with
  | 0 => .int
  | 1 => .int
  | _ => .array .int
abbrev wsX30 : List Cond := u_ws RX3 TX3 3
theorem nmX3 : ∀ a, a < 3 → ∀ b, b < 3 → a ≠ b → (TX3 a).2.1 ≠ (TX3 b).2.1 := by decide +kernel
theorem tyX3_ok : ∀ k, k < 3 → parseFieldDescriptor (TX3 k).2.2.1 = some (tyX3 k) := by decide +kernel
abbrev cX3_init : ByteArray := prog_5_method_1_code
def yX3_init : MethodName := ⟨RX3, "<init>", "()V"⟩
abbrev cX3_entry : ByteArray := prog_5_method_2_code
def yX3_entry : MethodName := ⟨RX3, "entry", "(II)I"⟩
abbrev cX3_kindOf : ByteArray := prog_5_method_3_code
def yX3_kindOf : MethodName := ⟨RX3, "kindOf", "(I)I"⟩
abbrev cX3_become : ByteArray := prog_5_method_4_code
def yX3_become : MethodName := ⟨RX3, "become", "(LEndSums$Table;)V"⟩
abbrev cX3_read : ByteArray := prog_5_method_5_code
def yX3_read : MethodName := ⟨RX3, "read", "(LEndSums$Text;)V"⟩
abbrev cX3_neutralOne : ByteArray := prog_5_method_6_code
def yX3_neutralOne : MethodName := ⟨RX3, "neutralOne", "()I"⟩
abbrev cX3_firstNotAlike : ByteArray := prog_5_method_7_code
def yX3_firstNotAlike : MethodName := ⟨RX3, "firstNotAlike", "()I"⟩
def RX4 : String := "EndSums$Takings"
def TX4 : u_T := fun k => match k with
  | 0 => ("EndSums$Takings", "costs", "[I", false)
  | 1 => ("EndSums$Takings", "ends", "[I", false)
  | 2 => ("EndSums$Takings", "nextCosts", "[I", false)
  | 3 => ("EndSums$Takings", "nextEnds", "[I", false)
  | 4 => ("EndSums$Takings", "dearestCost", "I", false)
  | _ => ("EndSums$Takings", "dearestEnds", "I", false)
def tyX4 : Nat → FieldType := fun k => match k with
  | 0 => .array .int
  | 1 => .array .int
  | 2 => .array .int
  | 3 => .array .int
  | 4 => .int
  | _ => .int
abbrev wsX40 : List Cond := u_ws RX4 TX4 6
theorem nmX4 : ∀ a, a < 6 → ∀ b, b < 6 → a ≠ b → (TX4 a).2.1 ≠ (TX4 b).2.1 := by decide +kernel
theorem tyX4_ok : ∀ k, k < 6 → parseFieldDescriptor (TX4 k).2.2.1 = some (tyX4 k) := by decide +kernel
abbrev cX4_init : ByteArray := prog_6_method_1_code
def yX4_init : MethodName := ⟨RX4, "<init>", "()V"⟩
abbrev cX4_cost : ByteArray := prog_6_method_2_code
def yX4_cost : MethodName := ⟨RX4, "cost", "(III)I"⟩
abbrev cX4_frontBehind : ByteArray := prog_6_method_3_code
def yX4_frontBehind : MethodName := ⟨RX4, "frontBehind", "(III)I"⟩
abbrev cX4_drain : ByteArray := prog_6_method_4_code
def yX4_drain : MethodName := ⟨RX4, "drain", "(II)I"⟩
abbrev cX4_seek : ByteArray := prog_6_method_5_code
def yX4_seek : MethodName := ⟨RX4, "seek", "(III)V"⟩
abbrev cX4_forget : ByteArray := prog_6_method_6_code
def yX4_forget : MethodName := ⟨RX4, "forget", "([I)V"⟩
abbrev cX4_offer : ByteArray := prog_6_method_7_code
def yX4_offer : MethodName := ⟨RX4, "offer", "(IIII)V"⟩
abbrev cX4_swap : ByteArray := prog_6_method_8_code
def yX4_swap : MethodName := ⟨RX4, "swap", "()V"⟩
abbrev cX4_choose : ByteArray := prog_6_method_9_code
def yX4_choose : MethodName := ⟨RX4, "choose", "(I)V"⟩
def RX5 : String := "EndSums$Text"
def TX5 : u_T := fun k => match k with
  | 0 => ("EndSums$Text", "length", "I", false)
  | _ => ("EndSums$Text", "signs", "[I", true)
def tyX5 : Nat → FieldType := fun k => match k with
  | 0 => .int
  | _ => .array .int
abbrev wsX50 : List Cond := u_ws RX5 TX5 2
theorem nmX5 : ∀ a, a < 2 → ∀ b, b < 2 → a ≠ b → (TX5 a).2.1 ≠ (TX5 b).2.1 := by decide +kernel
theorem tyX5_ok : ∀ k, k < 2 → parseFieldDescriptor (TX5 k).2.2.1 = some (tyX5 k) := by decide +kernel
abbrev cX5_init : ByteArray := prog_7_method_1_code
def yX5_init : MethodName := ⟨RX5, "<init>", "()V"⟩
abbrev cX5_grow : ByteArray := prog_7_method_2_code
def yX5_grow : MethodName := ⟨RX5, "grow", "(I)V"⟩
abbrev cX5_signAt : ByteArray := prog_7_method_3_code
def yX5_signAt : MethodName := ⟨RX5, "signAt", "(I)I"⟩
abbrev cX5_signOrBehind : ByteArray := prog_7_method_4_code
def yX5_signOrBehind : MethodName := ⟨RX5, "signOrBehind", "(I)I"⟩
abbrev cX5_isDigit : ByteArray := prog_7_method_5_code
def yX5_isDigit : MethodName := ⟨RX5, "isDigit", "(I)Z"⟩
abbrev cX5_firstRow : ByteArray := prog_7_method_6_code
def yX5_firstRow : MethodName := ⟨RX5, "firstRow", "()I"⟩
abbrev cX5_firstWrongInTable : ByteArray := prog_7_method_7_code
def yX5_firstWrongInTable : MethodName := ⟨RX5, "firstWrongInTable", "()I"⟩
abbrev cX5_fitsTable : ByteArray := prog_7_method_8_code
def yX5_fitsTable : MethodName := ⟨RX5, "fitsTable", "(II)Z"⟩
abbrev cX5_isAct : ByteArray := prog_7_method_9_code
def yX5_isAct : MethodName := ⟨RX5, "isAct", "(I)Z"⟩
abbrev cX5_isPut : ByteArray := prog_7_method_10_code
def yX5_isPut : MethodName := ⟨RX5, "isPut", "(I)Z"⟩
abbrev cX5_digitsFrom : ByteArray := prog_7_method_11_code
def yX5_digitsFrom : MethodName := ⟨RX5, "digitsFrom", "(II)I"⟩
abbrev cX5_firstWrongInActs : ByteArray := prog_7_method_12_code
def yX5_firstWrongInActs : MethodName := ⟨RX5, "firstWrongInActs", "()I"⟩
abbrev cX5_itemBehind : ByteArray := prog_7_method_13_code
def yX5_itemBehind : MethodName := ⟨RX5, "itemBehind", "(II)I"⟩
def RX6 : String := "EndSums$Works"
def TX6 : u_T := fun k => match k with
  | 0 => ("EndSums$Works", "joining", "LEndSums$Joining;", true)
  | 1 => ("EndSums$Works", "made", "I", false)
  | 2 => ("EndSums$Works", "rebuilt", "I", false)
  | _ => ("EndSums$Works", "held", "[I", true)
def tyX6 : Nat → FieldType := fun k => match k with
  | 0 => .object "EndSums$Joining"
  | 1 => .int
  | 2 => .int
  | _ => .array .int
abbrev wsX60 : List Cond := u_ws RX6 TX6 4
theorem nmX6 : ∀ a, a < 4 → ∀ b, b < 4 → a ≠ b → (TX6 a).2.1 ≠ (TX6 b).2.1 := by decide +kernel
theorem tyX6_ok : ∀ k, k < 4 → parseFieldDescriptor (TX6 k).2.2.1 = some (tyX6 k) := by decide +kernel
abbrev cX6_init : ByteArray := prog_8_method_1_code
def yX6_init : MethodName := ⟨RX6, "<init>", "(LEndSums$Joining;)V"⟩
abbrev cX6_make : ByteArray := prog_8_method_2_code
def yX6_make : MethodName := ⟨RX6, "make", "(LEndSums$Pile;II)V"⟩
abbrev cX6_put : ByteArray := prog_8_method_3_code
def yX6_put : MethodName := ⟨RX6, "put", "(LEndSums$Line;II)V"⟩
abbrev cX6_hold : ByteArray := prog_8_method_4_code
def yX6_hold : MethodName := ⟨RX6, "hold", "(LEndSums$Line;)V"⟩
abbrev cX6_lay : ByteArray := prog_8_method_5_code
def yX6_lay : MethodName := ⟨RX6, "lay", "(LEndSums$Line;III)V"⟩
abbrev cX6_layAsItLies : ByteArray := prog_8_method_6_code
def yX6_layAsItLies : MethodName := ⟨RX6, "layAsItLies", "(LEndSums$Line;)V"⟩
abbrev cX6_take : ByteArray := prog_8_method_7_code
def yX6_take : MethodName := ⟨RX6, "take", "(LEndSums$Line;I)I"⟩
abbrev cX6_split : ByteArray := prog_8_method_8_code
def yX6_split : MethodName := ⟨RX6, "split", "(LEndSums$Line;ILEndSums$Line;)V"⟩
abbrev cX6_turn : ByteArray := prog_8_method_9_code
def yX6_turn : MethodName := ⟨RX6, "turn", "(LEndSums$Line;)V"⟩
abbrev cX6_remake : ByteArray := prog_8_method_10_code
def yX6_remake : MethodName := ⟨RX6, "remake", "(LEndSums$Pile;IIII)V"⟩
def RX7 : String := "EndSums"
def TX7 : u_T := fun k => match k with
  | 0 => ("EndSums", "joining", "LEndSums$Joining;", true)
  | 1 => ("EndSums", "works", "LEndSums$Works;", true)
  | 2 => ("EndSums", "lines", "[LEndSums$Line;", true)
  | 3 => ("EndSums", "spare", "LEndSums$Line;", true)
  | 4 => ("EndSums", "fresh", "LEndSums$Table;", true)
  | 5 => ("EndSums", "text", "LEndSums$Text;", true)
  | 6 => ("EndSums", "takings", "LEndSums$Takings;", true)
  | 7 => ("EndSums", "told", "[J", true)
  | 8 => ("EndSums", "toldCount", "I", false)
  | 9 => ("EndSums", "sumsP", "[J", true)
  | _ => ("EndSums", "sumsQ", "[J", true)
def tyX7 : Nat → FieldType := fun k => match k with
  | 0 => .object "EndSums$Joining"
  | 1 => .object "EndSums$Works"
  | 2 => .array (.object "EndSums$Line")
  | 3 => .object "EndSums$Line"
  | 4 => .object "EndSums$Table"
  | 5 => .object "EndSums$Text"
  | 6 => .object "EndSums$Takings"
  | 7 => .array .long
  | 8 => .int
  | 9 => .array .long
  | _ => .array .long
abbrev wsX70 : List Cond := u_ws RX7 TX7 11
theorem nmX7 : ∀ a, a < 11 → ∀ b, b < 11 → a ≠ b → (TX7 a).2.1 ≠ (TX7 b).2.1 := by decide +kernel
theorem tyX7_ok : ∀ k, k < 11 → parseFieldDescriptor (TX7 k).2.2.1 = some (tyX7 k) := by decide +kernel
abbrev cX7_init : ByteArray := prog_1_method_1_code
def yX7_init : MethodName := ⟨RX7, "<init>", "()V"⟩
abbrev cX7_rule : ByteArray := prog_1_method_2_code
def yX7_rule : MethodName := ⟨RX7, "rule", "(I)I"⟩
abbrev cX7_table : ByteArray := prog_1_method_3_code
def yX7_table : MethodName := ⟨RX7, "table", "()I"⟩
abbrev cX7_commutes : ByteArray := prog_1_method_4_code
def yX7_commutes : MethodName := ⟨RX7, "commutes", "(II)I"⟩
abbrev cX7_powers : ByteArray := prog_1_method_5_code
def yX7_powers : MethodName := ⟨RX7, "powers", "(II)I"⟩
abbrev cX7_order : ByteArray := prog_1_method_6_code
def yX7_order : MethodName := ⟨RX7, "order", "(I)I"⟩
abbrev cX7_undoes : ByteArray := prog_1_method_7_code
def yX7_undoes : MethodName := ⟨RX7, "undoes", "(I)I"⟩
abbrev cX7_puts : ByteArray := prog_1_method_8_code
def yX7_puts : MethodName := ⟨RX7, "puts", "(III)I"⟩
abbrev cX7_takes : ByteArray := prog_1_method_9_code
def yX7_takes : MethodName := ⟨RX7, "takes", "(II)I"⟩
abbrev cX7_copies : ByteArray := prog_1_method_10_code
def yX7_copies : MethodName := ⟨RX7, "copies", "(II)I"⟩
abbrev cX7_joins : ByteArray := prog_1_method_11_code
def yX7_joins : MethodName := ⟨RX7, "joins", "(II)I"⟩
abbrev cX7_parts : ByteArray := prog_1_method_12_code
def yX7_parts : MethodName := ⟨RX7, "parts", "(III)I"⟩
abbrev cX7_reverses : ByteArray := prog_1_method_13_code
def yX7_reverses : MethodName := ⟨RX7, "reverses", "(I)I"⟩
abbrev cX7_changes : ByteArray := prog_1_method_14_code
def yX7_changes : MethodName := ⟨RX7, "changes", "(III)I"⟩
abbrev cX7_slips : ByteArray := prog_1_method_15_code
def yX7_slips : MethodName := ⟨RX7, "slips", "(III)I"⟩
abbrev cX7_drops : ByteArray := prog_1_method_16_code
def yX7_drops : MethodName := ⟨RX7, "drops", "(II)I"⟩
abbrev cX7_shifts : ByteArray := prog_1_method_17_code
def yX7_shifts : MethodName := ⟨RX7, "shifts", "(III)I"⟩
abbrev cX7_clears : ByteArray := prog_1_method_18_code
def yX7_clears : MethodName := ⟨RX7, "clears", "(I)I"⟩
abbrev cX7_run : ByteArray := prog_1_method_19_code
def yX7_run : MethodName := ⟨RX7, "run", "(I)I"⟩
abbrev cX7_sign : ByteArray := prog_1_method_20_code
def yX7_sign : MethodName := ⟨RX7, "sign", "(I)I"⟩
abbrev cX7_end : ByteArray := prog_1_method_21_code
def yX7_end : MethodName := ⟨RX7, "end", "(I)Z"⟩
abbrev cX7_sum : ByteArray := prog_1_method_22_code
def yX7_sum : MethodName := ⟨RX7, "sum", "(I)I"⟩
abbrev cX7_item : ByteArray := prog_1_method_23_code
def yX7_item : MethodName := ⟨RX7, "item", "(II)I"⟩
abbrev cX7_part : ByteArray := prog_1_method_24_code
def yX7_part : MethodName := ⟨RX7, "part", "(III)I"⟩
abbrev cX7_windows : ByteArray := prog_1_method_25_code
def yX7_windows : MethodName := ⟨RX7, "windows", "(II)I"⟩
abbrev cX7_first : ByteArray := prog_1_method_26_code
def yX7_first : MethodName := ⟨RX7, "first", "(II)I"⟩
abbrev cX7_longest : ByteArray := prog_1_method_27_code
def yX7_longest : MethodName := ⟨RX7, "longest", "(II)I"⟩
abbrev cX7_greatest : ByteArray := prog_1_method_28_code
def yX7_greatest : MethodName := ⟨RX7, "greatest", "(II)I"⟩
abbrev cX7_finds : ByteArray := prog_1_method_29_code
def yX7_finds : MethodName := ⟨RX7, "finds", "(III)I"⟩
abbrev cX7_drains : ByteArray := prog_1_method_30_code
def yX7_drains : MethodName := ⟨RX7, "drains", "(I)I"⟩
abbrev cX7_unlike : ByteArray := prog_1_method_31_code
def yX7_unlike : MethodName := ⟨RX7, "unlike", "(I)I"⟩
abbrev cX7_same : ByteArray := prog_1_method_32_code
def yX7_same : MethodName := ⟨RX7, "same", "(II)I"⟩
abbrev cX7_shared : ByteArray := prog_1_method_33_code
def yX7_shared : MethodName := ⟨RX7, "shared", "()I"⟩
abbrev cX7_would : ByteArray := prog_1_method_34_code
def yX7_would : MethodName := ⟨RX7, "would", "(II)I"⟩
abbrev cX7_dearest : ByteArray := prog_1_method_35_code
def yX7_dearest : MethodName := ⟨RX7, "dearest", "(II)I"⟩
abbrev cX7_count : ByteArray := prog_1_method_36_code
def yX7_count : MethodName := ⟨RX7, "count", "(I)I"⟩
abbrev cX7_row : ByteArray := prog_1_method_37_code
def yX7_row : MethodName := ⟨RX7, "row", "(I)J"⟩
abbrev cX7_lineAt : ByteArray := prog_1_method_38_code
def yX7_lineAt : MethodName := ⟨RX7, "lineAt", "(I)LEndSums$Line;"⟩
abbrev cX7_isEnd : ByteArray := prog_1_method_39_code
def yX7_isEnd : MethodName := ⟨RX7, "isEnd", "(I)Z"⟩
abbrev cX7_isItem : ByteArray := prog_1_method_40_code
def yX7_isItem : MethodName := ⟨RX7, "isItem", "(I)Z"⟩
abbrev cX7_at : ByteArray := prog_1_method_41_code
def yX7_at : MethodName := ⟨RX7, "at", "([II)I"⟩
abbrev cX7_at_ : ByteArray := prog_1_method_42_code
def yX7_at_ : MethodName := ⟨RX7, "at", "([JI)J"⟩
abbrev cX7_set : ByteArray := prog_1_method_43_code
def yX7_set : MethodName := ⟨RX7, "set", "([III)V"⟩
abbrev cX7_set_ : ByteArray := prog_1_method_44_code
def yX7_set_ : MethodName := ⟨RX7, "set", "([JIJ)V"⟩
abbrev cX7_tellMore : ByteArray := prog_1_method_45_code
def yX7_tellMore : MethodName := ⟨RX7, "tellMore", "(J)V"⟩
abbrev cX7_tell : ByteArray := prog_1_method_46_code
def yX7_tell : MethodName := ⟨RX7, "tell", "(J)V"⟩
abbrev cX7_tell_ : ByteArray := prog_1_method_47_code
def yX7_tell_ : MethodName := ⟨RX7, "tell", "(JJ)V"⟩
abbrev cX7_tell__ : ByteArray := prog_1_method_48_code
def yX7_tell__ : MethodName := ⟨RX7, "tell", "(JJJ)V"⟩
abbrev cX7_tell___ : ByteArray := prog_1_method_49_code
def yX7_tell___ : MethodName := ⟨RX7, "tell", "(JJJJ)V"⟩
abbrev cX7_layAllAnew : ByteArray := prog_1_method_50_code
def yX7_layAllAnew : MethodName := ⟨RX7, "layAllAnew", "()V"⟩
abbrev cX7_act : ByteArray := prog_1_method_51_code
def yX7_act : MethodName := ⟨RX7, "act", "(LEndSums$Line;II)Z"⟩
abbrev cX7_sumUp : ByteArray := prog_1_method_52_code
def yX7_sumUp : MethodName := ⟨RX7, "sumUp", "(LEndSums$Line;II)V"⟩
abbrev cX7_keepSum : ByteArray := prog_1_method_53_code
def yX7_keepSum : MethodName := ⟨RX7, "keepSum", "(I)V"⟩
abbrev cX7_sumFirsts : ByteArray := prog_1_method_54_code
def yX7_sumFirsts : MethodName := ⟨RX7, "sumFirsts", "(LEndSums$Line;)V"⟩
abbrev cX7_stretch : ByteArray := prog_1_method_55_code
def yX7_stretch : MethodName := ⟨RX7, "stretch", "(LEndSums$Line;I)V"⟩
abbrev cX7_sumIsJust : ByteArray := prog_1_method_56_code
def yX7_sumIsJust : MethodName := ⟨RX7, "sumIsJust", "(IJJ)Z"⟩
abbrev cX7_firstSumLike : ByteArray := prog_1_method_57_code
def yX7_firstSumLike : MethodName := ⟨RX7, "firstSumLike", "(I)I"⟩
abbrev cX7_sumsLike : ByteArray := prog_1_method_58_code
def yX7_sumsLike : MethodName := ⟨RX7, "sumsLike", "(II)I"⟩
abbrev cX7_sumsJust : ByteArray := prog_1_method_59_code
def yX7_sumsJust : MethodName := ⟨RX7, "sumsJust", "(JJI)I"⟩
abbrev cX7_firstJust : ByteArray := prog_1_method_60_code
def yX7_firstJust : MethodName := ⟨RX7, "firstJust", "(JJI)I"⟩
abbrev cX7_firstAtMost : ByteArray := prog_1_method_61_code
def yX7_firstAtMost : MethodName := ⟨RX7, "firstAtMost", "(II)I"⟩
abbrev cX7_linesWithCell : ByteArray := prog_1_method_62_code
def yX7_linesWithCell : MethodName := ⟨RX7, "linesWithCell", "(LEndSums$Line;II)I"⟩
def RX8 : String := "EndSumsModel"
def TX8 : u_T := fun k => match k with
  | 0 => ("EndSumsModel", "thrown", "I", false)
  | 1 => ("EndSumsModel", "told", "I", false)
  | 2 => ("EndSumsModel", "row", "[J", true)
  | 3 => ("EndSumsModel", "tape", "[I", true)
  | 4 => ("EndSumsModel", "taped", "I", false)
  | 5 => ("EndSumsModel", "at", "I", false)
  | 6 => ("EndSumsModel", "to", "I", false)
  | 7 => ("EndSumsModel", "rule", "I", false)
  | 8 => ("EndSumsModel", "wide", "I", false)
  | 9 => ("EndSumsModel", "neutral", "I", false)
  | 10 => ("EndSumsModel", "table", "[I", true)
  | 11 => ("EndSumsModel", "p", "J", false)
  | 12 => ("EndSumsModel", "q", "J", false)
  | 13 => ("EndSumsModel", "places", "[I", true)
  | 14 => ("EndSumsModel", "others", "[I", true)
  | 15 => ("EndSumsModel", "made", "[I", true)
  | 16 => ("EndSumsModel", "sumP", "[J", true)
  | 17 => ("EndSumsModel", "sumQ", "[J", true)
  | 18 => ("EndSumsModel", "many", "[I", true)
  | 19 => ("EndSumsModel", "cell", "[I", true)
  | 20 => ("EndSumsModel", "item", "[I", true)
  | 21 => ("EndSumsModel", "cellP", "[J", true)
  | 22 => ("EndSumsModel", "cellQ", "[J", true)
  | 23 => ("EndSumsModel", "work", "I", false)
  | 24 => ("EndSumsModel", "rebuilt", "I", false)
  | 25 => ("EndSumsModel", "items", "[I", true)
  | 26 => ("EndSumsModel", "readTable", "[I", true)
  | 27 => ("EndSumsModel", "readWide", "I", false)
  | 28 => ("EndSumsModel", "act", "[I", true)
  | 29 => ("EndSumsModel", "actItem", "[I", true)
  | 30 => ("EndSumsModel", "front", "I", false)
  | _ => ("EndSumsModel", "back", "I", false)
def tyX8 : Nat → FieldType := fun k => match k with
  | 0 => .int
  | 1 => .int
  | 2 => .array .long
  | 3 => .array .int
  | 4 => .int
  | 5 => .int
  | 6 => .int
  | 7 => .int
  | 8 => .int
  | 9 => .int
  | 10 => .array .int
  | 11 => .long
  | 12 => .long
  | 13 => .array .int
  | 14 => .array .int
  | 15 => .array .int
  | 16 => .array .long
  | 17 => .array .long
  | 18 => .array .int
  | 19 => .array .int
  | 20 => .array .int
  | 21 => .array .long
  | 22 => .array .long
  | 23 => .int
  | 24 => .int
  | 25 => .array .int
  | 26 => .array .int
  | 27 => .int
  | 28 => .array .int
  | 29 => .array .int
  | 30 => .int
  | _ => .int
abbrev wsX80 : List Cond := u_ws RX8 TX8 32
theorem nmX8 : ∀ a, a < 32 → ∀ b, b < 32 → a ≠ b → (TX8 a).2.1 ≠ (TX8 b).2.1 := by decide +kernel
theorem tyX8_ok : ∀ k, k < 32 → parseFieldDescriptor (TX8 k).2.2.1 = some (tyX8 k) := by decide +kernel
abbrev cX8_in : ByteArray := prog_10_method_2_code
def yX8_in : MethodName := ⟨RX8, "in", "(JJJ)Z"⟩
abbrev cX8_flag : ByteArray := prog_10_method_3_code
def yX8_flag : MethodName := ⟨RX8, "flag", "(Z)I"⟩
abbrev cX8_enters : ByteArray := prog_10_method_4_code
def yX8_enters : MethodName := ⟨RX8, "enters", "(J)V"⟩
abbrev cX8_sign : ByteArray := prog_10_method_5_code
def yX8_sign : MethodName := ⟨RX8, "sign", "(I)I"⟩
abbrev cX8_end : ByteArray := prog_10_method_6_code
def yX8_end : MethodName := ⟨RX8, "end", "(I)Z"⟩
abbrev cX8_reads : ByteArray := prog_10_method_7_code
def yX8_reads : MethodName := ⟨RX8, "reads", "()V"⟩
abbrev cX8_takesSign : ByteArray := prog_10_method_8_code
def yX8_takesSign : MethodName := ⟨RX8, "takesSign", "(I)Z"⟩
abbrev cX8_isDigit : ByteArray := prog_10_method_9_code
def yX8_isDigit : MethodName := ⟨RX8, "isDigit", "()Z"⟩
abbrev cX8_init : ByteArray := prog_10_method_10_code
def yX8_init : MethodName := ⟨RX8, "<init>", "()V"⟩
abbrev cX8_is : ByteArray := prog_10_method_11_code
def yX8_is : MethodName := ⟨RX8, "is", "(JJ)V"⟩
abbrev cX8_empty : ByteArray := prog_10_method_12_code
def yX8_empty : MethodName := ⟨RX8, "empty", "()V"⟩
abbrev cX8_element : ByteArray := prog_10_method_13_code
def yX8_element : MethodName := ⟨RX8, "element", "(I)V"⟩
abbrev cX8_common : ByteArray := prog_10_method_14_code
def yX8_common : MethodName := ⟨RX8, "common", "(JJ)J"⟩
abbrev cX8_lays : ByteArray := prog_10_method_15_code
def yX8_lays : MethodName := ⟨RX8, "lays", "(I[I)V"⟩
abbrev cX8_numberOf : ByteArray := prog_10_method_16_code
def yX8_numberOf : MethodName := ⟨RX8, "numberOf", "([I)I"⟩
abbrev cX8_leaps : ByteArray := prog_10_method_17_code
def yX8_leaps : MethodName := ⟨RX8, "leaps", "(I)I"⟩
abbrev cX8_arrangedBy : ByteArray := prog_10_method_18_code
def yX8_arrangedBy : MethodName := ⟨RX8, "arrangedBy", "(II)I"⟩
abbrev cX8_join : ByteArray := prog_10_method_19_code
def yX8_join : MethodName := ⟨RX8, "join", "(JJJJ)V"⟩
abbrev cX8_isItem : ByteArray := prog_10_method_20_code
def yX8_isItem : MethodName := ⟨RX8, "isItem", "(I)Z"⟩
abbrev cX8_joinsTwo : ByteArray := prog_10_method_21_code
def yX8_joinsTwo : MethodName := ⟨RX8, "joinsTwo", "(II)V"⟩
abbrev cX8_commutes : ByteArray := prog_10_method_22_code
def yX8_commutes : MethodName := ⟨RX8, "commutes", "(II)I"⟩
abbrev cX8_power : ByteArray := prog_10_method_23_code
def yX8_power : MethodName := ⟨RX8, "power", "(II)I"⟩
abbrev cX8_powers : ByteArray := prog_10_method_24_code
def yX8_powers : MethodName := ⟨RX8, "powers", "(II)I"⟩
abbrev cX8_order : ByteArray := prog_10_method_25_code
def yX8_order : MethodName := ⟨RX8, "order", "(I)I"⟩
abbrev cX8_undoes : ByteArray := prog_10_method_26_code
def yX8_undoes : MethodName := ⟨RX8, "undoes", "(I)I"⟩
abbrev cX8_isLine : ByteArray := prog_10_method_27_code
def yX8_isLine : MethodName := ⟨RX8, "isLine", "(I)Z"⟩
abbrev cX8_isEnd : ByteArray := prog_10_method_28_code
def yX8_isEnd : MethodName := ⟨RX8, "isEnd", "(I)Z"⟩
abbrev cX8_sizeOf : ByteArray := prog_10_method_29_code
def yX8_sizeOf : MethodName := ⟨RX8, "sizeOf", "(I)I"⟩
abbrev cX8_place : ByteArray := prog_10_method_30_code
def yX8_place : MethodName := ⟨RX8, "place", "(II)I"⟩
abbrev cX8_placeOf : ByteArray := prog_10_method_31_code
def yX8_placeOf : MethodName := ⟨RX8, "placeOf", "(II)I"⟩
abbrev cX8_itemAt : ByteArray := prog_10_method_32_code
def yX8_itemAt : MethodName := ⟨RX8, "itemAt", "(II)I"⟩
abbrev cX8_makes : ByteArray := prog_10_method_33_code
def yX8_makes : MethodName := ⟨RX8, "makes", "(II)V"⟩
abbrev cX8_takesItems : ByteArray := prog_10_method_34_code
def yX8_takesItems : MethodName := ⟨RX8, "takesItems", "(I)I"⟩
abbrev cX8_lays_ : ByteArray := prog_10_method_35_code
def yX8_lays_ : MethodName := ⟨RX8, "lays", "(IIII)V"⟩
abbrev cX8_laysAll : ByteArray := prog_10_method_36_code
def yX8_laysAll : MethodName := ⟨RX8, "laysAll", "()V"⟩
abbrev cX8_takesOne : ByteArray := prog_10_method_37_code
def yX8_takesOne : MethodName := ⟨RX8, "takesOne", "(II)I"⟩
abbrev cX8_copiesTo : ByteArray := prog_10_method_38_code
def yX8_copiesTo : MethodName := ⟨RX8, "copiesTo", "(II)V"⟩
abbrev cX8_rule : ByteArray := prog_10_method_39_code
def yX8_rule : MethodName := ⟨RX8, "rule", "(I)I"⟩
abbrev cX8_readsTable : ByteArray := prog_10_method_40_code
def yX8_readsTable : MethodName := ⟨RX8, "readsTable", "()Z"⟩
abbrev cX8_read : ByteArray := prog_10_method_41_code
def yX8_read : MethodName := ⟨RX8, "read", "(II)I"⟩
abbrev cX8_hasUnlike : ByteArray := prog_10_method_42_code
def yX8_hasUnlike : MethodName := ⟨RX8, "hasUnlike", "()Z"⟩
abbrev cX8_isNeutral : ByteArray := prog_10_method_43_code
def yX8_isNeutral : MethodName := ⟨RX8, "isNeutral", "(I)Z"⟩
abbrev cX8_table : ByteArray := prog_10_method_44_code
def yX8_table : MethodName := ⟨RX8, "table", "()I"⟩
abbrev cX8_puts : ByteArray := prog_10_method_45_code
def yX8_puts : MethodName := ⟨RX8, "puts", "(III)I"⟩
abbrev cX8_tellsWork : ByteArray := prog_10_method_46_code
def yX8_tellsWork : MethodName := ⟨RX8, "tellsWork", "(II)I"⟩
abbrev cX8_takes : ByteArray := prog_10_method_47_code
def yX8_takes : MethodName := ⟨RX8, "takes", "(II)I"⟩
abbrev cX8_copies : ByteArray := prog_10_method_48_code
def yX8_copies : MethodName := ⟨RX8, "copies", "(II)I"⟩
abbrev cX8_joins : ByteArray := prog_10_method_49_code
def yX8_joins : MethodName := ⟨RX8, "joins", "(II)I"⟩
abbrev cX8_parts : ByteArray := prog_10_method_50_code
def yX8_parts : MethodName := ⟨RX8, "parts", "(III)I"⟩
abbrev cX8_reverses : ByteArray := prog_10_method_51_code
def yX8_reverses : MethodName := ⟨RX8, "reverses", "(I)I"⟩
abbrev cX8_turns : ByteArray := prog_10_method_52_code
def yX8_turns : MethodName := ⟨RX8, "turns", "(I)I"⟩
abbrev cX8_makesAgain : ByteArray := prog_10_method_53_code
def yX8_makesAgain : MethodName := ⟨RX8, "makesAgain", "(IZII)V"⟩
abbrev cX8_isAt : ByteArray := prog_10_method_54_code
def yX8_isAt : MethodName := ⟨RX8, "isAt", "(II)Z"⟩
abbrev cX8_changes : ByteArray := prog_10_method_55_code
def yX8_changes : MethodName := ⟨RX8, "changes", "(III)I"⟩
abbrev cX8_slips : ByteArray := prog_10_method_56_code
def yX8_slips : MethodName := ⟨RX8, "slips", "(III)I"⟩
abbrev cX8_drops : ByteArray := prog_10_method_57_code
def yX8_drops : MethodName := ⟨RX8, "drops", "(II)I"⟩
abbrev cX8_summary : ByteArray := prog_10_method_58_code
def yX8_summary : MethodName := ⟨RX8, "summary", "(I)V"⟩
abbrev cX8_entersSummary : ByteArray := prog_10_method_59_code
def yX8_entersSummary : MethodName := ⟨RX8, "entersSummary", "(I)V"⟩
abbrev cX8_shifts : ByteArray := prog_10_method_60_code
def yX8_shifts : MethodName := ⟨RX8, "shifts", "(III)I"⟩
abbrev cX8_clears : ByteArray := prog_10_method_61_code
def yX8_clears : MethodName := ⟨RX8, "clears", "(I)I"⟩
abbrev cX8_passes : ByteArray := prog_10_method_62_code
def yX8_passes : MethodName := ⟨RX8, "passes", "()V"⟩
abbrev cX8_readsAct : ByteArray := prog_10_method_63_code
def yX8_readsAct : MethodName := ⟨RX8, "readsAct", "(I)Z"⟩
abbrev cX8_does : ByteArray := prog_10_method_64_code
def yX8_does : MethodName := ⟨RX8, "does", "(II)Z"⟩
abbrev cX8_run : ByteArray := prog_10_method_65_code
def yX8_run : MethodName := ⟨RX8, "run", "(I)I"⟩
abbrev cX8_sum : ByteArray := prog_10_method_66_code
def yX8_sum : MethodName := ⟨RX8, "sum", "(I)I"⟩
abbrev cX8_item : ByteArray := prog_10_method_67_code
def yX8_item : MethodName := ⟨RX8, "item", "(II)I"⟩
abbrev cX8_sums : ByteArray := prog_10_method_68_code
def yX8_sums : MethodName := ⟨RX8, "sums", "(III)V"⟩
abbrev cX8_part : ByteArray := prog_10_method_69_code
def yX8_part : MethodName := ⟨RX8, "part", "(III)I"⟩
abbrev cX8_windows : ByteArray := prog_10_method_70_code
def yX8_windows : MethodName := ⟨RX8, "windows", "(II)I"⟩
abbrev cX8_first : ByteArray := prog_10_method_71_code
def yX8_first : MethodName := ⟨RX8, "first", "(II)I"⟩
abbrev cX8_longest : ByteArray := prog_10_method_72_code
def yX8_longest : MethodName := ⟨RX8, "longest", "(II)I"⟩
abbrev cX8_greatest : ByteArray := prog_10_method_73_code
def yX8_greatest : MethodName := ⟨RX8, "greatest", "(II)I"⟩
abbrev cX8_finds : ByteArray := prog_10_method_74_code
def yX8_finds : MethodName := ⟨RX8, "finds", "(III)I"⟩
abbrev cX8_costs : ByteArray := prog_10_method_75_code
def yX8_costs : MethodName := ⟨RX8, "costs", "(I)I"⟩
abbrev cX8_begins : ByteArray := prog_10_method_76_code
def yX8_begins : MethodName := ⟨RX8, "begins", "(I)V"⟩
abbrev cX8_drainsBy : ByteArray := prog_10_method_77_code
def yX8_drainsBy : MethodName := ⟨RX8, "drainsBy", "(II)I"⟩
abbrev cX8_drains : ByteArray := prog_10_method_78_code
def yX8_drains : MethodName := ⟨RX8, "drains", "(I)I"⟩
abbrev cX8_would : ByteArray := prog_10_method_79_code
def yX8_would : MethodName := ⟨RX8, "would", "(II)I"⟩
abbrev cX8_dearest : ByteArray := prog_10_method_80_code
def yX8_dearest : MethodName := ⟨RX8, "dearest", "(II)I"⟩
abbrev cX8_unlike : ByteArray := prog_10_method_81_code
def yX8_unlike : MethodName := ⟨RX8, "unlike", "(I)I"⟩
abbrev cX8_hasCell : ByteArray := prog_10_method_82_code
def yX8_hasCell : MethodName := ⟨RX8, "hasCell", "(II)Z"⟩
abbrev cX8_same : ByteArray := prog_10_method_83_code
def yX8_same : MethodName := ⟨RX8, "same", "(II)I"⟩
abbrev cX8_shared : ByteArray := prog_10_method_84_code
def yX8_shared : MethodName := ⟨RX8, "shared", "()I"⟩
abbrev cX8_count : ByteArray := prog_10_method_85_code
def yX8_count : MethodName := ⟨RX8, "count", "(I)I"⟩
abbrev cX8_row : ByteArray := prog_10_method_86_code
def yX8_row : MethodName := ⟨RX8, "row", "(I)J"⟩
def RL : String := "EndSumsLaw"
abbrev cL_item : ByteArray := method_3_code
def yL_item : MethodName := ⟨RL, "item", "(LEndSums;II[J)I"⟩
abbrev cL_row : ByteArray := method_4_code
def yL_row : MethodName := ⟨RL, "row", "(LEndSums;I[J)I"⟩
abbrev cL_law : ByteArray := code
def yL_law : MethodName := ⟨RL, "law", "([I)Z"⟩
abbrev vwCl : List vw_C := [(RX0, TX0, 4), (RX1, TX1, 2), (RX2, TX2, 5), (RX3, TX3, 3), (RX4, TX4, 6), (RX5, TX5, 2), (RX6, TX6, 4), (RX7, TX7, 11), (RX8, TX8, 32)]
