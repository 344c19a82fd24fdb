section
-- ===== PART A: goes FIRST, ahead of the names: the tables' words, and 'selects' of the private methods out of them =====
/-- a private method of a class that the tables say can be made, by its rows of tables_1 -/
def lw_okq (q : MethodName × Nat) : Prop := (q.1.cls ≠ "java/lang/invoke/MethodHandle" ∧ q.1.cls ≠ "java/lang/invoke/VarHandle") ∧ Cond.instantiable q.1.cls q.2 ∈ tables_1 ∧ Cond.privateMethod q.1 ∈ tables_1 ∧ Cond.instanceMethod q.1 ∈ tables_1
theorem lw_p0 : lw_okq (⟨"EndSums", "layAllAnew", "()V"⟩, 11) := ⟨⟨by decide +kernel, by decide +kernel⟩, List.mem_of_getElem? (i := 16) (by decide +kernel), List.mem_of_getElem? (i := 223) (by decide +kernel), List.mem_of_getElem? (i := 224) (by decide +kernel)⟩
theorem lw_p1 : lw_okq (⟨"EndSums", "lineAt", "(I)LEndSums$Line;"⟩, 11) := ⟨⟨by decide +kernel, by decide +kernel⟩, List.mem_of_getElem? (i := 16) (by decide +kernel), List.mem_of_getElem? (i := 227) (by decide +kernel), List.mem_of_getElem? (i := 228) (by decide +kernel)⟩
theorem lw_p2 : lw_okq (⟨"EndSums$Works", "layAsItLies", "(LEndSums$Line;)V"⟩, 4) := ⟨⟨by decide +kernel, by decide +kernel⟩, List.mem_of_getElem? (i := 70) (by decide +kernel), List.mem_of_getElem? (i := 231) (by decide +kernel), List.mem_of_getElem? (i := 232) (by decide +kernel)⟩
theorem lw_p3 : lw_okq (⟨"EndSums$Works", "hold", "(LEndSums$Line;)V"⟩, 4) := ⟨⟨by decide +kernel, by decide +kernel⟩, List.mem_of_getElem? (i := 70) (by decide +kernel), List.mem_of_getElem? (i := 235) (by decide +kernel), List.mem_of_getElem? (i := 236) (by decide +kernel)⟩
theorem lw_p4 : lw_okq (⟨"EndSums$Line", "size", "()I"⟩, 2) := ⟨⟨by decide +kernel, by decide +kernel⟩, List.mem_of_getElem? (i := 92) (by decide +kernel), List.mem_of_getElem? (i := 239) (by decide +kernel), List.mem_of_getElem? (i := 240) (by decide +kernel)⟩
theorem lw_p5 : lw_okq (⟨"EndSums$Line", "itemAt", "(I)I"⟩, 2) := ⟨⟨by decide +kernel, by decide +kernel⟩, List.mem_of_getElem? (i := 92) (by decide +kernel), List.mem_of_getElem? (i := 243) (by decide +kernel), List.mem_of_getElem? (i := 244) (by decide +kernel)⟩
theorem lw_p6 : lw_okq (⟨"EndSums$Line", "endOf", "(I)I"⟩, 2) := ⟨⟨by decide +kernel, by decide +kernel⟩, List.mem_of_getElem? (i := 92) (by decide +kernel), List.mem_of_getElem? (i := 247) (by decide +kernel), List.mem_of_getElem? (i := 248) (by decide +kernel)⟩
theorem lw_p7 : lw_okq (⟨"EndSums$Line", "pile", "(I)LEndSums$Pile;"⟩, 2) := ⟨⟨by decide +kernel, by decide +kernel⟩, List.mem_of_getElem? (i := 92) (by decide +kernel), List.mem_of_getElem? (i := 251) (by decide +kernel), List.mem_of_getElem? (i := 252) (by decide +kernel)⟩
theorem lw_p8 : lw_okq (⟨"EndSums$Line", "heightOf", "(I)I"⟩, 2) := ⟨⟨by decide +kernel, by decide +kernel⟩, List.mem_of_getElem? (i := 92) (by decide +kernel), List.mem_of_getElem? (i := 255) (by decide +kernel), List.mem_of_getElem? (i := 256) (by decide +kernel)⟩
theorem lw_p9 : lw_okq (⟨"EndSums$Works", "lay", "(LEndSums$Line;III)V"⟩, 4) := ⟨⟨by decide +kernel, by decide +kernel⟩, List.mem_of_getElem? (i := 70) (by decide +kernel), List.mem_of_getElem? (i := 265) (by decide +kernel), List.mem_of_getElem? (i := 266) (by decide +kernel)⟩
theorem lw_p10 : lw_okq (⟨"EndSums$Works", "make", "(LEndSums$Pile;II)V"⟩, 4) := ⟨⟨by decide +kernel, by decide +kernel⟩, List.mem_of_getElem? (i := 70) (by decide +kernel), List.mem_of_getElem? (i := 270) (by decide +kernel), List.mem_of_getElem? (i := 271) (by decide +kernel)⟩
theorem lw_p11 : lw_okq (⟨"EndSums$Joining", "emptyP", "()J"⟩, 4) := ⟨⟨by decide +kernel, by decide +kernel⟩, List.mem_of_getElem? (i := 24) (by decide +kernel), List.mem_of_getElem? (i := 274) (by decide +kernel), List.mem_of_getElem? (i := 275) (by decide +kernel)⟩
theorem lw_p12 : lw_okq (⟨"EndSums$Joining", "emptyQ", "()J"⟩, 4) := ⟨⟨by decide +kernel, by decide +kernel⟩, List.mem_of_getElem? (i := 24) (by decide +kernel), List.mem_of_getElem? (i := 283) (by decide +kernel), List.mem_of_getElem? (i := 284) (by decide +kernel)⟩
theorem lw_p13 : lw_okq (⟨"EndSums$Joining", "elementP", "(I)J"⟩, 4) := ⟨⟨by decide +kernel, by decide +kernel⟩, List.mem_of_getElem? (i := 24) (by decide +kernel), List.mem_of_getElem? (i := 287) (by decide +kernel), List.mem_of_getElem? (i := 288) (by decide +kernel)⟩
theorem lw_p14 : lw_okq (⟨"EndSums$Table", "kindOf", "(I)I"⟩, 3) := ⟨⟨by decide +kernel, by decide +kernel⟩, List.mem_of_getElem? (i := 30) (by decide +kernel), List.mem_of_getElem? (i := 291) (by decide +kernel), List.mem_of_getElem? (i := 292) (by decide +kernel)⟩
theorem lw_p15 : lw_okq (⟨"EndSums$Joining", "elementQ", "(I)J"⟩, 4) := ⟨⟨by decide +kernel, by decide +kernel⟩, List.mem_of_getElem? (i := 24) (by decide +kernel), List.mem_of_getElem? (i := 295) (by decide +kernel), List.mem_of_getElem? (i := 296) (by decide +kernel)⟩
def lw_privs_1 : List (MethodName × Nat) := [(⟨"EndSums", "layAllAnew", "()V"⟩, 11), (⟨"EndSums", "lineAt", "(I)LEndSums$Line;"⟩, 11), (⟨"EndSums$Works", "layAsItLies", "(LEndSums$Line;)V"⟩, 4), (⟨"EndSums$Works", "hold", "(LEndSums$Line;)V"⟩, 4), (⟨"EndSums$Line", "size", "()I"⟩, 2), (⟨"EndSums$Line", "itemAt", "(I)I"⟩, 2), (⟨"EndSums$Line", "endOf", "(I)I"⟩, 2), (⟨"EndSums$Line", "pile", "(I)LEndSums$Pile;"⟩, 2), (⟨"EndSums$Line", "heightOf", "(I)I"⟩, 2), (⟨"EndSums$Works", "lay", "(LEndSums$Line;III)V"⟩, 4), (⟨"EndSums$Works", "make", "(LEndSums$Pile;II)V"⟩, 4), (⟨"EndSums$Joining", "emptyP", "()J"⟩, 4), (⟨"EndSums$Joining", "emptyQ", "()J"⟩, 4), (⟨"EndSums$Joining", "elementP", "(I)J"⟩, 4), (⟨"EndSums$Table", "kindOf", "(I)I"⟩, 3), (⟨"EndSums$Joining", "elementQ", "(I)J"⟩, 4)]
theorem lw_r1 : ∀ q ∈ lw_privs_1, lw_okq q := List.forall_mem_cons.mpr ⟨lw_p0, List.forall_mem_cons.mpr ⟨lw_p1, List.forall_mem_cons.mpr ⟨lw_p2, List.forall_mem_cons.mpr ⟨lw_p3, List.forall_mem_cons.mpr ⟨lw_p4, List.forall_mem_cons.mpr ⟨lw_p5, List.forall_mem_cons.mpr ⟨lw_p6, List.forall_mem_cons.mpr ⟨lw_p7, List.forall_mem_cons.mpr ⟨lw_p8, List.forall_mem_cons.mpr ⟨lw_p9, List.forall_mem_cons.mpr ⟨lw_p10, List.forall_mem_cons.mpr ⟨lw_p11, List.forall_mem_cons.mpr ⟨lw_p12, List.forall_mem_cons.mpr ⟨lw_p13, List.forall_mem_cons.mpr ⟨lw_p14, List.forall_mem_cons.mpr ⟨lw_p15, fun _ h => absurd h List.not_mem_nil⟩⟩⟩⟩⟩⟩⟩⟩⟩⟩⟩⟩⟩⟩⟩⟩
theorem lw_p16 : lw_okq (⟨"EndSums$Joining", "join", "(JJJJ)V"⟩, 4) := ⟨⟨by decide +kernel, by decide +kernel⟩, List.mem_of_getElem? (i := 24) (by decide +kernel), List.mem_of_getElem? (i := 307) (by decide +kernel), List.mem_of_getElem? (i := 308) (by decide +kernel)⟩
theorem lw_p17 : lw_okq (⟨"EndSums$Joining", "startWith", "(JJ)V"⟩, 4) := ⟨⟨by decide +kernel, by decide +kernel⟩, List.mem_of_getElem? (i := 24) (by decide +kernel), List.mem_of_getElem? (i := 311) (by decide +kernel), List.mem_of_getElem? (i := 312) (by decide +kernel)⟩
theorem lw_p18 : lw_okq (⟨"EndSums$Table", "entry", "(II)I"⟩, 3) := ⟨⟨by decide +kernel, by decide +kernel⟩, List.mem_of_getElem? (i := 30) (by decide +kernel), List.mem_of_getElem? (i := 329) (by decide +kernel), List.mem_of_getElem? (i := 330) (by decide +kernel)⟩
theorem lw_p19 : lw_okq (⟨"EndSums$Pile", "grow", "(IJJI)V"⟩, 5) := ⟨⟨by decide +kernel, by decide +kernel⟩, List.mem_of_getElem? (i := 98) (by decide +kernel), List.mem_of_getElem? (i := 333) (by decide +kernel), List.mem_of_getElem? (i := 334) (by decide +kernel)⟩
theorem lw_p20 : lw_okq (⟨"EndSums$Text", "firstWrongInTable", "()I"⟩, 2) := ⟨⟨by decide +kernel, by decide +kernel⟩, List.mem_of_getElem? (i := 144) (by decide +kernel), List.mem_of_getElem? (i := 345) (by decide +kernel), List.mem_of_getElem? (i := 346) (by decide +kernel)⟩
theorem lw_p21 : lw_okq (⟨"EndSums$Text", "firstRow", "()I"⟩, 2) := ⟨⟨by decide +kernel, by decide +kernel⟩, List.mem_of_getElem? (i := 144) (by decide +kernel), List.mem_of_getElem? (i := 349) (by decide +kernel), List.mem_of_getElem? (i := 350) (by decide +kernel)⟩
theorem lw_p22 : lw_okq (⟨"EndSums$Text", "fitsTable", "(II)Z"⟩, 2) := ⟨⟨by decide +kernel, by decide +kernel⟩, List.mem_of_getElem? (i := 144) (by decide +kernel), List.mem_of_getElem? (i := 354) (by decide +kernel), List.mem_of_getElem? (i := 355) (by decide +kernel)⟩
theorem lw_p23 : lw_okq (⟨"EndSums$Text", "signOrBehind", "(I)I"⟩, 2) := ⟨⟨by decide +kernel, by decide +kernel⟩, List.mem_of_getElem? (i := 144) (by decide +kernel), List.mem_of_getElem? (i := 358) (by decide +kernel), List.mem_of_getElem? (i := 359) (by decide +kernel)⟩
theorem lw_p24 : lw_okq (⟨"EndSums$Table", "read", "(LEndSums$Text;)V"⟩, 3) := ⟨⟨by decide +kernel, by decide +kernel⟩, List.mem_of_getElem? (i := 30) (by decide +kernel), List.mem_of_getElem? (i := 365) (by decide +kernel), List.mem_of_getElem? (i := 366) (by decide +kernel)⟩
theorem lw_p25 : lw_okq (⟨"EndSums$Text", "signAt", "(I)I"⟩, 2) := ⟨⟨by decide +kernel, by decide +kernel⟩, List.mem_of_getElem? (i := 144) (by decide +kernel), List.mem_of_getElem? (i := 370) (by decide +kernel), List.mem_of_getElem? (i := 371) (by decide +kernel)⟩
theorem lw_p26 : lw_okq (⟨"EndSums$Table", "neutralOne", "()I"⟩, 3) := ⟨⟨by decide +kernel, by decide +kernel⟩, List.mem_of_getElem? (i := 30) (by decide +kernel), List.mem_of_getElem? (i := 375) (by decide +kernel), List.mem_of_getElem? (i := 376) (by decide +kernel)⟩
theorem lw_p27 : lw_okq (⟨"EndSums$Table", "firstNotAlike", "()I"⟩, 3) := ⟨⟨by decide +kernel, by decide +kernel⟩, List.mem_of_getElem? (i := 30) (by decide +kernel), List.mem_of_getElem? (i := 380) (by decide +kernel), List.mem_of_getElem? (i := 381) (by decide +kernel)⟩
theorem lw_p28 : lw_okq (⟨"EndSums", "tell", "(JJJ)V"⟩, 11) := ⟨⟨by decide +kernel, by decide +kernel⟩, List.mem_of_getElem? (i := 16) (by decide +kernel), List.mem_of_getElem? (i := 384) (by decide +kernel), List.mem_of_getElem? (i := 385) (by decide +kernel)⟩
theorem lw_p29 : lw_okq (⟨"EndSums", "tell", "(JJ)V"⟩, 11) := ⟨⟨by decide +kernel, by decide +kernel⟩, List.mem_of_getElem? (i := 16) (by decide +kernel), List.mem_of_getElem? (i := 388) (by decide +kernel), List.mem_of_getElem? (i := 389) (by decide +kernel)⟩
theorem lw_p30 : lw_okq (⟨"EndSums", "tell", "(J)V"⟩, 11) := ⟨⟨by decide +kernel, by decide +kernel⟩, List.mem_of_getElem? (i := 16) (by decide +kernel), List.mem_of_getElem? (i := 392) (by decide +kernel), List.mem_of_getElem? (i := 393) (by decide +kernel)⟩
theorem lw_p31 : lw_okq (⟨"EndSums", "tellMore", "(J)V"⟩, 11) := ⟨⟨by decide +kernel, by decide +kernel⟩, List.mem_of_getElem? (i := 16) (by decide +kernel), List.mem_of_getElem? (i := 396) (by decide +kernel), List.mem_of_getElem? (i := 397) (by decide +kernel)⟩
def lw_privs_2 : List (MethodName × Nat) := [(⟨"EndSums$Joining", "join", "(JJJJ)V"⟩, 4), (⟨"EndSums$Joining", "startWith", "(JJ)V"⟩, 4), (⟨"EndSums$Table", "entry", "(II)I"⟩, 3), (⟨"EndSums$Pile", "grow", "(IJJI)V"⟩, 5), (⟨"EndSums$Text", "firstWrongInTable", "()I"⟩, 2), (⟨"EndSums$Text", "firstRow", "()I"⟩, 2), (⟨"EndSums$Text", "fitsTable", "(II)Z"⟩, 2), (⟨"EndSums$Text", "signOrBehind", "(I)I"⟩, 2), (⟨"EndSums$Table", "read", "(LEndSums$Text;)V"⟩, 3), (⟨"EndSums$Text", "signAt", "(I)I"⟩, 2), (⟨"EndSums$Table", "neutralOne", "()I"⟩, 3), (⟨"EndSums$Table", "firstNotAlike", "()I"⟩, 3), (⟨"EndSums", "tell", "(JJJ)V"⟩, 11), (⟨"EndSums", "tell", "(JJ)V"⟩, 11), (⟨"EndSums", "tell", "(J)V"⟩, 11), (⟨"EndSums", "tellMore", "(J)V"⟩, 11)]
theorem lw_r2 : ∀ q ∈ lw_privs_2, lw_okq q := List.forall_mem_cons.mpr ⟨lw_p16, List.forall_mem_cons.mpr ⟨lw_p17, List.forall_mem_cons.mpr ⟨lw_p18, List.forall_mem_cons.mpr ⟨lw_p19, List.forall_mem_cons.mpr ⟨lw_p20, List.forall_mem_cons.mpr ⟨lw_p21, List.forall_mem_cons.mpr ⟨lw_p22, List.forall_mem_cons.mpr ⟨lw_p23, List.forall_mem_cons.mpr ⟨lw_p24, List.forall_mem_cons.mpr ⟨lw_p25, List.forall_mem_cons.mpr ⟨lw_p26, List.forall_mem_cons.mpr ⟨lw_p27, List.forall_mem_cons.mpr ⟨lw_p28, List.forall_mem_cons.mpr ⟨lw_p29, List.forall_mem_cons.mpr ⟨lw_p30, List.forall_mem_cons.mpr ⟨lw_p31, fun _ h => absurd h List.not_mem_nil⟩⟩⟩⟩⟩⟩⟩⟩⟩⟩⟩⟩⟩⟩⟩⟩
theorem lw_p32 : lw_okq (⟨"EndSums$Table", "become", "(LEndSums$Table;)V"⟩, 3) := ⟨⟨by decide +kernel, by decide +kernel⟩, List.mem_of_getElem? (i := 30) (by decide +kernel), List.mem_of_getElem? (i := 400) (by decide +kernel), List.mem_of_getElem? (i := 401) (by decide +kernel)⟩
theorem lw_p33 : lw_okq (⟨"EndSums$Joining", "start", "(I)V"⟩, 4) := ⟨⟨by decide +kernel, by decide +kernel⟩, List.mem_of_getElem? (i := 24) (by decide +kernel), List.mem_of_getElem? (i := 412) (by decide +kernel), List.mem_of_getElem? (i := 413) (by decide +kernel)⟩
theorem lw_p34 : lw_okq (⟨"EndSums$Joining", "follow", "(I)V"⟩, 4) := ⟨⟨by decide +kernel, by decide +kernel⟩, List.mem_of_getElem? (i := 24) (by decide +kernel), List.mem_of_getElem? (i := 418) (by decide +kernel), List.mem_of_getElem? (i := 419) (by decide +kernel)⟩
theorem lw_p35 : lw_okq (⟨"EndSums$Joining", "comesTo", "(JJ)Z"⟩, 4) := ⟨⟨by decide +kernel, by decide +kernel⟩, List.mem_of_getElem? (i := 24) (by decide +kernel), List.mem_of_getElem? (i := 423) (by decide +kernel), List.mem_of_getElem? (i := 424) (by decide +kernel)⟩
theorem lw_p36 : lw_okq (⟨"EndSums", "tell", "(JJJJ)V"⟩, 11) := ⟨⟨by decide +kernel, by decide +kernel⟩, List.mem_of_getElem? (i := 16) (by decide +kernel), List.mem_of_getElem? (i := 427) (by decide +kernel), List.mem_of_getElem? (i := 428) (by decide +kernel)⟩
theorem lw_p37 : lw_okq (⟨"EndSums$Joining", "power", "(II)I"⟩, 4) := ⟨⟨by decide +kernel, by decide +kernel⟩, List.mem_of_getElem? (i := 24) (by decide +kernel), List.mem_of_getElem? (i := 436) (by decide +kernel), List.mem_of_getElem? (i := 437) (by decide +kernel)⟩
theorem lw_p38 : lw_okq (⟨"EndSums$Joining", "startEmpty", "()V"⟩, 4) := ⟨⟨by decide +kernel, by decide +kernel⟩, List.mem_of_getElem? (i := 24) (by decide +kernel), List.mem_of_getElem? (i := 440) (by decide +kernel), List.mem_of_getElem? (i := 441) (by decide +kernel)⟩
theorem lw_p39 : lw_okq (⟨"EndSums", "keepSum", "(I)V"⟩, 11) := ⟨⟨by decide +kernel, by decide +kernel⟩, List.mem_of_getElem? (i := 16) (by decide +kernel), List.mem_of_getElem? (i := 453) (by decide +kernel), List.mem_of_getElem? (i := 454) (by decide +kernel)⟩
theorem lw_p40 : lw_okq (⟨"EndSums", "firstSumLike", "(I)I"⟩, 11) := ⟨⟨by decide +kernel, by decide +kernel⟩, List.mem_of_getElem? (i := 16) (by decide +kernel), List.mem_of_getElem? (i := 458) (by decide +kernel), List.mem_of_getElem? (i := 459) (by decide +kernel)⟩
theorem lw_p41 : lw_okq (⟨"EndSums", "sumIsJust", "(IJJ)Z"⟩, 11) := ⟨⟨by decide +kernel, by decide +kernel⟩, List.mem_of_getElem? (i := 16) (by decide +kernel), List.mem_of_getElem? (i := 463) (by decide +kernel), List.mem_of_getElem? (i := 464) (by decide +kernel)⟩
theorem lw_p42 : lw_okq (⟨"EndSums$Joining", "unlikeItems", "()I"⟩, 4) := ⟨⟨by decide +kernel, by decide +kernel⟩, List.mem_of_getElem? (i := 24) (by decide +kernel), List.mem_of_getElem? (i := 471) (by decide +kernel), List.mem_of_getElem? (i := 472) (by decide +kernel)⟩
theorem lw_p43 : lw_okq (⟨"EndSums$Joining", "undo", "(II)Z"⟩, 4) := ⟨⟨by decide +kernel, by decide +kernel⟩, List.mem_of_getElem? (i := 24) (by decide +kernel), List.mem_of_getElem? (i := 475) (by decide +kernel), List.mem_of_getElem? (i := 476) (by decide +kernel)⟩
theorem lw_p44 : lw_okq (⟨"EndSums$Works", "put", "(LEndSums$Line;II)V"⟩, 4) := ⟨⟨by decide +kernel, by decide +kernel⟩, List.mem_of_getElem? (i := 70) (by decide +kernel), List.mem_of_getElem? (i := 488) (by decide +kernel), List.mem_of_getElem? (i := 489) (by decide +kernel)⟩
theorem lw_p45 : lw_okq (⟨"EndSums$Works", "take", "(LEndSums$Line;I)I"⟩, 4) := ⟨⟨by decide +kernel, by decide +kernel⟩, List.mem_of_getElem? (i := 70) (by decide +kernel), List.mem_of_getElem? (i := 497) (by decide +kernel), List.mem_of_getElem? (i := 498) (by decide +kernel)⟩
theorem lw_p46 : lw_okq (⟨"EndSums$Line", "become", "(LEndSums$Line;)V"⟩, 2) := ⟨⟨by decide +kernel, by decide +kernel⟩, List.mem_of_getElem? (i := 92) (by decide +kernel), List.mem_of_getElem? (i := 505) (by decide +kernel), List.mem_of_getElem? (i := 506) (by decide +kernel)⟩
theorem lw_p47 : lw_okq (⟨"EndSums$Pile", "become", "(LEndSums$Pile;)V"⟩, 5) := ⟨⟨by decide +kernel, by decide +kernel⟩, List.mem_of_getElem? (i := 98) (by decide +kernel), List.mem_of_getElem? (i := 509) (by decide +kernel), List.mem_of_getElem? (i := 510) (by decide +kernel)⟩
def lw_privs_3 : List (MethodName × Nat) := [(⟨"EndSums$Table", "become", "(LEndSums$Table;)V"⟩, 3), (⟨"EndSums$Joining", "start", "(I)V"⟩, 4), (⟨"EndSums$Joining", "follow", "(I)V"⟩, 4), (⟨"EndSums$Joining", "comesTo", "(JJ)Z"⟩, 4), (⟨"EndSums", "tell", "(JJJJ)V"⟩, 11), (⟨"EndSums$Joining", "power", "(II)I"⟩, 4), (⟨"EndSums$Joining", "startEmpty", "()V"⟩, 4), (⟨"EndSums", "keepSum", "(I)V"⟩, 11), (⟨"EndSums", "firstSumLike", "(I)I"⟩, 11), (⟨"EndSums", "sumIsJust", "(IJJ)Z"⟩, 11), (⟨"EndSums$Joining", "unlikeItems", "()I"⟩, 4), (⟨"EndSums$Joining", "undo", "(II)Z"⟩, 4), (⟨"EndSums$Works", "put", "(LEndSums$Line;II)V"⟩, 4), (⟨"EndSums$Works", "take", "(LEndSums$Line;I)I"⟩, 4), (⟨"EndSums$Line", "become", "(LEndSums$Line;)V"⟩, 2), (⟨"EndSums$Pile", "become", "(LEndSums$Pile;)V"⟩, 5)]
theorem lw_r3 : ∀ q ∈ lw_privs_3, lw_okq q := List.forall_mem_cons.mpr ⟨lw_p32, List.forall_mem_cons.mpr ⟨lw_p33, List.forall_mem_cons.mpr ⟨lw_p34, List.forall_mem_cons.mpr ⟨lw_p35, List.forall_mem_cons.mpr ⟨lw_p36, List.forall_mem_cons.mpr ⟨lw_p37, List.forall_mem_cons.mpr ⟨lw_p38, List.forall_mem_cons.mpr ⟨lw_p39, List.forall_mem_cons.mpr ⟨lw_p40, List.forall_mem_cons.mpr ⟨lw_p41, List.forall_mem_cons.mpr ⟨lw_p42, List.forall_mem_cons.mpr ⟨lw_p43, List.forall_mem_cons.mpr ⟨lw_p44, List.forall_mem_cons.mpr ⟨lw_p45, List.forall_mem_cons.mpr ⟨lw_p46, List.forall_mem_cons.mpr ⟨lw_p47, fun _ h => absurd h List.not_mem_nil⟩⟩⟩⟩⟩⟩⟩⟩⟩⟩⟩⟩⟩⟩⟩⟩
theorem lw_p48 : lw_okq (⟨"EndSums$Works", "split", "(LEndSums$Line;ILEndSums$Line;)V"⟩, 4) := ⟨⟨by decide +kernel, by decide +kernel⟩, List.mem_of_getElem? (i := 70) (by decide +kernel), List.mem_of_getElem? (i := 524) (by decide +kernel), List.mem_of_getElem? (i := 525) (by decide +kernel)⟩
theorem lw_p49 : lw_okq (⟨"EndSums$Works", "turn", "(LEndSums$Line;)V"⟩, 4) := ⟨⟨by decide +kernel, by decide +kernel⟩, List.mem_of_getElem? (i := 70) (by decide +kernel), List.mem_of_getElem? (i := 532) (by decide +kernel), List.mem_of_getElem? (i := 533) (by decide +kernel)⟩
theorem lw_p50 : lw_okq (⟨"EndSums$Works", "remake", "(LEndSums$Pile;IIII)V"⟩, 4) := ⟨⟨by decide +kernel, by decide +kernel⟩, List.mem_of_getElem? (i := 70) (by decide +kernel), List.mem_of_getElem? (i := 544) (by decide +kernel), List.mem_of_getElem? (i := 545) (by decide +kernel)⟩
theorem lw_p51 : lw_okq (⟨"EndSums", "sumUp", "(LEndSums$Line;II)V"⟩, 11) := ⟨⟨by decide +kernel, by decide +kernel⟩, List.mem_of_getElem? (i := 16) (by decide +kernel), List.mem_of_getElem? (i := 560) (by decide +kernel), List.mem_of_getElem? (i := 561) (by decide +kernel)⟩
theorem lw_p52 : lw_okq (⟨"EndSums$Text", "firstWrongInActs", "()I"⟩, 2) := ⟨⟨by decide +kernel, by decide +kernel⟩, List.mem_of_getElem? (i := 144) (by decide +kernel), List.mem_of_getElem? (i := 572) (by decide +kernel), List.mem_of_getElem? (i := 573) (by decide +kernel)⟩
theorem lw_p53 : lw_okq (⟨"EndSums$Text", "isPut", "(I)Z"⟩, 2) := ⟨⟨by decide +kernel, by decide +kernel⟩, List.mem_of_getElem? (i := 144) (by decide +kernel), List.mem_of_getElem? (i := 576) (by decide +kernel), List.mem_of_getElem? (i := 577) (by decide +kernel)⟩
theorem lw_p54 : lw_okq (⟨"EndSums$Text", "isAct", "(I)Z"⟩, 2) := ⟨⟨by decide +kernel, by decide +kernel⟩, List.mem_of_getElem? (i := 144) (by decide +kernel), List.mem_of_getElem? (i := 581) (by decide +kernel), List.mem_of_getElem? (i := 582) (by decide +kernel)⟩
theorem lw_p55 : lw_okq (⟨"EndSums$Text", "digitsFrom", "(II)I"⟩, 2) := ⟨⟨by decide +kernel, by decide +kernel⟩, List.mem_of_getElem? (i := 144) (by decide +kernel), List.mem_of_getElem? (i := 585) (by decide +kernel), List.mem_of_getElem? (i := 586) (by decide +kernel)⟩
theorem lw_p56 : lw_okq (⟨"EndSums$Text", "itemBehind", "(II)I"⟩, 2) := ⟨⟨by decide +kernel, by decide +kernel⟩, List.mem_of_getElem? (i := 144) (by decide +kernel), List.mem_of_getElem? (i := 594) (by decide +kernel), List.mem_of_getElem? (i := 595) (by decide +kernel)⟩
theorem lw_p57 : lw_okq (⟨"EndSums", "act", "(LEndSums$Line;II)Z"⟩, 11) := ⟨⟨by decide +kernel, by decide +kernel⟩, List.mem_of_getElem? (i := 16) (by decide +kernel), List.mem_of_getElem? (i := 598) (by decide +kernel), List.mem_of_getElem? (i := 599) (by decide +kernel)⟩
theorem lw_p58 : lw_okq (⟨"EndSums$Text", "grow", "(I)V"⟩, 2) := ⟨⟨by decide +kernel, by decide +kernel⟩, List.mem_of_getElem? (i := 144) (by decide +kernel), List.mem_of_getElem? (i := 606) (by decide +kernel), List.mem_of_getElem? (i := 607) (by decide +kernel)⟩
theorem lw_p59 : lw_okq (⟨"EndSums", "stretch", "(LEndSums$Line;I)V"⟩, 11) := ⟨⟨by decide +kernel, by decide +kernel⟩, List.mem_of_getElem? (i := 16) (by decide +kernel), List.mem_of_getElem? (i := 635) (by decide +kernel), List.mem_of_getElem? (i := 636) (by decide +kernel)⟩
theorem lw_p60 : lw_okq (⟨"EndSums", "firstAtMost", "(II)I"⟩, 11) := ⟨⟨by decide +kernel, by decide +kernel⟩, List.mem_of_getElem? (i := 16) (by decide +kernel), List.mem_of_getElem? (i := 640) (by decide +kernel), List.mem_of_getElem? (i := 641) (by decide +kernel)⟩
theorem lw_p61 : lw_okq (⟨"EndSums", "sumsJust", "(JJI)I"⟩, 11) := ⟨⟨by decide +kernel, by decide +kernel⟩, List.mem_of_getElem? (i := 16) (by decide +kernel), List.mem_of_getElem? (i := 652) (by decide +kernel), List.mem_of_getElem? (i := 653) (by decide +kernel)⟩
theorem lw_p62 : lw_okq (⟨"EndSums", "firstJust", "(JJI)I"⟩, 11) := ⟨⟨by decide +kernel, by decide +kernel⟩, List.mem_of_getElem? (i := 16) (by decide +kernel), List.mem_of_getElem? (i := 656) (by decide +kernel), List.mem_of_getElem? (i := 657) (by decide +kernel)⟩
theorem lw_p63 : lw_okq (⟨"EndSums", "sumFirsts", "(LEndSums$Line;)V"⟩, 11) := ⟨⟨by decide +kernel, by decide +kernel⟩, List.mem_of_getElem? (i := 16) (by decide +kernel), List.mem_of_getElem? (i := 677) (by decide +kernel), List.mem_of_getElem? (i := 678) (by decide +kernel)⟩
def lw_privs_4 : List (MethodName × Nat) := [(⟨"EndSums$Works", "split", "(LEndSums$Line;ILEndSums$Line;)V"⟩, 4), (⟨"EndSums$Works", "turn", "(LEndSums$Line;)V"⟩, 4), (⟨"EndSums$Works", "remake", "(LEndSums$Pile;IIII)V"⟩, 4), (⟨"EndSums", "sumUp", "(LEndSums$Line;II)V"⟩, 11), (⟨"EndSums$Text", "firstWrongInActs", "()I"⟩, 2), (⟨"EndSums$Text", "isPut", "(I)Z"⟩, 2), (⟨"EndSums$Text", "isAct", "(I)Z"⟩, 2), (⟨"EndSums$Text", "digitsFrom", "(II)I"⟩, 2), (⟨"EndSums$Text", "itemBehind", "(II)I"⟩, 2), (⟨"EndSums", "act", "(LEndSums$Line;II)Z"⟩, 11), (⟨"EndSums$Text", "grow", "(I)V"⟩, 2), (⟨"EndSums", "stretch", "(LEndSums$Line;I)V"⟩, 11), (⟨"EndSums", "firstAtMost", "(II)I"⟩, 11), (⟨"EndSums", "sumsJust", "(JJI)I"⟩, 11), (⟨"EndSums", "firstJust", "(JJI)I"⟩, 11), (⟨"EndSums", "sumFirsts", "(LEndSums$Line;)V"⟩, 11)]
theorem lw_r4 : ∀ q ∈ lw_privs_4, lw_okq q := List.forall_mem_cons.mpr ⟨lw_p48, List.forall_mem_cons.mpr ⟨lw_p49, List.forall_mem_cons.mpr ⟨lw_p50, List.forall_mem_cons.mpr ⟨lw_p51, List.forall_mem_cons.mpr ⟨lw_p52, List.forall_mem_cons.mpr ⟨lw_p53, List.forall_mem_cons.mpr ⟨lw_p54, List.forall_mem_cons.mpr ⟨lw_p55, List.forall_mem_cons.mpr ⟨lw_p56, List.forall_mem_cons.mpr ⟨lw_p57, List.forall_mem_cons.mpr ⟨lw_p58, List.forall_mem_cons.mpr ⟨lw_p59, List.forall_mem_cons.mpr ⟨lw_p60, List.forall_mem_cons.mpr ⟨lw_p61, List.forall_mem_cons.mpr ⟨lw_p62, List.forall_mem_cons.mpr ⟨lw_p63, fun _ h => absurd h List.not_mem_nil⟩⟩⟩⟩⟩⟩⟩⟩⟩⟩⟩⟩⟩⟩⟩⟩
theorem lw_p64 : lw_okq (⟨"EndSums", "sumsLike", "(II)I"⟩, 11) := ⟨⟨by decide +kernel, by decide +kernel⟩, List.mem_of_getElem? (i := 16) (by decide +kernel), List.mem_of_getElem? (i := 681) (by decide +kernel), List.mem_of_getElem? (i := 682) (by decide +kernel)⟩
theorem lw_p65 : lw_okq (⟨"EndSums$Line", "cellsSharedWith", "(LEndSums$Line;)I"⟩, 2) := ⟨⟨by decide +kernel, by decide +kernel⟩, List.mem_of_getElem? (i := 92) (by decide +kernel), List.mem_of_getElem? (i := 692) (by decide +kernel), List.mem_of_getElem? (i := 693) (by decide +kernel)⟩
theorem lw_p66 : lw_okq (⟨"EndSums$Line", "markOf", "(I)I"⟩, 2) := ⟨⟨by decide +kernel, by decide +kernel⟩, List.mem_of_getElem? (i := 92) (by decide +kernel), List.mem_of_getElem? (i := 697) (by decide +kernel), List.mem_of_getElem? (i := 698) (by decide +kernel)⟩
theorem lw_p67 : lw_okq (⟨"EndSums$Line", "hasCell", "(III)Z"⟩, 2) := ⟨⟨by decide +kernel, by decide +kernel⟩, List.mem_of_getElem? (i := 92) (by decide +kernel), List.mem_of_getElem? (i := 701) (by decide +kernel), List.mem_of_getElem? (i := 702) (by decide +kernel)⟩
theorem lw_p68 : lw_okq (⟨"EndSums$Pile", "has", "(II)Z"⟩, 5) := ⟨⟨by decide +kernel, by decide +kernel⟩, List.mem_of_getElem? (i := 98) (by decide +kernel), List.mem_of_getElem? (i := 705) (by decide +kernel), List.mem_of_getElem? (i := 706) (by decide +kernel)⟩
theorem lw_p69 : lw_okq (⟨"EndSums$Line", "hasItemsOf", "(LEndSums$Line;)Z"⟩, 2) := ⟨⟨by decide +kernel, by decide +kernel⟩, List.mem_of_getElem? (i := 92) (by decide +kernel), List.mem_of_getElem? (i := 709) (by decide +kernel), List.mem_of_getElem? (i := 710) (by decide +kernel)⟩
theorem lw_p70 : lw_okq (⟨"EndSums", "linesWithCell", "(LEndSums$Line;II)I"⟩, 11) := ⟨⟨by decide +kernel, by decide +kernel⟩, List.mem_of_getElem? (i := 16) (by decide +kernel), List.mem_of_getElem? (i := 718) (by decide +kernel), List.mem_of_getElem? (i := 719) (by decide +kernel)⟩
theorem lw_p71 : lw_okq (⟨"EndSums$Takings", "seek", "(III)V"⟩, 6) := ⟨⟨by decide +kernel, by decide +kernel⟩, List.mem_of_getElem? (i := 158) (by decide +kernel), List.mem_of_getElem? (i := 734) (by decide +kernel), List.mem_of_getElem? (i := 735) (by decide +kernel)⟩
theorem lw_p72 : lw_okq (⟨"EndSums$Takings", "offer", "(IIII)V"⟩, 6) := ⟨⟨by decide +kernel, by decide +kernel⟩, List.mem_of_getElem? (i := 158) (by decide +kernel), List.mem_of_getElem? (i := 743) (by decide +kernel), List.mem_of_getElem? (i := 744) (by decide +kernel)⟩
theorem lw_p73 : lw_okq (⟨"EndSums$Takings", "swap", "()V"⟩, 6) := ⟨⟨by decide +kernel, by decide +kernel⟩, List.mem_of_getElem? (i := 158) (by decide +kernel), List.mem_of_getElem? (i := 747) (by decide +kernel), List.mem_of_getElem? (i := 748) (by decide +kernel)⟩
theorem lw_p74 : lw_okq (⟨"EndSums$Takings", "choose", "(I)V"⟩, 6) := ⟨⟨by decide +kernel, by decide +kernel⟩, List.mem_of_getElem? (i := 158) (by decide +kernel), List.mem_of_getElem? (i := 751) (by decide +kernel), List.mem_of_getElem? (i := 752) (by decide +kernel)⟩
theorem lw_p75 : lw_okq (⟨"java/lang/Throwable", "fillInStackTrace", "(I)Ljava/lang/Throwable;"⟩, 6) := ⟨⟨by decide +kernel, by decide +kernel⟩, List.mem_of_getElem? (i := 803) (by decide +kernel), List.mem_of_getElem? (i := 801) (by decide +kernel), List.mem_of_getElem? (i := 802) (by decide +kernel)⟩
theorem lw_p76 : lw_okq (⟨"EndSumsModel", "joinsTwo", "(II)V"⟩, 32) := ⟨⟨by decide +kernel, by decide +kernel⟩, List.mem_of_getElem? (i := 856) (by decide +kernel), List.mem_of_getElem? (i := 967) (by decide +kernel), List.mem_of_getElem? (i := 968) (by decide +kernel)⟩
theorem lw_p77 : lw_okq (⟨"EndSumsModel", "element", "(I)V"⟩, 32) := ⟨⟨by decide +kernel, by decide +kernel⟩, List.mem_of_getElem? (i := 856) (by decide +kernel), List.mem_of_getElem? (i := 971) (by decide +kernel), List.mem_of_getElem? (i := 972) (by decide +kernel)⟩
theorem lw_p78 : lw_okq (⟨"EndSumsModel", "is", "(JJ)V"⟩, 32) := ⟨⟨by decide +kernel, by decide +kernel⟩, List.mem_of_getElem? (i := 856) (by decide +kernel), List.mem_of_getElem? (i := 975) (by decide +kernel), List.mem_of_getElem? (i := 976) (by decide +kernel)⟩
theorem lw_p79 : lw_okq (⟨"EndSumsModel", "leaps", "(I)I"⟩, 32) := ⟨⟨by decide +kernel, by decide +kernel⟩, List.mem_of_getElem? (i := 856) (by decide +kernel), List.mem_of_getElem? (i := 979) (by decide +kernel), List.mem_of_getElem? (i := 980) (by decide +kernel)⟩
def lw_privs_5 : List (MethodName × Nat) := [(⟨"EndSums", "sumsLike", "(II)I"⟩, 11), (⟨"EndSums$Line", "cellsSharedWith", "(LEndSums$Line;)I"⟩, 2), (⟨"EndSums$Line", "markOf", "(I)I"⟩, 2), (⟨"EndSums$Line", "hasCell", "(III)Z"⟩, 2), (⟨"EndSums$Pile", "has", "(II)Z"⟩, 5), (⟨"EndSums$Line", "hasItemsOf", "(LEndSums$Line;)Z"⟩, 2), (⟨"EndSums", "linesWithCell", "(LEndSums$Line;II)I"⟩, 11), (⟨"EndSums$Takings", "seek", "(III)V"⟩, 6), (⟨"EndSums$Takings", "offer", "(IIII)V"⟩, 6), (⟨"EndSums$Takings", "swap", "()V"⟩, 6), (⟨"EndSums$Takings", "choose", "(I)V"⟩, 6), (⟨"java/lang/Throwable", "fillInStackTrace", "(I)Ljava/lang/Throwable;"⟩, 6), (⟨"EndSumsModel", "joinsTwo", "(II)V"⟩, 32), (⟨"EndSumsModel", "element", "(I)V"⟩, 32), (⟨"EndSumsModel", "is", "(JJ)V"⟩, 32), (⟨"EndSumsModel", "leaps", "(I)I"⟩, 32)]
theorem lw_r5 : ∀ q ∈ lw_privs_5, lw_okq q := List.forall_mem_cons.mpr ⟨lw_p64, List.forall_mem_cons.mpr ⟨lw_p65, List.forall_mem_cons.mpr ⟨lw_p66, List.forall_mem_cons.mpr ⟨lw_p67, List.forall_mem_cons.mpr ⟨lw_p68, List.forall_mem_cons.mpr ⟨lw_p69, List.forall_mem_cons.mpr ⟨lw_p70, List.forall_mem_cons.mpr ⟨lw_p71, List.forall_mem_cons.mpr ⟨lw_p72, List.forall_mem_cons.mpr ⟨lw_p73, List.forall_mem_cons.mpr ⟨lw_p74, List.forall_mem_cons.mpr ⟨lw_p75, List.forall_mem_cons.mpr ⟨lw_p76, List.forall_mem_cons.mpr ⟨lw_p77, List.forall_mem_cons.mpr ⟨lw_p78, List.forall_mem_cons.mpr ⟨lw_p79, fun _ h => absurd h List.not_mem_nil⟩⟩⟩⟩⟩⟩⟩⟩⟩⟩⟩⟩⟩⟩⟩⟩
theorem lw_p80 : lw_okq (⟨"EndSumsModel", "join", "(JJJJ)V"⟩, 32) := ⟨⟨by decide +kernel, by decide +kernel⟩, List.mem_of_getElem? (i := 856) (by decide +kernel), List.mem_of_getElem? (i := 989) (by decide +kernel), List.mem_of_getElem? (i := 990) (by decide +kernel)⟩
theorem lw_p81 : lw_okq (⟨"EndSumsModel", "arrangedBy", "(II)I"⟩, 32) := ⟨⟨by decide +kernel, by decide +kernel⟩, List.mem_of_getElem? (i := 856) (by decide +kernel), List.mem_of_getElem? (i := 999) (by decide +kernel), List.mem_of_getElem? (i := 1000) (by decide +kernel)⟩
theorem lw_p82 : lw_okq (⟨"EndSumsModel", "enters", "(J)V"⟩, 32) := ⟨⟨by decide +kernel, by decide +kernel⟩, List.mem_of_getElem? (i := 856) (by decide +kernel), List.mem_of_getElem? (i := 1007) (by decide +kernel), List.mem_of_getElem? (i := 1008) (by decide +kernel)⟩
theorem lw_p83 : lw_okq (⟨"EndSumsModel", "power", "(II)I"⟩, 32) := ⟨⟨by decide +kernel, by decide +kernel⟩, List.mem_of_getElem? (i := 856) (by decide +kernel), List.mem_of_getElem? (i := 1016) (by decide +kernel), List.mem_of_getElem? (i := 1017) (by decide +kernel)⟩
theorem lw_p84 : lw_okq (⟨"EndSumsModel", "empty", "()V"⟩, 32) := ⟨⟨by decide +kernel, by decide +kernel⟩, List.mem_of_getElem? (i := 856) (by decide +kernel), List.mem_of_getElem? (i := 1020) (by decide +kernel), List.mem_of_getElem? (i := 1021) (by decide +kernel)⟩
theorem lw_p85 : lw_okq (⟨"EndSumsModel", "laysAll", "()V"⟩, 32) := ⟨⟨by decide +kernel, by decide +kernel⟩, List.mem_of_getElem? (i := 856) (by decide +kernel), List.mem_of_getElem? (i := 1039) (by decide +kernel), List.mem_of_getElem? (i := 1040) (by decide +kernel)⟩
theorem lw_p86 : lw_okq (⟨"EndSumsModel", "takesItems", "(I)I"⟩, 32) := ⟨⟨by decide +kernel, by decide +kernel⟩, List.mem_of_getElem? (i := 856) (by decide +kernel), List.mem_of_getElem? (i := 1043) (by decide +kernel), List.mem_of_getElem? (i := 1044) (by decide +kernel)⟩
theorem lw_p87 : lw_okq (⟨"EndSumsModel", "sizeOf", "(I)I"⟩, 32) := ⟨⟨by decide +kernel, by decide +kernel⟩, List.mem_of_getElem? (i := 856) (by decide +kernel), List.mem_of_getElem? (i := 1047) (by decide +kernel), List.mem_of_getElem? (i := 1048) (by decide +kernel)⟩
theorem lw_p88 : lw_okq (⟨"EndSumsModel", "itemAt", "(II)I"⟩, 32) := ⟨⟨by decide +kernel, by decide +kernel⟩, List.mem_of_getElem? (i := 856) (by decide +kernel), List.mem_of_getElem? (i := 1051) (by decide +kernel), List.mem_of_getElem? (i := 1052) (by decide +kernel)⟩
theorem lw_p89 : lw_okq (⟨"EndSumsModel", "placeOf", "(II)I"⟩, 32) := ⟨⟨by decide +kernel, by decide +kernel⟩, List.mem_of_getElem? (i := 856) (by decide +kernel), List.mem_of_getElem? (i := 1055) (by decide +kernel), List.mem_of_getElem? (i := 1056) (by decide +kernel)⟩
theorem lw_p90 : lw_okq (⟨"EndSumsModel", "lays", "(IIII)V"⟩, 32) := ⟨⟨by decide +kernel, by decide +kernel⟩, List.mem_of_getElem? (i := 856) (by decide +kernel), List.mem_of_getElem? (i := 1062) (by decide +kernel), List.mem_of_getElem? (i := 1063) (by decide +kernel)⟩
theorem lw_p91 : lw_okq (⟨"EndSumsModel", "makes", "(II)V"⟩, 32) := ⟨⟨by decide +kernel, by decide +kernel⟩, List.mem_of_getElem? (i := 856) (by decide +kernel), List.mem_of_getElem? (i := 1066) (by decide +kernel), List.mem_of_getElem? (i := 1067) (by decide +kernel)⟩
theorem lw_p92 : lw_okq (⟨"EndSumsModel", "reads", "()V"⟩, 32) := ⟨⟨by decide +kernel, by decide +kernel⟩, List.mem_of_getElem? (i := 856) (by decide +kernel), List.mem_of_getElem? (i := 1074) (by decide +kernel), List.mem_of_getElem? (i := 1075) (by decide +kernel)⟩
theorem lw_p93 : lw_okq (⟨"EndSumsModel", "readsTable", "()Z"⟩, 32) := ⟨⟨by decide +kernel, by decide +kernel⟩, List.mem_of_getElem? (i := 856) (by decide +kernel), List.mem_of_getElem? (i := 1078) (by decide +kernel), List.mem_of_getElem? (i := 1079) (by decide +kernel)⟩
theorem lw_p94 : lw_okq (⟨"EndSumsModel", "takesSign", "(I)Z"⟩, 32) := ⟨⟨by decide +kernel, by decide +kernel⟩, List.mem_of_getElem? (i := 856) (by decide +kernel), List.mem_of_getElem? (i := 1084) (by decide +kernel), List.mem_of_getElem? (i := 1085) (by decide +kernel)⟩
theorem lw_p95 : lw_okq (⟨"EndSumsModel", "isDigit", "()Z"⟩, 32) := ⟨⟨by decide +kernel, by decide +kernel⟩, List.mem_of_getElem? (i := 856) (by decide +kernel), List.mem_of_getElem? (i := 1088) (by decide +kernel), List.mem_of_getElem? (i := 1089) (by decide +kernel)⟩
def lw_privs_6 : List (MethodName × Nat) := [(⟨"EndSumsModel", "join", "(JJJJ)V"⟩, 32), (⟨"EndSumsModel", "arrangedBy", "(II)I"⟩, 32), (⟨"EndSumsModel", "enters", "(J)V"⟩, 32), (⟨"EndSumsModel", "power", "(II)I"⟩, 32), (⟨"EndSumsModel", "empty", "()V"⟩, 32), (⟨"EndSumsModel", "laysAll", "()V"⟩, 32), (⟨"EndSumsModel", "takesItems", "(I)I"⟩, 32), (⟨"EndSumsModel", "sizeOf", "(I)I"⟩, 32), (⟨"EndSumsModel", "itemAt", "(II)I"⟩, 32), (⟨"EndSumsModel", "placeOf", "(II)I"⟩, 32), (⟨"EndSumsModel", "lays", "(IIII)V"⟩, 32), (⟨"EndSumsModel", "makes", "(II)V"⟩, 32), (⟨"EndSumsModel", "reads", "()V"⟩, 32), (⟨"EndSumsModel", "readsTable", "()Z"⟩, 32), (⟨"EndSumsModel", "takesSign", "(I)Z"⟩, 32), (⟨"EndSumsModel", "isDigit", "()Z"⟩, 32)]
theorem lw_r6 : ∀ q ∈ lw_privs_6, lw_okq q := List.forall_mem_cons.mpr ⟨lw_p80, List.forall_mem_cons.mpr ⟨lw_p81, List.forall_mem_cons.mpr ⟨lw_p82, List.forall_mem_cons.mpr ⟨lw_p83, List.forall_mem_cons.mpr ⟨lw_p84, List.forall_mem_cons.mpr ⟨lw_p85, List.forall_mem_cons.mpr ⟨lw_p86, List.forall_mem_cons.mpr ⟨lw_p87, List.forall_mem_cons.mpr ⟨lw_p88, List.forall_mem_cons.mpr ⟨lw_p89, List.forall_mem_cons.mpr ⟨lw_p90, List.forall_mem_cons.mpr ⟨lw_p91, List.forall_mem_cons.mpr ⟨lw_p92, List.forall_mem_cons.mpr ⟨lw_p93, List.forall_mem_cons.mpr ⟨lw_p94, List.forall_mem_cons.mpr ⟨lw_p95, fun _ h => absurd h List.not_mem_nil⟩⟩⟩⟩⟩⟩⟩⟩⟩⟩⟩⟩⟩⟩⟩⟩
theorem lw_p96 : lw_okq (⟨"EndSumsModel", "hasUnlike", "()Z"⟩, 32) := ⟨⟨by decide +kernel, by decide +kernel⟩, List.mem_of_getElem? (i := 856) (by decide +kernel), List.mem_of_getElem? (i := 1093) (by decide +kernel), List.mem_of_getElem? (i := 1094) (by decide +kernel)⟩
theorem lw_p97 : lw_okq (⟨"EndSumsModel", "read", "(II)I"⟩, 32) := ⟨⟨by decide +kernel, by decide +kernel⟩, List.mem_of_getElem? (i := 856) (by decide +kernel), List.mem_of_getElem? (i := 1097) (by decide +kernel), List.mem_of_getElem? (i := 1098) (by decide +kernel)⟩
theorem lw_p98 : lw_okq (⟨"EndSumsModel", "isNeutral", "(I)Z"⟩, 32) := ⟨⟨by decide +kernel, by decide +kernel⟩, List.mem_of_getElem? (i := 856) (by decide +kernel), List.mem_of_getElem? (i := 1101) (by decide +kernel), List.mem_of_getElem? (i := 1102) (by decide +kernel)⟩
theorem lw_p99 : lw_okq (⟨"EndSumsModel", "takesOne", "(II)I"⟩, 32) := ⟨⟨by decide +kernel, by decide +kernel⟩, List.mem_of_getElem? (i := 856) (by decide +kernel), List.mem_of_getElem? (i := 1120) (by decide +kernel), List.mem_of_getElem? (i := 1121) (by decide +kernel)⟩
theorem lw_p100 : lw_okq (⟨"EndSumsModel", "tellsWork", "(II)I"⟩, 32) := ⟨⟨by decide +kernel, by decide +kernel⟩, List.mem_of_getElem? (i := 856) (by decide +kernel), List.mem_of_getElem? (i := 1124) (by decide +kernel), List.mem_of_getElem? (i := 1125) (by decide +kernel)⟩
theorem lw_p101 : lw_okq (⟨"EndSumsModel", "copiesTo", "(II)V"⟩, 32) := ⟨⟨by decide +kernel, by decide +kernel⟩, List.mem_of_getElem? (i := 856) (by decide +kernel), List.mem_of_getElem? (i := 1132) (by decide +kernel), List.mem_of_getElem? (i := 1133) (by decide +kernel)⟩
theorem lw_p102 : lw_okq (⟨"EndSumsModel", "turns", "(I)I"⟩, 32) := ⟨⟨by decide +kernel, by decide +kernel⟩, List.mem_of_getElem? (i := 856) (by decide +kernel), List.mem_of_getElem? (i := 1148) (by decide +kernel), List.mem_of_getElem? (i := 1149) (by decide +kernel)⟩
theorem lw_p103 : lw_okq (⟨"EndSumsModel", "isAt", "(II)Z"⟩, 32) := ⟨⟨by decide +kernel, by decide +kernel⟩, List.mem_of_getElem? (i := 856) (by decide +kernel), List.mem_of_getElem? (i := 1156) (by decide +kernel), List.mem_of_getElem? (i := 1157) (by decide +kernel)⟩
theorem lw_p104 : lw_okq (⟨"EndSumsModel", "makesAgain", "(IZII)V"⟩, 32) := ⟨⟨by decide +kernel, by decide +kernel⟩, List.mem_of_getElem? (i := 856) (by decide +kernel), List.mem_of_getElem? (i := 1160) (by decide +kernel), List.mem_of_getElem? (i := 1161) (by decide +kernel)⟩
theorem lw_p105 : lw_okq (⟨"EndSumsModel", "entersSummary", "(I)V"⟩, 32) := ⟨⟨by decide +kernel, by decide +kernel⟩, List.mem_of_getElem? (i := 856) (by decide +kernel), List.mem_of_getElem? (i := 1177) (by decide +kernel), List.mem_of_getElem? (i := 1178) (by decide +kernel)⟩
theorem lw_p106 : lw_okq (⟨"EndSumsModel", "summary", "(I)V"⟩, 32) := ⟨⟨by decide +kernel, by decide +kernel⟩, List.mem_of_getElem? (i := 856) (by decide +kernel), List.mem_of_getElem? (i := 1181) (by decide +kernel), List.mem_of_getElem? (i := 1182) (by decide +kernel)⟩
theorem lw_p107 : lw_okq (⟨"EndSumsModel", "passes", "()V"⟩, 32) := ⟨⟨by decide +kernel, by decide +kernel⟩, List.mem_of_getElem? (i := 856) (by decide +kernel), List.mem_of_getElem? (i := 1193) (by decide +kernel), List.mem_of_getElem? (i := 1194) (by decide +kernel)⟩
theorem lw_p108 : lw_okq (⟨"EndSumsModel", "readsAct", "(I)Z"⟩, 32) := ⟨⟨by decide +kernel, by decide +kernel⟩, List.mem_of_getElem? (i := 856) (by decide +kernel), List.mem_of_getElem? (i := 1197) (by decide +kernel), List.mem_of_getElem? (i := 1198) (by decide +kernel)⟩
theorem lw_p109 : lw_okq (⟨"EndSumsModel", "does", "(II)Z"⟩, 32) := ⟨⟨by decide +kernel, by decide +kernel⟩, List.mem_of_getElem? (i := 856) (by decide +kernel), List.mem_of_getElem? (i := 1201) (by decide +kernel), List.mem_of_getElem? (i := 1202) (by decide +kernel)⟩
theorem lw_p110 : lw_okq (⟨"EndSumsModel", "sums", "(III)V"⟩, 32) := ⟨⟨by decide +kernel, by decide +kernel⟩, List.mem_of_getElem? (i := 856) (by decide +kernel), List.mem_of_getElem? (i := 1217) (by decide +kernel), List.mem_of_getElem? (i := 1218) (by decide +kernel)⟩
theorem lw_p111 : lw_okq (⟨"EndSumsModel", "drainsBy", "(II)I"⟩, 32) := ⟨⟨by decide +kernel, by decide +kernel⟩, List.mem_of_getElem? (i := 856) (by decide +kernel), List.mem_of_getElem? (i := 1245) (by decide +kernel), List.mem_of_getElem? (i := 1246) (by decide +kernel)⟩
def lw_privs_7 : List (MethodName × Nat) := [(⟨"EndSumsModel", "hasUnlike", "()Z"⟩, 32), (⟨"EndSumsModel", "read", "(II)I"⟩, 32), (⟨"EndSumsModel", "isNeutral", "(I)Z"⟩, 32), (⟨"EndSumsModel", "takesOne", "(II)I"⟩, 32), (⟨"EndSumsModel", "tellsWork", "(II)I"⟩, 32), (⟨"EndSumsModel", "copiesTo", "(II)V"⟩, 32), (⟨"EndSumsModel", "turns", "(I)I"⟩, 32), (⟨"EndSumsModel", "isAt", "(II)Z"⟩, 32), (⟨"EndSumsModel", "makesAgain", "(IZII)V"⟩, 32), (⟨"EndSumsModel", "entersSummary", "(I)V"⟩, 32), (⟨"EndSumsModel", "summary", "(I)V"⟩, 32), (⟨"EndSumsModel", "passes", "()V"⟩, 32), (⟨"EndSumsModel", "readsAct", "(I)Z"⟩, 32), (⟨"EndSumsModel", "does", "(II)Z"⟩, 32), (⟨"EndSumsModel", "sums", "(III)V"⟩, 32), (⟨"EndSumsModel", "drainsBy", "(II)I"⟩, 32)]
theorem lw_r7 : ∀ q ∈ lw_privs_7, lw_okq q := List.forall_mem_cons.mpr ⟨lw_p96, List.forall_mem_cons.mpr ⟨lw_p97, List.forall_mem_cons.mpr ⟨lw_p98, List.forall_mem_cons.mpr ⟨lw_p99, List.forall_mem_cons.mpr ⟨lw_p100, List.forall_mem_cons.mpr ⟨lw_p101, List.forall_mem_cons.mpr ⟨lw_p102, List.forall_mem_cons.mpr ⟨lw_p103, List.forall_mem_cons.mpr ⟨lw_p104, List.forall_mem_cons.mpr ⟨lw_p105, List.forall_mem_cons.mpr ⟨lw_p106, List.forall_mem_cons.mpr ⟨lw_p107, List.forall_mem_cons.mpr ⟨lw_p108, List.forall_mem_cons.mpr ⟨lw_p109, List.forall_mem_cons.mpr ⟨lw_p110, List.forall_mem_cons.mpr ⟨lw_p111, fun _ h => absurd h List.not_mem_nil⟩⟩⟩⟩⟩⟩⟩⟩⟩⟩⟩⟩⟩⟩⟩⟩
theorem lw_p112 : lw_okq (⟨"EndSumsModel", "begins", "(I)V"⟩, 32) := ⟨⟨by decide +kernel, by decide +kernel⟩, List.mem_of_getElem? (i := 856) (by decide +kernel), List.mem_of_getElem? (i := 1249) (by decide +kernel), List.mem_of_getElem? (i := 1250) (by decide +kernel)⟩
theorem lw_p113 : lw_okq (⟨"EndSumsModel", "costs", "(I)I"⟩, 32) := ⟨⟨by decide +kernel, by decide +kernel⟩, List.mem_of_getElem? (i := 856) (by decide +kernel), List.mem_of_getElem? (i := 1253) (by decide +kernel), List.mem_of_getElem? (i := 1254) (by decide +kernel)⟩
theorem lw_p114 : lw_okq (⟨"EndSumsModel", "hasCell", "(II)Z"⟩, 32) := ⟨⟨by decide +kernel, by decide +kernel⟩, List.mem_of_getElem? (i := 856) (by decide +kernel), List.mem_of_getElem? (i := 1276) (by decide +kernel), List.mem_of_getElem? (i := 1277) (by decide +kernel)⟩
def lw_privs_8 : List (MethodName × Nat) := [(⟨"EndSumsModel", "begins", "(I)V"⟩, 32), (⟨"EndSumsModel", "costs", "(I)I"⟩, 32), (⟨"EndSumsModel", "hasCell", "(II)Z"⟩, 32)]
theorem lw_r8 : ∀ q ∈ lw_privs_8, lw_okq q := List.forall_mem_cons.mpr ⟨lw_p112, List.forall_mem_cons.mpr ⟨lw_p113, List.forall_mem_cons.mpr ⟨lw_p114, fun _ h => absurd h List.not_mem_nil⟩⟩⟩
def lw_privs : List (MethodName × Nat) := lw_privs_1 ++ (lw_privs_2 ++ (lw_privs_3 ++ (lw_privs_4 ++ (lw_privs_5 ++ (lw_privs_6 ++ (lw_privs_7 ++ (lw_privs_8)))))))
def lw_tbl : List Cond := k2_sels lw_privs ++ tables_1
theorem lw_privs_ok : ∀ q ∈ lw_privs, lw_okq q := by
  show ∀ q ∈ lw_privs_1 ++ (lw_privs_2 ++ (lw_privs_3 ++ (lw_privs_4 ++ (lw_privs_5 ++ (lw_privs_6 ++ (lw_privs_7 ++ (lw_privs_8))))))), lw_okq q
  exact List.forall_mem_append.mpr ⟨lw_r1, List.forall_mem_append.mpr ⟨lw_r2, List.forall_mem_append.mpr ⟨lw_r3, List.forall_mem_append.mpr ⟨lw_r4, List.forall_mem_append.mpr ⟨lw_r5, List.forall_mem_append.mpr ⟨lw_r6, List.forall_mem_append.mpr ⟨lw_r7, lw_r8⟩⟩⟩⟩⟩⟩⟩

def RX0 : String := "EndSums$Joining"
def TX0 : u_T := fun k => match k with
  | 0 => ("EndSums$Joining", "kind", "I", false)
  | 1 => ("EndSums$Joining", "table", "LEndSums$Table;", true)
  | 2 => ("EndSums$Joining", "p", "J", false)
  | _ => ("EndSums$Joining", "q", "J", false)
def tyX0 : Nat → FieldType := fun k => match k with
  | 0 => .int
  | 1 => .object "EndSums$Table"
  | 2 => .long
  | _ => .long
abbrev wsX00 : List Cond := u_ws RX0 TX0 4
theorem nmX0 : ∀ a, a < 4 → ∀ b, b < 4 → a ≠ b → (TX0 a).2.1 ≠ (TX0 b).2.1 := by decide +kernel
theorem tyX0_ok : ∀ k, k < 4 → parseFieldDescriptor (TX0 k).2.2.1 = some (tyX0 k) := by decide +kernel
abbrev cX0_init : ByteArray := prog_2_method_1_code
def yX0_init : MethodName := ⟨RX0, "<init>", "()V"⟩
abbrev cX0_startWith : ByteArray := prog_2_method_2_code
def yX0_startWith : MethodName := ⟨RX0, "startWith", "(JJ)V"⟩
abbrev cX0_comesTo : ByteArray := prog_2_method_3_code
def yX0_comesTo : MethodName := ⟨RX0, "comesTo", "(JJ)Z"⟩
abbrev cX0_startEmpty : ByteArray := prog_2_method_4_code
def yX0_startEmpty : MethodName := ⟨RX0, "startEmpty", "()V"⟩
abbrev cX0_start : ByteArray := prog_2_method_5_code
def yX0_start : MethodName := ⟨RX0, "start", "(I)V"⟩
abbrev cX0_follow : ByteArray := prog_2_method_6_code
def yX0_follow : MethodName := ⟨RX0, "follow", "(I)V"⟩
abbrev cX0_emptyP : ByteArray := prog_2_method_7_code
def yX0_emptyP : MethodName := ⟨RX0, "emptyP", "()J"⟩
abbrev cX0_emptyQ : ByteArray := prog_2_method_8_code
def yX0_emptyQ : MethodName := ⟨RX0, "emptyQ", "()J"⟩
abbrev cX0_elementP : ByteArray := prog_2_method_9_code
def yX0_elementP : MethodName := ⟨RX0, "elementP", "(I)J"⟩
abbrev cX0_elementQ : ByteArray := prog_2_method_10_code
def yX0_elementQ : MethodName := ⟨RX0, "elementQ", "(I)J"⟩
abbrev cX0_join : ByteArray := prog_2_method_11_code
def yX0_join : MethodName := ⟨RX0, "join", "(JJJJ)V"⟩
abbrev cX0_greatestDivisor : ByteArray := prog_2_method_12_code
def yX0_greatestDivisor : MethodName := ⟨RX0, "greatestDivisor", "(JJ)J"⟩
abbrev cX0_arrangement : ByteArray := prog_2_method_13_code
def yX0_arrangement : MethodName := ⟨RX0, "arrangement", "(I)I"⟩
abbrev cX0_leaps : ByteArray := prog_2_method_14_code
def yX0_leaps : MethodName := ⟨RX0, "leaps", "(I)I"⟩
abbrev cX0_arranged : ByteArray := prog_2_method_15_code
def yX0_arranged : MethodName := ⟨RX0, "arranged", "(II)I"⟩
abbrev cX0_power : ByteArray := prog_2_method_16_code
def yX0_power : MethodName := ⟨RX0, "power", "(II)I"⟩
abbrev cX0_unlikeItems : ByteArray := prog_2_method_17_code
def yX0_unlikeItems : MethodName := ⟨RX0, "unlikeItems", "()I"⟩
abbrev cX0_undo : ByteArray := prog_2_method_18_code
def yX0_undo : MethodName := ⟨RX0, "undo", "(II)Z"⟩
def RX1 : String := "EndSums$Line"
def TX1 : u_T := fun k => match k with
  | 0 => ("EndSums$Line", "front", "LEndSums$Pile;", true)
  | _ => ("EndSums$Line", "back", "LEndSums$Pile;", true)
def tyX1 : Nat → FieldType := fun k => match k with
  | 0 => .object "EndSums$Pile"
  | _ => .object "EndSums$Pile"
abbrev wsX10 : List Cond := u_ws RX1 TX1 2
theorem nmX1 : ∀ a, a < 2 → ∀ b, b < 2 → a ≠ b → (TX1 a).2.1 ≠ (TX1 b).2.1 := by decide +kernel
theorem tyX1_ok : ∀ k, k < 2 → parseFieldDescriptor (TX1 k).2.2.1 = some (tyX1 k) := by decide +kernel
abbrev cX1_init : ByteArray := prog_3_method_1_code
def yX1_init : MethodName := ⟨RX1, "<init>", "()V"⟩
abbrev cX1_size : ByteArray := prog_3_method_2_code
def yX1_size : MethodName := ⟨RX1, "size", "()I"⟩
abbrev cX1_pile : ByteArray := prog_3_method_3_code
def yX1_pile : MethodName := ⟨RX1, "pile", "(I)LEndSums$Pile;"⟩
abbrev cX1_endOf : ByteArray := prog_3_method_4_code
def yX1_endOf : MethodName := ⟨RX1, "endOf", "(I)I"⟩
abbrev cX1_heightOf : ByteArray := prog_3_method_5_code
def yX1_heightOf : MethodName := ⟨RX1, "heightOf", "(I)I"⟩
abbrev cX1_itemAt : ByteArray := prog_3_method_6_code
def yX1_itemAt : MethodName := ⟨RX1, "itemAt", "(I)I"⟩
abbrev cX1_markOf : ByteArray := prog_3_method_7_code
def yX1_markOf : MethodName := ⟨RX1, "markOf", "(I)I"⟩
abbrev cX1_become : ByteArray := prog_3_method_8_code
def yX1_become : MethodName := ⟨RX1, "become", "(LEndSums$Line;)V"⟩
abbrev cX1_hasCell : ByteArray := prog_3_method_9_code
def yX1_hasCell : MethodName := ⟨RX1, "hasCell", "(III)Z"⟩
abbrev cX1_cellsSharedWith : ByteArray := prog_3_method_10_code
def yX1_cellsSharedWith : MethodName := ⟨RX1, "cellsSharedWith", "(LEndSums$Line;)I"⟩
abbrev cX1_hasItemsOf : ByteArray := prog_3_method_11_code
def yX1_hasItemsOf : MethodName := ⟨RX1, "hasItemsOf", "(LEndSums$Line;)Z"⟩
def RX2 : String := "EndSums$Pile"
def TX2 : u_T := fun k => match k with
  | 0 => ("EndSums$Pile", "size", "I", false)
  | 1 => ("EndSums$Pile", "items", "[I", true)
  | 2 => ("EndSums$Pile", "ps", "[J", true)
  | 3 => ("EndSums$Pile", "qs", "[J", true)
  | _ => ("EndSums$Pile", "marks", "[I", true)
def tyX2 : Nat → FieldType := fun k => match k with
  | 0 => .int
  | 1 => .array .int
  | 2 => .array .long
  | 3 => .array .long
  | _ => .array .int
abbrev wsX20 : List Cond := u_ws RX2 TX2 5
theorem nmX2 : ∀ a, a < 5 → ∀ b, b < 5 → a ≠ b → (TX2 a).2.1 ≠ (TX2 b).2.1 := by decide +kernel
theorem tyX2_ok : ∀ k, k < 5 → parseFieldDescriptor (TX2 k).2.2.1 = some (tyX2 k) := by decide +kernel
abbrev cX2_init : ByteArray := prog_4_method_1_code
def yX2_init : MethodName := ⟨RX2, "<init>", "()V"⟩
abbrev cX2_grow : ByteArray := prog_4_method_2_code
def yX2_grow : MethodName := ⟨RX2, "grow", "(IJJI)V"⟩
abbrev cX2_become : ByteArray := prog_4_method_3_code
def yX2_become : MethodName := ⟨RX2, "become", "(LEndSums$Pile;)V"⟩
abbrev cX2_has : ByteArray := prog_4_method_4_code
def yX2_has : MethodName := ⟨RX2, "has", "(II)Z"⟩
def RX3 : String := "EndSums$Table"
def TX3 : u_T := fun k => match k with
  | 0 => ("EndSums$Table", "n", "I", false)
  | 1 => ("EndSums$Table", "neutral", "I", false)
  | _ => ("EndSums$Table", "entries", "[I", true)
def tyX3 : Nat → FieldType := fun k => match k with
  | 0 => .int
  | 1 => .int
  | _ => .array .int
abbrev wsX30 : List Cond := u_ws RX3 TX3 3
theorem nmX3 : ∀ a, a < 3 → ∀ b, b < 3 → a ≠ b → (TX3 a).2.1 ≠ (TX3 b).2.1 := by decide +kernel
theorem tyX3_ok : ∀ k, k < 3 → parseFieldDescriptor (TX3 k).2.2.1 = some (tyX3 k) := by decide +kernel
abbrev cX3_init : ByteArray := prog_5_method_1_code
def yX3_init : MethodName := ⟨RX3, "<init>", "()V"⟩
abbrev cX3_entry : ByteArray := prog_5_method_2_code
def yX3_entry : MethodName := ⟨RX3, "entry", "(II)I"⟩
abbrev cX3_kindOf : ByteArray := prog_5_method_3_code
def yX3_kindOf : MethodName := ⟨RX3, "kindOf", "(I)I"⟩
abbrev cX3_become : ByteArray := prog_5_method_4_code
def yX3_become : MethodName := ⟨RX3, "become", "(LEndSums$Table;)V"⟩
abbrev cX3_read : ByteArray := prog_5_method_5_code
def yX3_read : MethodName := ⟨RX3, "read", "(LEndSums$Text;)V"⟩
abbrev cX3_neutralOne : ByteArray := prog_5_method_6_code
def yX3_neutralOne : MethodName := ⟨RX3, "neutralOne", "()I"⟩
abbrev cX3_firstNotAlike : ByteArray := prog_5_method_7_code
def yX3_firstNotAlike : MethodName := ⟨RX3, "firstNotAlike", "()I"⟩
def RX4 : String := "EndSums$Takings"
def TX4 : u_T := fun k => match k with
  | 0 => ("EndSums$Takings", "costs", "[I", false)
  | 1 => ("EndSums$Takings", "ends", "[I", false)
  | 2 => ("EndSums$Takings", "nextCosts", "[I", false)
  | 3 => ("EndSums$Takings", "nextEnds", "[I", false)
  | 4 => ("EndSums$Takings", "dearestCost", "I", false)
  | _ => ("EndSums$Takings", "dearestEnds", "I", false)
def tyX4 : Nat → FieldType := fun k => match k with
  | 0 => .array .int
  | 1 => .array .int
  | 2 => .array .int
  | 3 => .array .int
  | 4 => .int
  | _ => .int
abbrev wsX40 : List Cond := u_ws RX4 TX4 6
theorem nmX4 : ∀ a, a < 6 → ∀ b, b < 6 → a ≠ b → (TX4 a).2.1 ≠ (TX4 b).2.1 := by decide +kernel
theorem tyX4_ok : ∀ k, k < 6 → parseFieldDescriptor (TX4 k).2.2.1 = some (tyX4 k) := by decide +kernel
abbrev cX4_init : ByteArray := prog_6_method_1_code
def yX4_init : MethodName := ⟨RX4, "<init>", "()V"⟩
abbrev cX4_cost : ByteArray := prog_6_method_2_code
def yX4_cost : MethodName := ⟨RX4, "cost", "(III)I"⟩
abbrev cX4_frontBehind : ByteArray := prog_6_method_3_code
def yX4_frontBehind : MethodName := ⟨RX4, "frontBehind", "(III)I"⟩
abbrev cX4_drain : ByteArray := prog_6_method_4_code
def yX4_drain : MethodName := ⟨RX4, "drain", "(II)I"⟩
abbrev cX4_seek : ByteArray := prog_6_method_5_code
def yX4_seek : MethodName := ⟨RX4, "seek", "(III)V"⟩
abbrev cX4_forget : ByteArray := prog_6_method_6_code
def yX4_forget : MethodName := ⟨RX4, "forget", "([I)V"⟩
abbrev cX4_offer : ByteArray := prog_6_method_7_code
def yX4_offer : MethodName := ⟨RX4, "offer", "(IIII)V"⟩
abbrev cX4_swap : ByteArray := prog_6_method_8_code
def yX4_swap : MethodName := ⟨RX4, "swap", "()V"⟩
abbrev cX4_choose : ByteArray := prog_6_method_9_code
def yX4_choose : MethodName := ⟨RX4, "choose", "(I)V"⟩
def RX5 : String := "EndSums$Text"
def TX5 : u_T := fun k => match k with
  | 0 => ("EndSums$Text", "length", "I", false)
  | _ => ("EndSums$Text", "signs", "[I", true)
def tyX5 : Nat → FieldType := fun k => match k with
  | 0 => .int
  | _ => .array .int
abbrev wsX50 : List Cond := u_ws RX5 TX5 2
theorem nmX5 : ∀ a, a < 2 → ∀ b, b < 2 → a ≠ b → (TX5 a).2.1 ≠ (TX5 b).2.1 := by decide +kernel
theorem tyX5_ok : ∀ k, k < 2 → parseFieldDescriptor (TX5 k).2.2.1 = some (tyX5 k) := by decide +kernel
abbrev cX5_init : ByteArray := prog_7_method_1_code
def yX5_init : MethodName := ⟨RX5, "<init>", "()V"⟩
abbrev cX5_grow : ByteArray := prog_7_method_2_code
def yX5_grow : MethodName := ⟨RX5, "grow", "(I)V"⟩
abbrev cX5_signAt : ByteArray := prog_7_method_3_code
def yX5_signAt : MethodName := ⟨RX5, "signAt", "(I)I"⟩
abbrev cX5_signOrBehind : ByteArray := prog_7_method_4_code
def yX5_signOrBehind : MethodName := ⟨RX5, "signOrBehind", "(I)I"⟩
abbrev cX5_isDigit : ByteArray := prog_7_method_5_code
def yX5_isDigit : MethodName := ⟨RX5, "isDigit", "(I)Z"⟩
abbrev cX5_firstRow : ByteArray := prog_7_method_6_code
def yX5_firstRow : MethodName := ⟨RX5, "firstRow", "()I"⟩
abbrev cX5_firstWrongInTable : ByteArray := prog_7_method_7_code
def yX5_firstWrongInTable : MethodName := ⟨RX5, "firstWrongInTable", "()I"⟩
abbrev cX5_fitsTable : ByteArray := prog_7_method_8_code
def yX5_fitsTable : MethodName := ⟨RX5, "fitsTable", "(II)Z"⟩
abbrev cX5_isAct : ByteArray := prog_7_method_9_code
def yX5_isAct : MethodName := ⟨RX5, "isAct", "(I)Z"⟩
abbrev cX5_isPut : ByteArray := prog_7_method_10_code
def yX5_isPut : MethodName := ⟨RX5, "isPut", "(I)Z"⟩
abbrev cX5_digitsFrom : ByteArray := prog_7_method_11_code
def yX5_digitsFrom : MethodName := ⟨RX5, "digitsFrom", "(II)I"⟩
abbrev cX5_firstWrongInActs : ByteArray := prog_7_method_12_code
def yX5_firstWrongInActs : MethodName := ⟨RX5, "firstWrongInActs", "()I"⟩
abbrev cX5_itemBehind : ByteArray := prog_7_method_13_code
def yX5_itemBehind : MethodName := ⟨RX5, "itemBehind", "(II)I"⟩
def RX6 : String := "EndSums$Works"
def TX6 : u_T := fun k => match k with
  | 0 => ("EndSums$Works", "joining", "LEndSums$Joining;", true)
  | 1 => ("EndSums$Works", "made", "I", false)
  | 2 => ("EndSums$Works", "rebuilt", "I", false)
  | _ => ("EndSums$Works", "held", "[I", true)
def tyX6 : Nat → FieldType := fun k => match k with
  | 0 => .object "EndSums$Joining"
  | 1 => .int
  | 2 => .int
  | _ => .array .int
abbrev wsX60 : List Cond := u_ws RX6 TX6 4
theorem nmX6 : ∀ a, a < 4 → ∀ b, b < 4 → a ≠ b → (TX6 a).2.1 ≠ (TX6 b).2.1 := by decide +kernel
theorem tyX6_ok : ∀ k, k < 4 → parseFieldDescriptor (TX6 k).2.2.1 = some (tyX6 k) := by decide +kernel
abbrev cX6_init : ByteArray := prog_8_method_1_code
def yX6_init : MethodName := ⟨RX6, "<init>", "(LEndSums$Joining;)V"⟩
abbrev cX6_make : ByteArray := prog_8_method_2_code
def yX6_make : MethodName := ⟨RX6, "make", "(LEndSums$Pile;II)V"⟩
abbrev cX6_put : ByteArray := prog_8_method_3_code
def yX6_put : MethodName := ⟨RX6, "put", "(LEndSums$Line;II)V"⟩
abbrev cX6_hold : ByteArray := prog_8_method_4_code
def yX6_hold : MethodName := ⟨RX6, "hold", "(LEndSums$Line;)V"⟩
abbrev cX6_lay : ByteArray := prog_8_method_5_code
def yX6_lay : MethodName := ⟨RX6, "lay", "(LEndSums$Line;III)V"⟩
abbrev cX6_layAsItLies : ByteArray := prog_8_method_6_code
def yX6_layAsItLies : MethodName := ⟨RX6, "layAsItLies", "(LEndSums$Line;)V"⟩
abbrev cX6_take : ByteArray := prog_8_method_7_code
def yX6_take : MethodName := ⟨RX6, "take", "(LEndSums$Line;I)I"⟩
abbrev cX6_split : ByteArray := prog_8_method_8_code
def yX6_split : MethodName := ⟨RX6, "split", "(LEndSums$Line;ILEndSums$Line;)V"⟩
abbrev cX6_turn : ByteArray := prog_8_method_9_code
def yX6_turn : MethodName := ⟨RX6, "turn", "(LEndSums$Line;)V"⟩
abbrev cX6_remake : ByteArray := prog_8_method_10_code
def yX6_remake : MethodName := ⟨RX6, "remake", "(LEndSums$Pile;IIII)V"⟩
def RX7 : String := "EndSums"
def TX7 : u_T := fun k => match k with
  | 0 => ("EndSums", "joining", "LEndSums$Joining;", true)
  | 1 => ("EndSums", "works", "LEndSums$Works;", true)
  | 2 => ("EndSums", "lines", "[LEndSums$Line;", true)
  | 3 => ("EndSums", "spare", "LEndSums$Line;", true)
  | 4 => ("EndSums", "fresh", "LEndSums$Table;", true)
  | 5 => ("EndSums", "text", "LEndSums$Text;", true)
  | 6 => ("EndSums", "takings", "LEndSums$Takings;", true)
  | 7 => ("EndSums", "told", "[J", true)
  | 8 => ("EndSums", "toldCount", "I", false)
  | 9 => ("EndSums", "sumsP", "[J", true)
  | _ => ("EndSums", "sumsQ", "[J", true)
def tyX7 : Nat → FieldType := fun k => match k with
  | 0 => .object "EndSums$Joining"
  | 1 => .object "EndSums$Works"
  | 2 => .array (.object "EndSums$Line")
  | 3 => .object "EndSums$Line"
  | 4 => .object "EndSums$Table"
  | 5 => .object "EndSums$Text"
  | 6 => .object "EndSums$Takings"
  | 7 => .array .long
  | 8 => .int
  | 9 => .array .long
  | _ => .array .long
abbrev wsX70 : List Cond := u_ws RX7 TX7 11
theorem nmX7 : ∀ a, a < 11 → ∀ b, b < 11 → a ≠ b → (TX7 a).2.1 ≠ (TX7 b).2.1 := by decide +kernel
theorem tyX7_ok : ∀ k, k < 11 → parseFieldDescriptor (TX7 k).2.2.1 = some (tyX7 k) := by decide +kernel
abbrev cX7_init : ByteArray := prog_1_method_1_code
def yX7_init : MethodName := ⟨RX7, "<init>", "()V"⟩
abbrev cX7_rule : ByteArray := prog_1_method_2_code
def yX7_rule : MethodName := ⟨RX7, "rule", "(I)I"⟩
abbrev cX7_table : ByteArray := prog_1_method_3_code
def yX7_table : MethodName := ⟨RX7, "table", "()I"⟩
abbrev cX7_commutes : ByteArray := prog_1_method_4_code
def yX7_commutes : MethodName := ⟨RX7, "commutes", "(II)I"⟩
abbrev cX7_powers : ByteArray := prog_1_method_5_code
def yX7_powers : MethodName := ⟨RX7, "powers", "(II)I"⟩
abbrev cX7_order : ByteArray := prog_1_method_6_code
def yX7_order : MethodName := ⟨RX7, "order", "(I)I"⟩
abbrev cX7_undoes : ByteArray := prog_1_method_7_code
def yX7_undoes : MethodName := ⟨RX7, "undoes", "(I)I"⟩
abbrev cX7_puts : ByteArray := prog_1_method_8_code
def yX7_puts : MethodName := ⟨RX7, "puts", "(III)I"⟩
abbrev cX7_takes : ByteArray := prog_1_method_9_code
def yX7_takes : MethodName := ⟨RX7, "takes", "(II)I"⟩
abbrev cX7_copies : ByteArray := prog_1_method_10_code
def yX7_copies : MethodName := ⟨RX7, "copies", "(II)I"⟩
abbrev cX7_joins : ByteArray := prog_1_method_11_code
def yX7_joins : MethodName := ⟨RX7, "joins", "(II)I"⟩
abbrev cX7_parts : ByteArray := prog_1_method_12_code
def yX7_parts : MethodName := ⟨RX7, "parts", "(III)I"⟩
abbrev cX7_reverses : ByteArray := prog_1_method_13_code
def yX7_reverses : MethodName := ⟨RX7, "reverses", "(I)I"⟩
abbrev cX7_changes : ByteArray := prog_1_method_14_code
def yX7_changes : MethodName := ⟨RX7, "changes", "(III)I"⟩
abbrev cX7_slips : ByteArray := prog_1_method_15_code
def yX7_slips : MethodName := ⟨RX7, "slips", "(III)I"⟩
abbrev cX7_drops : ByteArray := prog_1_method_16_code
def yX7_drops : MethodName := ⟨RX7, "drops", "(II)I"⟩
abbrev cX7_shifts : ByteArray := prog_1_method_17_code
def yX7_shifts : MethodName := ⟨RX7, "shifts", "(III)I"⟩
abbrev cX7_clears : ByteArray := prog_1_method_18_code
def yX7_clears : MethodName := ⟨RX7, "clears", "(I)I"⟩
abbrev cX7_run : ByteArray := prog_1_method_19_code
def yX7_run : MethodName := ⟨RX7, "run", "(I)I"⟩
abbrev cX7_sign : ByteArray := prog_1_method_20_code
def yX7_sign : MethodName := ⟨RX7, "sign", "(I)I"⟩
abbrev cX7_end : ByteArray := prog_1_method_21_code
def yX7_end : MethodName := ⟨RX7, "end", "(I)Z"⟩
abbrev cX7_sum : ByteArray := prog_1_method_22_code
def yX7_sum : MethodName := ⟨RX7, "sum", "(I)I"⟩
abbrev cX7_item : ByteArray := prog_1_method_23_code
def yX7_item : MethodName := ⟨RX7, "item", "(II)I"⟩
abbrev cX7_part : ByteArray := prog_1_method_24_code
def yX7_part : MethodName := ⟨RX7, "part", "(III)I"⟩
abbrev cX7_windows : ByteArray := prog_1_method_25_code
def yX7_windows : MethodName := ⟨RX7, "windows", "(II)I"⟩
abbrev cX7_first : ByteArray := prog_1_method_26_code
def yX7_first : MethodName := ⟨RX7, "first", "(II)I"⟩
abbrev cX7_longest : ByteArray := prog_1_method_27_code
def yX7_longest : MethodName := ⟨RX7, "longest", "(II)I"⟩
abbrev cX7_greatest : ByteArray := prog_1_method_28_code
def yX7_greatest : MethodName := ⟨RX7, "greatest", "(II)I"⟩
abbrev cX7_finds : ByteArray := prog_1_method_29_code
def yX7_finds : MethodName := ⟨RX7, "finds", "(III)I"⟩
abbrev cX7_drains : ByteArray := prog_1_method_30_code
def yX7_drains : MethodName := ⟨RX7, "drains", "(I)I"⟩
abbrev cX7_unlike : ByteArray := prog_1_method_31_code
def yX7_unlike : MethodName := ⟨RX7, "unlike", "(I)I"⟩
abbrev cX7_same : ByteArray := prog_1_method_32_code
def yX7_same : MethodName := ⟨RX7, "same", "(II)I"⟩
abbrev cX7_shared : ByteArray := prog_1_method_33_code
def yX7_shared : MethodName := ⟨RX7, "shared", "()I"⟩
abbrev cX7_would : ByteArray := prog_1_method_34_code
def yX7_would : MethodName := ⟨RX7, "would", "(II)I"⟩
abbrev cX7_dearest : ByteArray := prog_1_method_35_code
def yX7_dearest : MethodName := ⟨RX7, "dearest", "(II)I"⟩
abbrev cX7_count : ByteArray := prog_1_method_36_code
def yX7_count : MethodName := ⟨RX7, "count", "(I)I"⟩
abbrev cX7_row : ByteArray := prog_1_method_37_code
def yX7_row : MethodName := ⟨RX7, "row", "(I)J"⟩
abbrev cX7_lineAt : ByteArray := prog_1_method_38_code
def yX7_lineAt : MethodName := ⟨RX7, "lineAt", "(I)LEndSums$Line;"⟩
abbrev cX7_isEnd : ByteArray := prog_1_method_39_code
def yX7_isEnd : MethodName := ⟨RX7, "isEnd", "(I)Z"⟩
abbrev cX7_isItem : ByteArray := prog_1_method_40_code
def yX7_isItem : MethodName := ⟨RX7, "isItem", "(I)Z"⟩
abbrev cX7_at : ByteArray := prog_1_method_41_code
def yX7_at : MethodName := ⟨RX7, "at", "([II)I"⟩
abbrev cX7_at_ : ByteArray := prog_1_method_42_code
def yX7_at_ : MethodName := ⟨RX7, "at", "([JI)J"⟩
abbrev cX7_set : ByteArray := prog_1_method_43_code
def yX7_set : MethodName := ⟨RX7, "set", "([III)V"⟩
abbrev cX7_set_ : ByteArray := prog_1_method_44_code
def yX7_set_ : MethodName := ⟨RX7, "set", "([JIJ)V"⟩
abbrev cX7_tellMore : ByteArray := prog_1_method_45_code
def yX7_tellMore : MethodName := ⟨RX7, "tellMore", "(J)V"⟩
abbrev cX7_tell : ByteArray := prog_1_method_46_code
def yX7_tell : MethodName := ⟨RX7, "tell", "(J)V"⟩
abbrev cX7_tell_ : ByteArray := prog_1_method_47_code
def yX7_tell_ : MethodName := ⟨RX7, "tell", "(JJ)V"⟩
abbrev cX7_tell__ : ByteArray := prog_1_method_48_code
def yX7_tell__ : MethodName := ⟨RX7, "tell", "(JJJ)V"⟩
abbrev cX7_tell___ : ByteArray := prog_1_method_49_code
def yX7_tell___ : MethodName := ⟨RX7, "tell", "(JJJJ)V"⟩
abbrev cX7_layAllAnew : ByteArray := prog_1_method_50_code
def yX7_layAllAnew : MethodName := ⟨RX7, "layAllAnew", "()V"⟩
abbrev cX7_act : ByteArray := prog_1_method_51_code
def yX7_act : MethodName := ⟨RX7, "act", "(LEndSums$Line;II)Z"⟩
abbrev cX7_sumUp : ByteArray := prog_1_method_52_code
def yX7_sumUp : MethodName := ⟨RX7, "sumUp", "(LEndSums$Line;II)V"⟩
abbrev cX7_keepSum : ByteArray := prog_1_method_53_code
def yX7_keepSum : MethodName := ⟨RX7, "keepSum", "(I)V"⟩
abbrev cX7_sumFirsts : ByteArray := prog_1_method_54_code
def yX7_sumFirsts : MethodName := ⟨RX7, "sumFirsts", "(LEndSums$Line;)V"⟩
abbrev cX7_stretch : ByteArray := prog_1_method_55_code
def yX7_stretch : MethodName := ⟨RX7, "stretch", "(LEndSums$Line;I)V"⟩
abbrev cX7_sumIsJust : ByteArray := prog_1_method_56_code
def yX7_sumIsJust : MethodName := ⟨RX7, "sumIsJust", "(IJJ)Z"⟩
abbrev cX7_firstSumLike : ByteArray := prog_1_method_57_code
def yX7_firstSumLike : MethodName := ⟨RX7, "firstSumLike", "(I)I"⟩
abbrev cX7_sumsLike : ByteArray := prog_1_method_58_code
def yX7_sumsLike : MethodName := ⟨RX7, "sumsLike", "(II)I"⟩
abbrev cX7_sumsJust : ByteArray := prog_1_method_59_code
def yX7_sumsJust : MethodName := ⟨RX7, "sumsJust", "(JJI)I"⟩
abbrev cX7_firstJust : ByteArray := prog_1_method_60_code
def yX7_firstJust : MethodName := ⟨RX7, "firstJust", "(JJI)I"⟩
abbrev cX7_firstAtMost : ByteArray := prog_1_method_61_code
def yX7_firstAtMost : MethodName := ⟨RX7, "firstAtMost", "(II)I"⟩
abbrev cX7_linesWithCell : ByteArray := prog_1_method_62_code
def yX7_linesWithCell : MethodName := ⟨RX7, "linesWithCell", "(LEndSums$Line;II)I"⟩
def RX8 : String := "EndSumsModel"
def TX8 : u_T := fun k => match k with
  | 0 => ("EndSumsModel", "thrown", "I", false)
  | 1 => ("EndSumsModel", "told", "I", false)
  | 2 => ("EndSumsModel", "row", "[J", true)
  | 3 => ("EndSumsModel", "tape", "[I", true)
  | 4 => ("EndSumsModel", "taped", "I", false)
  | 5 => ("EndSumsModel", "at", "I", false)
  | 6 => ("EndSumsModel", "to", "I", false)
  | 7 => ("EndSumsModel", "rule", "I", false)
  | 8 => ("EndSumsModel", "wide", "I", false)
  | 9 => ("EndSumsModel", "neutral", "I", false)
  | 10 => ("EndSumsModel", "table", "[I", true)
  | 11 => ("EndSumsModel", "p", "J", false)
  | 12 => ("EndSumsModel", "q", "J", false)
  | 13 => ("EndSumsModel", "places", "[I", true)
  | 14 => ("EndSumsModel", "others", "[I", true)
  | 15 => ("EndSumsModel", "made", "[I", true)
  | 16 => ("EndSumsModel", "sumP", "[J", true)
  | 17 => ("EndSumsModel", "sumQ", "[J", true)
  | 18 => ("EndSumsModel", "many", "[I", true)
  | 19 => ("EndSumsModel", "cell", "[I", true)
  | 20 => ("EndSumsModel", "item", "[I", true)
  | 21 => ("EndSumsModel", "cellP", "[J", true)
  | 22 => ("EndSumsModel", "cellQ", "[J", true)
  | 23 => ("EndSumsModel", "work", "I", false)
  | 24 => ("EndSumsModel", "rebuilt", "I", false)
  | 25 => ("EndSumsModel", "items", "[I", true)
  | 26 => ("EndSumsModel", "readTable", "[I", true)
  | 27 => ("EndSumsModel", "readWide", "I", false)
  | 28 => ("EndSumsModel", "act", "[I", true)
  | 29 => ("EndSumsModel", "actItem", "[I", true)
  | 30 => ("EndSumsModel", "front", "I", false)
  | _ => ("EndSumsModel", "back", "I", false)
def tyX8 : Nat → FieldType := fun k => match k with
  | 0 => .int
  | 1 => .int
  | 2 => .array .long
  | 3 => .array .int
  | 4 => .int
  | 5 => .int
  | 6 => .int
  | 7 => .int
  | 8 => .int
  | 9 => .int
  | 10 => .array .int
  | 11 => .long
  | 12 => .long
  | 13 => .array .int
  | 14 => .array .int
  | 15 => .array .int
  | 16 => .array .long
  | 17 => .array .long
  | 18 => .array .int
  | 19 => .array .int
  | 20 => .array .int
  | 21 => .array .long
  | 22 => .array .long
  | 23 => .int
  | 24 => .int
  | 25 => .array .int
  | 26 => .array .int
  | 27 => .int
  | 28 => .array .int
  | 29 => .array .int
  | 30 => .int
  | _ => .int
abbrev wsX80 : List Cond := u_ws RX8 TX8 32
theorem nmX8 : ∀ a, a < 32 → ∀ b, b < 32 → a ≠ b → (TX8 a).2.1 ≠ (TX8 b).2.1 := by decide +kernel
theorem tyX8_ok : ∀ k, k < 32 → parseFieldDescriptor (TX8 k).2.2.1 = some (tyX8 k) := by decide +kernel
abbrev cX8_thrown : ByteArray := prog_10_method_1_code
def yX8_thrown : MethodName := ⟨RX8, "thrown", "()I"⟩
abbrev cX8_in : ByteArray := prog_10_method_2_code
def yX8_in : MethodName := ⟨RX8, "in", "(JJJ)Z"⟩
abbrev cX8_flag : ByteArray := prog_10_method_3_code
def yX8_flag : MethodName := ⟨RX8, "flag", "(Z)I"⟩
abbrev cX8_enters : ByteArray := prog_10_method_4_code
def yX8_enters : MethodName := ⟨RX8, "enters", "(J)V"⟩
abbrev cX8_sign : ByteArray := prog_10_method_5_code
def yX8_sign : MethodName := ⟨RX8, "sign", "(I)I"⟩
abbrev cX8_end : ByteArray := prog_10_method_6_code
def yX8_end : MethodName := ⟨RX8, "end", "(I)Z"⟩
abbrev cX8_reads : ByteArray := prog_10_method_7_code
def yX8_reads : MethodName := ⟨RX8, "reads", "()V"⟩
abbrev cX8_takesSign : ByteArray := prog_10_method_8_code
def yX8_takesSign : MethodName := ⟨RX8, "takesSign", "(I)Z"⟩
abbrev cX8_isDigit : ByteArray := prog_10_method_9_code
def yX8_isDigit : MethodName := ⟨RX8, "isDigit", "()Z"⟩
abbrev cX8_init : ByteArray := prog_10_method_10_code
def yX8_init : MethodName := ⟨RX8, "<init>", "()V"⟩
abbrev cX8_is : ByteArray := prog_10_method_11_code
def yX8_is : MethodName := ⟨RX8, "is", "(JJ)V"⟩
abbrev cX8_empty : ByteArray := prog_10_method_12_code
def yX8_empty : MethodName := ⟨RX8, "empty", "()V"⟩
abbrev cX8_element : ByteArray := prog_10_method_13_code
def yX8_element : MethodName := ⟨RX8, "element", "(I)V"⟩
abbrev cX8_common : ByteArray := prog_10_method_14_code
def yX8_common : MethodName := ⟨RX8, "common", "(JJ)J"⟩
abbrev cX8_lays : ByteArray := prog_10_method_15_code
def yX8_lays : MethodName := ⟨RX8, "lays", "(I[I)V"⟩
abbrev cX8_numberOf : ByteArray := prog_10_method_16_code
def yX8_numberOf : MethodName := ⟨RX8, "numberOf", "([I)I"⟩
abbrev cX8_leaps : ByteArray := prog_10_method_17_code
def yX8_leaps : MethodName := ⟨RX8, "leaps", "(I)I"⟩
abbrev cX8_arrangedBy : ByteArray := prog_10_method_18_code
def yX8_arrangedBy : MethodName := ⟨RX8, "arrangedBy", "(II)I"⟩
abbrev cX8_join : ByteArray := prog_10_method_19_code
def yX8_join : MethodName := ⟨RX8, "join", "(JJJJ)V"⟩
abbrev cX8_isItem : ByteArray := prog_10_method_20_code
def yX8_isItem : MethodName := ⟨RX8, "isItem", "(I)Z"⟩
abbrev cX8_joinsTwo : ByteArray := prog_10_method_21_code
def yX8_joinsTwo : MethodName := ⟨RX8, "joinsTwo", "(II)V"⟩
abbrev cX8_commutes : ByteArray := prog_10_method_22_code
def yX8_commutes : MethodName := ⟨RX8, "commutes", "(II)I"⟩
abbrev cX8_power : ByteArray := prog_10_method_23_code
def yX8_power : MethodName := ⟨RX8, "power", "(II)I"⟩
abbrev cX8_powers : ByteArray := prog_10_method_24_code
def yX8_powers : MethodName := ⟨RX8, "powers", "(II)I"⟩
abbrev cX8_order : ByteArray := prog_10_method_25_code
def yX8_order : MethodName := ⟨RX8, "order", "(I)I"⟩
abbrev cX8_undoes : ByteArray := prog_10_method_26_code
def yX8_undoes : MethodName := ⟨RX8, "undoes", "(I)I"⟩
abbrev cX8_isLine : ByteArray := prog_10_method_27_code
def yX8_isLine : MethodName := ⟨RX8, "isLine", "(I)Z"⟩
abbrev cX8_isEnd : ByteArray := prog_10_method_28_code
def yX8_isEnd : MethodName := ⟨RX8, "isEnd", "(I)Z"⟩
abbrev cX8_sizeOf : ByteArray := prog_10_method_29_code
def yX8_sizeOf : MethodName := ⟨RX8, "sizeOf", "(I)I"⟩
abbrev cX8_place : ByteArray := prog_10_method_30_code
def yX8_place : MethodName := ⟨RX8, "place", "(II)I"⟩
abbrev cX8_placeOf : ByteArray := prog_10_method_31_code
def yX8_placeOf : MethodName := ⟨RX8, "placeOf", "(II)I"⟩
abbrev cX8_itemAt : ByteArray := prog_10_method_32_code
def yX8_itemAt : MethodName := ⟨RX8, "itemAt", "(II)I"⟩
abbrev cX8_makes : ByteArray := prog_10_method_33_code
def yX8_makes : MethodName := ⟨RX8, "makes", "(II)V"⟩
abbrev cX8_takesItems : ByteArray := prog_10_method_34_code
def yX8_takesItems : MethodName := ⟨RX8, "takesItems", "(I)I"⟩
abbrev cX8_lays_ : ByteArray := prog_10_method_35_code
def yX8_lays_ : MethodName := ⟨RX8, "lays", "(IIII)V"⟩
abbrev cX8_laysAll : ByteArray := prog_10_method_36_code
def yX8_laysAll : MethodName := ⟨RX8, "laysAll", "()V"⟩
abbrev cX8_takesOne : ByteArray := prog_10_method_37_code
def yX8_takesOne : MethodName := ⟨RX8, "takesOne", "(II)I"⟩
abbrev cX8_copiesTo : ByteArray := prog_10_method_38_code
def yX8_copiesTo : MethodName := ⟨RX8, "copiesTo", "(II)V"⟩
abbrev cX8_rule : ByteArray := prog_10_method_39_code
def yX8_rule : MethodName := ⟨RX8, "rule", "(I)I"⟩
abbrev cX8_readsTable : ByteArray := prog_10_method_40_code
def yX8_readsTable : MethodName := ⟨RX8, "readsTable", "()Z"⟩
abbrev cX8_read : ByteArray := prog_10_method_41_code
def yX8_read : MethodName := ⟨RX8, "read", "(II)I"⟩
abbrev cX8_hasUnlike : ByteArray := prog_10_method_42_code
def yX8_hasUnlike : MethodName := ⟨RX8, "hasUnlike", "()Z"⟩
abbrev cX8_isNeutral : ByteArray := prog_10_method_43_code
def yX8_isNeutral : MethodName := ⟨RX8, "isNeutral", "(I)Z"⟩
abbrev cX8_table : ByteArray := prog_10_method_44_code
def yX8_table : MethodName := ⟨RX8, "table", "()I"⟩
abbrev cX8_puts : ByteArray := prog_10_method_45_code
def yX8_puts : MethodName := ⟨RX8, "puts", "(III)I"⟩
abbrev cX8_tellsWork : ByteArray := prog_10_method_46_code
def yX8_tellsWork : MethodName := ⟨RX8, "tellsWork", "(II)I"⟩
abbrev cX8_takes : ByteArray := prog_10_method_47_code
def yX8_takes : MethodName := ⟨RX8, "takes", "(II)I"⟩
abbrev cX8_copies : ByteArray := prog_10_method_48_code
def yX8_copies : MethodName := ⟨RX8, "copies", "(II)I"⟩
abbrev cX8_joins : ByteArray := prog_10_method_49_code
def yX8_joins : MethodName := ⟨RX8, "joins", "(II)I"⟩
abbrev cX8_parts : ByteArray := prog_10_method_50_code
def yX8_parts : MethodName := ⟨RX8, "parts", "(III)I"⟩
abbrev cX8_reverses : ByteArray := prog_10_method_51_code
def yX8_reverses : MethodName := ⟨RX8, "reverses", "(I)I"⟩
abbrev cX8_turns : ByteArray := prog_10_method_52_code
def yX8_turns : MethodName := ⟨RX8, "turns", "(I)I"⟩
abbrev cX8_makesAgain : ByteArray := prog_10_method_53_code
def yX8_makesAgain : MethodName := ⟨RX8, "makesAgain", "(IZII)V"⟩
abbrev cX8_isAt : ByteArray := prog_10_method_54_code
def yX8_isAt : MethodName := ⟨RX8, "isAt", "(II)Z"⟩
abbrev cX8_changes : ByteArray := prog_10_method_55_code
def yX8_changes : MethodName := ⟨RX8, "changes", "(III)I"⟩
abbrev cX8_slips : ByteArray := prog_10_method_56_code
def yX8_slips : MethodName := ⟨RX8, "slips", "(III)I"⟩
abbrev cX8_drops : ByteArray := prog_10_method_57_code
def yX8_drops : MethodName := ⟨RX8, "drops", "(II)I"⟩
abbrev cX8_summary : ByteArray := prog_10_method_58_code
def yX8_summary : MethodName := ⟨RX8, "summary", "(I)V"⟩
abbrev cX8_entersSummary : ByteArray := prog_10_method_59_code
def yX8_entersSummary : MethodName := ⟨RX8, "entersSummary", "(I)V"⟩
abbrev cX8_shifts : ByteArray := prog_10_method_60_code
def yX8_shifts : MethodName := ⟨RX8, "shifts", "(III)I"⟩
abbrev cX8_clears : ByteArray := prog_10_method_61_code
def yX8_clears : MethodName := ⟨RX8, "clears", "(I)I"⟩
abbrev cX8_passes : ByteArray := prog_10_method_62_code
def yX8_passes : MethodName := ⟨RX8, "passes", "()V"⟩
abbrev cX8_readsAct : ByteArray := prog_10_method_63_code
def yX8_readsAct : MethodName := ⟨RX8, "readsAct", "(I)Z"⟩
abbrev cX8_does : ByteArray := prog_10_method_64_code
def yX8_does : MethodName := ⟨RX8, "does", "(II)Z"⟩
abbrev cX8_run : ByteArray := prog_10_method_65_code
def yX8_run : MethodName := ⟨RX8, "run", "(I)I"⟩
abbrev cX8_sum : ByteArray := prog_10_method_66_code
def yX8_sum : MethodName := ⟨RX8, "sum", "(I)I"⟩
abbrev cX8_item : ByteArray := prog_10_method_67_code
def yX8_item : MethodName := ⟨RX8, "item", "(II)I"⟩
abbrev cX8_sums : ByteArray := prog_10_method_68_code
def yX8_sums : MethodName := ⟨RX8, "sums", "(III)V"⟩
abbrev cX8_part : ByteArray := prog_10_method_69_code
def yX8_part : MethodName := ⟨RX8, "part", "(III)I"⟩
abbrev cX8_windows : ByteArray := prog_10_method_70_code
def yX8_windows : MethodName := ⟨RX8, "windows", "(II)I"⟩
abbrev cX8_first : ByteArray := prog_10_method_71_code
def yX8_first : MethodName := ⟨RX8, "first", "(II)I"⟩
abbrev cX8_longest : ByteArray := prog_10_method_72_code
def yX8_longest : MethodName := ⟨RX8, "longest", "(II)I"⟩
abbrev cX8_greatest : ByteArray := prog_10_method_73_code
def yX8_greatest : MethodName := ⟨RX8, "greatest", "(II)I"⟩
abbrev cX8_finds : ByteArray := prog_10_method_74_code
def yX8_finds : MethodName := ⟨RX8, "finds", "(III)I"⟩
abbrev cX8_costs : ByteArray := prog_10_method_75_code
def yX8_costs : MethodName := ⟨RX8, "costs", "(I)I"⟩
abbrev cX8_begins : ByteArray := prog_10_method_76_code
def yX8_begins : MethodName := ⟨RX8, "begins", "(I)V"⟩
abbrev cX8_drainsBy : ByteArray := prog_10_method_77_code
def yX8_drainsBy : MethodName := ⟨RX8, "drainsBy", "(II)I"⟩
abbrev cX8_drains : ByteArray := prog_10_method_78_code
def yX8_drains : MethodName := ⟨RX8, "drains", "(I)I"⟩
abbrev cX8_would : ByteArray := prog_10_method_79_code
def yX8_would : MethodName := ⟨RX8, "would", "(II)I"⟩
abbrev cX8_dearest : ByteArray := prog_10_method_80_code
def yX8_dearest : MethodName := ⟨RX8, "dearest", "(II)I"⟩
abbrev cX8_unlike : ByteArray := prog_10_method_81_code
def yX8_unlike : MethodName := ⟨RX8, "unlike", "(I)I"⟩
abbrev cX8_hasCell : ByteArray := prog_10_method_82_code
def yX8_hasCell : MethodName := ⟨RX8, "hasCell", "(II)Z"⟩
abbrev cX8_same : ByteArray := prog_10_method_83_code
def yX8_same : MethodName := ⟨RX8, "same", "(II)I"⟩
abbrev cX8_shared : ByteArray := prog_10_method_84_code
def yX8_shared : MethodName := ⟨RX8, "shared", "()I"⟩
abbrev cX8_count : ByteArray := prog_10_method_85_code
def yX8_count : MethodName := ⟨RX8, "count", "(I)I"⟩
abbrev cX8_row : ByteArray := prog_10_method_86_code
def yX8_row : MethodName := ⟨RX8, "row", "(I)J"⟩
def RL : String := "EndSumsLaw"
abbrev cL_item : ByteArray := method_3_code
def yL_item : MethodName := ⟨RL, "item", "(LEndSums;II[J)I"⟩
abbrev cL_row : ByteArray := method_4_code
def yL_row : MethodName := ⟨RL, "row", "(LEndSums;I[J)I"⟩
abbrev cL_law : ByteArray := code
def yL_law : MethodName := ⟨RL, "law", "([I)Z"⟩
abbrev vwCl : List vw_C := [(RX0, TX0, 4), (RX1, TX1, 2), (RX2, TX2, 5), (RX3, TX3, 3), (RX4, TX4, 6), (RX5, TX5, 2), (RX6, TX6, 4), (RX7, TX7, 11), (RX8, TX8, 32)]
end
section
-- the words that every method gets: those of the tables that a call may pay with
def zTb : List Cond := lw_tbl.filter goodWord
theorem zTb_mem {w : Cond} (i : Nat) (h : lw_tbl[i]? = some w) (g : goodWord w = true) : w ∈ zTb := List.mem_filter.mpr ⟨List.mem_of_getElem? h, g⟩
theorem zTb_good : ∀ w ∈ zTb, goodWord w = true := fun _ h => (List.mem_filter.mp h).2
theorem zTb_sub : ∀ w ∈ zTb, w ∈ lw_tbl := fun _ h => (List.mem_filter.mp h).1
theorem zTb_goodIn {ws : List Cond} (h : ∀ w ∈ ws, w ∈ zTb) : GoodIn zTb ws := fun w hw => ⟨h w hw, good_of_word (zTb_good w (h w hw))⟩
-- nest words: not paid with, but told in each contract
def zNest : Cond → Bool
  | .fieldLinkNest .. => true
  | .methodLinkNest .. => true
  | _ => false
def zNs (U : State) : Prop := ∀ w ∈ lw_tbl, zNest w = true → va_Nw w U
theorem zNs_warm {s U : State} (hW : s.WarmedH U.vm) (h : zNs s) : zNs U := by
  intro w hw hn
  cases w <;> first | (exact va_Nw.warmF hW (h _ hw hn)) | (exact va_Nw.warmM hW (h _ hw hn)) | (cases hn)
theorem zNs_same {s U : State} (hvm : s.vm = U.vm) (h : zNs s) : zNs U := by
  intro w hw hn
  cases w <;> first | (exact va_Nw.same rfl hvm (h _ hw hn)) | (cases hn)
-- THE PURE WORLD: ints, longs (object, field or place), the four rows of Takings
abbrev zW : Type := (Nat → Nat → Int32) × (Nat → Nat → Int64) × (Nat → Nat)
def zI (w : zW) (k j : Nat) : Int32 := w.1 k j
def zL (w : zW) (k j : Nat) : Int64 := w.2.1 k j
def zR (w : zW) (j : Nat) : Nat := 67 + w.2.2 j % 4
def zu {α : Type} (f : Nat → Nat → α) (k j : Nat) (v : α) : Nat → Nat → α := fun a b => if a = k ∧ b = j then v else f a b
def zsI (w : zW) (k j : Nat) (v : Int32) : zW := (zu w.1 k j v, w.2)
def zsL (w : zW) (k j : Nat) (v : Int64) : zW := (w.1, zu w.2.1 k j v, w.2.2)
def zsR (w : zW) (j t : Nat) : zW := (w.1, w.2.1, fun b => if b = j then t + 1 else w.2.2 b)
def lt {α β : Type} (x : α) (f : α → β) : β := f x
def bd {α β : Type} (r : Option (α × zW)) (f : α → zW → Option β) : Option β := match r with
  | none => none
  | some q => f q.1 q.2
def zin (i : Int32) (n : Nat) : Bool := decide (0 ≤ i.toInt ∧ i.toInt < n)
def zg {α : Type} (b : Bool) (x : Option α) : Option α := match b with
  | true => x
  | false => none
theorem zin_vp {i : Int32} {n : Nat} (h : zin i n = true) : vp_in i n := vp_in_iff.mpr (of_decide_eq_true h)
-- the objects: 0 int row, 1 long row, 2 the row of Lines, c + 3 an object of class c; and how long
def zSh : List (Nat × Nat) := [(10, 0), (3, 0), (6, 0), (0, 25), (9, 0), (0, 64), (2, 4), (4, 0), (5, 0), (0, 64), (1, 64), (1, 64), (0, 64), (5, 0), (0, 64), (1, 64), (1, 64), (0, 64), (4, 0), (5, 0), (0, 64), (1, 64), (1, 64), (0, 64), (5, 0), (0, 64), (1, 64), (1, 64), (0, 64), (4, 0), (5, 0), (0, 64), (1, 64), (1, 64), (0, 64), (5, 0), (0, 64), (1, 64), (1, 64), (0, 64), (4, 0), (5, 0), (0, 64), (1, 64), (1, 64), (0, 64), (5, 0), (0, 64), (1, 64), (1, 64), (0, 64), (4, 0), (5, 0), (0, 64), (1, 64), (1, 64), (0, 64), (5, 0), (0, 64), (1, 64), (1, 64), (0, 64), (6, 0), (0, 25), (8, 0), (0, 100), (7, 0), (0, 65), (0, 65), (0, 65), (0, 65), (1, 128), (1, 129), (1, 129), (11, 0), (1, 160), (0, 100), (0, 25), (0, 4), (0, 4), (0, 4), (1, 129), (1, 129), (0, 10), (0, 640), (0, 640), (1, 640), (1, 640), (0, 65), (0, 25), (0, 100), (0, 100), (1, 1)]
def zLay : List (List Nat) := [[1, 4, 6, 51, 62, 64, 66, 71, 0, 72, 73], [0, 2, 0, 0], [0, 0, 3], [], [1, 0, 0, 5], [], [7, 18, 29, 40], [8, 13], [0, 9, 10, 11, 12], [], [], [], [], [0, 14, 15, 16, 17], [], [], [], [], [19, 24], [0, 20, 21, 22, 23], [], [], [], [], [0, 25, 26, 27, 28], [], [], [], [], [30, 35], [0, 31, 32, 33, 34], [], [], [], [], [0, 36, 37, 38, 39], [], [], [], [], [41, 46], [0, 42, 43, 44, 45], [], [], [], [], [0, 47, 48, 49, 50], [], [], [], [], [52, 57], [0, 53, 54, 55, 56], [], [], [], [], [0, 58, 59, 60, 61], [], [], [], [], [0, 0, 63], [], [0, 65], [], [67, 68, 69, 70, 0, 0], [], [], [], [], [], [], [], [0, 0, 75, 76, 0, 0, 0, 0, 0, 0, 77, 0, 0, 78, 79, 80, 81, 82, 83, 84, 85, 86, 87, 0, 0, 88, 89, 0, 90, 91, 0, 0], [], [], [], [], [], [], [], [], [], [], [], [], [], [], [], [], [], []]
def zsh (k : Nat) : Nat × Nat := zSh.getD k (0, 0)
def zlen (k : Nat) : Nat := (zsh k).2
def zlay (k j : Nat) : Nat := (zLay.getD k []).getD j 0
def zc (c k : Nat) : Prop := k < 93 ∧ zsh k = (c + 3, 0)
def za (t k : Nat) : Prop := k < 93 ∧ zsh k = (t, zlen k)
def zty (c : Nat) : Nat → FieldType := match c with
  | 0 => tyX0
  | 1 => tyX1
  | 2 => tyX2
  | 3 => tyX3
  | 4 => tyX4
  | 5 => tyX5
  | 6 => tyX6
  | 7 => tyX7
  | _ => tyX8
def zN (c : Nat) : Nat := [4, 2, 5, 3, 6, 2, 4, 11, 32].getD c 0
def zref (w : zW) (k j : Nat) : Nat := if k = 66 then zR w j else zlay k j
def zfv (AD : Nat → Nat) (w : zW) (k j : Nat) : FieldType → Value
  | .int => .int (zI w k j)
  | .long => .long (zL w k j)
  | _ => .ref (AD (zref w k j))
def zfs (AD : Nat → Nat) (w : zW) (k c : Nat) : List Value := (List.range (zN c)).map fun j => zfv AD w k j (zty c j)
def zcell (cA : Nat → ClassId) (AD : Nat → Nat) (w : zW) (k : Nat) : va_E := match zsh k with
  | (0, n) => .inl (cA 0, n, .inl (w.1 k))
  | (1, n) => .inl (cA 1, n, .inr (.inl (w.2.1 k)))
  | (2, n) => .inl (cA 2, n, .inr (.inr (.inr (.inr fun i => some (AD (zlay k i))))))
  | (c + 3, _) => .inr (c, zfs AD w k c)
def zws (cA : Nat → ClassId) (AD : Nat → Nat) (w : zW) : va_W := (List.range 93).map fun k => (AD k, zcell cA AD w k)
def ztys (cA : Nat → ClassId) : List (ClassId × FieldType) := [(cA 0, .int), (cA 1, .long), (cA 2, .object "EndSums$Line")]
theorem zws_at {cA : Nat → ClassId} {AD : Nat → Nat} {w : zW} {k : Nat} (h : k < 93) : (zws cA AD w)[k]? = some (AD k, zcell cA AD w k) := by
  simp [zws, h]
theorem zcell_o {cA : Nat → ClassId} {AD : Nat → Nat} {w : zW} {c k : Nat} (h : zc c k) : zcell cA AD w k = .inr (c, zfs AD w k c) := by
  unfold zcell; rw [h.2]
theorem zws_o {cA : Nat → ClassId} {AD : Nat → Nat} {w : zW} {c k : Nat} (h : zc c k) : (zws cA AD w)[k]? = some (AD k, .inr (c, zfs AD w k c)) := by
  rw [zws_at h.1, zcell_o h]
theorem zws_i {cA : Nat → ClassId} {AD : Nat → Nat} {w : zW} {k : Nat} (h : za 0 k) : (zws cA AD w)[k]? = some (AD k, .inl (cA 0, zlen k, .inl (w.1 k))) := by
  rw [zws_at h.1]; unfold zcell; rw [h.2]
theorem zws_l {cA : Nat → ClassId} {AD : Nat → Nat} {w : zW} {k : Nat} (h : za 1 k) : (zws cA AD w)[k]? = some (AD k, .inl (cA 1, zlen k, .inr (.inl (w.2.1 k)))) := by
  rw [zws_at h.1]; unfold zcell; rw [h.2]
theorem zws_q {cA : Nat → ClassId} {AD : Nat → Nat} {w : zW} {k : Nat} (h : za 2 k) : (zws cA AD w)[k]? = some (AD k, .inl (cA 2, zlen k, .inr (.inr (.inr (.inr fun i => some (AD (zlay k i))))))) := by
  rw [zws_at h.1]; unfold zcell; rw [h.2]
theorem zws_set {cA : Nat → ClassId} {AD : Nat → Nat} {w w' : zW} {k : Nat} (h : k < 93) {e : va_E} (hk : e = zcell cA AD w' k) (ho : ∀ j, j ≠ k → zcell cA AD w' j = zcell cA AD w j) : (zws cA AD w).set k (AD k, e) = zws cA AD w' := by
  subst hk
  apply List.ext_getElem?
  intro i
  by_cases hi : i = k
  · subst hi
    rw [zws_at h, List.getElem?_set_self (by simp [zws, h])]
  · rw [List.getElem?_set_ne (Ne.symm hi)]
    by_cases h2 : i < 93
    · rw [zws_at h2, zws_at h2, ho i hi]
    · rw [List.getElem?_eq_none (by simp [zws]; omega), List.getElem?_eq_none (by simp [zws]; omega)]
theorem zfs_at {AD : Nat → Nat} {w : zW} {c k j : Nat} (hj : j < zN c) : (zfs AD w k c)[j]? = some (zfv AD w k j (zty c j)) := by
  simp [zfs, hj]
theorem zfs_len {AD : Nat → Nat} {w : zW} {c k : Nat} : (zfs AD w k c).length = zN c := by simp [zfs]
theorem zfs_set {AD : Nat → Nat} {w w' : zW} {c k j : Nat} {v : Value} (hj : j < zN c) (hv : v = zfv AD w' k j (zty c j)) (ho : ∀ i, i ≠ j → ∀ t, zfv AD w' k i t = zfv AD w k i t) : (zfs AD w k c).set j v = zfs AD w' k c := by
  subst hv
  apply List.ext_getElem?
  intro i
  by_cases hi : i = j
  · subst hi
    rw [zfs_at hj, List.getElem?_set_self (by rw [zfs_len]; exact hj)]
  · rw [List.getElem?_set_ne (Ne.symm hi)]
    by_cases h2 : i < zN c
    · rw [zfs_at h2, zfs_at h2, ho i hi]
    · rw [List.getElem?_eq_none (by rw [zfs_len]; omega), List.getElem?_eq_none (by rw [zfs_len]; omega)]
theorem zcell_eq {cA : Nat → ClassId} {AD : Nat → Nat} {w w' : zW} {k : Nat} (h1 : w'.1 k = w.1 k) (h2 : w'.2.1 k = w.2.1 k) (h3 : k = 66 → w'.2.2 = w.2.2) : zcell cA AD w' k = zcell cA AD w k := by
  have hf : ∀ j t, zfv AD w' k j t = zfv AD w k j t := by
    intro j t
    have e1 : zI w' k j = zI w k j := congrFun h1 j
    have e2 : zL w' k j = zL w k j := congrFun h2 j
    have e3 : zref w' k j = zref w k j := by
      unfold zref zR
      by_cases hk : k = 66
      · rw [if_pos hk, if_pos hk, h3 hk]
      · rw [if_neg hk, if_neg hk]
    cases t <;> simp [zfv, e1, e2, e3]
  have e4 : ∀ c, zfs AD w' k c = zfs AD w k c := by
    intro c
    unfold zfs
    exact List.map_congr_left fun j _ => hf j _
  unfold zcell
  rw [h1, h2]
  split <;> first | rfl | rw [e4]
theorem zu_ne {α : Type} {f : Nat → Nat → α} {k j a : Nat} {v : α} (h : a ≠ k) : zu f k j v a = f a := by
  funext b; simp [zu, h]
theorem zu_row {f : Nat → Nat → Int32} {k j : Nat} {v : Int32} : zu f k j v k = upd (f k) j v := by
  funext b; simp [zu, upd]
theorem zu_rowL {f : Nat → Nat → Int64} {k j : Nat} {v : Int64} : zu f k j v k = vp_updL (f k) j v := by
  funext b; simp [zu, vp_updL]
-- a store: into an int field, a long field, one of Takings' rows, an int row, a long row
theorem zst_I {cA : Nat → ClassId} {AD : Nat → Nat} {w : zW} {c k j : Nat} {v : Int32} (h : zc c k) (hj : j < zN c) (ht : zty c j = .int) : (zws cA AD w).set k (AD k, .inr (c, (zfs AD w k c).set j (.int v))) = zws cA AD (zsI w k j v) := by
  refine zws_set h.1 ?_ (fun i hi => zcell_eq (zu_ne hi) rfl (fun _ => rfl))
  rw [zcell_o h, zfs_set (w' := zsI w k j v) hj ?_ ?_]
  · rw [ht]; simp [zfv, zI, zsI, zu]
  · intro i hi t
    cases t <;> simp [zfv, zI, zL, zsI, zu, hi, zref, zR]
theorem zst_L {cA : Nat → ClassId} {AD : Nat → Nat} {w : zW} {c k j : Nat} {v : Int64} (h : zc c k) (hj : j < zN c) (ht : zty c j = .long) : (zws cA AD w).set k (AD k, .inr (c, (zfs AD w k c).set j (.long v))) = zws cA AD (zsL w k j v) := by
  refine zws_set h.1 ?_ (fun i hi => zcell_eq rfl (zu_ne hi) (fun _ => rfl))
  rw [zcell_o h, zfs_set (w' := zsL w k j v) hj ?_ ?_]
  · rw [ht]; simp [zfv, zL, zsL, zu]
  · intro i hi t
    cases t <;> simp [zfv, zI, zL, zsL, zu, hi, zref, zR]
theorem zst_R {cA : Nat → ClassId} {AD : Nat → Nat} {w : zW} {j t : Nat} (hj : j < 4) (ht : t = 67 ∨ t = 68 ∨ t = 69 ∨ t = 70) : (zws cA AD w).set 66 (AD 66, .inr (4, (zfs AD w 66 4).set j (.ref (AD t)))) = zws cA AD (zsR w j t) := by
  have h : zc 4 66 := by unfold zc; decide
  refine zws_set h.1 ?_ (fun i hi => zcell_eq rfl rfl (fun q => absurd q hi))
  rw [zcell_o h, zfs_set (w' := zsR w j t) ?_ ?_ ?_]
  · exact Nat.lt_of_lt_of_le hj (by decide)
  · have e : zty 4 j = .array .int := by
      rcases (show j = 0 ∨ j = 1 ∨ j = 2 ∨ j = 3 by omega) with rfl | rfl | rfl | rfl <;> rfl
    rw [e]
    have e2 : zR (zsR w j t) j = t := by
      simp only [zR, zsR, if_true]
      rcases ht with rfl | rfl | rfl | rfl <;> rfl
    simp [zfv, zref, e2]
  · intro i hi t2
    cases t2 <;> simp [zfv, zI, zL, zsR, zref, zR, hi]
theorem zst_i {cA : Nat → ClassId} {AD : Nat → Nat} {w : zW} {k j : Nat} {v : Int32} (h : za 0 k) : (zws cA AD w).set k (AD k, .inl (cA 0, zlen k, .inl (upd (w.1 k) j v))) = zws cA AD (zsI w k j v) := by
  refine zws_set h.1 ?_ (fun i hi => zcell_eq (zu_ne hi) rfl (fun _ => rfl))
  unfold zcell; rw [h.2]
  simp [zsI, zu_row]
theorem zst_l {cA : Nat → ClassId} {AD : Nat → Nat} {w : zW} {k j : Nat} {v : Int64} (h : za 1 k) : (zws cA AD w).set k (AD k, .inl (cA 1, zlen k, .inr (.inl (vp_updL (w.2.1 k) j v)))) = zws cA AD (zsL w k j v) := by
  refine zws_set h.1 ?_ (fun i hi => zcell_eq rfl (zu_ne hi) (fun _ => rfl))
  unfold zcell; rw [h.2]
  simp [zsL, zu_rowL]
-- addresses
def zAp (A : Nat → Prop) (AD : Nat → Nat) : Prop := (∀ i j, i < 93 → j < 93 → AD i = AD j → i = j) ∧ ∀ k, k < 93 → A (AD k)
theorem zD {A : Nat → Prop} {AD : Nat → Nat} {cA : Nat → ClassId} {w : zW} (h : zAp A AD) : va_D A (zws cA AD w) := by
  have key : ∀ (k : Nat) (q : Nat × va_E), (zws cA AD w)[k]? = some q → k < 93 ∧ q.1 = AD k := by
    intro k q hk
    by_cases h2 : k < 93
    · rw [zws_at h2] at hk
      exact ⟨h2, by rw [← Option.some.inj hk]⟩
    · rw [List.getElem?_eq_none (by simp [zws]; omega)] at hk
      cases hk
  refine ⟨fun i j p q hi hj hpq => ?_, fun k q hk => ?_⟩
  · obtain ⟨a1, a2⟩ := key i p hi
    obtain ⟨b1, b2⟩ := key j q hj
    exact h.1 i j a1 b1 (a2.symm.trans (hpq.trans b2))
  · obtain ⟨a1, a2⟩ := key k q hk
    rw [a2]; exact h.2 k a1
def zA (AD : Nat → Nat) (sz : Nat) : Nat → Prop := fun q => (∃ k, k < 93 ∧ q = AD k) ∨ sz ≤ q
-- the static row of the arrangements
def zarr : List Int32 := [291, 306, 531, 561, 786, 801, 4131, 4146, 4611, 4656, 4866, 4896, 8211, 8241, 8451, 8496, 8961, 8976, 12306, 12321, 12546, 12576, 12801, 12816]
def zSt (AD : Nat → Nat) (A : Nat → Prop) (U : State) (H : Heap) : Prop := va_Z "EndSums$Joining" "ARRANGEMENTS" "[I" (.ref (AD 93)) A U H ∧ va_T .int (AD 93) 24 (fun j => .int (zarr.getD j 0)) A U H
theorem zSt_moved {AD : Nat → Nat} {A : Nat → Prop} {u U : State} {H : Heap} (hvm : u.vm.Alike U.vm) (h : zSt AD A u H) : zSt AD A U H := ⟨va_Z.moved hvm h.1, va_T.moved hvm h.2⟩
theorem zSt_kept {AD : Nat → Nat} {A : Nat → Prop} {U : State} {H H1 : Heap} (h : zSt AD A U H) (hq : ∀ a : Nat, a < H.size → ¬ A a → H1[a]? = H[a]?) : zSt AD A U H1 := ⟨va_Z.kept h.1 hq, va_T.kept h.2 hq⟩
theorem zSt_narrow {AD : Nat → Nat} {A B : Nat → Prop} {U : State} {H : Heap} (h : zSt AD A U H) (hAB : ∀ q, B q → A q) : zSt AD B U H := ⟨va_Z.narrow h.1 hAB, va_T.narrow h.2 hAB⟩
-- A METHOD: its bytes, class, locals, what it returns, its room
abbrev zM : Type := ByteArray × String × Nat × Option FieldType × Room
def zev (AD : Nat → Nat) : Value → Value
  | .ref k => .ref (AD k)
  | v => v
theorem zev_cat {AD : Nat → Nat} (v : Value) : (zev AD v).category = v.category := by cases v <;> rfl
def zes (AD : Nat → Nat) (st : List Value) : List Value := st.map (zev AD)
def zel (AD : Nat → Nat) (lv : List (Nat × Value)) : List (Nat × Value) := lv.map fun q => (q.1, zev AD q.2)
theorem zel_at {AD : Nat → Nat} {lv : List (Nat × Value)} {k i : Nat} {v : Value} (h : lv[k]? = some (i, v)) : (zel AD lv)[k]? = some (i, zev AD v) := by
  simp [zel, h]
theorem zel_st {AD : Nat → Nat} {lv lv' : List (Nat × Value)} {i : Nat} {v : Value} (h : (i, v) :: lv.filter (fun q => !(q.1 == i) && !(q.1 + 1 == i && q.2.category == 2)) = lv') : (i, zev AD v) :: (zel AD lv).filter (fun q => !(q.1 == i) && !(q.1 + 1 == i && q.2.category == 2)) = zel AD lv' := by
  subst h
  simp only [zel, List.filter_map, List.map_cons]
  congr 2
  apply List.filter_congr
  intro q _
  simp [zev_cat]
theorem zel_st2 {AD : Nat → Nat} {lv lv' : List (Nat × Value)} {i : Nat} {v : Value} (h : (i, v) :: lv.filter (fun q => !(q.1 == i) && (!(q.1 == i + 1) && !(q.1 + 1 == i && q.2.category == 2))) = lv') : (i, zev AD v) :: (zel AD lv).filter (fun q => !(q.1 == i) && (!(q.1 == i + 1) && !(q.1 + 1 == i && q.2.category == 2))) = zel AD lv' := by
  subst h
  simp only [zel, List.filter_map, List.map_cons]
  congr 2
  apply List.filter_congr
  intro q _
  simp [zev_cat]
def zQ {ρ : Type} (D : va_G) (cA : Nat → ClassId) (AD : Nat → Nat) (A : Nat → Prop) (inj : ρ → Option Value) (res : ρ × zW) : Array Value → State → Outcome → State → Prop := fun _ st o t =>
  (o = .returned ((inj res.1).map (zev AD)) ∧ va_P D vwCl (zws cA AD res.2) t.heap) ∧ va_F A st t
def zCtx (M : zM) (p : Program) (s : State) (m : MethodId) (args : Array Value) (meth : Method) (c : Code) (D : va_G) (cA : Nat → ClassId) (AD : Nat → Nat) (A : Nat → Prop) : Prop :=
  p.tables.exec = Jvm.exec ∧ c.code = M.1 ∧ meth.sig.returnType = M.2.2.2.1 ∧ c.maxLocals = M.2.2.1 ∧ s.vm.findClass M.2.1 = some m.cls ∧ (∀ w ∈ zTb, w.before args s = true) ∧ meth.locks = false ∧ va_K D vwCl (ztys cA) s ∧ zAp A AD ∧ (∀ q, s.heap.size ≤ q → A q) ∧ zSt AD A s s.heap ∧ zNs s
abbrev zEnd (ρ : Type) : Type := (Launch → State → (Nat → Nat) → (Nat → Prop) → Nat → Nat → Prop) × (ρ × zW → va_G → (Nat → ClassId) → (Nat → Nat) → (Nat → Prop) → List Frame → Array Value → State → State → Prop)
/-- an ordinary end: nothing made, the answer returned -/
def zRet {ρ : Type} (ij : ρ → Option Value) : zEnd ρ := (fun _ _ _ _ cells slots => cells = 0 ∧ slots = 0, fun res D cA AD A below args s => MQ below (zQ D cA AD A ij res) args s 0 0 A)
/-- from this place of the method, with these locals, this stack, this world: where r is some answer and world, the machine comes to the end with it -/
def Tz {ρ : Type} (M : zM) (inj : zEnd ρ) (r : Option (ρ × zW)) (pc : Nat) (lv : List (Nat × Value)) (st : List Value) (w : zW) : Prop :=
  ∀ (res : ρ × zW), r = some res → ∀ (p : Program) (l : Launch) (e : Env) (s : State) (m : MethodId) (args : Array Value) (below : List Frame) (meth : Method) (c : Code) (D : va_G) (cA : Nat → ClassId) (AD : Nat → Nat) (A : Nat → Prop),
    zCtx M p s m args meth c D cA AD A → ∀ (cells slots : Nat), (cells ≤ M.2.2.2.2.cells ∧ slots ≤ M.2.2.2.2.slots) → inj.1 l s AD A cells slots → ∀ (H : Heap) (locs : List Loc) (ls : Array Slot), va_P D vwCl (zws cA AD w) H → va_S A s.heap H locs → lv_has ls M.2.2.1 (zel AD lv) →
      W p l e M.2.2.2.2 s m args below meth c H locs cells slots (inj.2 res D cA AD A below args s) (F0 m pc ls (zes AD st))
def zPre (D : va_G) (cA : Nat → ClassId) (AD : Nat → Nat) (w : zW) (sz : Nat) (U : State) : Prop :=
  U.heap.size = sz ∧ va_P D vwCl (zws cA AD w) U.heap ∧ va_K D vwCl (ztys cA) U ∧ (∀ i j, i < 93 → j < 93 → AD i = AD j → i = j) ∧ zSt AD (zA AD sz) U U.heap ∧ zNs U
/-- THE CONTRACT of a method, where it is called with these values in this world: r is its answer and the world behind it -/
def Sm {ρ : Type} (y : MethodName) (M : zM) (inj : ρ → Option Value) (av : List Value) (w : zW) (r : Option (ρ × zW)) : Prop :=
  ∀ (res : ρ × zW), r = some res → ∀ (l : Launch) (D : va_G) (cA : Nat → ClassId) (AD : Nat → Nat) (sz : Nat),
    Met l y (.code y M.1 M.2.2.1 M.2.2.2.1 :: zTb) M.2.2.2.2 (va_Pc (zes AD av) (zPre D cA AD w sz)) (zQ D cA AD (zA AD sz) inj res) 0 0 (zA AD sz)
section TZ
variable {ρ : Type} {M : zM} {inj : zEnd ρ} {r : Option (ρ × zW)} {pc : Nat} {lv : List (Nat × Value)} {st : List Value} {w : zW}
theorem tz_iadd {x y : Int32} (d : decode M.1 pc = .ok (.iadd, 1)) (k : Tz M inj r (pc + 1) lv (.int (x + y) :: st) w) : Tz M inj r pc lv (.int y :: .int x :: st) w := fun res h p l e s m args below meth c D cA AD A X cells slots hB hE H locs ls hP hS hl => lv_iadd X.1 X.2.1 d (k res h p l e s m args below meth c D cA AD A X cells slots hB hE H locs ls hP hS hl)
theorem tz_isub {x y : Int32} (d : decode M.1 pc = .ok (.isub, 1)) (k : Tz M inj r (pc + 1) lv (.int (x - y) :: st) w) : Tz M inj r pc lv (.int y :: .int x :: st) w := fun res h p l e s m args below meth c D cA AD A X cells slots hB hE H locs ls hP hS hl => lv_isub X.1 X.2.1 d (k res h p l e s m args below meth c D cA AD A X cells slots hB hE H locs ls hP hS hl)
theorem tz_imul {x y : Int32} (d : decode M.1 pc = .ok (.imul, 1)) (k : Tz M inj r (pc + 1) lv (.int (x * y) :: st) w) : Tz M inj r pc lv (.int y :: .int x :: st) w := fun res h p l e s m args below meth c D cA AD A X cells slots hB hE H locs ls hP hS hl => lv_imul X.1 X.2.1 d (k res h p l e s m args below meth c D cA AD A X cells slots hB hE H locs ls hP hS hl)
theorem tz_iand {x y : Int32} (d : decode M.1 pc = .ok (.iand, 1)) (k : Tz M inj r (pc + 1) lv (.int (x &&& y) :: st) w) : Tz M inj r pc lv (.int y :: .int x :: st) w := fun res h p l e s m args below meth c D cA AD A X cells slots hB hE H locs ls hP hS hl => lv_iand X.1 X.2.1 d (k res h p l e s m args below meth c D cA AD A X cells slots hB hE H locs ls hP hS hl)
theorem tz_ior {x y : Int32} (d : decode M.1 pc = .ok (.ior, 1)) (k : Tz M inj r (pc + 1) lv (.int (x ||| y) :: st) w) : Tz M inj r pc lv (.int y :: .int x :: st) w := fun res h p l e s m args below meth c D cA AD A X cells slots hB hE H locs ls hP hS hl => lv_ior X.1 X.2.1 d (k res h p l e s m args below meth c D cA AD A X cells slots hB hE H locs ls hP hS hl)
theorem tz_ishl {x y : Int32} (d : decode M.1 pc = .ok (.ishl, 1)) (k : Tz M inj r (pc + 1) lv (.int (x <<< (y &&& 31)) :: st) w) : Tz M inj r pc lv (.int y :: .int x :: st) w := fun res h p l e s m args below meth c D cA AD A X cells slots hB hE H locs ls hP hS hl => lv_ishl X.1 X.2.1 d (k res h p l e s m args below meth c D cA AD A X cells slots hB hE H locs ls hP hS hl)
theorem tz_ishr {x y : Int32} (d : decode M.1 pc = .ok (.ishr, 1)) (k : Tz M inj r (pc + 1) lv (.int (x >>> (y &&& 31)) :: st) w) : Tz M inj r pc lv (.int y :: .int x :: st) w := fun res h p l e s m args below meth c D cA AD A X cells slots hB hE H locs ls hP hS hl => lv_ishr X.1 X.2.1 d (k res h p l e s m args below meth c D cA AD A X cells slots hB hE H locs ls hP hS hl)
theorem tz_ladd {x y : Int64} (d : decode M.1 pc = .ok (.ladd, 1)) (k : Tz M inj r (pc + 1) lv (.long (x + y) :: st) w) : Tz M inj r pc lv (.long y :: .long x :: st) w := fun res h p l e s m args below meth c D cA AD A X cells slots hB hE H locs ls hP hS hl => lv_ladd X.1 X.2.1 d (k res h p l e s m args below meth c D cA AD A X cells slots hB hE H locs ls hP hS hl)
theorem tz_lsub {x y : Int64} (d : decode M.1 pc = .ok (.lsub, 1)) (k : Tz M inj r (pc + 1) lv (.long (x - y) :: st) w) : Tz M inj r pc lv (.long y :: .long x :: st) w := fun res h p l e s m args below meth c D cA AD A X cells slots hB hE H locs ls hP hS hl => lv_lsub X.1 X.2.1 d (k res h p l e s m args below meth c D cA AD A X cells slots hB hE H locs ls hP hS hl)
theorem tz_lmul {x y : Int64} (d : decode M.1 pc = .ok (.lmul, 1)) (k : Tz M inj r (pc + 1) lv (.long (x * y) :: st) w) : Tz M inj r pc lv (.long y :: .long x :: st) w := fun res h p l e s m args below meth c D cA AD A X cells slots hB hE H locs ls hP hS hl => lv_lmul X.1 X.2.1 d (k res h p l e s m args below meth c D cA AD A X cells slots hB hE H locs ls hP hS hl)
theorem tz_lxor {x y : Int64} (d : decode M.1 pc = .ok (.lxor, 1)) (k : Tz M inj r (pc + 1) lv (.long (x ^^^ y) :: st) w) : Tz M inj r pc lv (.long y :: .long x :: st) w := fun res h p l e s m args below meth c D cA AD A X cells slots hB hE H locs ls hP hS hl => lv_lxor X.1 X.2.1 d (k res h p l e s m args below meth c D cA AD A X cells slots hB hE H locs ls hP hS hl)
theorem tz_idiv {x y : Int32} (hn : ¬ y = 0) (d : decode M.1 pc = .ok (.idiv, 1)) (k : Tz M inj r (pc + 1) lv (.int (x / y) :: st) w) : Tz M inj r pc lv (.int y :: .int x :: st) w := fun res h p l e s m args below meth c D cA AD A X cells slots hB hE H locs ls hP hS hl => lv_idiv X.1 X.2.1 d hn (k res h p l e s m args below meth c D cA AD A X cells slots hB hE H locs ls hP hS hl)
theorem tz_irem {x y : Int32} (hn : ¬ y = 0) (d : decode M.1 pc = .ok (.irem, 1)) (k : Tz M inj r (pc + 1) lv (.int (x - x / y * y) :: st) w) : Tz M inj r pc lv (.int y :: .int x :: st) w := fun res h p l e s m args below meth c D cA AD A X cells slots hB hE H locs ls hP hS hl => lv_irem X.1 X.2.1 d hn (k res h p l e s m args below meth c D cA AD A X cells slots hB hE H locs ls hP hS hl)
theorem tz_lrem {x y : Int64} (hn : ¬ y = 0) (d : decode M.1 pc = .ok (.lrem, 1)) (k : Tz M inj r (pc + 1) lv (.long (x - x / y * y) :: st) w) : Tz M inj r pc lv (.long y :: .long x :: st) w := fun res h p l e s m args below meth c D cA AD A X cells slots hB hE H locs ls hP hS hl => lv_lrem X.1 X.2.1 d hn (k res h p l e s m args below meth c D cA AD A X cells slots hB hE H locs ls hP hS hl)
theorem tz_i2l {x : Int32} (d : decode M.1 pc = .ok (.i2l, 1)) (k : Tz M inj r (pc + 1) lv (.long x.toInt64 :: st) w) : Tz M inj r pc lv (.int x :: st) w := fun res h p l e s m args below meth c D cA AD A X cells slots hB hE H locs ls hP hS hl => lv_i2l X.1 X.2.1 d rfl (k res h p l e s m args below meth c D cA AD A X cells slots hB hE H locs ls hP hS hl)
theorem tz_l2i {x : Int64} (d : decode M.1 pc = .ok (.l2i, 1)) (k : Tz M inj r (pc + 1) lv (.int x.toInt32 :: st) w) : Tz M inj r pc lv (.long x :: st) w := fun res h p l e s m args below meth c D cA AD A X cells slots hB hE H locs ls hP hS hl => lv_l2i X.1 X.2.1 d rfl (k res h p l e s m args below meth c D cA AD A X cells slots hB hE H locs ls hP hS hl)
theorem tz_iconst {n : Int} (v : Int32) (hv : Int32.ofInt n = v) (d : decode M.1 pc = .ok (.iconst n, 1)) (k : Tz M inj r (pc + 1) lv (.int v :: st) w) : Tz M inj r pc lv st w := fun res h p l e s m args below meth c D cA AD A X cells slots hB hE H locs ls hP hS hl => lv_iconst X.1 X.2.1 d hv (k res h p l e s m args below meth c D cA AD A X cells slots hB hE H locs ls hP hS hl)
theorem tz_bipush {n : Int} (v : Int32) (hv : (Int8.ofInt n).toInt32 = v) (d : decode M.1 pc = .ok (.bipush n, 2)) (k : Tz M inj r (pc + 2) lv (.int v :: st) w) : Tz M inj r pc lv st w := fun res h p l e s m args below meth c D cA AD A X cells slots hB hE H locs ls hP hS hl => lv_bipush X.1 X.2.1 d hv (k res h p l e s m args below meth c D cA AD A X cells slots hB hE H locs ls hP hS hl)
theorem tz_sipush {n : Int} (v : Int32) (hv : (Int16.ofInt n).toInt32 = v) (d : decode M.1 pc = .ok (.sipush n, 3)) (k : Tz M inj r (pc + 3) lv (.int v :: st) w) : Tz M inj r pc lv st w := fun res h p l e s m args below meth c D cA AD A X cells slots hB hE H locs ls hP hS hl => lv_sipush X.1 X.2.1 d hv (k res h p l e s m args below meth c D cA AD A X cells slots hB hE H locs ls hP hS hl)
theorem tz_lconst {n : Fin 2} (v : Int64) (hv : Int64.ofNat (n : Nat) = v) (d : decode M.1 pc = .ok (.lconst n, 1)) (k : Tz M inj r (pc + 1) lv (.long v :: st) w) : Tz M inj r pc lv st w := fun res h p l e s m args below meth c D cA AD A X cells slots hB hE H locs ls hP hS hl => lv_lconst X.1 X.2.1 d hv (k res h p l e s m args below meth c D cA AD A X cells slots hB hE H locs ls hP hS hl)
theorem tz_ldc {index : Nat} {v : Int32} (hm : Cond.constant M.2.1 index v ∈ zTb) (d : decode M.1 pc = .ok (.ldc index, 2)) (k : Tz M inj r (pc + 2) lv (.int v :: st) w) : Tz M inj r pc lv st w := fun res h p l e s m args below meth c D cA AD A X cells slots hB hE H locs ls hP hS hl => lv_ldc X.1 X.2.1 X.2.2.2.2.1 (X.2.2.2.2.2.1 _ hm) d (k res h p l e s m args below meth c D cA AD A X cells slots hB hE H locs ls hP hS hl)
theorem tz_ldc_w {index : Nat} {v : Int32} (hm : Cond.constant M.2.1 index v ∈ zTb) (d : decode M.1 pc = .ok (.ldc_w index, 3)) (k : Tz M inj r (pc + 3) lv (.int v :: st) w) : Tz M inj r pc lv st w := fun res h p l e s m args below meth c D cA AD A X cells slots hB hE H locs ls hP hS hl => lv_ldcw X.1 X.2.1 X.2.2.2.2.1 (X.2.2.2.2.2.1 _ hm) d (k res h p l e s m args below meth c D cA AD A X cells slots hB hE H locs ls hP hS hl)
theorem tz_ldc2_w {index : Nat} {v : Int64} (hm : Cond.constantLong M.2.1 index v ∈ zTb) (d : decode M.1 pc = .ok (.ldc2_w index, 3)) (k : Tz M inj r (pc + 3) lv (.long v :: st) w) : Tz M inj r pc lv st w := fun res h p l e s m args below meth c D cA AD A X cells slots hB hE H locs ls hP hS hl => lv_ldc2 X.1 X.2.1 X.2.2.2.2.1 (X.2.2.2.2.2.1 _ hm) d (k res h p l e s m args below meth c D cA AD A X cells slots hB hE H locs ls hP hS hl)
theorem tz_iload_n {n : Fin 4} {x : Int32} (q : Nat) (hl0 : lv[q]? = some ((n : Nat), .int x)) (d : decode M.1 pc = .ok (.iload_n n, 1)) (k : Tz M inj r (pc + 1) lv (.int x :: st) w) : Tz M inj r pc lv st w := fun res h p l e s m args below meth c D cA AD A X cells slots hB hE H locs ls hP hS hl => lv_iload_n X.1 X.2.1 d rfl (lv_at hl q (zel_at hl0)) (k res h p l e s m args below meth c D cA AD A X cells slots hB hE H locs ls hP hS hl)
theorem tz_iload {i : Nat} {x : Int32} (q : Nat) (hl0 : lv[q]? = some (i, .int x)) (d : decode M.1 pc = .ok (.iload i, 2)) (k : Tz M inj r (pc + 2) lv (.int x :: st) w) : Tz M inj r pc lv st w := fun res h p l e s m args below meth c D cA AD A X cells slots hB hE H locs ls hP hS hl => lv_iload X.1 X.2.1 d (lv_at hl q (zel_at hl0)) (k res h p l e s m args below meth c D cA AD A X cells slots hB hE H locs ls hP hS hl)
theorem tz_lload_n {n : Fin 4} {x : Int64} (q : Nat) (hl0 : lv[q]? = some ((n : Nat), .long x)) (d : decode M.1 pc = .ok (.lload_n n, 1)) (k : Tz M inj r (pc + 1) lv (.long x :: st) w) : Tz M inj r pc lv st w := fun res h p l e s m args below meth c D cA AD A X cells slots hB hE H locs ls hP hS hl => lv_lload_n X.1 X.2.1 d rfl (lv_at hl q (zel_at hl0)) (k res h p l e s m args below meth c D cA AD A X cells slots hB hE H locs ls hP hS hl)
theorem tz_lload {i : Nat} {x : Int64} (q : Nat) (hl0 : lv[q]? = some (i, .long x)) (d : decode M.1 pc = .ok (.lload i, 2)) (k : Tz M inj r (pc + 2) lv (.long x :: st) w) : Tz M inj r pc lv st w := fun res h p l e s m args below meth c D cA AD A X cells slots hB hE H locs ls hP hS hl => lv_lload X.1 X.2.1 d (lv_at hl q (zel_at hl0)) (k res h p l e s m args below meth c D cA AD A X cells slots hB hE H locs ls hP hS hl)
theorem tz_aload_n {n : Fin 4} {x : Nat} (q : Nat) (hl0 : lv[q]? = some ((n : Nat), .ref x)) (d : decode M.1 pc = .ok (.aload_n n, 1)) (k : Tz M inj r (pc + 1) lv (.ref x :: st) w) : Tz M inj r pc lv st w := fun res h p l e s m args below meth c D cA AD A X cells slots hB hE H locs ls hP hS hl => lv_aload_n X.1 X.2.1 d rfl (lv_at hl q (zel_at hl0)) (k res h p l e s m args below meth c D cA AD A X cells slots hB hE H locs ls hP hS hl)
theorem tz_aload {i : Nat} {x : Nat} (q : Nat) (hl0 : lv[q]? = some (i, .ref x)) (d : decode M.1 pc = .ok (.aload i, 2)) (k : Tz M inj r (pc + 2) lv (.ref x :: st) w) : Tz M inj r pc lv st w := fun res h p l e s m args below meth c D cA AD A X cells slots hB hE H locs ls hP hS hl => lv_aload X.1 X.2.1 d (lv_at hl q (zel_at hl0)) (k res h p l e s m args below meth c D cA AD A X cells slots hB hE H locs ls hP hS hl)
theorem tz_aload_nN {n : Fin 4} (q : Nat) (hl0 : lv[q]? = some ((n : Nat), .null)) (d : decode M.1 pc = .ok (.aload_n n, 1)) (k : Tz M inj r (pc + 1) lv (.null :: st) w) : Tz M inj r pc lv st w := fun res h p l e s m args below meth c D cA AD A X cells slots hB hE H locs ls hP hS hl => lv_aload_nN X.1 X.2.1 d rfl (lv_at hl q (zel_at hl0)) (k res h p l e s m args below meth c D cA AD A X cells slots hB hE H locs ls hP hS hl)
theorem tz_aloadN {i : Nat} (q : Nat) (hl0 : lv[q]? = some (i, .null)) (d : decode M.1 pc = .ok (.aload i, 2)) (k : Tz M inj r (pc + 2) lv (.null :: st) w) : Tz M inj r pc lv st w := fun res h p l e s m args below meth c D cA AD A X cells slots hB hE H locs ls hP hS hl => lv_aloadN X.1 X.2.1 d (lv_at hl q (zel_at hl0)) (k res h p l e s m args below meth c D cA AD A X cells slots hB hE H locs ls hP hS hl)
theorem tz_istore_n {n : Fin 4} {x : Int32} (lv2 : List (Nat × Value)) (hn : (n : Nat) < M.2.2.1) (he : ((n : Nat), Value.int x) :: lv.filter (fun q => !(q.1 == (n : Nat)) && !(q.1 + 1 == (n : Nat) && q.2.category == 2)) = lv2) (d : decode M.1 pc = .ok (.istore_n n, 1)) (k : Tz M inj r (pc + 1) lv2 st w) : Tz M inj r pc lv (.int x :: st) w := fun res h p l e s m args below meth c D cA AD A X cells slots hB hE H locs ls hP hS hl => lv_istore_n X.1 X.2.1 d rfl hl hn (zel_st he) (fun ls2 hl2 => k res h p l e s m args below meth c D cA AD A X cells slots hB hE H locs ls2 hP hS hl2)
theorem tz_istore {i : Nat} {x : Int32} (lv2 : List (Nat × Value)) (hn : i < M.2.2.1) (he : (i, Value.int x) :: lv.filter (fun q => !(q.1 == i) && !(q.1 + 1 == i && q.2.category == 2)) = lv2) (d : decode M.1 pc = .ok (.istore i, 2)) (k : Tz M inj r (pc + 2) lv2 st w) : Tz M inj r pc lv (.int x :: st) w := fun res h p l e s m args below meth c D cA AD A X cells slots hB hE H locs ls hP hS hl => lv_istore X.1 X.2.1 d hl hn (zel_st he) (fun ls2 hl2 => k res h p l e s m args below meth c D cA AD A X cells slots hB hE H locs ls2 hP hS hl2)
theorem tz_lstore_n {n : Fin 4} {x : Int64} (lv2 : List (Nat × Value)) (hn : (n : Nat) + 1 < M.2.2.1) (he : ((n : Nat), Value.long x) :: lv.filter (fun q => !(q.1 == (n : Nat)) && (!(q.1 == (n : Nat) + 1) && !(q.1 + 1 == (n : Nat) && q.2.category == 2))) = lv2) (d : decode M.1 pc = .ok (.lstore_n n, 1)) (k : Tz M inj r (pc + 1) lv2 st w) : Tz M inj r pc lv (.long x :: st) w := fun res h p l e s m args below meth c D cA AD A X cells slots hB hE H locs ls hP hS hl => lv_lstore_n X.1 X.2.1 d rfl hl hn (zel_st2 he) (fun ls2 hl2 => k res h p l e s m args below meth c D cA AD A X cells slots hB hE H locs ls2 hP hS hl2)
theorem tz_lstore {i : Nat} {x : Int64} (lv2 : List (Nat × Value)) (hn : i + 1 < M.2.2.1) (he : (i, Value.long x) :: lv.filter (fun q => !(q.1 == i) && (!(q.1 == i + 1) && !(q.1 + 1 == i && q.2.category == 2))) = lv2) (d : decode M.1 pc = .ok (.lstore i, 2)) (k : Tz M inj r (pc + 2) lv2 st w) : Tz M inj r pc lv (.long x :: st) w := fun res h p l e s m args below meth c D cA AD A X cells slots hB hE H locs ls hP hS hl => lv_lstore X.1 X.2.1 d hl hn (zel_st2 he) (fun ls2 hl2 => k res h p l e s m args below meth c D cA AD A X cells slots hB hE H locs ls2 hP hS hl2)
theorem tz_astore_n {n : Fin 4} {x : Nat} (lv2 : List (Nat × Value)) (hn : (n : Nat) < M.2.2.1) (he : ((n : Nat), Value.ref x) :: lv.filter (fun q => !(q.1 == (n : Nat)) && !(q.1 + 1 == (n : Nat) && q.2.category == 2)) = lv2) (d : decode M.1 pc = .ok (.astore_n n, 1)) (k : Tz M inj r (pc + 1) lv2 st w) : Tz M inj r pc lv (.ref x :: st) w := fun res h p l e s m args below meth c D cA AD A X cells slots hB hE H locs ls hP hS hl => lv_astore_n X.1 X.2.1 d rfl hl hn (zel_st he) (fun ls2 hl2 => k res h p l e s m args below meth c D cA AD A X cells slots hB hE H locs ls2 hP hS hl2)
theorem tz_astore {i : Nat} {x : Nat} (lv2 : List (Nat × Value)) (hn : i < M.2.2.1) (he : (i, Value.ref x) :: lv.filter (fun q => !(q.1 == i) && !(q.1 + 1 == i && q.2.category == 2)) = lv2) (d : decode M.1 pc = .ok (.astore i, 2)) (k : Tz M inj r (pc + 2) lv2 st w) : Tz M inj r pc lv (.ref x :: st) w := fun res h p l e s m args below meth c D cA AD A X cells slots hB hE H locs ls hP hS hl => lv_astore X.1 X.2.1 d hl hn (zel_st he) (fun ls2 hl2 => k res h p l e s m args below meth c D cA AD A X cells slots hB hE H locs ls2 hP hS hl2)
theorem tz_astore_nN {n : Fin 4} (lv2 : List (Nat × Value)) (hn : (n : Nat) < M.2.2.1) (he : ((n : Nat), Value.null) :: lv.filter (fun q => !(q.1 == (n : Nat)) && !(q.1 + 1 == (n : Nat) && q.2.category == 2)) = lv2) (d : decode M.1 pc = .ok (.astore_n n, 1)) (k : Tz M inj r (pc + 1) lv2 st w) : Tz M inj r pc lv (.null :: st) w := fun res h p l e s m args below meth c D cA AD A X cells slots hB hE H locs ls hP hS hl => lv_astore_nN X.1 X.2.1 d rfl hl hn (zel_st he) (fun ls2 hl2 => k res h p l e s m args below meth c D cA AD A X cells slots hB hE H locs ls2 hP hS hl2)
theorem tz_astoreN {i : Nat} (lv2 : List (Nat × Value)) (hn : i < M.2.2.1) (he : (i, Value.null) :: lv.filter (fun q => !(q.1 == i) && !(q.1 + 1 == i && q.2.category == 2)) = lv2) (d : decode M.1 pc = .ok (.astore i, 2)) (k : Tz M inj r (pc + 2) lv2 st w) : Tz M inj r pc lv (.null :: st) w := fun res h p l e s m args below meth c D cA AD A X cells slots hB hE H locs ls hP hS hl => lv_astoreN X.1 X.2.1 d hl hn (zel_st he) (fun ls2 hl2 => k res h p l e s m args below meth c D cA AD A X cells slots hB hE H locs ls2 hP hS hl2)
theorem tz_iinc {i : Nat} {n : Int} {x : Int32} (q : Nat) (v : Int32) (lv2 : List (Nat × Value)) (hl0 : lv[q]? = some (i, .int x)) (hv : Int32.ofInt n = v) (hn : i < M.2.2.1) (he : (i, Value.int (x + v)) :: lv.filter (fun q => !(q.1 == i) && !(q.1 + 1 == i && q.2.category == 2)) = lv2) (d : decode M.1 pc = .ok (.iinc i n, 3)) (k : Tz M inj r (pc + 3) lv2 st w) : Tz M inj r pc lv st w := fun res h p l e s m args below meth c D cA AD A X cells slots hB hE H locs ls hP hS hl => lv_iinc X.1 X.2.1 d hl (zel_at hl0) (by rw [hv]) hn (zel_st he) (fun ls2 hl2 => k res h p l e s m args below meth c D cA AD A X cells slots hB hE H locs ls2 hP hS hl2)
theorem tz_lv {lv2 : List (Nat × Value)} (ks : List Nat) (hk : lv_pick lv ks = lv2) (k : Tz M inj r pc lv2 st w) : Tz M inj r pc lv st w := fun res h p l e s m args below meth c D cA AD A X cells slots hB hE H locs ls hP hS hl => k res h p l e s m args below meth c D cA AD A X cells slots hB hE H locs ls hP hS (lv_sub hl ks (by subst hk; simp only [lv_pick, zel, List.getElem?_map, List.map_filterMap]))
theorem tz_dupi {x : Int32} (d : decode M.1 pc = .ok (.dup, 1)) (k : Tz M inj r (pc + 1) lv (.int x :: .int x :: st) w) : Tz M inj r pc lv (.int x :: st) w := fun res h p l e s m args below meth c D cA AD A X cells slots hB hE H locs ls hP hS hl => lv_dup X.1 X.2.1 d rfl (k res h p l e s m args below meth c D cA AD A X cells slots hB hE H locs ls hP hS hl)
theorem tz_dupa {x : Nat} (d : decode M.1 pc = .ok (.dup, 1)) (k : Tz M inj r (pc + 1) lv (.ref x :: .ref x :: st) w) : Tz M inj r pc lv (.ref x :: st) w := fun res h p l e s m args below meth c D cA AD A X cells slots hB hE H locs ls hP hS hl => lv_dup X.1 X.2.1 d rfl (k res h p l e s m args below meth c D cA AD A X cells slots hB hE H locs ls hP hS hl)
theorem tz_dup2 {x : Int32} {a : Nat} (d : decode M.1 pc = .ok (.dup2, 1)) (k : Tz M inj r (pc + 1) lv (.int x :: .ref a :: .int x :: .ref a :: st) w) : Tz M inj r pc lv (.int x :: .ref a :: st) w := fun res h p l e s m args below meth c D cA AD A X cells slots hB hE H locs ls hP hS hl => lv_dup2_11 X.1 X.2.1 d rfl rfl (k res h p l e s m args below meth c D cA AD A X cells slots hB hE H locs ls hP hS hl)
theorem tz_popi {x : Int32} (d : decode M.1 pc = .ok (.pop, 1)) (k : Tz M inj r (pc + 1) lv st w) : Tz M inj r pc lv (.int x :: st) w := fun res h p l e s m args below meth c D cA AD A X cells slots hB hE H locs ls hP hS hl => lv_pop X.1 X.2.1 d rfl (k res h p l e s m args below meth c D cA AD A X cells slots hB hE H locs ls hP hS hl)
theorem tz_goto {off : Int} (tgt : Nat) (d : decode M.1 pc = .ok (.goto off, 3)) (ht : (pc : Int) + off = (tgt : Int)) (k : Tz M inj r tgt lv st w) : Tz M inj r pc lv st w := fun res h p l e s m args below meth c D cA AD A X cells slots hB hE H locs ls hP hS hl => lv_goto X.1 X.2.1 d ht (k res h p l e s m args below meth c D cA AD A X cells slots hB hE H locs ls hP hS hl)
theorem tz_null (d : decode M.1 pc = .ok (.aconst_null, 1)) (k : Tz M inj r (pc + 1) lv (.null :: st) w) : Tz M inj r pc lv st w := fun res h p l e s m args below meth c D cA AD A X cells slots hB hE H locs ls hP hS hl => lv_null X.1 X.2.1 d (k res h p l e s m args below meth c D cA AD A X cells slots hB hE H locs ls hP hS hl)
theorem tz_ifnull {x : Nat} {off : Int} (d : decode M.1 pc = .ok (.ifnull off, 3)) (k : Tz M inj r (pc + 3) lv st w) : Tz M inj r pc lv (.ref x :: st) w := fun res h p l e s m args below meth c D cA AD A X cells slots hB hE H locs ls hP hS hl => lv_ifnull X.1 X.2.1 d (k res h p l e s m args below meth c D cA AD A X cells slots hB hE H locs ls hP hS hl)
theorem tz_ifnullN {off : Int} (tgt : Nat) (d : decode M.1 pc = .ok (.ifnull off, 3)) (ht : (pc : Int) + off = (tgt : Int)) (k : Tz M inj r tgt lv st w) : Tz M inj r pc lv (.null :: st) w := fun res h p l e s m args below meth c D cA AD A X cells slots hB hE H locs ls hP hS hl => lv_ifnullN X.1 X.2.1 d ht (k res h p l e s m args below meth c D cA AD A X cells slots hB hE H locs ls hP hS hl)
theorem tz_ifnonnull {x : Nat} {off : Int} (tgt : Nat) (d : decode M.1 pc = .ok (.ifnonnull off, 3)) (ht : (pc : Int) + off = (tgt : Int)) (k : Tz M inj r tgt lv st w) : Tz M inj r pc lv (.ref x :: st) w := fun res h p l e s m args below meth c D cA AD A X cells slots hB hE H locs ls hP hS hl => lv_ifnonnull X.1 X.2.1 d ht (k res h p l e s m args below meth c D cA AD A X cells slots hB hE H locs ls hP hS hl)
theorem tz_ifnonnullN {off : Int} (d : decode M.1 pc = .ok (.ifnonnull off, 3)) (k : Tz M inj r (pc + 3) lv st w) : Tz M inj r pc lv (.null :: st) w := fun res h p l e s m args below meth c D cA AD A X cells slots hB hE H locs ls hP hS hl => lv_ifnonnullN X.1 X.2.1 d (k res h p l e s m args below meth c D cA AD A X cells slots hB hE H locs ls hP hS hl)
theorem tz_icmp_eq {x y : Int32} {off : Int} {r1 r2 : Option (ρ × zW)} [dc : Decidable (x = y)] (tgt : Nat) (d : decode M.1 pc = .ok (.if_icmp .eq off, 3)) (ht : (pc : Int) + off = (tgt : Int)) (k1 : x = y → Tz M inj r1 tgt lv st w) (k2 : ¬ (x = y) → Tz M inj r2 (pc + 3) lv st w) : Tz M inj (if x = y then r1 else r2) pc lv (.int y :: .int x :: st) w := fun res h p l e s m args below meth c D cA AD A X cells slots hB hE H locs ls hP hS hl => lv_icmp_eq X.1 X.2.1 d ht (fun q => k1 q res (by rw [← h]; exact (if_pos q).symm) p l e s m args below meth c D cA AD A X cells slots hB hE H locs ls hP hS hl) (fun q => k2 q res (by rw [← h]; exact (if_neg q).symm) p l e s m args below meth c D cA AD A X cells slots hB hE H locs ls hP hS hl)
theorem tz_icmp_ne {x y : Int32} {off : Int} {r1 r2 : Option (ρ × zW)} [dc : Decidable (¬ x = y)] (tgt : Nat) (d : decode M.1 pc = .ok (.if_icmp .ne off, 3)) (ht : (pc : Int) + off = (tgt : Int)) (k1 : ¬ x = y → Tz M inj r1 tgt lv st w) (k2 : ¬ (¬ x = y) → Tz M inj r2 (pc + 3) lv st w) : Tz M inj (if ¬ x = y then r1 else r2) pc lv (.int y :: .int x :: st) w := fun res h p l e s m args below meth c D cA AD A X cells slots hB hE H locs ls hP hS hl => lv_icmp_ne X.1 X.2.1 d ht (fun q => k1 q res (by rw [← h]; exact (if_pos q).symm) p l e s m args below meth c D cA AD A X cells slots hB hE H locs ls hP hS hl) (fun q => k2 (fun z => z q) res (by rw [← h]; exact (if_neg (fun z => z q)).symm) p l e s m args below meth c D cA AD A X cells slots hB hE H locs ls hP hS hl)
theorem tz_icmp_lt {x y : Int32} {off : Int} {r1 r2 : Option (ρ × zW)} [dc : Decidable (x < y)] (tgt : Nat) (d : decode M.1 pc = .ok (.if_icmp .lt off, 3)) (ht : (pc : Int) + off = (tgt : Int)) (k1 : x < y → Tz M inj r1 tgt lv st w) (k2 : ¬ (x < y) → Tz M inj r2 (pc + 3) lv st w) : Tz M inj (if x < y then r1 else r2) pc lv (.int y :: .int x :: st) w := fun res h p l e s m args below meth c D cA AD A X cells slots hB hE H locs ls hP hS hl => lv_icmp_lt X.1 X.2.1 d ht (fun q => k1 q res (by rw [← h]; exact (if_pos q).symm) p l e s m args below meth c D cA AD A X cells slots hB hE H locs ls hP hS hl) (fun q => k2 q res (by rw [← h]; exact (if_neg q).symm) p l e s m args below meth c D cA AD A X cells slots hB hE H locs ls hP hS hl)
theorem tz_icmp_ge {x y : Int32} {off : Int} {r1 r2 : Option (ρ × zW)} [dc : Decidable (y ≤ x)] (tgt : Nat) (d : decode M.1 pc = .ok (.if_icmp .ge off, 3)) (ht : (pc : Int) + off = (tgt : Int)) (k1 : y ≤ x → Tz M inj r1 tgt lv st w) (k2 : ¬ (y ≤ x) → Tz M inj r2 (pc + 3) lv st w) : Tz M inj (if y ≤ x then r1 else r2) pc lv (.int y :: .int x :: st) w := fun res h p l e s m args below meth c D cA AD A X cells slots hB hE H locs ls hP hS hl => lv_icmp_ge X.1 X.2.1 d ht (fun q => k1 q res (by rw [← h]; exact (if_pos q).symm) p l e s m args below meth c D cA AD A X cells slots hB hE H locs ls hP hS hl) (fun q => k2 q res (by rw [← h]; exact (if_neg q).symm) p l e s m args below meth c D cA AD A X cells slots hB hE H locs ls hP hS hl)
theorem tz_icmp_gt {x y : Int32} {off : Int} {r1 r2 : Option (ρ × zW)} [dc : Decidable (y < x)] (tgt : Nat) (d : decode M.1 pc = .ok (.if_icmp .gt off, 3)) (ht : (pc : Int) + off = (tgt : Int)) (k1 : y < x → Tz M inj r1 tgt lv st w) (k2 : ¬ (y < x) → Tz M inj r2 (pc + 3) lv st w) : Tz M inj (if y < x then r1 else r2) pc lv (.int y :: .int x :: st) w := fun res h p l e s m args below meth c D cA AD A X cells slots hB hE H locs ls hP hS hl => lv_icmp_gt X.1 X.2.1 d ht (fun q => k1 q res (by rw [← h]; exact (if_pos q).symm) p l e s m args below meth c D cA AD A X cells slots hB hE H locs ls hP hS hl) (fun q => k2 q res (by rw [← h]; exact (if_neg q).symm) p l e s m args below meth c D cA AD A X cells slots hB hE H locs ls hP hS hl)
theorem tz_icmp_le {x y : Int32} {off : Int} {r1 r2 : Option (ρ × zW)} [dc : Decidable (x ≤ y)] (tgt : Nat) (d : decode M.1 pc = .ok (.if_icmp .le off, 3)) (ht : (pc : Int) + off = (tgt : Int)) (k1 : x ≤ y → Tz M inj r1 tgt lv st w) (k2 : ¬ (x ≤ y) → Tz M inj r2 (pc + 3) lv st w) : Tz M inj (if x ≤ y then r1 else r2) pc lv (.int y :: .int x :: st) w := fun res h p l e s m args below meth c D cA AD A X cells slots hB hE H locs ls hP hS hl => lv_icmp_le X.1 X.2.1 d ht (fun q => k1 q res (by rw [← h]; exact (if_pos q).symm) p l e s m args below meth c D cA AD A X cells slots hB hE H locs ls hP hS hl) (fun q => k2 q res (by rw [← h]; exact (if_neg q).symm) p l e s m args below meth c D cA AD A X cells slots hB hE H locs ls hP hS hl)
theorem tz_if_eq {x : Int32} {off : Int} {r1 r2 : Option (ρ × zW)} [dc : Decidable (x = 0)] (tgt : Nat) (d : decode M.1 pc = .ok (.ifCond .eq off, 3)) (ht : (pc : Int) + off = (tgt : Int)) (k1 : x = 0 → Tz M inj r1 tgt lv st w) (k2 : ¬ (x = 0) → Tz M inj r2 (pc + 3) lv st w) : Tz M inj (if x = 0 then r1 else r2) pc lv (.int x :: st) w := fun res h p l e s m args below meth c D cA AD A X cells slots hB hE H locs ls hP hS hl => lv_if_eq X.1 X.2.1 d ht (fun q => k1 q res (by rw [← h]; exact (if_pos q).symm) p l e s m args below meth c D cA AD A X cells slots hB hE H locs ls hP hS hl) (fun q => k2 q res (by rw [← h]; exact (if_neg q).symm) p l e s m args below meth c D cA AD A X cells slots hB hE H locs ls hP hS hl)
theorem tz_if_ne {x : Int32} {off : Int} {r1 r2 : Option (ρ × zW)} [dc : Decidable (¬ x = 0)] (tgt : Nat) (d : decode M.1 pc = .ok (.ifCond .ne off, 3)) (ht : (pc : Int) + off = (tgt : Int)) (k1 : ¬ x = 0 → Tz M inj r1 tgt lv st w) (k2 : ¬ (¬ x = 0) → Tz M inj r2 (pc + 3) lv st w) : Tz M inj (if ¬ x = 0 then r1 else r2) pc lv (.int x :: st) w := fun res h p l e s m args below meth c D cA AD A X cells slots hB hE H locs ls hP hS hl => lv_if_ne X.1 X.2.1 d ht (fun q => k1 q res (by rw [← h]; exact (if_pos q).symm) p l e s m args below meth c D cA AD A X cells slots hB hE H locs ls hP hS hl) (fun q => k2 (fun z => z q) res (by rw [← h]; exact (if_neg (fun z => z q)).symm) p l e s m args below meth c D cA AD A X cells slots hB hE H locs ls hP hS hl)
theorem tz_if_lt {x : Int32} {off : Int} {r1 r2 : Option (ρ × zW)} [dc : Decidable (x < 0)] (tgt : Nat) (d : decode M.1 pc = .ok (.ifCond .lt off, 3)) (ht : (pc : Int) + off = (tgt : Int)) (k1 : x < 0 → Tz M inj r1 tgt lv st w) (k2 : ¬ (x < 0) → Tz M inj r2 (pc + 3) lv st w) : Tz M inj (if x < 0 then r1 else r2) pc lv (.int x :: st) w := fun res h p l e s m args below meth c D cA AD A X cells slots hB hE H locs ls hP hS hl => lv_if_lt X.1 X.2.1 d ht (fun q => k1 q res (by rw [← h]; exact (if_pos q).symm) p l e s m args below meth c D cA AD A X cells slots hB hE H locs ls hP hS hl) (fun q => k2 q res (by rw [← h]; exact (if_neg q).symm) p l e s m args below meth c D cA AD A X cells slots hB hE H locs ls hP hS hl)
theorem tz_if_ge {x : Int32} {off : Int} {r1 r2 : Option (ρ × zW)} [dc : Decidable (0 ≤ x)] (tgt : Nat) (d : decode M.1 pc = .ok (.ifCond .ge off, 3)) (ht : (pc : Int) + off = (tgt : Int)) (k1 : 0 ≤ x → Tz M inj r1 tgt lv st w) (k2 : ¬ (0 ≤ x) → Tz M inj r2 (pc + 3) lv st w) : Tz M inj (if 0 ≤ x then r1 else r2) pc lv (.int x :: st) w := fun res h p l e s m args below meth c D cA AD A X cells slots hB hE H locs ls hP hS hl => lv_if_ge X.1 X.2.1 d ht (fun q => k1 q res (by rw [← h]; exact (if_pos q).symm) p l e s m args below meth c D cA AD A X cells slots hB hE H locs ls hP hS hl) (fun q => k2 q res (by rw [← h]; exact (if_neg q).symm) p l e s m args below meth c D cA AD A X cells slots hB hE H locs ls hP hS hl)
theorem tz_if_gt {x : Int32} {off : Int} {r1 r2 : Option (ρ × zW)} [dc : Decidable (0 < x)] (tgt : Nat) (d : decode M.1 pc = .ok (.ifCond .gt off, 3)) (ht : (pc : Int) + off = (tgt : Int)) (k1 : 0 < x → Tz M inj r1 tgt lv st w) (k2 : ¬ (0 < x) → Tz M inj r2 (pc + 3) lv st w) : Tz M inj (if 0 < x then r1 else r2) pc lv (.int x :: st) w := fun res h p l e s m args below meth c D cA AD A X cells slots hB hE H locs ls hP hS hl => lv_if_gt X.1 X.2.1 d ht (fun q => k1 q res (by rw [← h]; exact (if_pos q).symm) p l e s m args below meth c D cA AD A X cells slots hB hE H locs ls hP hS hl) (fun q => k2 q res (by rw [← h]; exact (if_neg q).symm) p l e s m args below meth c D cA AD A X cells slots hB hE H locs ls hP hS hl)
theorem tz_if_le {x : Int32} {off : Int} {r1 r2 : Option (ρ × zW)} [dc : Decidable (x ≤ 0)] (tgt : Nat) (d : decode M.1 pc = .ok (.ifCond .le off, 3)) (ht : (pc : Int) + off = (tgt : Int)) (k1 : x ≤ 0 → Tz M inj r1 tgt lv st w) (k2 : ¬ (x ≤ 0) → Tz M inj r2 (pc + 3) lv st w) : Tz M inj (if x ≤ 0 then r1 else r2) pc lv (.int x :: st) w := fun res h p l e s m args below meth c D cA AD A X cells slots hB hE H locs ls hP hS hl => lv_if_le X.1 X.2.1 d ht (fun q => k1 q res (by rw [← h]; exact (if_pos q).symm) p l e s m args below meth c D cA AD A X cells slots hB hE H locs ls hP hS hl) (fun q => k2 q res (by rw [← h]; exact (if_neg q).symm) p l e s m args below meth c D cA AD A X cells slots hB hE H locs ls hP hS hl)
end TZ
end
section
-- a class as the rules want it
def zK (c : Nat) (q : vw_C) : Prop := vwCl[c]? = some q ∧ (∀ w ∈ u_ws q.1 q.2.1 q.2.2, w ∈ zTb) ∧ q.2.2 = zN c ∧ (∀ k, k < q.2.2 → parseFieldDescriptor (q.2.1 k).2.2.1 = some (zty c k)) ∧ (∀ a, a < q.2.2 → ∀ b, b < q.2.2 → a ≠ b → (q.2.1 a).2.1 ≠ (q.2.1 b).2.1)

theorem kz0 : zK 0 (RX0, TX0, 4) := ⟨rfl, by decide +kernel, rfl, tyX0_ok, nmX0⟩
theorem kz1 : zK 1 (RX1, TX1, 2) := ⟨rfl, by decide +kernel, rfl, tyX1_ok, nmX1⟩
theorem kz2 : zK 2 (RX2, TX2, 5) := ⟨rfl, by decide +kernel, rfl, tyX2_ok, nmX2⟩
theorem kz3 : zK 3 (RX3, TX3, 3) := ⟨rfl, by decide +kernel, rfl, tyX3_ok, nmX3⟩
theorem kz4 : zK 4 (RX4, TX4, 6) := ⟨rfl, by decide +kernel, rfl, tyX4_ok, nmX4⟩
theorem kz5 : zK 5 (RX5, TX5, 2) := ⟨rfl, by decide +kernel, rfl, tyX5_ok, nmX5⟩
theorem kz6 : zK 6 (RX6, TX6, 4) := ⟨rfl, by decide +kernel, rfl, tyX6_ok, nmX6⟩
theorem kz7 : zK 7 (RX7, TX7, 11) := ⟨rfl, by decide +kernel, rfl, tyX7_ok, nmX7⟩
theorem kz8 : zK 8 (RX8, TX8, 32) := ⟨rfl, by decide +kernel, rfl, tyX8_ok, nmX8⟩
def oc {β : Type} (o : Option Nat) (a : β) (f : Nat → β) : β := match o with
  | none => a
  | some x => f x
def zFU : Nat := 18446744073709551616
theorem zd {cc : ByteArray} {L : List (Nat × Instr × Nat)} (h : ∀ q ∈ L, decode cc q.1 = .ok (q.2.1, q.2.2)) (i : Nat) {pc : Nat} {ins : Instr} {len : Nat} (e : L[i]? = some (pc, ins, len)) : decode cc pc = .ok (ins, len) := h (pc, ins, len) (List.mem_of_getElem? e)
theorem zref_ne {w : zW} {k j : Nat} (h : k ≠ 66) : zref w k j = zlay k j := by unfold zref; rw [if_neg h]
theorem zR_or (w : zW) (j : Nat) : zR w j = 67 ∨ zR w j = 68 ∨ zR w j = 69 ∨ zR w j = 70 := by unfold zR; omega
theorem zR_a (w : zW) (j : Nat) : za 0 (zR w j) ∧ zlen (zR w j) = 65 := by
  rcases zR_or w j with h | h | h | h <;> rw [h] <;> (unfold za; decide)
theorem zfin (P : Nat → Prop) [DecidablePred P] (h : ∀ k, k < 93 → P k) {k : Nat} (hk : k < 93) : P k := h k hk
theorem zf1_0 {w : zW} {h : Nat} (hh : zc 1 h) : zref w h 0 = h + 1 ∧ zc 2 (h + 1) := by
  have e : ∀ h, h < 93 → zsh h = (4, 0) → h ≠ 66 ∧ zlay h 0 = h + 1 ∧ h + 1 < 93 ∧ zsh (h + 1) = (5, 0) := by decide +kernel
  obtain ⟨a, b, c, d⟩ := e h hh.1 hh.2
  exact ⟨(zref_ne a).trans b, c, d⟩
theorem zf1_1 {w : zW} {h : Nat} (hh : zc 1 h) : zref w h 1 = h + 6 ∧ zc 2 (h + 6) := by
  have e : ∀ h, h < 93 → zsh h = (4, 0) → h ≠ 66 ∧ zlay h 1 = h + 6 ∧ h + 6 < 93 ∧ zsh (h + 6) = (5, 0) := by decide +kernel
  obtain ⟨a, b, c, d⟩ := e h hh.1 hh.2
  exact ⟨(zref_ne a).trans b, c, d⟩
theorem zf2_1 {w : zW} {h : Nat} (hh : zc 2 h) : zref w h 1 = h + 1 ∧ za 0 (h + 1) ∧ zlen (h + 1) = 64 := by
  have e : ∀ h, h < 93 → zsh h = (5, 0) → h ≠ 66 ∧ zlay h 1 = h + 1 ∧ h + 1 < 93 ∧ zsh (h + 1) = (0, 64) := by decide +kernel
  obtain ⟨a, b, c, d⟩ := e h hh.1 hh.2
  have d2 : zlen (h + 1) = 64 := by unfold zlen; rw [d]
  exact ⟨(zref_ne a).trans b, ⟨c, by rw [d2]; exact d⟩, d2⟩
theorem zf2_2 {w : zW} {h : Nat} (hh : zc 2 h) : zref w h 2 = h + 2 ∧ za 1 (h + 2) ∧ zlen (h + 2) = 64 := by
  have e : ∀ h, h < 93 → zsh h = (5, 0) → h ≠ 66 ∧ zlay h 2 = h + 2 ∧ h + 2 < 93 ∧ zsh (h + 2) = (1, 64) := by decide +kernel
  obtain ⟨a, b, c, d⟩ := e h hh.1 hh.2
  have d2 : zlen (h + 2) = 64 := by unfold zlen; rw [d]
  exact ⟨(zref_ne a).trans b, ⟨c, by rw [d2]; exact d⟩, d2⟩
theorem zf2_3 {w : zW} {h : Nat} (hh : zc 2 h) : zref w h 3 = h + 3 ∧ za 1 (h + 3) ∧ zlen (h + 3) = 64 := by
  have e : ∀ h, h < 93 → zsh h = (5, 0) → h ≠ 66 ∧ zlay h 3 = h + 3 ∧ h + 3 < 93 ∧ zsh (h + 3) = (1, 64) := by decide +kernel
  obtain ⟨a, b, c, d⟩ := e h hh.1 hh.2
  have d2 : zlen (h + 3) = 64 := by unfold zlen; rw [d]
  exact ⟨(zref_ne a).trans b, ⟨c, by rw [d2]; exact d⟩, d2⟩
theorem zf2_4 {w : zW} {h : Nat} (hh : zc 2 h) : zref w h 4 = h + 4 ∧ za 0 (h + 4) ∧ zlen (h + 4) = 64 := by
  have e : ∀ h, h < 93 → zsh h = (5, 0) → h ≠ 66 ∧ zlay h 4 = h + 4 ∧ h + 4 < 93 ∧ zsh (h + 4) = (0, 64) := by decide +kernel
  obtain ⟨a, b, c, d⟩ := e h hh.1 hh.2
  have d2 : zlen (h + 4) = 64 := by unfold zlen; rw [d]
  exact ⟨(zref_ne a).trans b, ⟨c, by rw [d2]; exact d⟩, d2⟩
theorem zf3_2 {w : zW} {h : Nat} (hh : zc 3 h) : zref w h 2 = h + 1 ∧ za 0 (h + 1) ∧ zlen (h + 1) = 25 := by
  have e : ∀ h, h < 93 → zsh h = (6, 0) → h ≠ 66 ∧ zlay h 2 = h + 1 ∧ h + 1 < 93 ∧ zsh (h + 1) = (0, 25) := by decide +kernel
  obtain ⟨a, b, c, d⟩ := e h hh.1 hh.2
  have d2 : zlen (h + 1) = 25 := by unfold zlen; rw [d]
  exact ⟨(zref_ne a).trans b, ⟨c, by rw [d2]; exact d⟩, d2⟩
theorem zs_0 : zc 7 0 := by unfold zc; decide
theorem zs_1 : zc 0 1 := by unfold zc; decide
theorem zs_2 : zc 3 2 := by unfold zc; decide
theorem zs_3 : za 0 3 ∧ zlen 3 = 25 := by unfold za; decide
theorem zs_4 : zc 6 4 := by unfold zc; decide
theorem zs_5 : za 0 5 ∧ zlen 5 = 64 := by unfold za; decide
theorem zs_6 : za 2 6 ∧ zlen 6 = 4 := by unfold za; decide
theorem zs_7 : zc 1 7 := by unfold zc; decide
theorem zs_8 : zc 2 8 := by unfold zc; decide
theorem zs_9 : za 0 9 ∧ zlen 9 = 64 := by unfold za; decide
theorem zs_10 : za 1 10 ∧ zlen 10 = 64 := by unfold za; decide
theorem zs_11 : za 1 11 ∧ zlen 11 = 64 := by unfold za; decide
theorem zs_12 : za 0 12 ∧ zlen 12 = 64 := by unfold za; decide
theorem zs_13 : zc 2 13 := by unfold zc; decide
theorem zs_14 : za 0 14 ∧ zlen 14 = 64 := by unfold za; decide
theorem zs_15 : za 1 15 ∧ zlen 15 = 64 := by unfold za; decide
theorem zs_16 : za 1 16 ∧ zlen 16 = 64 := by unfold za; decide
theorem zs_17 : za 0 17 ∧ zlen 17 = 64 := by unfold za; decide
theorem zs_18 : zc 1 18 := by unfold zc; decide
theorem zs_19 : zc 2 19 := by unfold zc; decide
theorem zs_20 : za 0 20 ∧ zlen 20 = 64 := by unfold za; decide
theorem zs_21 : za 1 21 ∧ zlen 21 = 64 := by unfold za; decide
theorem zs_22 : za 1 22 ∧ zlen 22 = 64 := by unfold za; decide
theorem zs_23 : za 0 23 ∧ zlen 23 = 64 := by unfold za; decide
theorem zs_24 : zc 2 24 := by unfold zc; decide
theorem zs_25 : za 0 25 ∧ zlen 25 = 64 := by unfold za; decide
theorem zs_26 : za 1 26 ∧ zlen 26 = 64 := by unfold za; decide
theorem zs_27 : za 1 27 ∧ zlen 27 = 64 := by unfold za; decide
theorem zs_28 : za 0 28 ∧ zlen 28 = 64 := by unfold za; decide
theorem zs_29 : zc 1 29 := by unfold zc; decide
theorem zs_30 : zc 2 30 := by unfold zc; decide
theorem zs_31 : za 0 31 ∧ zlen 31 = 64 := by unfold za; decide
theorem zs_32 : za 1 32 ∧ zlen 32 = 64 := by unfold za; decide
theorem zs_33 : za 1 33 ∧ zlen 33 = 64 := by unfold za; decide
theorem zs_34 : za 0 34 ∧ zlen 34 = 64 := by unfold za; decide
theorem zs_35 : zc 2 35 := by unfold zc; decide
theorem zs_36 : za 0 36 ∧ zlen 36 = 64 := by unfold za; decide
theorem zs_37 : za 1 37 ∧ zlen 37 = 64 := by unfold za; decide
theorem zs_38 : za 1 38 ∧ zlen 38 = 64 := by unfold za; decide
theorem zs_39 : za 0 39 ∧ zlen 39 = 64 := by unfold za; decide
theorem zs_40 : zc 1 40 := by unfold zc; decide
theorem zs_41 : zc 2 41 := by unfold zc; decide
theorem zs_42 : za 0 42 ∧ zlen 42 = 64 := by unfold za; decide
theorem zs_43 : za 1 43 ∧ zlen 43 = 64 := by unfold za; decide
theorem zs_44 : za 1 44 ∧ zlen 44 = 64 := by unfold za; decide
theorem zs_45 : za 0 45 ∧ zlen 45 = 64 := by unfold za; decide
theorem zs_46 : zc 2 46 := by unfold zc; decide
theorem zs_47 : za 0 47 ∧ zlen 47 = 64 := by unfold za; decide
theorem zs_48 : za 1 48 ∧ zlen 48 = 64 := by unfold za; decide
theorem zs_49 : za 1 49 ∧ zlen 49 = 64 := by unfold za; decide
theorem zs_50 : za 0 50 ∧ zlen 50 = 64 := by unfold za; decide
theorem zs_51 : zc 1 51 := by unfold zc; decide
theorem zs_52 : zc 2 52 := by unfold zc; decide
theorem zs_53 : za 0 53 ∧ zlen 53 = 64 := by unfold za; decide
theorem zs_54 : za 1 54 ∧ zlen 54 = 64 := by unfold za; decide
theorem zs_55 : za 1 55 ∧ zlen 55 = 64 := by unfold za; decide
theorem zs_56 : za 0 56 ∧ zlen 56 = 64 := by unfold za; decide
theorem zs_57 : zc 2 57 := by unfold zc; decide
theorem zs_58 : za 0 58 ∧ zlen 58 = 64 := by unfold za; decide
theorem zs_59 : za 1 59 ∧ zlen 59 = 64 := by unfold za; decide
theorem zs_60 : za 1 60 ∧ zlen 60 = 64 := by unfold za; decide
theorem zs_61 : za 0 61 ∧ zlen 61 = 64 := by unfold za; decide
theorem zs_62 : zc 3 62 := by unfold zc; decide
theorem zs_63 : za 0 63 ∧ zlen 63 = 25 := by unfold za; decide
theorem zs_64 : zc 5 64 := by unfold zc; decide
theorem zs_65 : za 0 65 ∧ zlen 65 = 100 := by unfold za; decide
theorem zs_66 : zc 4 66 := by unfold zc; decide
theorem zs_67 : za 0 67 ∧ zlen 67 = 65 := by unfold za; decide
theorem zs_68 : za 0 68 ∧ zlen 68 = 65 := by unfold za; decide
theorem zs_69 : za 0 69 ∧ zlen 69 = 65 := by unfold za; decide
theorem zs_70 : za 0 70 ∧ zlen 70 = 65 := by unfold za; decide
theorem zs_71 : za 1 71 ∧ zlen 71 = 128 := by unfold za; decide
theorem zs_72 : za 1 72 ∧ zlen 72 = 129 := by unfold za; decide
theorem zs_73 : za 1 73 ∧ zlen 73 = 129 := by unfold za; decide
theorem zs_74 : zc 8 74 := by unfold zc; decide
theorem zs_75 : za 1 75 ∧ zlen 75 = 160 := by unfold za; decide
theorem zs_76 : za 0 76 ∧ zlen 76 = 100 := by unfold za; decide
theorem zs_77 : za 0 77 ∧ zlen 77 = 25 := by unfold za; decide
theorem zs_78 : za 0 78 ∧ zlen 78 = 4 := by unfold za; decide
theorem zs_79 : za 0 79 ∧ zlen 79 = 4 := by unfold za; decide
theorem zs_80 : za 0 80 ∧ zlen 80 = 4 := by unfold za; decide
theorem zs_81 : za 1 81 ∧ zlen 81 = 129 := by unfold za; decide
theorem zs_82 : za 1 82 ∧ zlen 82 = 129 := by unfold za; decide
theorem zs_83 : za 0 83 ∧ zlen 83 = 10 := by unfold za; decide
theorem zs_84 : za 0 84 ∧ zlen 84 = 640 := by unfold za; decide
theorem zs_85 : za 0 85 ∧ zlen 85 = 640 := by unfold za; decide
theorem zs_86 : za 1 86 ∧ zlen 86 = 640 := by unfold za; decide
theorem zs_87 : za 1 87 ∧ zlen 87 = 640 := by unfold za; decide
theorem zs_88 : za 0 88 ∧ zlen 88 = 65 := by unfold za; decide
theorem zs_89 : za 0 89 ∧ zlen 89 = 25 := by unfold za; decide
theorem zs_90 : za 0 90 ∧ zlen 90 = 100 := by unfold za; decide
theorem zs_91 : za 0 91 ∧ zlen 91 = 100 := by unfold za; decide
theorem zs_92 : za 1 92 ∧ zlen 92 = 1 := by unfold za; decide
section TF
variable {ρ : Type} {M : zM} {inj : zEnd ρ} {r : Option (ρ × zW)} {pc : Nat} {lv : List (Nat × Value)} {st : List Value} {w : zW}
theorem tz_getI {q : vw_C} {ci k index : Nat} (j : Nat) (hk : zK ci q) (ho : zc ci k) (hj : j < q.2.2) (ht : zty ci j = .int) (hm : Cond.fieldLink M.2.1 index (q.2.1 j).1 (q.2.1 j).2.1 (q.2.1 j).2.2.1 ∈ zTb) (d : decode M.1 pc = .ok (.getfield index, 3)) (k1 : Tz M inj r (pc + 3) lv (.int (zI w k j) :: st) w) : Tz M inj r pc lv (.ref k :: st) w := fun res h p l e s m args below meth c D cA AD A X cells slots hB hE H locs ls hP hS hl => va_get (D := D) (ci := ci) X.1 X.2.1 (Ts := zTb) X.2.2.2.2.2.1 hk.2.1 X.2.2.2.2.1 X.2.2.2.2.2.2.2.1 hP k (zws_o ho) hk.1 j hj (X.2.2.2.2.2.1 _ hm) (fun _ z => z) (by rw [zfs_at (by rw [← hk.2.2.1]; exact hj), ht]; rfl) d (k1 res h p l e s m args below meth c D cA AD A X cells slots hB hE H locs ls hP hS hl)
theorem tz_getJ {q : vw_C} {ci k index : Nat} (j : Nat) (hk : zK ci q) (ho : zc ci k) (hj : j < q.2.2) (ht : zty ci j = .long) (hm : Cond.fieldLink M.2.1 index (q.2.1 j).1 (q.2.1 j).2.1 (q.2.1 j).2.2.1 ∈ zTb) (d : decode M.1 pc = .ok (.getfield index, 3)) (k1 : Tz M inj r (pc + 3) lv (.long (zL w k j) :: st) w) : Tz M inj r pc lv (.ref k :: st) w := fun res h p l e s m args below meth c D cA AD A X cells slots hB hE H locs ls hP hS hl => va_get (D := D) (ci := ci) X.1 X.2.1 (Ts := zTb) X.2.2.2.2.2.1 hk.2.1 X.2.2.2.2.1 X.2.2.2.2.2.2.2.1 hP k (zws_o ho) hk.1 j hj (X.2.2.2.2.2.1 _ hm) (fun _ z => z) (by rw [zfs_at (by rw [← hk.2.2.1]; exact hj), ht]; rfl) d (k1 res h p l e s m args below meth c D cA AD A X cells slots hB hE H locs ls hP hS hl)
theorem tz_getR {q : vw_C} {ci k index : Nat} (t j : Nat) (hk : zK ci q) (ho : zc ci k) (hj : j < q.2.2) (ht : ¬ zty ci j = .int ∧ ¬ zty ci j = .long) (hr : zref w k j = t) (hm : Cond.fieldLink M.2.1 index (q.2.1 j).1 (q.2.1 j).2.1 (q.2.1 j).2.2.1 ∈ zTb) (d : decode M.1 pc = .ok (.getfield index, 3)) (k1 : Tz M inj r (pc + 3) lv (.ref t :: st) w) : Tz M inj r pc lv (.ref k :: st) w := fun res h p l e s m args below meth c D cA AD A X cells slots hB hE H locs ls hP hS hl => va_get (D := D) (ci := ci) X.1 X.2.1 (Ts := zTb) X.2.2.2.2.2.1 hk.2.1 X.2.2.2.2.1 X.2.2.2.2.2.2.2.1 hP k (zws_o ho) hk.1 j hj (X.2.2.2.2.2.1 _ hm) (fun _ z => z) (v := .ref (AD t)) (by
  rw [zfs_at (by rw [← hk.2.2.1]; exact hj), ← hr]
  cases hz : zty ci j <;> first | rfl | exact absurd hz ht.1 | exact absurd hz ht.2) d (k1 res h p l e s m args below meth c D cA AD A X cells slots hB hE H locs ls hP hS hl)
theorem tz_putI {q : vw_C} {ci k index : Nat} {v : Int32} {F : zW → Option (ρ × zW)} (j : Nat) (hk : zK ci q) (ho : zc ci k) (hj : j < q.2.2) (ht : zty ci j = .int) (hfin : (q.2.1 j).2.2.2 = false) (hm : Cond.fieldLink M.2.1 index (q.2.1 j).1 (q.2.1 j).2.1 (q.2.1 j).2.2.1 ∈ zTb) (d : decode M.1 pc = .ok (.putfield index, 3)) (k1 : ∀ w1, Tz M inj (F w1) (pc + 3) lv st w1) : Tz M inj (lt (zsI w k j v) F) pc lv (.int v :: .ref k :: st) w := fun res h p l e s m args below meth c D cA AD A X cells slots hB hE H locs ls hP hS hl => va_put (D := D) (ci := ci) (ty := .int) X.1 X.2.1 (Ts := zTb) X.2.2.2.2.2.1 hk.2.1 (zty ci) hk.2.2.2.1 hk.2.2.2.2 X.2.2.2.2.1 X.2.2.2.2.2.2.2.1 hP (zD X.2.2.2.2.2.2.2.2.1) hS k (zws_o ho) hk.1 j hj (X.2.2.2.2.2.1 _ hm) (fun _ z => z) hfin (by rw [hk.2.2.2.1 j hj, ht]) rfl rfl (by rw [zfs_len, ← hk.2.2.1]; exact hj) d (fun H1 locs1 hP1 _ hS1 => k1 (zsI w k j v) res h p l e s m args below meth c D cA AD A X cells slots hB hE H1 locs1 ls (by
  have e9 := zst_I (cA := cA) (AD := AD) (w := w) (v := v) ho (by rw [← hk.2.2.1]; exact hj) ht
  exact e9 ▸ hP1) hS1 hl)
theorem tz_putJ {q : vw_C} {ci k index : Nat} {v : Int64} {F : zW → Option (ρ × zW)} (j : Nat) (hk : zK ci q) (ho : zc ci k) (hj : j < q.2.2) (ht : zty ci j = .long) (hfin : (q.2.1 j).2.2.2 = false) (hm : Cond.fieldLink M.2.1 index (q.2.1 j).1 (q.2.1 j).2.1 (q.2.1 j).2.2.1 ∈ zTb) (d : decode M.1 pc = .ok (.putfield index, 3)) (k1 : ∀ w1, Tz M inj (F w1) (pc + 3) lv st w1) : Tz M inj (lt (zsL w k j v) F) pc lv (.long v :: .ref k :: st) w := fun res h p l e s m args below meth c D cA AD A X cells slots hB hE H locs ls hP hS hl => va_put (D := D) (ci := ci) (ty := .long) X.1 X.2.1 (Ts := zTb) X.2.2.2.2.2.1 hk.2.1 (zty ci) hk.2.2.2.1 hk.2.2.2.2 X.2.2.2.2.1 X.2.2.2.2.2.2.2.1 hP (zD X.2.2.2.2.2.2.2.2.1) hS k (zws_o ho) hk.1 j hj (X.2.2.2.2.2.1 _ hm) (fun _ z => z) hfin (by rw [hk.2.2.2.1 j hj, ht]) rfl rfl (by rw [zfs_len, ← hk.2.2.1]; exact hj) d (fun H1 locs1 hP1 _ hS1 => k1 (zsL w k j v) res h p l e s m args below meth c D cA AD A X cells slots hB hE H1 locs1 ls (by
  have e9 := zst_L (cA := cA) (AD := AD) (w := w) (v := v) ho (by rw [← hk.2.2.1]; exact hj) ht
  exact e9 ▸ hP1) hS1 hl)
theorem tz_getIN {host : String} {q : vw_C} {ci k index : Nat} (j : Nat) (hk : zK ci q) (ho : zc ci k) (hj : j < q.2.2) (ht : zty ci j = .int) (hm : Cond.fieldLinkNest M.2.1 index (q.2.1 j).1 (q.2.1 j).2.1 (q.2.1 j).2.2.1 host ∈ lw_tbl) (d : decode M.1 pc = .ok (.getfield index, 3)) (k1 : Tz M inj r (pc + 3) lv (.int (zI w k j) :: st) w) : Tz M inj r pc lv (.ref k :: st) w := fun res h p l e s m args below meth c D cA AD A X cells slots hB hE H locs ls hP hS hl => va_getN (D := D) (ci := ci) X.1 X.2.1 (Ts := zTb) X.2.2.2.2.2.1 hk.2.1 X.2.2.2.2.1 X.2.2.2.2.2.2.2.1 hP k (zws_o ho) hk.1 j hj (va_Nw.use rfl (X.2.2.2.2.2.2.2.2.2.2.2 _ hm rfl)) (fun _ z => z) (by rw [zfs_at (by rw [← hk.2.2.1]; exact hj), ht]; rfl) d (k1 res h p l e s m args below meth c D cA AD A X cells slots hB hE H locs ls hP hS hl)
theorem tz_getJN {host : String} {q : vw_C} {ci k index : Nat} (j : Nat) (hk : zK ci q) (ho : zc ci k) (hj : j < q.2.2) (ht : zty ci j = .long) (hm : Cond.fieldLinkNest M.2.1 index (q.2.1 j).1 (q.2.1 j).2.1 (q.2.1 j).2.2.1 host ∈ lw_tbl) (d : decode M.1 pc = .ok (.getfield index, 3)) (k1 : Tz M inj r (pc + 3) lv (.long (zL w k j) :: st) w) : Tz M inj r pc lv (.ref k :: st) w := fun res h p l e s m args below meth c D cA AD A X cells slots hB hE H locs ls hP hS hl => va_getN (D := D) (ci := ci) X.1 X.2.1 (Ts := zTb) X.2.2.2.2.2.1 hk.2.1 X.2.2.2.2.1 X.2.2.2.2.2.2.2.1 hP k (zws_o ho) hk.1 j hj (va_Nw.use rfl (X.2.2.2.2.2.2.2.2.2.2.2 _ hm rfl)) (fun _ z => z) (by rw [zfs_at (by rw [← hk.2.2.1]; exact hj), ht]; rfl) d (k1 res h p l e s m args below meth c D cA AD A X cells slots hB hE H locs ls hP hS hl)
theorem tz_getRN {host : String} {q : vw_C} {ci k index : Nat} (t j : Nat) (hk : zK ci q) (ho : zc ci k) (hj : j < q.2.2) (ht : ¬ zty ci j = .int ∧ ¬ zty ci j = .long) (hr : zref w k j = t) (hm : Cond.fieldLinkNest M.2.1 index (q.2.1 j).1 (q.2.1 j).2.1 (q.2.1 j).2.2.1 host ∈ lw_tbl) (d : decode M.1 pc = .ok (.getfield index, 3)) (k1 : Tz M inj r (pc + 3) lv (.ref t :: st) w) : Tz M inj r pc lv (.ref k :: st) w := fun res h p l e s m args below meth c D cA AD A X cells slots hB hE H locs ls hP hS hl => va_getN (D := D) (ci := ci) X.1 X.2.1 (Ts := zTb) X.2.2.2.2.2.1 hk.2.1 X.2.2.2.2.1 X.2.2.2.2.2.2.2.1 hP k (zws_o ho) hk.1 j hj (va_Nw.use rfl (X.2.2.2.2.2.2.2.2.2.2.2 _ hm rfl)) (fun _ z => z) (v := .ref (AD t)) (by
  rw [zfs_at (by rw [← hk.2.2.1]; exact hj), ← hr]
  cases hz : zty ci j <;> first | rfl | exact absurd hz ht.1 | exact absurd hz ht.2) d (k1 res h p l e s m args below meth c D cA AD A X cells slots hB hE H locs ls hP hS hl)
theorem tz_putIN {host : String} {q : vw_C} {ci k index : Nat} {v : Int32} {F : zW → Option (ρ × zW)} (j : Nat) (hk : zK ci q) (ho : zc ci k) (hj : j < q.2.2) (ht : zty ci j = .int) (hfin : (q.2.1 j).2.2.2 = false) (hm : Cond.fieldLinkNest M.2.1 index (q.2.1 j).1 (q.2.1 j).2.1 (q.2.1 j).2.2.1 host ∈ lw_tbl) (d : decode M.1 pc = .ok (.putfield index, 3)) (k1 : ∀ w1, Tz M inj (F w1) (pc + 3) lv st w1) : Tz M inj (lt (zsI w k j v) F) pc lv (.int v :: .ref k :: st) w := fun res h p l e s m args below meth c D cA AD A X cells slots hB hE H locs ls hP hS hl => va_putN (D := D) (ci := ci) (ty := .int) X.1 X.2.1 (Ts := zTb) X.2.2.2.2.2.1 hk.2.1 (zty ci) hk.2.2.2.1 hk.2.2.2.2 X.2.2.2.2.1 X.2.2.2.2.2.2.2.1 hP (zD X.2.2.2.2.2.2.2.2.1) hS k (zws_o ho) hk.1 j hj (va_Nw.use rfl (X.2.2.2.2.2.2.2.2.2.2.2 _ hm rfl)) (fun _ z => z) hfin (by rw [hk.2.2.2.1 j hj, ht]) rfl rfl (by rw [zfs_len, ← hk.2.2.1]; exact hj) d (fun H1 locs1 hP1 _ hS1 => k1 (zsI w k j v) res h p l e s m args below meth c D cA AD A X cells slots hB hE H1 locs1 ls (by
  have e9 := zst_I (cA := cA) (AD := AD) (w := w) (v := v) ho (by rw [← hk.2.2.1]; exact hj) ht
  exact e9 ▸ hP1) hS1 hl)
theorem tz_putJN {host : String} {q : vw_C} {ci k index : Nat} {v : Int64} {F : zW → Option (ρ × zW)} (j : Nat) (hk : zK ci q) (ho : zc ci k) (hj : j < q.2.2) (ht : zty ci j = .long) (hfin : (q.2.1 j).2.2.2 = false) (hm : Cond.fieldLinkNest M.2.1 index (q.2.1 j).1 (q.2.1 j).2.1 (q.2.1 j).2.2.1 host ∈ lw_tbl) (d : decode M.1 pc = .ok (.putfield index, 3)) (k1 : ∀ w1, Tz M inj (F w1) (pc + 3) lv st w1) : Tz M inj (lt (zsL w k j v) F) pc lv (.long v :: .ref k :: st) w := fun res h p l e s m args below meth c D cA AD A X cells slots hB hE H locs ls hP hS hl => va_putN (D := D) (ci := ci) (ty := .long) X.1 X.2.1 (Ts := zTb) X.2.2.2.2.2.1 hk.2.1 (zty ci) hk.2.2.2.1 hk.2.2.2.2 X.2.2.2.2.1 X.2.2.2.2.2.2.2.1 hP (zD X.2.2.2.2.2.2.2.2.1) hS k (zws_o ho) hk.1 j hj (va_Nw.use rfl (X.2.2.2.2.2.2.2.2.2.2.2 _ hm rfl)) (fun _ z => z) hfin (by rw [hk.2.2.2.1 j hj, ht]) rfl rfl (by rw [zfs_len, ← hk.2.2.1]; exact hj) d (fun H1 locs1 hP1 _ hS1 => k1 (zsL w k j v) res h p l e s m args below meth c D cA AD A X cells slots hB hE H1 locs1 ls (by
  have e9 := zst_L (cA := cA) (AD := AD) (w := w) (v := v) ho (by rw [← hk.2.2.1]; exact hj) ht
  exact e9 ▸ hP1) hS1 hl)
theorem tz_putR {index t : Nat} {F : zW → Option (ρ × zW)} (j : Nat) (hj : j < 4) (hv : t = 67 ∨ t = 68 ∨ t = 69 ∨ t = 70) (hm : Cond.fieldLink M.2.1 index (TX4 j).1 (TX4 j).2.1 (TX4 j).2.2.1 ∈ zTb) (d : decode M.1 pc = .ok (.putfield index, 3)) (k1 : ∀ w1, Tz M inj (F w1) (pc + 3) lv st w1) : Tz M inj (lt (zsR w j t) F) pc lv (.ref t :: .ref 66 :: st) w := fun res h p l e s m args below meth c D cA AD A X cells slots hB hE H locs ls hP hS hl => va_put (D := D) (ci := 4) (ty := .array .int) X.1 X.2.1 (Ts := zTb) X.2.2.2.2.2.1 kz4.2.1 (zty 4) kz4.2.2.2.1 kz4.2.2.2.2 X.2.2.2.2.1 X.2.2.2.2.2.2.2.1 hP (zD X.2.2.2.2.2.2.2.2.1) hS 66 (zws_o (show zc 4 66 by unfold zc; decide)) kz4.1 j (Nat.lt_of_lt_of_le hj (by decide)) (X.2.2.2.2.2.1 _ hm) (fun _ z => z) (by rcases (show j = 0 ∨ j = 1 ∨ j = 2 ∨ j = 3 by omega) with rfl | rfl | rfl | rfl <;> rfl) (by rcases (show j = 0 ∨ j = 1 ∨ j = 2 ∨ j = 3 by omega) with rfl | rfl | rfl | rfl <;> decide +kernel) rfl rfl (by rw [zfs_len]; exact Nat.lt_of_lt_of_le hj (by decide)) d (fun H1 locs1 hP1 _ hS1 => k1 (zsR w j t) res h p l e s m args below meth c D cA AD A X cells slots hB hE H1 locs1 ls (by
  have e9 := zst_R (cA := cA) (AD := AD) (w := w) (t := t) hj hv
  exact e9 ▸ hP1) hS1 hl)
theorem zg_some {α : Type} {b : Bool} {x : Option α} {a : α} (h : zg b x = some a) : b = true ∧ x = some a := by
  cases b
  · cases h
  · exact ⟨rfl, h⟩
theorem tz_iald {k n : Nat} {i : Int32} (ha : za 0 k) (hn : zlen k = n) (d : decode M.1 pc = .ok (.iaload, 1)) (k1 : Tz M inj r (pc + 1) lv (.int (zI w k i.toNatClampNeg) :: st) w) : Tz M inj (zg (zin i n) r) pc lv (.int i :: .ref k :: st) w := fun res h p l e s m args below meth c D cA AD A X cells slots hB hE H locs ls hP hS hl => va_iald X.1 X.2.1 X.2.2.2.2.2.2.2.1 hP k 0 (zws_i ha) rfl (by rw [hn]; exact zin_vp (zg_some h).1) d (k1 res (zg_some h).2 p l e s m args below meth c D cA AD A X cells slots hB hE H locs ls hP hS hl)
theorem tz_lald {k n : Nat} {i : Int32} (ha : za 1 k) (hn : zlen k = n) (d : decode M.1 pc = .ok (.laload, 1)) (k1 : Tz M inj r (pc + 1) lv (.long (zL w k i.toNatClampNeg) :: st) w) : Tz M inj (zg (zin i n) r) pc lv (.int i :: .ref k :: st) w := fun res h p l e s m args below meth c D cA AD A X cells slots hB hE H locs ls hP hS hl => va_lald X.1 X.2.1 X.2.2.2.2.2.2.2.1 hP k 1 (zws_l ha) rfl (by rw [hn]; exact zin_vp (zg_some h).1) d (k1 res (zg_some h).2 p l e s m args below meth c D cA AD A X cells slots hB hE H locs ls hP hS hl)
def zline (i : Int32) : Nat := zlay 6 i.toNatClampNeg
theorem zline_c {i : Int32} (h : zin i 4 = true) : zc 1 (zline i) := by
  obtain ⟨j, hj, e⟩ := vp_in_of (zin_vp h) (by decide)
  subst e
  unfold zline
  rw [nI_clamp (by omega)]
  have e : ∀ j, j < 4 → zlay 6 j < 93 ∧ zsh (zlay 6 j) = (4, 0) := by decide
  exact e j hj
theorem tz_qald {i : Int32} (d : decode M.1 pc = .ok (.aaload, 1)) (k1 : zin i 4 = true → Tz M inj r (pc + 1) lv (.ref (zline i) :: st) w) : Tz M inj (zg (zin i 4) r) pc lv (.int i :: .ref 6 :: st) w := fun res h p l e s m args below meth c D cA AD A X cells slots hB hE H locs ls hP hS hl => va_aldq (C := "EndSums$Line") X.1 X.2.1 X.2.2.2.2.2.2.2.1 hP 6 2 (zws_q (show za 2 6 by unfold za; decide)) rfl (zin_vp (zg_some h).1) d (k1 (zg_some h).1 res (zg_some h).2 p l e s m args below meth c D cA AD A X cells slots hB hE H locs ls hP hS hl)
theorem tz_tald {i : Int32} (d : decode M.1 pc = .ok (.iaload, 1)) (k1 : Tz M inj r (pc + 1) lv (.int (zarr.getD i.toNatClampNeg 0) :: st) w) : Tz M inj (zg (zin i 24) r) pc lv (.int i :: .ref 93 :: st) w := fun res h p l e s m args below meth c D cA AD A X cells slots hB hE H locs ls hP hS hl => va_ti (N := 24) (f := fun j => .int (zarr.getD j 0)) X.1 X.2.1 X.2.2.2.2.2.2.2.2.2.2.1.2 hS (zin_vp (zg_some h).1) rfl d (k1 res (zg_some h).2 p l e s m args below meth c D cA AD A X cells slots hB hE H locs ls hP hS hl)
theorem tz_tlen (d : decode M.1 pc = .ok (.arraylength, 1)) (k1 : Tz M inj r (pc + 1) lv (.int 24 :: st) w) : Tz M inj r pc lv (.ref 93 :: st) w := fun res h p l e s m args below meth c D cA AD A X cells slots hB hE H locs ls hP hS hl => va_tlen (N := 24) X.1 X.2.1 X.2.2.2.2.2.2.2.2.2.2.1.2 hS (v := 24) (by decide) d (k1 res h p l e s m args below meth c D cA AD A X cells slots hB hE H locs ls hP hS hl)
theorem tz_gets {index : Nat} (hm : Cond.fieldLink M.2.1 index "EndSums$Joining" "ARRANGEMENTS" "[I" ∈ zTb) (d : decode M.1 pc = .ok (.getstatic index, 3)) (k1 : Tz M inj r (pc + 3) lv (.ref 93 :: st) w) : Tz M inj r pc lv st w := fun res h p l e s m args below meth c D cA AD A X cells slots hB hE H locs ls hP hS hl => va_gets X.1 X.2.1 X.2.2.2.2.2.2.2.2.2.2.1.1 hS X.2.2.2.2.1 (X.2.2.2.2.2.1 _ hm) (fun _ z => z) d (k1 res h p l e s m args below meth c D cA AD A X cells slots hB hE H locs ls hP hS hl)
theorem tz_iast {k n : Nat} {i : Int32} {v : Int32} {F : zW → Option (ρ × zW)} (ha : za 0 k) (hn : zlen k = n) (d : decode M.1 pc = .ok (.iastore, 1)) (k1 : ∀ w1, Tz M inj (F w1) (pc + 1) lv st w1) : Tz M inj (zg (zin i n) (lt (zsI w k i.toNatClampNeg v) F)) pc lv (.int v :: .int i :: .ref k :: st) w := fun res h p l e s m args below meth c D cA AD A X cells slots hB hE H locs ls hP hS hl => va_iast X.1 X.2.1 X.2.2.2.2.2.2.2.1 hP (zD X.2.2.2.2.2.2.2.2.1) hS k 0 (zws_i ha) rfl (by rw [hn]; exact zin_vp (zg_some h).1) d (fun H1 locs1 hP1 _ hS1 => k1 _ res (zg_some h).2 p l e s m args below meth c D cA AD A X cells slots hB hE H1 locs1 ls (by
  have e9 := zst_i (cA := cA) (AD := AD) (w := w) (j := i.toNatClampNeg) (v := v) ha
  exact e9 ▸ hP1) hS1 hl)
theorem tz_last {k n : Nat} {i : Int32} {v : Int64} {F : zW → Option (ρ × zW)} (ha : za 1 k) (hn : zlen k = n) (d : decode M.1 pc = .ok (.lastore, 1)) (k1 : ∀ w1, Tz M inj (F w1) (pc + 1) lv st w1) : Tz M inj (zg (zin i n) (lt (zsL w k i.toNatClampNeg v) F)) pc lv (.long v :: .int i :: .ref k :: st) w := fun res h p l e s m args below meth c D cA AD A X cells slots hB hE H locs ls hP hS hl => va_last X.1 X.2.1 X.2.2.2.2.2.2.2.1 hP (zD X.2.2.2.2.2.2.2.2.1) hS k 1 (zws_l ha) rfl (by rw [hn]; exact zin_vp (zg_some h).1) d (fun H1 locs1 hP1 _ hS1 => k1 _ res (zg_some h).2 p l e s m args below meth c D cA AD A X cells slots hB hE H1 locs1 ls (by
  have e9 := zst_l (cA := cA) (AD := AD) (w := w) (j := i.toNatClampNeg) (v := v) ha
  exact e9 ▸ hP1) hS1 hl)
theorem tz_alen0 {k n : Nat} (ha : za 0 k) (hn : zlen k = n) (d : decode M.1 pc = .ok (.arraylength, 1)) (k1 : Tz M inj r (pc + 1) lv (.int (nI n) :: st) w) : Tz M inj r pc lv (.ref k :: st) w := fun res h p l e s m args below meth c D cA AD A X cells slots hB hE H locs ls hP hS hl => va_alen X.1 X.2.1 X.2.2.2.2.2.2.2.1 hP k 0 (zws_i ha) rfl (v := nI n) (by rw [← hn]; rfl) d (k1 res h p l e s m args below meth c D cA AD A X cells slots hB hE H locs ls hP hS hl)
theorem tz_alen1 {k n : Nat} (ha : za 1 k) (hn : zlen k = n) (d : decode M.1 pc = .ok (.arraylength, 1)) (k1 : Tz M inj r (pc + 1) lv (.int (nI n) :: st) w) : Tz M inj r pc lv (.ref k :: st) w := fun res h p l e s m args below meth c D cA AD A X cells slots hB hE H locs ls hP hS hl => va_alen X.1 X.2.1 X.2.2.2.2.2.2.2.1 hP k 1 (zws_l ha) rfl (v := nI n) (by rw [← hn]; rfl) d (k1 res h p l e s m args below meth c D cA AD A X cells slots hB hE H locs ls hP hS hl)
theorem tz_alen2 {k n : Nat} (ha : za 2 k) (hn : zlen k = n) (d : decode M.1 pc = .ok (.arraylength, 1)) (k1 : Tz M inj r (pc + 1) lv (.int (nI n) :: st) w) : Tz M inj r pc lv (.ref k :: st) w := fun res h p l e s m args below meth c D cA AD A X cells slots hB hE H locs ls hP hS hl => va_alen X.1 X.2.1 X.2.2.2.2.2.2.2.1 hP k 2 (zws_q ha) rfl (v := nI n) (by rw [← hn]; rfl) d (k1 res h p l e s m args below meth c D cA AD A X cells slots hB hE H locs ls hP hS hl)
theorem tz_lti {x : Int32} {F : Int32 → Option (ρ × zW)} (k : ∀ v : Int32, Tz M inj (F v) pc lv (.int v :: st) w) : Tz M inj (lt x F) pc lv (.int x :: st) w := k x
theorem tz_ltl {x : Int64} {F : Int64 → Option (ρ × zW)} (k : ∀ v : Int64, Tz M inj (F v) pc lv (.long v :: st) w) : Tz M inj (lt x F) pc lv (.long x :: st) w := k x
theorem tz_jp {α : Type} {F : α} {G : α → Option (ρ × zW)} (P : α → Prop) (hF : P F) (hG : ∀ j, P j → Tz M inj (G j) pc lv st w) : Tz M inj (lt F G) pc lv st w := hG F hF
theorem tz_dia {α : Type} {x : α} {F : α → Option (ρ × zW)} (P : (α → Option (ρ × zW)) → Prop) (hF : P F) (hG : ∀ F, P F → Tz M inj (lt x F) pc lv st w) : Tz M inj (lt x F) pc lv st w := hG F hF
theorem tz_ite {α : Type} {c : Prop} [Decidable c] {a b : α} {F : α → Option (ρ × zW)} (k : Tz M inj (if c then lt a F else lt b F) pc lv st w) : Tz M inj (lt (if c then a else b) F) pc lv st w := by
  have e : lt (if c then a else b) F = if c then lt a F else lt b F := by split <;> rfl
  rw [e]; exact k
theorem tz_case {c : Prop} [Decidable c] {r1 r2 : Option (ρ × zW)} (k1 : c → Tz M inj r1 pc lv st w) (k2 : ¬ c → Tz M inj r2 pc lv st w) : Tz M inj (if c then r1 else r2) pc lv st w := by
  by_cases h : c
  · rw [if_pos h]; exact k1 h
  · rw [if_neg h]; exact k2 h
theorem tz_none : Tz M inj (none : Option (ρ × zW)) pc lv st w := fun _ h => by cases h
theorem tz_zg {b : Bool} (k : b = true → Tz M inj r pc lv st w) : Tz M inj (zg b r) pc lv st w := fun res h => k (zg_some h).1 res (zg_some h).2
theorem tz_eq {r2 : Option (ρ × zW)} (e : r = r2) (k : Tz M inj r2 pc lv st w) : Tz M inj r pc lv st w := e ▸ k
def zb (b : Bool) : Int32 := match b with
  | true => 1
  | false => 0
theorem zb_0 {b : Bool} : zb b = 0 ↔ ¬ b = true := by cases b <;> simp [zb]
def zvb (v : Int32) : Bool := decide (v &&& 1 = 1)
theorem zvb_and (v : Int32) : zb (zvb v) = v &&& 1 := by
  unfold zvb
  by_cases h : v &&& 1 = 1
  · rw [h]; rfl
  · rw [decide_eq_false h]
    have h2 : v &&& 1 = 0 ∨ v &&& 1 = 1 := by
      obtain ⟨j, hj, he⟩ := pk_andE v (m := 1) 1 (by decide)
      rcases (show j = 0 ∨ j = 1 by omega) with rfl | rfl
      · exact Or.inl he
      · exact Or.inr he
    rcases h2 with q | q
    · rw [q]; rfl
    · exact absurd q h
theorem tz_bif_eq {b : Bool} {off : Int} {r1 r2 : Option (ρ × zW)} (tgt : Nat) (d : decode M.1 pc = .ok (.ifCond .eq off, 3)) (ht : (pc : Int) + off = (tgt : Int)) (k1 : b = true → Tz M inj r1 (pc + 3) lv st w) (k2 : ¬ b = true → Tz M inj r2 tgt lv st w) : Tz M inj (if b = true then r1 else r2) pc lv (.int (zb b) :: st) w := by
  refine tz_eq (r2 := if zb b = 0 then r2 else r1) (by cases b <;> rfl) (tz_if_eq tgt d ht (fun q => k2 (zb_0.mp q)) (fun q => k1 (by cases b <;> first | rfl | exact absurd rfl q)))
theorem tz_bif_ne {b : Bool} {off : Int} {r1 r2 : Option (ρ × zW)} (tgt : Nat) (d : decode M.1 pc = .ok (.ifCond .ne off, 3)) (ht : (pc : Int) + off = (tgt : Int)) (k1 : b = true → Tz M inj r1 tgt lv st w) (k2 : ¬ b = true → Tz M inj r2 (pc + 3) lv st w) : Tz M inj (if b = true then r1 else r2) pc lv (.int (zb b) :: st) w := by
  refine tz_eq (r2 := if ¬ zb b = 0 then r1 else r2) (by cases b <;> rfl) (tz_if_ne tgt d ht (fun q => k1 (by cases b <;> first | rfl | exact absurd rfl q)) (fun q => k2 (fun z => q (fun z0 => zb_0.mp z0 z))))
theorem zlc_eq (x y : Int64) : (lg_cmp x y = 0) ↔ (x = y) := by
  unfold lg_cmp
  by_cases h1 : x > y
  · have h2 : ¬ x = y := fun z => by subst z; exact absurd h1 (Int64.lt_irrefl)
    have h3 : ¬ x < y := fun z => Int64.lt_asymm z h1
    have h4 : y ≤ x := Int64.le_of_lt h1
    have h5 : ¬ x ≤ y := fun z => Int64.not_lt.mpr z h1
    rw [if_pos h1]
    first | exact ⟨fun q => absurd q (by decide), fun q => absurd q h2⟩ | exact ⟨fun _ => h2, fun _ => by decide⟩ | exact ⟨fun q => absurd q (by decide), fun q => absurd q h3⟩ | exact ⟨fun _ => h4, fun _ => by decide⟩ | exact ⟨fun _ => h1, fun _ => by decide⟩ | exact ⟨fun q => absurd q (by decide), fun q => absurd q h5⟩
  · rw [if_neg h1]
    by_cases h2 : x = y
    · subst h2
      have h3 : ¬ x < x := Int64.lt_irrefl
      have h4 : x ≤ x := Int64.le_refl x
      rw [if_pos rfl]
      first | exact ⟨fun _ => rfl, fun _ => rfl⟩ | exact ⟨fun q => absurd rfl q, fun q => absurd rfl q⟩ | exact ⟨fun q => absurd q (by decide), fun q => absurd q h3⟩ | exact ⟨fun _ => h4, fun _ => by decide⟩
    · rw [if_neg h2]
      have h6 : x ≤ y := Int64.not_lt.mp h1
      have h3 : x < y := Int64.lt_of_le_of_ne h6 h2
      have h5 : ¬ y ≤ x := fun z => Int64.not_lt.mpr z h3
      first | exact ⟨fun q => absurd q (by decide), fun q => absurd q h2⟩ | exact ⟨fun _ => h2, fun _ => by decide⟩ | exact ⟨fun _ => h3, fun _ => by decide⟩ | exact ⟨fun q => absurd q (by decide), fun q => absurd q h5⟩ | exact ⟨fun q => absurd q (by decide), fun q => absurd q h1⟩ | exact ⟨fun _ => h6, fun _ => by decide⟩
theorem tz_lcmp_eq {x y : Int64} {off : Int} {r1 r2 : Option (ρ × zW)} [dc : Decidable (x = y)] (tgt : Nat) (d0 : decode M.1 pc = .ok (.lcmp, 1)) (d : decode M.1 (pc + 1) = .ok (.ifCond .eq off, 3)) (ht : ((pc + 1 : Nat) : Int) + off = (tgt : Int)) (k1 : x = y → Tz M inj r1 tgt lv st w) (k2 : ¬ (x = y) → Tz M inj r2 (pc + 4) lv st w) : Tz M inj (if x = y then r1 else r2) pc lv (.long y :: .long x :: st) w := by
  have e9 : Tz M inj (if x = y then r1 else r2) (pc + 1) lv (.int (lg_cmp x y) :: st) w := by
    refine tz_eq (r2 := if lg_cmp x y = 0 then r1 else r2) ?_ (tz_if_eq tgt d ht (fun q => k1 ((zlc_eq x y).mp q)) (fun q => k2 (fun z => q ((zlc_eq x y).mpr z))))
    by_cases q : x = y
    · rw [if_pos q, if_pos ((zlc_eq x y).mpr q)]
    · rw [if_neg q, if_neg (fun z => q ((zlc_eq x y).mp z))]
  exact fun res h p l e s m args below meth c D cA AD A X cells slots hB hE H locs ls hP hS hl => W.lcmp X.1 X.2.1 d0 (e9 res h p l e s m args below meth c D cA AD A X cells slots hB hE H locs ls hP hS hl)
theorem zlc_ne (x y : Int64) : (¬ lg_cmp x y = 0) ↔ (¬ x = y) := by
  unfold lg_cmp
  by_cases h1 : x > y
  · have h2 : ¬ x = y := fun z => by subst z; exact absurd h1 (Int64.lt_irrefl)
    have h3 : ¬ x < y := fun z => Int64.lt_asymm z h1
    have h4 : y ≤ x := Int64.le_of_lt h1
    have h5 : ¬ x ≤ y := fun z => Int64.not_lt.mpr z h1
    rw [if_pos h1]
    first | exact ⟨fun q => absurd q (by decide), fun q => absurd q h2⟩ | exact ⟨fun _ => h2, fun _ => by decide⟩ | exact ⟨fun q => absurd q (by decide), fun q => absurd q h3⟩ | exact ⟨fun _ => h4, fun _ => by decide⟩ | exact ⟨fun _ => h1, fun _ => by decide⟩ | exact ⟨fun q => absurd q (by decide), fun q => absurd q h5⟩
  · rw [if_neg h1]
    by_cases h2 : x = y
    · subst h2
      have h3 : ¬ x < x := Int64.lt_irrefl
      have h4 : x ≤ x := Int64.le_refl x
      rw [if_pos rfl]
      first | exact ⟨fun _ => rfl, fun _ => rfl⟩ | exact ⟨fun q => absurd rfl q, fun q => absurd rfl q⟩ | exact ⟨fun q => absurd q (by decide), fun q => absurd q h3⟩ | exact ⟨fun _ => h4, fun _ => by decide⟩
    · rw [if_neg h2]
      have h6 : x ≤ y := Int64.not_lt.mp h1
      have h3 : x < y := Int64.lt_of_le_of_ne h6 h2
      have h5 : ¬ y ≤ x := fun z => Int64.not_lt.mpr z h3
      first | exact ⟨fun q => absurd q (by decide), fun q => absurd q h2⟩ | exact ⟨fun _ => h2, fun _ => by decide⟩ | exact ⟨fun _ => h3, fun _ => by decide⟩ | exact ⟨fun q => absurd q (by decide), fun q => absurd q h5⟩ | exact ⟨fun q => absurd q (by decide), fun q => absurd q h1⟩ | exact ⟨fun _ => h6, fun _ => by decide⟩
theorem tz_lcmp_ne {x y : Int64} {off : Int} {r1 r2 : Option (ρ × zW)} [dc : Decidable (¬ x = y)] (tgt : Nat) (d0 : decode M.1 pc = .ok (.lcmp, 1)) (d : decode M.1 (pc + 1) = .ok (.ifCond .ne off, 3)) (ht : ((pc + 1 : Nat) : Int) + off = (tgt : Int)) (k1 : ¬ x = y → Tz M inj r1 tgt lv st w) (k2 : ¬ (¬ x = y) → Tz M inj r2 (pc + 4) lv st w) : Tz M inj (if ¬ x = y then r1 else r2) pc lv (.long y :: .long x :: st) w := by
  have e9 : Tz M inj (if ¬ x = y then r1 else r2) (pc + 1) lv (.int (lg_cmp x y) :: st) w := by
    refine tz_eq (r2 := if ¬ lg_cmp x y = 0 then r1 else r2) ?_ (tz_if_ne tgt d ht (fun q => k1 ((zlc_ne x y).mp q)) (fun q => k2 (fun z => q ((zlc_ne x y).mpr z))))
    by_cases q : ¬ x = y
    · rw [if_pos q, if_pos ((zlc_ne x y).mpr q)]
    · rw [if_neg q, if_neg (fun z => q ((zlc_ne x y).mp z))]
  exact fun res h p l e s m args below meth c D cA AD A X cells slots hB hE H locs ls hP hS hl => W.lcmp X.1 X.2.1 d0 (e9 res h p l e s m args below meth c D cA AD A X cells slots hB hE H locs ls hP hS hl)
theorem zlc_lt (x y : Int64) : (lg_cmp x y < 0) ↔ (x < y) := by
  unfold lg_cmp
  by_cases h1 : x > y
  · have h2 : ¬ x = y := fun z => by subst z; exact absurd h1 (Int64.lt_irrefl)
    have h3 : ¬ x < y := fun z => Int64.lt_asymm z h1
    have h4 : y ≤ x := Int64.le_of_lt h1
    have h5 : ¬ x ≤ y := fun z => Int64.not_lt.mpr z h1
    rw [if_pos h1]
    first | exact ⟨fun q => absurd q (by decide), fun q => absurd q h2⟩ | exact ⟨fun _ => h2, fun _ => by decide⟩ | exact ⟨fun q => absurd q (by decide), fun q => absurd q h3⟩ | exact ⟨fun _ => h4, fun _ => by decide⟩ | exact ⟨fun _ => h1, fun _ => by decide⟩ | exact ⟨fun q => absurd q (by decide), fun q => absurd q h5⟩
  · rw [if_neg h1]
    by_cases h2 : x = y
    · subst h2
      have h3 : ¬ x < x := Int64.lt_irrefl
      have h4 : x ≤ x := Int64.le_refl x
      rw [if_pos rfl]
      first | exact ⟨fun _ => rfl, fun _ => rfl⟩ | exact ⟨fun q => absurd rfl q, fun q => absurd rfl q⟩ | exact ⟨fun q => absurd q (by decide), fun q => absurd q h3⟩ | exact ⟨fun _ => h4, fun _ => by decide⟩
    · rw [if_neg h2]
      have h6 : x ≤ y := Int64.not_lt.mp h1
      have h3 : x < y := Int64.lt_of_le_of_ne h6 h2
      have h5 : ¬ y ≤ x := fun z => Int64.not_lt.mpr z h3
      first | exact ⟨fun q => absurd q (by decide), fun q => absurd q h2⟩ | exact ⟨fun _ => h2, fun _ => by decide⟩ | exact ⟨fun _ => h3, fun _ => by decide⟩ | exact ⟨fun q => absurd q (by decide), fun q => absurd q h5⟩ | exact ⟨fun q => absurd q (by decide), fun q => absurd q h1⟩ | exact ⟨fun _ => h6, fun _ => by decide⟩
theorem tz_lcmp_lt {x y : Int64} {off : Int} {r1 r2 : Option (ρ × zW)} [dc : Decidable (x < y)] (tgt : Nat) (d0 : decode M.1 pc = .ok (.lcmp, 1)) (d : decode M.1 (pc + 1) = .ok (.ifCond .lt off, 3)) (ht : ((pc + 1 : Nat) : Int) + off = (tgt : Int)) (k1 : x < y → Tz M inj r1 tgt lv st w) (k2 : ¬ (x < y) → Tz M inj r2 (pc + 4) lv st w) : Tz M inj (if x < y then r1 else r2) pc lv (.long y :: .long x :: st) w := by
  have e9 : Tz M inj (if x < y then r1 else r2) (pc + 1) lv (.int (lg_cmp x y) :: st) w := by
    refine tz_eq (r2 := if lg_cmp x y < 0 then r1 else r2) ?_ (tz_if_lt tgt d ht (fun q => k1 ((zlc_lt x y).mp q)) (fun q => k2 (fun z => q ((zlc_lt x y).mpr z))))
    by_cases q : x < y
    · rw [if_pos q, if_pos ((zlc_lt x y).mpr q)]
    · rw [if_neg q, if_neg (fun z => q ((zlc_lt x y).mp z))]
  exact fun res h p l e s m args below meth c D cA AD A X cells slots hB hE H locs ls hP hS hl => W.lcmp X.1 X.2.1 d0 (e9 res h p l e s m args below meth c D cA AD A X cells slots hB hE H locs ls hP hS hl)
theorem zlc_ge (x y : Int64) : (0 ≤ lg_cmp x y) ↔ (y ≤ x) := by
  unfold lg_cmp
  by_cases h1 : x > y
  · have h2 : ¬ x = y := fun z => by subst z; exact absurd h1 (Int64.lt_irrefl)
    have h3 : ¬ x < y := fun z => Int64.lt_asymm z h1
    have h4 : y ≤ x := Int64.le_of_lt h1
    have h5 : ¬ x ≤ y := fun z => Int64.not_lt.mpr z h1
    rw [if_pos h1]
    first | exact ⟨fun q => absurd q (by decide), fun q => absurd q h2⟩ | exact ⟨fun _ => h2, fun _ => by decide⟩ | exact ⟨fun q => absurd q (by decide), fun q => absurd q h3⟩ | exact ⟨fun _ => h4, fun _ => by decide⟩ | exact ⟨fun _ => h1, fun _ => by decide⟩ | exact ⟨fun q => absurd q (by decide), fun q => absurd q h5⟩
  · rw [if_neg h1]
    by_cases h2 : x = y
    · subst h2
      have h3 : ¬ x < x := Int64.lt_irrefl
      have h4 : x ≤ x := Int64.le_refl x
      rw [if_pos rfl]
      first | exact ⟨fun _ => rfl, fun _ => rfl⟩ | exact ⟨fun q => absurd rfl q, fun q => absurd rfl q⟩ | exact ⟨fun q => absurd q (by decide), fun q => absurd q h3⟩ | exact ⟨fun _ => h4, fun _ => by decide⟩
    · rw [if_neg h2]
      have h6 : x ≤ y := Int64.not_lt.mp h1
      have h3 : x < y := Int64.lt_of_le_of_ne h6 h2
      have h5 : ¬ y ≤ x := fun z => Int64.not_lt.mpr z h3
      first | exact ⟨fun q => absurd q (by decide), fun q => absurd q h2⟩ | exact ⟨fun _ => h2, fun _ => by decide⟩ | exact ⟨fun _ => h3, fun _ => by decide⟩ | exact ⟨fun q => absurd q (by decide), fun q => absurd q h5⟩ | exact ⟨fun q => absurd q (by decide), fun q => absurd q h1⟩ | exact ⟨fun _ => h6, fun _ => by decide⟩
theorem tz_lcmp_ge {x y : Int64} {off : Int} {r1 r2 : Option (ρ × zW)} [dc : Decidable (y ≤ x)] (tgt : Nat) (d0 : decode M.1 pc = .ok (.lcmp, 1)) (d : decode M.1 (pc + 1) = .ok (.ifCond .ge off, 3)) (ht : ((pc + 1 : Nat) : Int) + off = (tgt : Int)) (k1 : y ≤ x → Tz M inj r1 tgt lv st w) (k2 : ¬ (y ≤ x) → Tz M inj r2 (pc + 4) lv st w) : Tz M inj (if y ≤ x then r1 else r2) pc lv (.long y :: .long x :: st) w := by
  have e9 : Tz M inj (if y ≤ x then r1 else r2) (pc + 1) lv (.int (lg_cmp x y) :: st) w := by
    refine tz_eq (r2 := if 0 ≤ lg_cmp x y then r1 else r2) ?_ (tz_if_ge tgt d ht (fun q => k1 ((zlc_ge x y).mp q)) (fun q => k2 (fun z => q ((zlc_ge x y).mpr z))))
    by_cases q : y ≤ x
    · rw [if_pos q, if_pos ((zlc_ge x y).mpr q)]
    · rw [if_neg q, if_neg (fun z => q ((zlc_ge x y).mp z))]
  exact fun res h p l e s m args below meth c D cA AD A X cells slots hB hE H locs ls hP hS hl => W.lcmp X.1 X.2.1 d0 (e9 res h p l e s m args below meth c D cA AD A X cells slots hB hE H locs ls hP hS hl)
theorem zlc_gt (x y : Int64) : (0 < lg_cmp x y) ↔ (y < x) := by
  unfold lg_cmp
  by_cases h1 : x > y
  · have h2 : ¬ x = y := fun z => by subst z; exact absurd h1 (Int64.lt_irrefl)
    have h3 : ¬ x < y := fun z => Int64.lt_asymm z h1
    have h4 : y ≤ x := Int64.le_of_lt h1
    have h5 : ¬ x ≤ y := fun z => Int64.not_lt.mpr z h1
    rw [if_pos h1]
    first | exact ⟨fun q => absurd q (by decide), fun q => absurd q h2⟩ | exact ⟨fun _ => h2, fun _ => by decide⟩ | exact ⟨fun q => absurd q (by decide), fun q => absurd q h3⟩ | exact ⟨fun _ => h4, fun _ => by decide⟩ | exact ⟨fun _ => h1, fun _ => by decide⟩ | exact ⟨fun q => absurd q (by decide), fun q => absurd q h5⟩
  · rw [if_neg h1]
    by_cases h2 : x = y
    · subst h2
      have h3 : ¬ x < x := Int64.lt_irrefl
      have h4 : x ≤ x := Int64.le_refl x
      rw [if_pos rfl]
      first | exact ⟨fun _ => rfl, fun _ => rfl⟩ | exact ⟨fun q => absurd rfl q, fun q => absurd rfl q⟩ | exact ⟨fun q => absurd q (by decide), fun q => absurd q h3⟩ | exact ⟨fun _ => h4, fun _ => by decide⟩
    · rw [if_neg h2]
      have h6 : x ≤ y := Int64.not_lt.mp h1
      have h3 : x < y := Int64.lt_of_le_of_ne h6 h2
      have h5 : ¬ y ≤ x := fun z => Int64.not_lt.mpr z h3
      first | exact ⟨fun q => absurd q (by decide), fun q => absurd q h2⟩ | exact ⟨fun _ => h2, fun _ => by decide⟩ | exact ⟨fun _ => h3, fun _ => by decide⟩ | exact ⟨fun q => absurd q (by decide), fun q => absurd q h5⟩ | exact ⟨fun q => absurd q (by decide), fun q => absurd q h1⟩ | exact ⟨fun _ => h6, fun _ => by decide⟩
theorem tz_lcmp_gt {x y : Int64} {off : Int} {r1 r2 : Option (ρ × zW)} [dc : Decidable (y < x)] (tgt : Nat) (d0 : decode M.1 pc = .ok (.lcmp, 1)) (d : decode M.1 (pc + 1) = .ok (.ifCond .gt off, 3)) (ht : ((pc + 1 : Nat) : Int) + off = (tgt : Int)) (k1 : y < x → Tz M inj r1 tgt lv st w) (k2 : ¬ (y < x) → Tz M inj r2 (pc + 4) lv st w) : Tz M inj (if y < x then r1 else r2) pc lv (.long y :: .long x :: st) w := by
  have e9 : Tz M inj (if y < x then r1 else r2) (pc + 1) lv (.int (lg_cmp x y) :: st) w := by
    refine tz_eq (r2 := if 0 < lg_cmp x y then r1 else r2) ?_ (tz_if_gt tgt d ht (fun q => k1 ((zlc_gt x y).mp q)) (fun q => k2 (fun z => q ((zlc_gt x y).mpr z))))
    by_cases q : y < x
    · rw [if_pos q, if_pos ((zlc_gt x y).mpr q)]
    · rw [if_neg q, if_neg (fun z => q ((zlc_gt x y).mp z))]
  exact fun res h p l e s m args below meth c D cA AD A X cells slots hB hE H locs ls hP hS hl => W.lcmp X.1 X.2.1 d0 (e9 res h p l e s m args below meth c D cA AD A X cells slots hB hE H locs ls hP hS hl)
theorem zlc_le (x y : Int64) : (lg_cmp x y ≤ 0) ↔ (x ≤ y) := by
  unfold lg_cmp
  by_cases h1 : x > y
  · have h2 : ¬ x = y := fun z => by subst z; exact absurd h1 (Int64.lt_irrefl)
    have h3 : ¬ x < y := fun z => Int64.lt_asymm z h1
    have h4 : y ≤ x := Int64.le_of_lt h1
    have h5 : ¬ x ≤ y := fun z => Int64.not_lt.mpr z h1
    rw [if_pos h1]
    first | exact ⟨fun q => absurd q (by decide), fun q => absurd q h2⟩ | exact ⟨fun _ => h2, fun _ => by decide⟩ | exact ⟨fun q => absurd q (by decide), fun q => absurd q h3⟩ | exact ⟨fun _ => h4, fun _ => by decide⟩ | exact ⟨fun _ => h1, fun _ => by decide⟩ | exact ⟨fun q => absurd q (by decide), fun q => absurd q h5⟩
  · rw [if_neg h1]
    by_cases h2 : x = y
    · subst h2
      have h3 : ¬ x < x := Int64.lt_irrefl
      have h4 : x ≤ x := Int64.le_refl x
      rw [if_pos rfl]
      first | exact ⟨fun _ => rfl, fun _ => rfl⟩ | exact ⟨fun q => absurd rfl q, fun q => absurd rfl q⟩ | exact ⟨fun q => absurd q (by decide), fun q => absurd q h3⟩ | exact ⟨fun _ => h4, fun _ => by decide⟩
    · rw [if_neg h2]
      have h6 : x ≤ y := Int64.not_lt.mp h1
      have h3 : x < y := Int64.lt_of_le_of_ne h6 h2
      have h5 : ¬ y ≤ x := fun z => Int64.not_lt.mpr z h3
      first | exact ⟨fun q => absurd q (by decide), fun q => absurd q h2⟩ | exact ⟨fun _ => h2, fun _ => by decide⟩ | exact ⟨fun _ => h3, fun _ => by decide⟩ | exact ⟨fun q => absurd q (by decide), fun q => absurd q h5⟩ | exact ⟨fun q => absurd q (by decide), fun q => absurd q h1⟩ | exact ⟨fun _ => h6, fun _ => by decide⟩
theorem tz_lcmp_le {x y : Int64} {off : Int} {r1 r2 : Option (ρ × zW)} [dc : Decidable (x ≤ y)] (tgt : Nat) (d0 : decode M.1 pc = .ok (.lcmp, 1)) (d : decode M.1 (pc + 1) = .ok (.ifCond .le off, 3)) (ht : ((pc + 1 : Nat) : Int) + off = (tgt : Int)) (k1 : x ≤ y → Tz M inj r1 tgt lv st w) (k2 : ¬ (x ≤ y) → Tz M inj r2 (pc + 4) lv st w) : Tz M inj (if x ≤ y then r1 else r2) pc lv (.long y :: .long x :: st) w := by
  have e9 : Tz M inj (if x ≤ y then r1 else r2) (pc + 1) lv (.int (lg_cmp x y) :: st) w := by
    refine tz_eq (r2 := if lg_cmp x y ≤ 0 then r1 else r2) ?_ (tz_if_le tgt d ht (fun q => k1 ((zlc_le x y).mp q)) (fun q => k2 (fun z => q ((zlc_le x y).mpr z))))
    by_cases q : x ≤ y
    · rw [if_pos q, if_pos ((zlc_le x y).mpr q)]
    · rw [if_neg q, if_neg (fun z => q ((zlc_le x y).mp z))]
  exact fun res h p l e s m args below meth c D cA AD A X cells slots hB hE H locs ls hP hS hl => W.lcmp X.1 X.2.1 d0 (e9 res h p l e s m args below meth c D cA AD A X cells slots hB hE H locs ls hP hS hl)
theorem tz_tin {dflt lo hi : Int} {offs : Array Int} {len : Nat} {x : Int32} {off : Int} (v : Int) (tgt : Nat) (hx : x.toInt = v) (d : decode M.1 pc = .ok (.tableswitch dflt lo hi offs, len)) (h1 : lo ≤ v) (h2 : v ≤ hi) (ho : offs[(v - lo).toNat]? = some off) (ht : (pc : Int) + off = (tgt : Int)) (k : Tz M inj r tgt lv st w) : Tz M inj r pc lv (.int x :: st) w := fun res h p l e s m args below meth c D cA AD A X cells slots hB hE H locs ls hP hS hl => lv_tableIn X.1 X.2.1 d (by omega) (by omega) (by rw [hx]; exact ho) ht (k res h p l e s m args below meth c D cA AD A X cells slots hB hE H locs ls hP hS hl)
theorem tz_tout {dflt lo hi : Int} {offs : Array Int} {len : Nat} {x : Int32} (tgt : Nat) (hx : x.toInt < lo ∨ hi < x.toInt) (d : decode M.1 pc = .ok (.tableswitch dflt lo hi offs, len)) (ht : (pc : Int) + dflt = (tgt : Int)) (k : Tz M inj r tgt lv st w) : Tz M inj r pc lv (.int x :: st) w := fun res h p l e s m args below meth c D cA AD A X cells slots hB hE H locs ls hP hS hl => lv_tableOut X.1 X.2.1 d hx ht (k res h p l e s m args below meth c D cA AD A X cells slots hB hE H locs ls hP hS hl)
theorem tz_lsw {dflt off : Int} {ps : Array (Int × Int)} {len : Nat} {x : Int32} (tgt : Nat) (hp : (ps.toList.zip (ps.toList.drop 1)).all (fun (a, next) => a.1 < next.1) = true) (ho : Op.lookupswitch.offset ps.toList dflt x.toInt = off) (d : decode M.1 pc = .ok (.lookupswitch dflt ps, len)) (ht : (pc : Int) + off = (tgt : Int)) (k : Tz M inj r tgt lv st w) : Tz M inj r pc lv (.int x :: st) w := fun res h p l e s m args below meth c D cA AD A X cells slots hB hE H locs ls hP hS hl => lv_lookup X.1 X.2.1 d hp ho ht (k res h p l e s m args below meth c D cA AD A X cells slots hB hE H locs ls hP hS hl)
theorem z_ne {x : Int32} {v : Int32} (h : ¬ x = v) : ¬ x.toInt = v.toInt := fun q => h (Int32.toInt_inj.mp q)
end TF
-- answers: int, long, none, boolean, a cell, a cell or null
def zi : Int32 → Option Value := fun x => some (.int x)
def zl : Int64 → Option Value := fun x => some (.long x)
def zn : Unit → Option Value := fun _ => none
def zz : Bool → Option Value := fun b => some (.int (zb b))
def zq : Nat → Option Value := fun k => some (.ref k)
def zo : Option Nat → Option Value := fun o => some (va_rf o)
section TE
variable {M : zM} {pc : Nat} {lv : List (Nat × Value)} {w : zW}
theorem tz_iret {v : Int32} (hr : M.2.2.2.1 = some .int) (d : decode M.1 pc = .ok (.ireturn, 1)) : Tz M (zRet zi) (some (v, w)) pc lv [.int v] w := fun res h p l e s m args below meth c D cA AD A X cells slots hB hE H locs ls hP hS hl => by
  cases h
  obtain ⟨rfl, rfl⟩ := hE
  exact W.iret X.1 X.2.1 (X.2.2.1.trans hr) (fun t ht hW => ⟨⟨rfl, by rw [ht]; exact hP⟩, hS.F ht⟩) hS.2.2 d (hlocks := X.2.2.2.2.2.2.1)
theorem tz_lret {v : Int64} (hr : M.2.2.2.1 = some .long) (d : decode M.1 pc = .ok (.lreturn, 1)) : Tz M (zRet zl) (some (v, w)) pc lv [.long v] w := fun res h p l e s m args below meth c D cA AD A X cells slots hB hE H locs ls hP hS hl => by
  cases h
  obtain ⟨rfl, rfl⟩ := hE
  exact W.lret X.1 X.2.1 (X.2.2.1.trans hr) (fun t ht hW => ⟨⟨rfl, by rw [ht]; exact hP⟩, hS.F ht⟩) hS.2.2 d (hlocks := X.2.2.2.2.2.2.1)
theorem tz_vret (hr : M.2.2.2.1 = none) (d : decode M.1 pc = .ok (.return_, 1)) : Tz M (zRet zn) (some ((), w)) pc lv [] w := fun res h p l e s m args below meth c D cA AD A X cells slots hB hE H locs ls hP hS hl => by
  cases h
  obtain ⟨rfl, rfl⟩ := hE
  exact W.vret X.1 X.2.1 (X.2.2.1.trans hr) (fun t ht hW => ⟨⟨rfl, by rw [ht]; exact hP⟩, hS.F ht⟩) hS.2.2 d (hlocks := X.2.2.2.2.2.2.1)
theorem tz_zret {b : Bool} (hr : M.2.2.2.1 = some .boolean) (d : decode M.1 pc = .ok (.ireturn, 1)) : Tz M (zRet zz) (some (b, w)) pc lv [.int (zb b)] w := fun res h p l e s m args below meth c D cA AD A X cells slots hB hE H locs ls hP hS hl => by
  cases h
  obtain ⟨rfl, rfl⟩ := hE
  exact W.zret X.1 X.2.1 (X.2.2.1.trans hr) (by cases b <;> rfl) (fun t ht hW => ⟨⟨rfl, by rw [ht]; exact hP⟩, hS.F ht⟩) hS.2.2 d (hlocks := X.2.2.2.2.2.2.1)
theorem tz_zret1 (hr : M.2.2.2.1 = some .boolean) (d : decode M.1 pc = .ok (.ireturn, 1)) : Tz M (zRet zz) (some (true, w)) pc lv [.int 1] w := tz_zret hr d
theorem tz_zret0 (hr : M.2.2.2.1 = some .boolean) (d : decode M.1 pc = .ok (.ireturn, 1)) : Tz M (zRet zz) (some (false, w)) pc lv [.int 0] w := tz_zret hr d
theorem z_zret {p : Program} {l : Launch} {e : Env} {R : Room} {s : State} {m : MethodId} {args : Array Value} {below : List Frame} {meth : Method} {c : Code} {H : Heap} {locs : List Loc} {cells slots : Nat} {cc : ByteArray} {Qc : Array Value → State → Outcome → State → Prop} {free : Addr → Prop} {v v2 : Int32} {ty : FieldType} (hexec : p.tables.exec = Jvm.exec) (hb : c.code = cc) (hr : meth.sig.returnType = some ty) (hn : narrow ty (.int v) = .int v2)
    (hq : ∀ t : State, t.heap = H → s.WarmedH t.vm → Qc args s (.returned (some (.int v2))) t) (hf : ∀ q ∈ locs, free q.base)
    {pc : Nat} {ls : Array Slot} (hdg : decode cc pc = .ok (.ireturn, 1)) (hlocks : meth.locks = false) : W p l e R s m args below meth c H locs cells slots (MQ below Qc args s cells slots free) (F0 m pc ls [.int v]) := by
  intro T hT X
  have hlocks : meth.locks = false := hlocks
  obtain ⟨fs, hret, hrun, hended, hW, hframe⟩ := X.leave (v := some (.int v2)) (fun h => by rw [hr] at h; cases h)
  have hmeth' : T.vm.method? m = some meth := X.method'
  refine ⟨T.setFrames fs, ?_, .returned (some (.int v2)), hrun, hended, hq _ hT hW, locs, ⟨⟨_, rfl⟩, hW, hframe⟩, hf⟩
  jvm_step X.here [X.here.top, hexec, hb, hdg, hmeth', hr, hn]
  (try refine ⟨rfl, ?_⟩); (try refine ⟨rfl, ?_⟩)
  first | (intro acts; rw [hret _ acts rfl rfl rfl]) | rw [hret _ _ rfl rfl rfl]
  exact Steps.refl _
theorem tz_zretv {v : Int32} (hr : M.2.2.2.1 = some .boolean) (d : decode M.1 pc = .ok (.ireturn, 1)) : Tz M (zRet zz) (some (zvb v, w)) pc lv [.int v] w := by
  intro res h p l e1 s m args below meth c D cA AD A X cells slots hB hE H locs ls hP hS hl
  cases h
  obtain ⟨rfl, rfl⟩ := hE
  exact z_zret (v2 := v &&& 1) X.1 X.2.1 (X.2.2.1.trans hr) rfl (fun t ht hW => ⟨⟨by show Outcome.returned (some (.int (v &&& 1))) = .returned (some (.int (zb (zvb v)))); rw [zvb_and], by rw [ht]; exact hP⟩, hS.F ht⟩) hS.2.2 d X.2.2.2.2.2.2.1
theorem tz_qret {k : Nat} {n : String} (hr : M.2.2.2.1 = some (.object n)) (d : decode M.1 pc = .ok (.areturn, 1)) : Tz M (zRet zq) (some (k, w)) pc lv [.ref k] w := fun res h p l e s m args below meth c D cA AD A X cells slots hB hE H locs ls hP hS hl => by
  cases h
  obtain ⟨rfl, rfl⟩ := hE
  exact W.aret X.1 X.2.1 (X.2.2.1.trans hr) (Or.inl ⟨_, rfl⟩) (Or.inr ⟨_, rfl⟩) (fun t ht hW => ⟨⟨rfl, by rw [ht]; exact hP⟩, hS.F ht⟩) hS.2.2 d (hlocks := X.2.2.2.2.2.2.1)
theorem tz_oretN {n : String} (hr : M.2.2.2.1 = some (.object n)) (d : decode M.1 pc = .ok (.areturn, 1)) : Tz M (zRet zo) (some (none, w)) pc lv [.null] w := fun res h p l e s m args below meth c D cA AD A X cells slots hB hE H locs ls hP hS hl => by
  cases h
  obtain ⟨rfl, rfl⟩ := hE
  exact W.aret X.1 X.2.1 (X.2.2.1.trans hr) (Or.inl ⟨_, rfl⟩) (Or.inl rfl) (fun t ht hW => ⟨⟨rfl, by rw [ht]; exact hP⟩, hS.F ht⟩) hS.2.2 d (hlocks := X.2.2.2.2.2.2.1)
theorem tz_oret {k : Nat} {n : String} (hr : M.2.2.2.1 = some (.object n)) (d : decode M.1 pc = .ok (.areturn, 1)) : Tz M (zRet zo) (some (some k, w)) pc lv [.ref k] w := fun res h p l e s m args below meth c D cA AD A X cells slots hB hE H locs ls hP hS hl => by
  cases h
  obtain ⟨rfl, rfl⟩ := hE
  exact W.aret X.1 X.2.1 (X.2.2.1.trans hr) (Or.inl ⟨_, rfl⟩) (Or.inr ⟨_, rfl⟩) (fun t ht hW => ⟨⟨rfl, by rw [ht]; exact hP⟩, hS.F ht⟩) hS.2.2 d (hlocks := X.2.2.2.2.2.2.1)
end TE
theorem zel_args {AD : Nat → Nat} (av : List Value) (i : Nat) : lv_args i (zes AD av) = zel AD (lv_args i av) := by
  induction av generalizing i with
  | nil => rfl
  | cons v vs ih =>
    show (i, zev AD v) :: lv_args (if (zev AD v).category = 2 then i + 2 else i + 1) (zes AD vs) = _
    rw [zev_cat, ih]; rfl
set_option maxHeartbeats 4000000 in
theorem Sm_of {ρ : Type} {y : MethodName} {M : zM} {inj : ρ → Option Value} {av : List Value} {w : zW} {r : Option (ρ × zW)} (hy : plainName y.cls = true) (own : M.2.1 = y.cls) (hlen : ∀ AD, (lg_sl (zes AD av)).length ≤ M.2.2.1) {lv0 : List (Nat × Value)} (hlv : lv_args 0 av = lv0) (k : Tz M (zRet inj) r 0 lv0 [] w) : Sm y M inj av w r := by
  subst hlv
  intro res h l D cA AD sz
  refine Met.ofW (cc := M.1) (maxL := M.2.2.1) (ret := M.2.2.2.1) hy rfl ?_
  intro p e s m args below meth c s₁ B hml hv
  obtain ⟨rfl, hsz, hP, hK, hinj, hSt, hNs⟩ := hv
  subst hsz
  have hts := atoms_spec (ws := .code y M.1 M.2.2.1 M.2.2.2.1 :: zTb) B.pre
  have hl := lv_entry (zes AD av) (n := M.2.2.1) (hlen AD)
  rw [lg_entry_eq]
  rw [zel_args] at hl
  exact k res h p l e s m _ below meth c D cA AD (zA AD s.heap.size) ⟨B.exec, B.bytes, B.returns, hml, by rw [own]; exact findClass_of_methodNamed B.named, fun w hw => hts w (List.mem_cons_of_mem _ hw), B.notSynchronized, hK, ⟨hinj, fun k hk => Or.inl ⟨k, hk, rfl⟩⟩, fun q hq => Or.inr hq, hSt, hNs⟩ 0 0 ⟨Nat.zero_le _, Nat.zero_le _⟩ ⟨rfl, rfl⟩ s.heap [] _ hP va_S.rf hl
theorem zes_app {AD : Nat → Nat} (o : Option Value) (rest : List Value) : (o.map (zev AD)).toList ++ zes AD rest = zes AD (o.toList ++ rest) := by cases o <;> rfl
theorem zes_cat {AD : Nat → Nat} (st : List Value) : ((zes AD st).map fun v => v.category).sum = (st.map fun v => v.category).sum := by
  induction st with
  | nil => rfl
  | cons v vs ih => simp only [zes, List.map_cons, List.sum_cons, zev_cat] at ih ⊢; rw [ih]
theorem zPc_blind {D : va_G} {cA : Nat → ClassId} {AD : Nat → Nat} {w : zW} {sz : Nat} {av : List Value} : FrameBlind (va_Pc av (zPre D cA AD w sz)) := by
  intro a U g mk q
  obtain ⟨q0, q1, q2, q3, q4, q5, q6⟩ := q
  exact ⟨q0, q1, q2, va_K.moved (u := U) (U := U.calling g mk a) (Vm.Alike.refl U.vm) q3, q4, zSt_moved (u := U) (U := U.calling g mk a) (Vm.Alike.refl U.vm) q5, zNs_same (s := U) (U := U.calling g mk a) rfl q6⟩
theorem zPre_of {M : zM} {p : Program} {s : State} {m : MethodId} {args : Array Value} {meth : Method} {c : Code} {D : va_G} {cA : Nat → ClassId} {AD : Nat → Nat} {A : Nat → Prop} {w : zW} {H : Heap} {locs : List Loc} (X : zCtx M p s m args meth c D cA AD A) (hP : va_P D vwCl (zws cA AD w) H) (hS : va_S A s.heap H locs) {U : State} (hU : U.heap = H) (hW : s.WarmedH U.vm) : zPre D cA AD w H.size U := by
  refine ⟨by rw [hU], by rw [hU]; exact hP, va_K.moved hW.alike X.2.2.2.2.2.2.2.1, X.2.2.2.2.2.2.2.2.1.1, ?_, zNs_warm hW X.2.2.2.2.2.2.2.2.2.2.2⟩
  rw [hU]
  refine zSt_moved hW.alike (zSt_narrow (zSt_kept X.2.2.2.2.2.2.2.2.2.2.1 (fun a h1 h2 => hS.2.1 a h1 h2)) ?_)
  intro q hq
  rcases hq with ⟨k, h1, rfl⟩ | h1
  · exact X.2.2.2.2.2.2.2.2.1.2 k h1
  · exact X.2.2.2.2.2.2.2.2.2.1 q (Nat.le_trans hS.1 h1)
theorem zA_in {M : zM} {p : Program} {s : State} {m : MethodId} {args : Array Value} {meth : Method} {c : Code} {D : va_G} {cA : Nat → ClassId} {AD : Nat → Nat} {A : Nat → Prop} {H : Heap} {locs : List Loc} (X : zCtx M p s m args meth c D cA AD A) (hS : va_S A s.heap H locs) : ∀ q, zA AD H.size q → A q := by
  intro q hq
  rcases hq with ⟨k, h1, rfl⟩ | h1
  · exact X.2.2.2.2.2.2.2.2.1.2 k h1
  · exact X.2.2.2.2.2.2.2.2.2.1 q (Nat.le_trans hS.1 h1)
section ZC
variable {p : Program} {l : Launch} {e : Env} {R : Room} {s : State} {m : MethodId} {args : Array Value} {below : List Frame} {meth : Method} {c : Code} {H : Heap} {locs : List Loc} {cells slots : Nat} {Q : State → Prop} {pc : Nat} {ls : Array Slot} {st0 rest : List Value} {a : Array Value}
theorem z_call {ρ : Type} {D : va_G} {cA : Nat → ClassId} {AD : Nat → Nat} {A : Nat → Prop} {inj : ρ → Option Value} {res : ρ × zW} (hr : va_Run p l e R s m args below meth c H locs cells slots 0 0 (F0 m pc ls st0) rest (zQ D cA AD (zA AD H.size) inj res a) (zA AD H.size)) (hS : va_S A s.heap H locs) (hA : ∀ q, zA AD H.size q → A q)
    (kk : ∀ (H1 : Heap) (locs1 : List Loc), va_P D vwCl (zws cA AD res.2) H1 → va_S A s.heap H1 locs1 → W p l e R s m args below meth c H1 locs1 cells slots Q (F0 m (pc + 3) ls (((inj res.1).map (zev AD)).toList ++ rest))) : W p l e R s m args below meth c H locs cells slots Q (F0 m pc ls st0) := by
  intro T hT X
  obtain ⟨v, st₀, t, T', L, h0, X', hL, e1, e2, ⟨⟨hv, hp⟩, hz, hk⟩, st⟩ := hr T hT X
  cases hv
  rw [h0] at hz hk
  obtain ⟨t2, a1, b1⟩ := kk T'.heap (locs ++ L) (by rw [e1]; exact hp)
    ⟨Nat.le_trans hS.1 (by rw [e1]; exact hz), fun q h1 h2 => by rw [e1, hk q (Nat.lt_of_lt_of_le h1 hS.1) (fun z => h2 (hA q z))]; exact hS.2.1 q h1 h2, fun q hq => by
      rcases List.mem_append.mp hq with h | h
      · exact hS.2.2 q h
      · exact hA _ (hL q h)⟩ T' rfl X'
  exact ⟨t2, st t2 a1, b1⟩
end ZC
/-- what a call of an instance method, a static method pays with -/
def zYV (y : MethodName) (M : zM) (n : Nat) : Prop := Cond.code y M.1 M.2.2.1 M.2.2.2.1 ∈ zTb ∧ Cond.initialized y.cls ∈ zTb ∧ (Cond.instanceMethod y ∈ zTb ∧ Cond.selects y.cls y y ∈ zTb) ∧ (y.cls ≠ "java/lang/invoke/MethodHandle" ∧ y.cls ≠ "java/lang/invoke/VarHandle" ∧ (parseMethodDescriptor y.desc).map (fun d => d.parameters.length) = some n) ∧ M.2.2.2.2.cells = 0 ∧ M.2.2.2.2.slots = 0
def zYS (y : MethodName) (M : zM) (n : Nat) : Prop := Cond.code y M.1 M.2.2.1 M.2.2.2.1 ∈ zTb ∧ Cond.initialized y.cls ∈ zTb ∧ Cond.static y ∈ zTb ∧ (y.cls ≠ "java/lang/invoke/MethodHandle" ∧ y.cls ≠ "java/lang/invoke/VarHandle" ∧ (parseMethodDescriptor y.desc).map (fun d => d.parameters.length) = some n) ∧ M.2.2.2.2.cells = 0 ∧ M.2.2.2.2.slots = 0
theorem bd_some {α β : Type} {f : Option (α × zW)} {F : α → zW → Option β} {b : β} (h : bd f F = some b) : ∃ v w1, f = some (v, w1) ∧ F v w1 = some b := by
  cases f with
  | none => cases h
  | some q => exact ⟨q.1, q.2, rfl, h⟩
theorem zTb_pay {y : MethodName} {M : zM} (h : Cond.code y M.1 M.2.2.1 M.2.2.2.1 ∈ zTb) : GoodIn zTb (.code y M.1 M.2.2.1 M.2.2.2.1 :: zTb) := zTb_goodIn fun w hw => by
  rcases List.mem_cons.mp hw with rfl | hw
  · exact h
  · exact hw
section TC
variable {ρ σ : Type} {M My : zM} {inj : zEnd ρ} {injc : σ → Option Value} {pc : Nat} {lv : List (Nat × Value)} {st rest : List Value} {w : zW} {y : MethodName} {f : Option (σ × zW)} {F : σ → zW → Option (ρ × zW)} {As : List Value} {n : Nat}
theorem tz_cV {index : Nat} {q : vw_C} {ci b : Nat} (hk : zK ci q) (hb : zc ci b) (hC : q.1 = y.cls) (hY : zYV y My n) (hm : Cond.methodLink M.2.1 index y ∈ zTb) (hS0 : Sm y My injc (.ref b :: As) w f) (hn : As.length = n) (hst : st = As.reverse ++ .ref b :: rest) (hcat : (rest.map fun v => v.category).sum ≤ 8) (hR : My.2.2.2.2.frames + 1 ≤ M.2.2.2.2.frames ∧ 8 + (My.2.2.1 + 11) + My.2.2.2.2.locals ≤ M.2.2.2.2.locals) (d : decode M.1 pc = .ok (.invokevirtual index, 3)) (k : ∀ (v : σ) (w1 : zW), f = some (v, w1) → Tz M inj (F v w1) (pc + 3) lv ((injc v).toList ++ rest) w1) : Tz M inj (bd f F) pc lv st w := by
  intro res h p l e s m args below meth c D cA AD A X cells slots hB hE H locs ls hP hS hl
  obtain ⟨v, w1, hf, hF⟩ := bd_some h
  have hM := hS0 (v, w1) hf l D cA AD H.size
  subst hst
  refine z_call (rest := zes AD rest) (va_runV (S := ⟨X.1, X.2.1, X.2.2.2.1, X.2.2.2.2.1, X.2.2.2.2.2.1⟩) (As := zes AD As) hM ⟨callB_of n X.2.2.2.2.2.1 (zTb_pay hY.1) rfl hY.2.2.2.2.1 hY.2.2.2.2.2 (X.2.2.2.2.2.1 _ hY.2.1) (X.2.2.2.2.2.1 _ hm) hY.2.2.2.1 hR, X.2.2.2.2.2.1 _ hY.2.2.1.1, X.2.2.2.2.2.1 _ hY.2.2.1.2⟩ ⟨zPc_blind, by have e9 := va_recv (s := s) X.2.2.2.2.2.2.2.1 hP hk.1 (zws_o hb); rw [hC] at e9; exact e9, fun U hU hW => ⟨rfl, zPre_of X hP hS hU hW⟩⟩ rfl (by simpa [zes] using hn) hl.1 (by simp [zes, zev]) ?_ d hB) hS (zA_in X hS) (fun H1 locs1 hP1 hS1 => ?_)
  · exact lv_room (by rw [zes_cat]; exact hcat)
  · rw [zes_app]
    exact k v w1 hf res hF p l e s m args below meth c D cA AD A X cells slots hB hE H1 locs1 ls hP1 hS1 hl
theorem tz_cV_i {index : Nat} {q : vw_C} {ci b : Nat} (hk : zK ci q) (hb : zc ci b) (hC : q.1 = y.cls) {f : Option (Int32 × zW)} {F : Int32 → zW → Option (ρ × zW)} (hY : zYV y My n) (hm : Cond.methodLink M.2.1 index y ∈ zTb) (hS0 : Sm y My zi (.ref b :: As) w f) (hn : As.length = n) (hst : st = As.reverse ++ .ref b :: rest) (hcat : (rest.map fun v => v.category).sum ≤ 8) (hR : My.2.2.2.2.frames + 1 ≤ M.2.2.2.2.frames ∧ 8 + (My.2.2.1 + 11) + My.2.2.2.2.locals ≤ M.2.2.2.2.locals) (d : decode M.1 pc = .ok (.invokevirtual index, 3)) (k : ∀ (v : Int32) (w1 : zW), f = some (v, w1) → Tz M inj (F v w1) (pc + 3) lv (.int v :: rest) w1) : Tz M inj (bd f F) pc lv st w := tz_cV hk hb hC hY hm hS0 hn hst hcat hR d k
theorem tz_cV_l {index : Nat} {q : vw_C} {ci b : Nat} (hk : zK ci q) (hb : zc ci b) (hC : q.1 = y.cls) {f : Option (Int64 × zW)} {F : Int64 → zW → Option (ρ × zW)} (hY : zYV y My n) (hm : Cond.methodLink M.2.1 index y ∈ zTb) (hS0 : Sm y My zl (.ref b :: As) w f) (hn : As.length = n) (hst : st = As.reverse ++ .ref b :: rest) (hcat : (rest.map fun v => v.category).sum ≤ 8) (hR : My.2.2.2.2.frames + 1 ≤ M.2.2.2.2.frames ∧ 8 + (My.2.2.1 + 11) + My.2.2.2.2.locals ≤ M.2.2.2.2.locals) (d : decode M.1 pc = .ok (.invokevirtual index, 3)) (k : ∀ (v : Int64) (w1 : zW), f = some (v, w1) → Tz M inj (F v w1) (pc + 3) lv (.long v :: rest) w1) : Tz M inj (bd f F) pc lv st w := tz_cV hk hb hC hY hm hS0 hn hst hcat hR d k
theorem tz_cV_n {index : Nat} {q : vw_C} {ci b : Nat} (hk : zK ci q) (hb : zc ci b) (hC : q.1 = y.cls) {f : Option (Unit × zW)} {F : Unit → zW → Option (ρ × zW)} (hY : zYV y My n) (hm : Cond.methodLink M.2.1 index y ∈ zTb) (hS0 : Sm y My zn (.ref b :: As) w f) (hn : As.length = n) (hst : st = As.reverse ++ .ref b :: rest) (hcat : (rest.map fun v => v.category).sum ≤ 8) (hR : My.2.2.2.2.frames + 1 ≤ M.2.2.2.2.frames ∧ 8 + (My.2.2.1 + 11) + My.2.2.2.2.locals ≤ M.2.2.2.2.locals) (d : decode M.1 pc = .ok (.invokevirtual index, 3)) (k : ∀ (v : Unit) (w1 : zW), f = some (v, w1) → Tz M inj (F v w1) (pc + 3) lv (rest) w1) : Tz M inj (bd f F) pc lv st w := tz_cV hk hb hC hY hm hS0 hn hst hcat hR d k
theorem tz_cV_z {index : Nat} {q : vw_C} {ci b : Nat} (hk : zK ci q) (hb : zc ci b) (hC : q.1 = y.cls) {f : Option (Bool × zW)} {F : Bool → zW → Option (ρ × zW)} (hY : zYV y My n) (hm : Cond.methodLink M.2.1 index y ∈ zTb) (hS0 : Sm y My zz (.ref b :: As) w f) (hn : As.length = n) (hst : st = As.reverse ++ .ref b :: rest) (hcat : (rest.map fun v => v.category).sum ≤ 8) (hR : My.2.2.2.2.frames + 1 ≤ M.2.2.2.2.frames ∧ 8 + (My.2.2.1 + 11) + My.2.2.2.2.locals ≤ M.2.2.2.2.locals) (d : decode M.1 pc = .ok (.invokevirtual index, 3)) (k : ∀ (v : Bool) (w1 : zW), f = some (v, w1) → Tz M inj (F v w1) (pc + 3) lv (.int (zb v) :: rest) w1) : Tz M inj (bd f F) pc lv st w := tz_cV hk hb hC hY hm hS0 hn hst hcat hR d k
theorem tz_cV_q {index : Nat} {q : vw_C} {ci b : Nat} (hk : zK ci q) (hb : zc ci b) (hC : q.1 = y.cls) {f : Option (Nat × zW)} {F : Nat → zW → Option (ρ × zW)} (hY : zYV y My n) (hm : Cond.methodLink M.2.1 index y ∈ zTb) (hS0 : Sm y My zq (.ref b :: As) w f) (hn : As.length = n) (hst : st = As.reverse ++ .ref b :: rest) (hcat : (rest.map fun v => v.category).sum ≤ 8) (hR : My.2.2.2.2.frames + 1 ≤ M.2.2.2.2.frames ∧ 8 + (My.2.2.1 + 11) + My.2.2.2.2.locals ≤ M.2.2.2.2.locals) (d : decode M.1 pc = .ok (.invokevirtual index, 3)) (k : ∀ (v : Nat) (w1 : zW), f = some (v, w1) → Tz M inj (F v w1) (pc + 3) lv (.ref v :: rest) w1) : Tz M inj (bd f F) pc lv st w := tz_cV hk hb hC hY hm hS0 hn hst hcat hR d k
theorem tz_cV_o {index : Nat} {q : vw_C} {ci b : Nat} (hk : zK ci q) (hb : zc ci b) (hC : q.1 = y.cls) {f : Option (Option Nat × zW)} {F0 : zW → Option (ρ × zW)} {F1 : Nat → zW → Option (ρ × zW)} (hY : zYV y My n) (hm : Cond.methodLink M.2.1 index y ∈ zTb) (hS0 : Sm y My zo (.ref b :: As) w f) (hn : As.length = n) (hst : st = As.reverse ++ .ref b :: rest) (hcat : (rest.map fun v => v.category).sum ≤ 8) (hR : My.2.2.2.2.frames + 1 ≤ M.2.2.2.2.frames ∧ 8 + (My.2.2.1 + 11) + My.2.2.2.2.locals ≤ M.2.2.2.2.locals) (d : decode M.1 pc = .ok (.invokevirtual index, 3)) (k0 : ∀ (w1 : zW), f = some (none, w1) → Tz M inj (F0 w1) (pc + 3) lv (.null :: rest) w1) (k1 : ∀ (v : Nat) (w1 : zW), f = some (some v, w1) → Tz M inj (F1 v w1) (pc + 3) lv (.ref v :: rest) w1) : Tz M inj (bd f fun o w1 => oc o (F0 w1) (fun v => F1 v w1)) pc lv st w := tz_cV hk hb hC hY hm hS0 hn hst hcat hR d (fun o w1 e => match o, e with | none, e => k0 w1 e | some v, e => k1 v w1 e)
theorem tz_cVN {host : String} {index : Nat} {q : vw_C} {ci b : Nat} (hk : zK ci q) (hb : zc ci b) (hC : q.1 = y.cls) (hY : zYV y My n) (hm : Cond.methodLinkNest M.2.1 index y host ∈ lw_tbl) (hS0 : Sm y My injc (.ref b :: As) w f) (hn : As.length = n) (hst : st = As.reverse ++ .ref b :: rest) (hcat : (rest.map fun v => v.category).sum ≤ 8) (hR : My.2.2.2.2.frames + 1 ≤ M.2.2.2.2.frames ∧ 8 + (My.2.2.1 + 11) + My.2.2.2.2.locals ≤ M.2.2.2.2.locals) (d : decode M.1 pc = .ok (.invokevirtual index, 3)) (k : ∀ (v : σ) (w1 : zW), f = some (v, w1) → Tz M inj (F v w1) (pc + 3) lv ((injc v).toList ++ rest) w1) : Tz M inj (bd f F) pc lv st w := by
  intro res h p l e s m args below meth c D cA AD A X cells slots hB hE H locs ls hP hS hl
  obtain ⟨v, w1, hf, hF⟩ := bd_some h
  have hM := hS0 (v, w1) hf l D cA AD H.size
  subst hst
  refine z_call (rest := zes AD rest) (va_runVN (S := ⟨X.1, X.2.1, X.2.2.2.1, X.2.2.2.2.1, X.2.2.2.2.2.1⟩) (As := zes AD As) hM ⟨va_cnB n X.2.2.2.2.2.1 (zTb_pay hY.1) rfl hY.2.2.2.2.1 hY.2.2.2.2.2 (X.2.2.2.2.2.2.2.2.2.2.2 _ hm rfl) (X.2.2.2.2.2.1 _ hY.2.1) hY.2.2.2.1 hR, X.2.2.2.2.2.1 _ hY.2.2.1.1, X.2.2.2.2.2.1 _ hY.2.2.1.2⟩ ⟨zPc_blind, by have e9 := va_recv (s := s) X.2.2.2.2.2.2.2.1 hP hk.1 (zws_o hb); rw [hC] at e9; exact e9, fun U hU hW => ⟨rfl, zPre_of X hP hS hU hW⟩⟩ rfl (by simpa [zes] using hn) hl.1 (by simp [zes, zev]) ?_ d hB) hS (zA_in X hS) (fun H1 locs1 hP1 hS1 => ?_)
  · exact lv_room (by rw [zes_cat]; exact hcat)
  · rw [zes_app]
    exact k v w1 hf res hF p l e s m args below meth c D cA AD A X cells slots hB hE H1 locs1 ls hP1 hS1 hl
theorem tz_cVN_i {host : String} {index : Nat} {q : vw_C} {ci b : Nat} (hk : zK ci q) (hb : zc ci b) (hC : q.1 = y.cls) {f : Option (Int32 × zW)} {F : Int32 → zW → Option (ρ × zW)} (hY : zYV y My n) (hm : Cond.methodLinkNest M.2.1 index y host ∈ lw_tbl) (hS0 : Sm y My zi (.ref b :: As) w f) (hn : As.length = n) (hst : st = As.reverse ++ .ref b :: rest) (hcat : (rest.map fun v => v.category).sum ≤ 8) (hR : My.2.2.2.2.frames + 1 ≤ M.2.2.2.2.frames ∧ 8 + (My.2.2.1 + 11) + My.2.2.2.2.locals ≤ M.2.2.2.2.locals) (d : decode M.1 pc = .ok (.invokevirtual index, 3)) (k : ∀ (v : Int32) (w1 : zW), f = some (v, w1) → Tz M inj (F v w1) (pc + 3) lv (.int v :: rest) w1) : Tz M inj (bd f F) pc lv st w := tz_cVN hk hb hC hY hm hS0 hn hst hcat hR d k
theorem tz_cVN_l {host : String} {index : Nat} {q : vw_C} {ci b : Nat} (hk : zK ci q) (hb : zc ci b) (hC : q.1 = y.cls) {f : Option (Int64 × zW)} {F : Int64 → zW → Option (ρ × zW)} (hY : zYV y My n) (hm : Cond.methodLinkNest M.2.1 index y host ∈ lw_tbl) (hS0 : Sm y My zl (.ref b :: As) w f) (hn : As.length = n) (hst : st = As.reverse ++ .ref b :: rest) (hcat : (rest.map fun v => v.category).sum ≤ 8) (hR : My.2.2.2.2.frames + 1 ≤ M.2.2.2.2.frames ∧ 8 + (My.2.2.1 + 11) + My.2.2.2.2.locals ≤ M.2.2.2.2.locals) (d : decode M.1 pc = .ok (.invokevirtual index, 3)) (k : ∀ (v : Int64) (w1 : zW), f = some (v, w1) → Tz M inj (F v w1) (pc + 3) lv (.long v :: rest) w1) : Tz M inj (bd f F) pc lv st w := tz_cVN hk hb hC hY hm hS0 hn hst hcat hR d k
theorem tz_cVN_n {host : String} {index : Nat} {q : vw_C} {ci b : Nat} (hk : zK ci q) (hb : zc ci b) (hC : q.1 = y.cls) {f : Option (Unit × zW)} {F : Unit → zW → Option (ρ × zW)} (hY : zYV y My n) (hm : Cond.methodLinkNest M.2.1 index y host ∈ lw_tbl) (hS0 : Sm y My zn (.ref b :: As) w f) (hn : As.length = n) (hst : st = As.reverse ++ .ref b :: rest) (hcat : (rest.map fun v => v.category).sum ≤ 8) (hR : My.2.2.2.2.frames + 1 ≤ M.2.2.2.2.frames ∧ 8 + (My.2.2.1 + 11) + My.2.2.2.2.locals ≤ M.2.2.2.2.locals) (d : decode M.1 pc = .ok (.invokevirtual index, 3)) (k : ∀ (v : Unit) (w1 : zW), f = some (v, w1) → Tz M inj (F v w1) (pc + 3) lv (rest) w1) : Tz M inj (bd f F) pc lv st w := tz_cVN hk hb hC hY hm hS0 hn hst hcat hR d k
theorem tz_cVN_z {host : String} {index : Nat} {q : vw_C} {ci b : Nat} (hk : zK ci q) (hb : zc ci b) (hC : q.1 = y.cls) {f : Option (Bool × zW)} {F : Bool → zW → Option (ρ × zW)} (hY : zYV y My n) (hm : Cond.methodLinkNest M.2.1 index y host ∈ lw_tbl) (hS0 : Sm y My zz (.ref b :: As) w f) (hn : As.length = n) (hst : st = As.reverse ++ .ref b :: rest) (hcat : (rest.map fun v => v.category).sum ≤ 8) (hR : My.2.2.2.2.frames + 1 ≤ M.2.2.2.2.frames ∧ 8 + (My.2.2.1 + 11) + My.2.2.2.2.locals ≤ M.2.2.2.2.locals) (d : decode M.1 pc = .ok (.invokevirtual index, 3)) (k : ∀ (v : Bool) (w1 : zW), f = some (v, w1) → Tz M inj (F v w1) (pc + 3) lv (.int (zb v) :: rest) w1) : Tz M inj (bd f F) pc lv st w := tz_cVN hk hb hC hY hm hS0 hn hst hcat hR d k
theorem tz_cVN_q {host : String} {index : Nat} {q : vw_C} {ci b : Nat} (hk : zK ci q) (hb : zc ci b) (hC : q.1 = y.cls) {f : Option (Nat × zW)} {F : Nat → zW → Option (ρ × zW)} (hY : zYV y My n) (hm : Cond.methodLinkNest M.2.1 index y host ∈ lw_tbl) (hS0 : Sm y My zq (.ref b :: As) w f) (hn : As.length = n) (hst : st = As.reverse ++ .ref b :: rest) (hcat : (rest.map fun v => v.category).sum ≤ 8) (hR : My.2.2.2.2.frames + 1 ≤ M.2.2.2.2.frames ∧ 8 + (My.2.2.1 + 11) + My.2.2.2.2.locals ≤ M.2.2.2.2.locals) (d : decode M.1 pc = .ok (.invokevirtual index, 3)) (k : ∀ (v : Nat) (w1 : zW), f = some (v, w1) → Tz M inj (F v w1) (pc + 3) lv (.ref v :: rest) w1) : Tz M inj (bd f F) pc lv st w := tz_cVN hk hb hC hY hm hS0 hn hst hcat hR d k
theorem tz_cVN_o {host : String} {index : Nat} {q : vw_C} {ci b : Nat} (hk : zK ci q) (hb : zc ci b) (hC : q.1 = y.cls) {f : Option (Option Nat × zW)} {F0 : zW → Option (ρ × zW)} {F1 : Nat → zW → Option (ρ × zW)} (hY : zYV y My n) (hm : Cond.methodLinkNest M.2.1 index y host ∈ lw_tbl) (hS0 : Sm y My zo (.ref b :: As) w f) (hn : As.length = n) (hst : st = As.reverse ++ .ref b :: rest) (hcat : (rest.map fun v => v.category).sum ≤ 8) (hR : My.2.2.2.2.frames + 1 ≤ M.2.2.2.2.frames ∧ 8 + (My.2.2.1 + 11) + My.2.2.2.2.locals ≤ M.2.2.2.2.locals) (d : decode M.1 pc = .ok (.invokevirtual index, 3)) (k0 : ∀ (w1 : zW), f = some (none, w1) → Tz M inj (F0 w1) (pc + 3) lv (.null :: rest) w1) (k1 : ∀ (v : Nat) (w1 : zW), f = some (some v, w1) → Tz M inj (F1 v w1) (pc + 3) lv (.ref v :: rest) w1) : Tz M inj (bd f fun o w1 => oc o (F0 w1) (fun v => F1 v w1)) pc lv st w := tz_cVN hk hb hC hY hm hS0 hn hst hcat hR d (fun o w1 e => match o, e with | none, e => k0 w1 e | some v, e => k1 v w1 e)
theorem tz_cS {index : Nat} (hY : zYS y My n) (hm : Cond.methodLink M.2.1 index y ∈ zTb) (hS0 : Sm y My injc As w f) (hn : As.length = n) (hst : st = As.reverse ++ rest) (hcat : (rest.map fun v => v.category).sum ≤ 8) (hR : My.2.2.2.2.frames + 1 ≤ M.2.2.2.2.frames ∧ 8 + (My.2.2.1 + 11) + My.2.2.2.2.locals ≤ M.2.2.2.2.locals) (d : decode M.1 pc = .ok (.invokestatic index, 3)) (k : ∀ (v : σ) (w1 : zW), f = some (v, w1) → Tz M inj (F v w1) (pc + 3) lv ((injc v).toList ++ rest) w1) : Tz M inj (bd f F) pc lv st w := by
  intro res h p l e s m args below meth c D cA AD A X cells slots hB hE H locs ls hP hS hl
  obtain ⟨v, w1, hf, hF⟩ := bd_some h
  have hM := hS0 (v, w1) hf l D cA AD H.size
  subst hst
  refine z_call (rest := zes AD rest) (va_runS (S := ⟨X.1, X.2.1, X.2.2.2.1, X.2.2.2.2.1, X.2.2.2.2.2.1⟩) (As := zes AD As) hM ⟨callB_of n X.2.2.2.2.2.1 (zTb_pay hY.1) rfl hY.2.2.2.2.1 hY.2.2.2.2.2 (X.2.2.2.2.2.1 _ hY.2.1) (X.2.2.2.2.2.1 _ hm) hY.2.2.2.1 hR, X.2.2.2.2.2.1 _ hY.2.2.1⟩ ⟨zPc_blind, fun U hU hW => ⟨rfl, zPre_of X hP hS hU hW⟩⟩ rfl (by simpa [zes] using hn) hl.1 (by simp [zes, zev]) ?_ d hB) hS (zA_in X hS) (fun H1 locs1 hP1 hS1 => ?_)
  · exact lv_room (by rw [zes_cat]; exact hcat)
  · rw [zes_app]
    exact k v w1 hf res hF p l e s m args below meth c D cA AD A X cells slots hB hE H1 locs1 ls hP1 hS1 hl
theorem tz_cS_i {index : Nat} {f : Option (Int32 × zW)} {F : Int32 → zW → Option (ρ × zW)} (hY : zYS y My n) (hm : Cond.methodLink M.2.1 index y ∈ zTb) (hS0 : Sm y My zi As w f) (hn : As.length = n) (hst : st = As.reverse ++ rest) (hcat : (rest.map fun v => v.category).sum ≤ 8) (hR : My.2.2.2.2.frames + 1 ≤ M.2.2.2.2.frames ∧ 8 + (My.2.2.1 + 11) + My.2.2.2.2.locals ≤ M.2.2.2.2.locals) (d : decode M.1 pc = .ok (.invokestatic index, 3)) (k : ∀ (v : Int32) (w1 : zW), f = some (v, w1) → Tz M inj (F v w1) (pc + 3) lv (.int v :: rest) w1) : Tz M inj (bd f F) pc lv st w := tz_cS hY hm hS0 hn hst hcat hR d k
theorem tz_cS_l {index : Nat} {f : Option (Int64 × zW)} {F : Int64 → zW → Option (ρ × zW)} (hY : zYS y My n) (hm : Cond.methodLink M.2.1 index y ∈ zTb) (hS0 : Sm y My zl As w f) (hn : As.length = n) (hst : st = As.reverse ++ rest) (hcat : (rest.map fun v => v.category).sum ≤ 8) (hR : My.2.2.2.2.frames + 1 ≤ M.2.2.2.2.frames ∧ 8 + (My.2.2.1 + 11) + My.2.2.2.2.locals ≤ M.2.2.2.2.locals) (d : decode M.1 pc = .ok (.invokestatic index, 3)) (k : ∀ (v : Int64) (w1 : zW), f = some (v, w1) → Tz M inj (F v w1) (pc + 3) lv (.long v :: rest) w1) : Tz M inj (bd f F) pc lv st w := tz_cS hY hm hS0 hn hst hcat hR d k
theorem tz_cS_n {index : Nat} {f : Option (Unit × zW)} {F : Unit → zW → Option (ρ × zW)} (hY : zYS y My n) (hm : Cond.methodLink M.2.1 index y ∈ zTb) (hS0 : Sm y My zn As w f) (hn : As.length = n) (hst : st = As.reverse ++ rest) (hcat : (rest.map fun v => v.category).sum ≤ 8) (hR : My.2.2.2.2.frames + 1 ≤ M.2.2.2.2.frames ∧ 8 + (My.2.2.1 + 11) + My.2.2.2.2.locals ≤ M.2.2.2.2.locals) (d : decode M.1 pc = .ok (.invokestatic index, 3)) (k : ∀ (v : Unit) (w1 : zW), f = some (v, w1) → Tz M inj (F v w1) (pc + 3) lv (rest) w1) : Tz M inj (bd f F) pc lv st w := tz_cS hY hm hS0 hn hst hcat hR d k
theorem tz_cS_z {index : Nat} {f : Option (Bool × zW)} {F : Bool → zW → Option (ρ × zW)} (hY : zYS y My n) (hm : Cond.methodLink M.2.1 index y ∈ zTb) (hS0 : Sm y My zz As w f) (hn : As.length = n) (hst : st = As.reverse ++ rest) (hcat : (rest.map fun v => v.category).sum ≤ 8) (hR : My.2.2.2.2.frames + 1 ≤ M.2.2.2.2.frames ∧ 8 + (My.2.2.1 + 11) + My.2.2.2.2.locals ≤ M.2.2.2.2.locals) (d : decode M.1 pc = .ok (.invokestatic index, 3)) (k : ∀ (v : Bool) (w1 : zW), f = some (v, w1) → Tz M inj (F v w1) (pc + 3) lv (.int (zb v) :: rest) w1) : Tz M inj (bd f F) pc lv st w := tz_cS hY hm hS0 hn hst hcat hR d k
theorem tz_cS_q {index : Nat} {f : Option (Nat × zW)} {F : Nat → zW → Option (ρ × zW)} (hY : zYS y My n) (hm : Cond.methodLink M.2.1 index y ∈ zTb) (hS0 : Sm y My zq As w f) (hn : As.length = n) (hst : st = As.reverse ++ rest) (hcat : (rest.map fun v => v.category).sum ≤ 8) (hR : My.2.2.2.2.frames + 1 ≤ M.2.2.2.2.frames ∧ 8 + (My.2.2.1 + 11) + My.2.2.2.2.locals ≤ M.2.2.2.2.locals) (d : decode M.1 pc = .ok (.invokestatic index, 3)) (k : ∀ (v : Nat) (w1 : zW), f = some (v, w1) → Tz M inj (F v w1) (pc + 3) lv (.ref v :: rest) w1) : Tz M inj (bd f F) pc lv st w := tz_cS hY hm hS0 hn hst hcat hR d k
theorem tz_cSN {host : String} {index : Nat} (hY : zYS y My n) (hm : Cond.methodLinkNest M.2.1 index y host ∈ lw_tbl) (hS0 : Sm y My injc As w f) (hn : As.length = n) (hst : st = As.reverse ++ rest) (hcat : (rest.map fun v => v.category).sum ≤ 8) (hR : My.2.2.2.2.frames + 1 ≤ M.2.2.2.2.frames ∧ 8 + (My.2.2.1 + 11) + My.2.2.2.2.locals ≤ M.2.2.2.2.locals) (d : decode M.1 pc = .ok (.invokestatic index, 3)) (k : ∀ (v : σ) (w1 : zW), f = some (v, w1) → Tz M inj (F v w1) (pc + 3) lv ((injc v).toList ++ rest) w1) : Tz M inj (bd f F) pc lv st w := by
  intro res h p l e s m args below meth c D cA AD A X cells slots hB hE H locs ls hP hS hl
  obtain ⟨v, w1, hf, hF⟩ := bd_some h
  have hM := hS0 (v, w1) hf l D cA AD H.size
  subst hst
  refine z_call (rest := zes AD rest) (va_runSN (S := ⟨X.1, X.2.1, X.2.2.2.1, X.2.2.2.2.1, X.2.2.2.2.2.1⟩) (As := zes AD As) hM ⟨va_cnB n X.2.2.2.2.2.1 (zTb_pay hY.1) rfl hY.2.2.2.2.1 hY.2.2.2.2.2 (X.2.2.2.2.2.2.2.2.2.2.2 _ hm rfl) (X.2.2.2.2.2.1 _ hY.2.1) hY.2.2.2.1 hR, X.2.2.2.2.2.1 _ hY.2.2.1, trivial⟩ ⟨zPc_blind, fun U hU hW => ⟨rfl, zPre_of X hP hS hU hW⟩⟩ rfl (by simpa [zes] using hn) hl.1 (by simp [zes, zev]) ?_ d hB) hS (zA_in X hS) (fun H1 locs1 hP1 hS1 => ?_)
  · exact lv_room (by rw [zes_cat]; exact hcat)
  · rw [zes_app]
    exact k v w1 hf res hF p l e s m args below meth c D cA AD A X cells slots hB hE H1 locs1 ls hP1 hS1 hl
theorem tz_cSN_i {host : String} {index : Nat} {f : Option (Int32 × zW)} {F : Int32 → zW → Option (ρ × zW)} (hY : zYS y My n) (hm : Cond.methodLinkNest M.2.1 index y host ∈ lw_tbl) (hS0 : Sm y My zi As w f) (hn : As.length = n) (hst : st = As.reverse ++ rest) (hcat : (rest.map fun v => v.category).sum ≤ 8) (hR : My.2.2.2.2.frames + 1 ≤ M.2.2.2.2.frames ∧ 8 + (My.2.2.1 + 11) + My.2.2.2.2.locals ≤ M.2.2.2.2.locals) (d : decode M.1 pc = .ok (.invokestatic index, 3)) (k : ∀ (v : Int32) (w1 : zW), f = some (v, w1) → Tz M inj (F v w1) (pc + 3) lv (.int v :: rest) w1) : Tz M inj (bd f F) pc lv st w := tz_cSN hY hm hS0 hn hst hcat hR d k
theorem tz_cSN_l {host : String} {index : Nat} {f : Option (Int64 × zW)} {F : Int64 → zW → Option (ρ × zW)} (hY : zYS y My n) (hm : Cond.methodLinkNest M.2.1 index y host ∈ lw_tbl) (hS0 : Sm y My zl As w f) (hn : As.length = n) (hst : st = As.reverse ++ rest) (hcat : (rest.map fun v => v.category).sum ≤ 8) (hR : My.2.2.2.2.frames + 1 ≤ M.2.2.2.2.frames ∧ 8 + (My.2.2.1 + 11) + My.2.2.2.2.locals ≤ M.2.2.2.2.locals) (d : decode M.1 pc = .ok (.invokestatic index, 3)) (k : ∀ (v : Int64) (w1 : zW), f = some (v, w1) → Tz M inj (F v w1) (pc + 3) lv (.long v :: rest) w1) : Tz M inj (bd f F) pc lv st w := tz_cSN hY hm hS0 hn hst hcat hR d k
theorem tz_cSN_n {host : String} {index : Nat} {f : Option (Unit × zW)} {F : Unit → zW → Option (ρ × zW)} (hY : zYS y My n) (hm : Cond.methodLinkNest M.2.1 index y host ∈ lw_tbl) (hS0 : Sm y My zn As w f) (hn : As.length = n) (hst : st = As.reverse ++ rest) (hcat : (rest.map fun v => v.category).sum ≤ 8) (hR : My.2.2.2.2.frames + 1 ≤ M.2.2.2.2.frames ∧ 8 + (My.2.2.1 + 11) + My.2.2.2.2.locals ≤ M.2.2.2.2.locals) (d : decode M.1 pc = .ok (.invokestatic index, 3)) (k : ∀ (v : Unit) (w1 : zW), f = some (v, w1) → Tz M inj (F v w1) (pc + 3) lv (rest) w1) : Tz M inj (bd f F) pc lv st w := tz_cSN hY hm hS0 hn hst hcat hR d k
theorem tz_cSN_z {host : String} {index : Nat} {f : Option (Bool × zW)} {F : Bool → zW → Option (ρ × zW)} (hY : zYS y My n) (hm : Cond.methodLinkNest M.2.1 index y host ∈ lw_tbl) (hS0 : Sm y My zz As w f) (hn : As.length = n) (hst : st = As.reverse ++ rest) (hcat : (rest.map fun v => v.category).sum ≤ 8) (hR : My.2.2.2.2.frames + 1 ≤ M.2.2.2.2.frames ∧ 8 + (My.2.2.1 + 11) + My.2.2.2.2.locals ≤ M.2.2.2.2.locals) (d : decode M.1 pc = .ok (.invokestatic index, 3)) (k : ∀ (v : Bool) (w1 : zW), f = some (v, w1) → Tz M inj (F v w1) (pc + 3) lv (.int (zb v) :: rest) w1) : Tz M inj (bd f F) pc lv st w := tz_cSN hY hm hS0 hn hst hcat hR d k
theorem tz_cSN_q {host : String} {index : Nat} {f : Option (Nat × zW)} {F : Nat → zW → Option (ρ × zW)} (hY : zYS y My n) (hm : Cond.methodLinkNest M.2.1 index y host ∈ lw_tbl) (hS0 : Sm y My zq As w f) (hn : As.length = n) (hst : st = As.reverse ++ rest) (hcat : (rest.map fun v => v.category).sum ≤ 8) (hR : My.2.2.2.2.frames + 1 ≤ M.2.2.2.2.frames ∧ 8 + (My.2.2.1 + 11) + My.2.2.2.2.locals ≤ M.2.2.2.2.locals) (d : decode M.1 pc = .ok (.invokestatic index, 3)) (k : ∀ (v : Nat) (w1 : zW), f = some (v, w1) → Tz M inj (F v w1) (pc + 3) lv (.ref v :: rest) w1) : Tz M inj (bd f F) pc lv st w := tz_cSN hY hm hS0 hn hst hcat hR d k
end TC
section TM
variable {ρ : Type} {M : zM} {inj : zEnd ρ} {r : Option (ρ × zW)} {pc : Nat} {lv : List (Nat × Value)} {st : List Value} {w : zW}
theorem tz_mmin_long {index : Nat} {x y : Int64} (h1 : Cond.methodLink M.2.1 index Lib.MathLoose.min_long.x ∈ zTb) (h2 : Cond.static Lib.MathLoose.min_long.x ∈ zTb) (h3 : Cond.initialized "java/lang/Math" ∈ zTb) (h4 : Cond.code Lib.MathLoose.min_long.x Lib.MathLoose.min_long.code 4 (some .long) ∈ zTb) (hf : 1 ≤ M.2.2.2.2.frames) (hlo : (st.map fun v => v.category).sum + 15 ≤ M.2.2.2.2.locals) (d : decode M.1 pc = .ok (.invokestatic index, 3)) (k : Tz M inj r (pc + 3) lv (.long (if y < x then y else x) :: st) w) : Tz M inj r pc lv (.long y :: .long x :: st) w := fun res h p l e s m args below meth c D cA AD A X cells slots hB hE H locs ls hP hS hl => va_mmin_long X.1 X.2.1 (by rw [X.2.2.2.1, hl.1]) X.2.2.2.2.1 (X.2.2.2.2.2.1 _ h1) (X.2.2.2.2.2.1 _ h2) (X.2.2.2.2.2.1 _ h3) (X.2.2.2.2.2.1 _ h4) hf (by have e9 := zes_cat (AD := AD) st; rw [← e9] at hlo; exact hlo) hB.1 hB.2 d (k res h p l e s m args below meth c D cA AD A X cells slots hB hE H locs ls hP hS hl)
theorem tz_mmax_long {index : Nat} {x y : Int64} (h1 : Cond.methodLink M.2.1 index Lib.MathLoose.max_long.x ∈ zTb) (h2 : Cond.static Lib.MathLoose.max_long.x ∈ zTb) (h3 : Cond.initialized "java/lang/Math" ∈ zTb) (h4 : Cond.code Lib.MathLoose.max_long.x Lib.MathLoose.max_long.code 4 (some .long) ∈ zTb) (hf : 1 ≤ M.2.2.2.2.frames) (hlo : (st.map fun v => v.category).sum + 15 ≤ M.2.2.2.2.locals) (d : decode M.1 pc = .ok (.invokestatic index, 3)) (k : Tz M inj r (pc + 3) lv (.long (if y < x then x else y) :: st) w) : Tz M inj r pc lv (.long y :: .long x :: st) w := fun res h p l e s m args below meth c D cA AD A X cells slots hB hE H locs ls hP hS hl => va_mmax_long X.1 X.2.1 (by rw [X.2.2.2.1, hl.1]) X.2.2.2.2.1 (X.2.2.2.2.2.1 _ h1) (X.2.2.2.2.2.1 _ h2) (X.2.2.2.2.2.1 _ h3) (X.2.2.2.2.2.1 _ h4) hf (by have e9 := zes_cat (AD := AD) st; rw [← e9] at hlo; exact hlo) hB.1 hB.2 d (k res h p l e s m args below meth c D cA AD A X cells slots hB hE H locs ls hP hS hl)
theorem tz_mmin {index : Nat} {x y : Int32} (h1 : Cond.methodLink M.2.1 index Lib.Math.min.name ∈ zTb) (h2 : Cond.static Lib.Math.min.name ∈ zTb) (h3 : Cond.initialized "java/lang/Math" ∈ zTb) (h4 : Cond.code Lib.Math.min.name Lib.Math.min.code 2 (some .int) ∈ zTb) (hf : 1 ≤ M.2.2.2.2.frames) (hlo : (st.map fun v => v.category).sum + 13 ≤ M.2.2.2.2.locals) (d : decode M.1 pc = .ok (.invokestatic index, 3)) (k : Tz M inj r (pc + 3) lv (.int (if y < x then y else x) :: st) w) : Tz M inj r pc lv (.int y :: .int x :: st) w := fun res h p l e s m args below meth c D cA AD A X cells slots hB hE H locs ls hP hS hl => va_mmin X.1 X.2.1 (by rw [X.2.2.2.1, hl.1]) X.2.2.2.2.1 (X.2.2.2.2.2.1 _ h1) (X.2.2.2.2.2.1 _ h2) (X.2.2.2.2.2.1 _ h3) (X.2.2.2.2.2.1 _ h4) hf (by have e9 := zes_cat (AD := AD) st; rw [← e9] at hlo; exact hlo) hB.1 hB.2 d (k res h p l e s m args below meth c D cA AD A X cells slots hB hE H locs ls hP hS hl)
theorem tz_mmax {index : Nat} {x y : Int32} (h1 : Cond.methodLink M.2.1 index Lib.Math.max.name ∈ zTb) (h2 : Cond.static Lib.Math.max.name ∈ zTb) (h3 : Cond.initialized "java/lang/Math" ∈ zTb) (h4 : Cond.code Lib.Math.max.name Lib.Math.max.code 2 (some .int) ∈ zTb) (hf : 1 ≤ M.2.2.2.2.frames) (hlo : (st.map fun v => v.category).sum + 13 ≤ M.2.2.2.2.locals) (d : decode M.1 pc = .ok (.invokestatic index, 3)) (k : Tz M inj r (pc + 3) lv (.int (if x < y then y else x) :: st) w) : Tz M inj r pc lv (.int y :: .int x :: st) w := fun res h p l e s m args below meth c D cA AD A X cells slots hB hE H locs ls hP hS hl => va_mmax X.1 X.2.1 (by rw [X.2.2.2.1, hl.1]) X.2.2.2.2.1 (X.2.2.2.2.2.1 _ h1) (X.2.2.2.2.2.1 _ h2) (X.2.2.2.2.2.1 _ h3) (X.2.2.2.2.2.1 _ h4) hf (by have e9 := zes_cat (AD := AD) st; rw [← e9] at hlo; exact hlo) hB.1 hB.2 d (k res h p l e s m args below meth c D cA AD A X cells slots hB hE H locs ls hP hS hl)
end TM
end
section
theorem zTm {L : List Cond} {w : Cond} (hL : ∀ w ∈ L, w ∈ lw_tbl) (i : Nat) (h : L[i]? = some w) (g : goodWord w = true) : w ∈ zTb := List.mem_filter.mpr ⟨hL w (List.mem_of_getElem? h), g⟩
theorem zTa : ∀ w ∈ tables_1, w ∈ lw_tbl := fun _ h => List.mem_append_right _ h
theorem zT1 : ∀ w ∈ tables_1_1, w ∈ lw_tbl := fun w h => zTa w (List.mem_append_left _ h)
theorem zT2 : ∀ w ∈ tables_1_2, w ∈ lw_tbl := fun w h => zTa w (List.mem_append_right _ (List.mem_append_left _ h))
theorem zT3 : ∀ w ∈ tables_1_3, w ∈ lw_tbl := fun w h => zTa w (List.mem_append_right _ (List.mem_append_right _ (List.mem_append_left _ h)))
theorem zT4 : ∀ w ∈ tables_1_4, w ∈ lw_tbl := fun w h => zTa w (List.mem_append_right _ (List.mem_append_right _ (List.mem_append_right _ (List.mem_append_left _ h))))
theorem zT5 : ∀ w ∈ tables_1_5, w ∈ lw_tbl := fun w h => zTa w (List.mem_append_right _ (List.mem_append_right _ (List.mem_append_right _ (List.mem_append_right _ (List.mem_append_left _ h)))))
theorem zT6 : ∀ w ∈ tables_1_6, w ∈ lw_tbl := fun w h => zTa w (List.mem_append_right _ (List.mem_append_right _ (List.mem_append_right _ (List.mem_append_right _ (List.mem_append_right _ (h))))))
theorem zk_iconst_0 : Int32.ofInt (0) = (0 : Int32) := by decide
theorem zk_iconst_1 : Int32.ofInt (1) = (1 : Int32) := by decide
theorem zk_bipush_6 : (Int8.ofInt (6)).toInt32 = (6 : Int32) := by decide
theorem zk_bipush_101 : (Int8.ofInt (101)).toInt32 = (101 : Int32) := by decide
theorem zk_iconst_2 : Int32.ofInt (2) = (2 : Int32) := by decide
theorem zk_bipush_10 : (Int8.ofInt (10)).toInt32 = (10 : Int32) := by decide
theorem zk_bipush_24 : (Int8.ofInt (24)).toInt32 = (24 : Int32) := by decide
theorem zk_iconst_4 : Int32.ofInt (4) = (4 : Int32) := by decide
theorem zk_bipush_15 : (Int8.ofInt (15)).toInt32 = (15 : Int32) := by decide
theorem zk_bipush_100 : (Int8.ofInt (100)).toInt32 = (100 : Int32) := by decide
theorem zk_iconst_3 : Int32.ofInt (3) = (3 : Int32) := by decide
theorem zk_iconst_m1 : Int32.ofInt (-1) = (-1 : Int32) := by decide
theorem zk_iconst_5 : Int32.ofInt (5) = (5 : Int32) := by decide
theorem zk_bipush_30 : (Int8.ofInt (30)).toInt32 = (30 : Int32) := by decide
theorem zk_bipush_20 : (Int8.ofInt (20)).toInt32 = (20 : Int32) := by decide
theorem zk_sipush_10000 : (Int16.ofInt (10000)).toInt32 = (10000 : Int32) := by decide
theorem zk_bipush_64 : (Int8.ofInt (64)).toInt32 = (64 : Int32) := by decide
theorem zk_bipush_47 : (Int8.ofInt (47)).toInt32 = (47 : Int32) := by decide
theorem zk_bipush_48 : (Int8.ofInt (48)).toInt32 = (48 : Int32) := by decide
theorem zk_bipush_57 : (Int8.ofInt (57)).toInt32 = (57 : Int32) := by decide
theorem zk_bipush_102 : (Int8.ofInt (102)).toInt32 = (102 : Int32) := by decide
theorem zk_bipush_98 : (Int8.ofInt (98)).toInt32 = (98 : Int32) := by decide
theorem zk_bipush_70 : (Int8.ofInt (70)).toInt32 = (70 : Int32) := by decide
theorem zk_bipush_66 : (Int8.ofInt (66)).toInt32 = (66 : Int32) := by decide
theorem zk_bipush_114 : (Int8.ofInt (114)).toInt32 = (114 : Int32) := by decide
theorem zk_bipush_32 : (Int8.ofInt (32)).toInt32 = (32 : Int32) := by decide
theorem zk_bipush_7 : (Int8.ofInt (7)).toInt32 = (7 : Int32) := by decide
theorem zk_bipush_m2 : (Int8.ofInt (-2)).toInt32 = (-2 : Int32) := by decide
theorem zk_bipush_m11 : (Int8.ofInt (-11)).toInt32 = (-11 : Int32) := by decide
theorem zk_bipush_m10 : (Int8.ofInt (-10)).toInt32 = (-10 : Int32) := by decide
theorem zk_bipush_m21 : (Int8.ofInt (-21)).toInt32 = (-21 : Int32) := by decide
theorem zk_sipush_9999 : (Int16.ofInt (9999)).toInt32 = (9999 : Int32) := by decide
theorem zk_sipush_128 : (Int16.ofInt (128)).toInt32 = (128 : Int32) := by decide
theorem zk_bipush_m3 : (Int8.ofInt (-3)).toInt32 = (-3 : Int32) := by decide
theorem zk_bipush_m4 : (Int8.ofInt (-4)).toInt32 = (-4 : Int32) := by decide
theorem zk_sipush_255 : (Int16.ofInt (255)).toInt32 = (255 : Int32) := by decide
theorem zk_iconst_m8 : Int32.ofInt (-8) = (-8 : Int32) := by decide
theorem zk_bipush_12 : (Int8.ofInt (12)).toInt32 = (12 : Int32) := by decide
theorem zk_bipush_96 : (Int8.ofInt (96)).toInt32 = (96 : Int32) := by decide
theorem zk_bipush_8 : (Int8.ofInt (8)).toInt32 = (8 : Int32) := by decide
theorem wk_54 : Cond.fieldLink "EndSums$Joining" 18 "EndSums$Joining" "p" "J" ∈ zTb := zTm (L := tables_1_1) zT1 54 rfl rfl
theorem wk_57 : Cond.fieldLink "EndSums$Joining" 22 "EndSums$Joining" "q" "J" ∈ zTb := zTm (L := tables_1_1) zT1 57 rfl rfl
theorem wk_313 : Cond.code yX0_startWith cX0_startWith 5 none ∈ zTb := zTm (L := tables_1_2) zT2 73 rfl rfl
theorem wk_2 : Cond.initialized "EndSums$Joining" ∈ zTb := zTm (L := tables_1_1) zT1 2 rfl rfl
theorem wk_312 : Cond.instanceMethod yX0_startWith ∈ zTb := zTm (L := tables_1_2) zT2 72 rfl rfl
theorem ws_17 : Cond.selects "EndSums$Joining" yX0_startWith yX0_startWith ∈ zTb := zTb_mem 17 rfl rfl
theorem wk_425 : Cond.code yX0_comesTo cX0_comesTo 5 (some .boolean) ∈ zTb := zTm (L := tables_1_2) zT2 185 rfl rfl
theorem wk_424 : Cond.instanceMethod yX0_comesTo ∈ zTb := zTm (L := tables_1_2) zT2 184 rfl rfl
theorem ws_35 : Cond.selects "EndSums$Joining" yX0_comesTo yX0_comesTo ∈ zTb := zTb_mem 35 rfl rfl
theorem wk_51 : Cond.fieldLink "EndSums$Joining" 47 "EndSums$Joining" "kind" "I" ∈ zTb := zTm (L := tables_1_1) zT1 51 rfl rfl
theorem wk_277 : Cond.constantLong "EndSums$Joining" 51 (10000 : Int64) ∈ zTb := zTm (L := tables_1_2) zT2 37 rfl rfl
theorem wk_278 : Cond.constantLong "EndSums$Joining" 53 (-1 : Int64) ∈ zTb := zTm (L := tables_1_2) zT2 38 rfl rfl
theorem wk_52 : Cond.fieldLink "EndSums$Joining" 12 "EndSums$Joining" "table" "LEndSums$Table;" ∈ zTb := zTm (L := tables_1_1) zT1 52 rfl rfl
theorem wn_40 : Cond.fieldLinkNest "EndSums$Joining" 55 "EndSums$Table" "neutral" "I" "EndSums" ∈ lw_tbl := zT1 _ (List.mem_of_getElem? (i := 40) rfl)
theorem wk_276 : Cond.code yX0_emptyP cX0_emptyP 1 (some .long) ∈ zTb := zTm (L := tables_1_2) zT2 36 rfl rfl
theorem wk_275 : Cond.instanceMethod yX0_emptyP ∈ zTb := zTm (L := tables_1_2) zT2 35 rfl rfl
theorem ws_11 : Cond.selects "EndSums$Joining" yX0_emptyP yX0_emptyP ∈ zTb := zTb_mem 11 rfl rfl
theorem wk_285 : Cond.code yX0_emptyQ cX0_emptyQ 1 (some .long) ∈ zTb := zTm (L := tables_1_2) zT2 45 rfl rfl
theorem wk_284 : Cond.instanceMethod yX0_emptyQ ∈ zTb := zTm (L := tables_1_2) zT2 44 rfl rfl
theorem ws_12 : Cond.selects "EndSums$Joining" yX0_emptyQ yX0_emptyQ ∈ zTb := zTb_mem 12 rfl rfl
theorem wk_443 : Cond.methodLink "EndSums$Joining" 25 yX0_emptyP ∈ zTb := zTm (L := tables_1_2) zT2 203 rfl rfl
theorem wk_444 : Cond.methodLink "EndSums$Joining" 29 yX0_emptyQ ∈ zTb := zTm (L := tables_1_2) zT2 204 rfl rfl
theorem wk_310 : Cond.methodLink "EndSums$Joining" 32 yX0_startWith ∈ zTb := zTm (L := tables_1_2) zT2 70 rfl rfl
theorem wk_442 : Cond.code yX0_startEmpty cX0_startEmpty 1 none ∈ zTb := zTm (L := tables_1_2) zT2 202 rfl rfl
theorem wk_441 : Cond.instanceMethod yX0_startEmpty ∈ zTb := zTm (L := tables_1_2) zT2 201 rfl rfl
theorem ws_38 : Cond.selects "EndSums$Joining" yX0_startEmpty yX0_startEmpty ∈ zTb := zTb_mem 38 rfl rfl
theorem wk_35 : Cond.fieldLink "EndSums$Table" 9 "EndSums$Table" "n" "I" ∈ zTb := zTm (L := tables_1_1) zT1 35 rfl rfl
theorem wk_293 : Cond.code yX3_kindOf cX3_kindOf 2 (some .int) ∈ zTb := zTm (L := tables_1_2) zT2 53 rfl rfl
theorem wk_3 : Cond.initialized "EndSums$Table" ∈ zTb := zTm (L := tables_1_1) zT1 3 rfl rfl
theorem wk_292 : Cond.instanceMethod yX3_kindOf ∈ zTb := zTm (L := tables_1_2) zT2 52 rfl rfl
theorem ws_14 : Cond.selects "EndSums$Table" yX3_kindOf yX3_kindOf ∈ zTb := zTb_mem 14 rfl rfl
theorem wn_290 : Cond.methodLinkNest "EndSums$Joining" 58 yX3_kindOf "EndSums" ∈ lw_tbl := zT2 _ (List.mem_of_getElem? (i := 50) rfl)
theorem wk_289 : Cond.code yX0_elementP cX0_elementP 2 (some .long) ∈ zTb := zTm (L := tables_1_2) zT2 49 rfl rfl
theorem wk_288 : Cond.instanceMethod yX0_elementP ∈ zTb := zTm (L := tables_1_2) zT2 48 rfl rfl
theorem ws_13 : Cond.selects "EndSums$Joining" yX0_elementP yX0_elementP ∈ zTb := zTb_mem 13 rfl rfl
theorem wk_301 : Cond.fieldLink "EndSums$Joining" 91 "EndSums$Joining" "ARRANGEMENTS" "[I" ∈ zTb := zTm (L := tables_1_2) zT2 61 rfl rfl
theorem wk_300 : Cond.code yX0_arrangement cX0_arrangement 1 (some .int) ∈ zTb := zTm (L := tables_1_2) zT2 60 rfl rfl
theorem wk_299 : Cond.static yX0_arrangement ∈ zTb := zTm (L := tables_1_2) zT2 59 rfl rfl
theorem wk_305 : Cond.code yX0_leaps cX0_leaps 4 (some .int) ∈ zTb := zTm (L := tables_1_2) zT2 65 rfl rfl
theorem wk_304 : Cond.static yX0_leaps ∈ zTb := zTm (L := tables_1_2) zT2 64 rfl rfl
theorem wk_298 : Cond.methodLink "EndSums$Joining" 62 yX0_arrangement ∈ zTb := zTm (L := tables_1_2) zT2 58 rfl rfl
theorem wk_303 : Cond.methodLink "EndSums$Joining" 65 yX0_leaps ∈ zTb := zTm (L := tables_1_2) zT2 63 rfl rfl
theorem wk_297 : Cond.code yX0_elementQ cX0_elementQ 2 (some .long) ∈ zTb := zTm (L := tables_1_2) zT2 57 rfl rfl
theorem wk_296 : Cond.instanceMethod yX0_elementQ ∈ zTb := zTm (L := tables_1_2) zT2 56 rfl rfl
theorem ws_15 : Cond.selects "EndSums$Joining" yX0_elementQ yX0_elementQ ∈ zTb := zTb_mem 15 rfl rfl
theorem wk_415 : Cond.methodLink "EndSums$Joining" 36 yX0_elementP ∈ zTb := zTm (L := tables_1_2) zT2 175 rfl rfl
theorem wk_416 : Cond.methodLink "EndSums$Joining" 40 yX0_elementQ ∈ zTb := zTm (L := tables_1_2) zT2 176 rfl rfl
theorem wk_414 : Cond.code yX0_start cX0_start 2 none ∈ zTb := zTm (L := tables_1_2) zT2 174 rfl rfl
theorem wk_413 : Cond.instanceMethod yX0_start ∈ zTb := zTm (L := tables_1_2) zT2 173 rfl rfl
theorem ws_33 : Cond.selects "EndSums$Joining" yX0_start yX0_start ∈ zTb := zTb_mem 33 rfl rfl
theorem wk_322 : Cond.code yX0_greatestDivisor cX0_greatestDivisor 11 (some .long) ∈ zTb := zTm (L := tables_1_2) zT2 82 rfl rfl
theorem wk_321 : Cond.static yX0_greatestDivisor ∈ zTb := zTm (L := tables_1_2) zT2 81 rfl rfl
theorem wk_326 : Cond.code yX0_arranged cX0_arranged 5 (some .int) ∈ zTb := zTm (L := tables_1_2) zT2 86 rfl rfl
theorem wk_325 : Cond.static yX0_arranged ∈ zTb := zTm (L := tables_1_2) zT2 85 rfl rfl
theorem wk_41 : Cond.fieldLink "EndSums$Table" 15 "EndSums$Table" "entries" "[I" ∈ zTb := zTm (L := tables_1_1) zT1 41 rfl rfl
theorem wk_331 : Cond.code yX3_entry cX3_entry 4 (some .int) ∈ zTb := zTm (L := tables_1_2) zT2 91 rfl rfl
theorem wk_330 : Cond.instanceMethod yX3_entry ∈ zTb := zTm (L := tables_1_2) zT2 90 rfl rfl
theorem ws_18 : Cond.selects "EndSums$Table" yX3_entry yX3_entry ∈ zTb := zTb_mem 18 rfl rfl
theorem wk_314 : Cond.methodLink "EndSums$Joining" 68 Lib.MathLoose.min_long.x ∈ zTb := zTm (L := tables_1_2) zT2 74 rfl rfl
theorem wk_315 : Cond.static Lib.MathLoose.min_long.x ∈ zTb := zTm (L := tables_1_2) zT2 75 rfl rfl
theorem wk_10 : Cond.initialized "java/lang/Math" ∈ zTb := zTm (L := tables_1_1) zT1 10 rfl rfl
theorem wk_316 : Cond.code Lib.MathLoose.min_long.x Lib.MathLoose.min_long.code 4 (some .long) ∈ zTb := zTm (L := tables_1_2) zT2 76 rfl rfl
theorem wk_317 : Cond.methodLink "EndSums$Joining" 74 Lib.MathLoose.max_long.x ∈ zTb := zTm (L := tables_1_2) zT2 77 rfl rfl
theorem wk_318 : Cond.static Lib.MathLoose.max_long.x ∈ zTb := zTm (L := tables_1_2) zT2 78 rfl rfl
theorem wk_319 : Cond.code Lib.MathLoose.max_long.x Lib.MathLoose.max_long.code 4 (some .long) ∈ zTb := zTm (L := tables_1_2) zT2 79 rfl rfl
theorem wk_320 : Cond.methodLink "EndSums$Joining" 77 yX0_greatestDivisor ∈ zTb := zTm (L := tables_1_2) zT2 80 rfl rfl
theorem wk_323 : Cond.constantLong "EndSums$Joining" 80 (101 : Int64) ∈ zTb := zTm (L := tables_1_2) zT2 83 rfl rfl
theorem wk_324 : Cond.methodLink "EndSums$Joining" 82 yX0_arranged ∈ zTb := zTm (L := tables_1_2) zT2 84 rfl rfl
theorem wk_327 : Cond.constantLong "EndSums$Joining" 86 (2 : Int64) ∈ zTb := zTm (L := tables_1_2) zT2 87 rfl rfl
theorem wn_328 : Cond.methodLinkNest "EndSums$Joining" 88 yX3_entry "EndSums" ∈ lw_tbl := zT2 _ (List.mem_of_getElem? (i := 88) rfl)
theorem wk_309 : Cond.code yX0_join cX0_join 11 none ∈ zTb := zTm (L := tables_1_2) zT2 69 rfl rfl
theorem wk_308 : Cond.instanceMethod yX0_join ∈ zTb := zTm (L := tables_1_2) zT2 68 rfl rfl
theorem ws_16 : Cond.selects "EndSums$Joining" yX0_join yX0_join ∈ zTb := zTb_mem 16 rfl rfl
theorem wk_421 : Cond.methodLink "EndSums$Joining" 43 yX0_join ∈ zTb := zTm (L := tables_1_2) zT2 181 rfl rfl
theorem wk_420 : Cond.code yX0_follow cX0_follow 2 none ∈ zTb := zTm (L := tables_1_2) zT2 180 rfl rfl
theorem wk_419 : Cond.instanceMethod yX0_follow ∈ zTb := zTm (L := tables_1_2) zT2 179 rfl rfl
theorem ws_34 : Cond.selects "EndSums$Joining" yX0_follow yX0_follow ∈ zTb := zTb_mem 34 rfl rfl
theorem wk_439 : Cond.methodLink "EndSums$Joining" 95 yX0_startEmpty ∈ zTb := zTm (L := tables_1_2) zT2 199 rfl rfl
theorem wk_446 : Cond.methodLink "EndSums$Joining" 102 yX0_follow ∈ zTb := zTm (L := tables_1_2) zT2 206 rfl rfl
theorem wk_445 : Cond.methodLink "EndSums$Joining" 98 yX0_start ∈ zTb := zTm (L := tables_1_2) zT2 205 rfl rfl
theorem wk_438 : Cond.code yX0_power cX0_power 6 (some .int) ∈ zTb := zTm (L := tables_1_2) zT2 198 rfl rfl
theorem wk_437 : Cond.instanceMethod yX0_power ∈ zTb := zTm (L := tables_1_2) zT2 197 rfl rfl
theorem ws_37 : Cond.selects "EndSums$Joining" yX0_power yX0_power ∈ zTb := zTb_mem 37 rfl rfl
theorem wn_37 : Cond.fieldLinkNest "EndSums$Joining" 105 "EndSums$Table" "n" "I" "EndSums" ∈ lw_tbl := zT1 _ (List.mem_of_getElem? (i := 37) rfl)
theorem wk_473 : Cond.code yX0_unlikeItems cX0_unlikeItems 1 (some .int) ∈ zTb := zTm (L := tables_1_2) zT2 233 rfl rfl
theorem wk_472 : Cond.instanceMethod yX0_unlikeItems ∈ zTb := zTm (L := tables_1_2) zT2 232 rfl rfl
theorem ws_42 : Cond.selects "EndSums$Joining" yX0_unlikeItems yX0_unlikeItems ∈ zTb := zTb_mem 42 rfl rfl
theorem wk_478 : Cond.methodLink "EndSums$Joining" 108 yX0_comesTo ∈ zTb := zTm (L := tables_1_2) zT2 238 rfl rfl
theorem wk_477 : Cond.code yX0_undo cX0_undo 3 (some .boolean) ∈ zTb := zTm (L := tables_1_2) zT2 237 rfl rfl
theorem wk_476 : Cond.instanceMethod yX0_undo ∈ zTb := zTm (L := tables_1_2) zT2 236 rfl rfl
theorem ws_43 : Cond.selects "EndSums$Joining" yX0_undo yX0_undo ∈ zTb := zTb_mem 43 rfl rfl
theorem wk_130 : Cond.fieldLink "EndSums$Line" 12 "EndSums$Line" "front" "LEndSums$Pile;" ∈ zTb := zTm (L := tables_1_1) zT1 130 rfl rfl
theorem wn_105 : Cond.fieldLinkNest "EndSums$Line" 21 "EndSums$Pile" "size" "I" "EndSums" ∈ lw_tbl := zT1 _ (List.mem_of_getElem? (i := 105) rfl)
theorem wk_133 : Cond.fieldLink "EndSums$Line" 18 "EndSums$Line" "back" "LEndSums$Pile;" ∈ zTb := zTm (L := tables_1_1) zT1 133 rfl rfl
theorem wk_241 : Cond.code yX1_size cX1_size 1 (some .int) ∈ zTb := zTm (L := tables_1_2) zT2 1 rfl rfl
theorem wk_5 : Cond.initialized "EndSums$Line" ∈ zTb := zTm (L := tables_1_1) zT1 5 rfl rfl
theorem wk_240 : Cond.instanceMethod yX1_size ∈ zTb := zTm (L := tables_1_2) zT2 0 rfl rfl
theorem ws_4 : Cond.selects "EndSums$Line" yX1_size yX1_size ∈ zTb := zTb_mem 4 rfl rfl
theorem wk_253 : Cond.code yX1_pile cX1_pile 2 (some (.object "EndSums$Pile")) ∈ zTb := zTm (L := tables_1_2) zT2 13 rfl rfl
theorem wk_252 : Cond.instanceMethod yX1_pile ∈ zTb := zTm (L := tables_1_2) zT2 12 rfl rfl
theorem ws_7 : Cond.selects "EndSums$Line" yX1_pile yX1_pile ∈ zTb := zTb_mem 7 rfl rfl
theorem wk_249 : Cond.code yX1_endOf cX1_endOf 2 (some .int) ∈ zTb := zTm (L := tables_1_2) zT2 9 rfl rfl
theorem wk_248 : Cond.instanceMethod yX1_endOf ∈ zTb := zTm (L := tables_1_2) zT2 8 rfl rfl
theorem ws_6 : Cond.selects "EndSums$Line" yX1_endOf yX1_endOf ∈ zTb := zTb_mem 6 rfl rfl
theorem wk_257 : Cond.code yX1_heightOf cX1_heightOf 2 (some .int) ∈ zTb := zTm (L := tables_1_2) zT2 17 rfl rfl
theorem wk_256 : Cond.instanceMethod yX1_heightOf ∈ zTb := zTm (L := tables_1_2) zT2 16 rfl rfl
theorem ws_8 : Cond.selects "EndSums$Line" yX1_heightOf yX1_heightOf ∈ zTb := zTb_mem 8 rfl rfl
theorem wk_260 : Cond.code yX7_at cX7_at 2 (some .int) ∈ zTb := zTm (L := tables_1_2) zT2 20 rfl rfl
theorem wk_1 : Cond.initialized "EndSums" ∈ zTb := zTm (L := tables_1_1) zT1 1 rfl rfl
theorem wk_259 : Cond.static yX7_at ∈ zTb := zTm (L := tables_1_2) zT2 19 rfl rfl
theorem wk_246 : Cond.methodLink "EndSums$Line" 25 yX1_endOf ∈ zTb := zTm (L := tables_1_2) zT2 6 rfl rfl
theorem wk_250 : Cond.methodLink "EndSums$Line" 29 yX1_pile ∈ zTb := zTm (L := tables_1_2) zT2 10 rfl rfl
theorem wn_108 : Cond.fieldLinkNest "EndSums$Line" 33 "EndSums$Pile" "items" "[I" "EndSums" ∈ lw_tbl := zT1 _ (List.mem_of_getElem? (i := 108) rfl)
theorem wk_254 : Cond.methodLink "EndSums$Line" 37 yX1_heightOf ∈ zTb := zTm (L := tables_1_2) zT2 14 rfl rfl
theorem wn_258 : Cond.methodLinkNest "EndSums$Line" 40 yX7_at "EndSums" ∈ lw_tbl := zT2 _ (List.mem_of_getElem? (i := 18) rfl)
theorem wk_245 : Cond.code yX1_itemAt cX1_itemAt 2 (some .int) ∈ zTb := zTm (L := tables_1_2) zT2 5 rfl rfl
theorem wk_244 : Cond.instanceMethod yX1_itemAt ∈ zTb := zTm (L := tables_1_2) zT2 4 rfl rfl
theorem ws_5 : Cond.selects "EndSums$Line" yX1_itemAt yX1_itemAt ∈ zTb := zTb_mem 5 rfl rfl
theorem wn_117 : Cond.fieldLinkNest "EndSums$Line" 44 "EndSums$Pile" "marks" "[I" "EndSums" ∈ lw_tbl := zT1 _ (List.mem_of_getElem? (i := 117) rfl)
theorem wk_699 : Cond.code yX1_markOf cX1_markOf 2 (some .int) ∈ zTb := zTm (L := tables_1_3) zT3 219 rfl rfl
theorem wk_698 : Cond.instanceMethod yX1_markOf ∈ zTb := zTm (L := tables_1_3) zT3 218 rfl rfl
theorem ws_66 : Cond.selects "EndSums$Line" yX1_markOf yX1_markOf ∈ zTb := zTb_mem 66 rfl rfl
theorem wk_281 : Cond.code yX7_at_ cX7_at_ 2 (some .long) ∈ zTb := zTm (L := tables_1_2) zT2 41 rfl rfl
theorem wk_280 : Cond.static yX7_at_ ∈ zTb := zTm (L := tables_1_2) zT2 40 rfl rfl
theorem wk_263 : Cond.code yX7_set cX7_set 3 none ∈ zTb := zTm (L := tables_1_2) zT2 23 rfl rfl
theorem wk_262 : Cond.static yX7_set ∈ zTb := zTm (L := tables_1_2) zT2 22 rfl rfl
theorem wk_339 : Cond.code yX7_set_ cX7_set_ 4 none ∈ zTb := zTm (L := tables_1_2) zT2 99 rfl rfl
theorem wk_338 : Cond.static yX7_set_ ∈ zTb := zTm (L := tables_1_2) zT2 98 rfl rfl
theorem wk_104 : Cond.fieldLink "EndSums$Pile" 25 "EndSums$Pile" "size" "I" ∈ zTb := zTm (L := tables_1_1) zT1 104 rfl rfl
theorem wk_107 : Cond.fieldLink "EndSums$Pile" 9 "EndSums$Pile" "items" "[I" ∈ zTb := zTm (L := tables_1_1) zT1 107 rfl rfl
theorem wn_336 : Cond.methodLinkNest "EndSums$Pile" 29 yX7_set "EndSums" ∈ lw_tbl := zT2 _ (List.mem_of_getElem? (i := 96) rfl)
theorem wk_110 : Cond.fieldLink "EndSums$Pile" 15 "EndSums$Pile" "ps" "[J" ∈ zTb := zTm (L := tables_1_1) zT1 110 rfl rfl
theorem wn_337 : Cond.methodLinkNest "EndSums$Pile" 33 yX7_set_ "EndSums" ∈ lw_tbl := zT2 _ (List.mem_of_getElem? (i := 97) rfl)
theorem wk_113 : Cond.fieldLink "EndSums$Pile" 19 "EndSums$Pile" "qs" "[J" ∈ zTb := zTm (L := tables_1_1) zT1 113 rfl rfl
theorem wk_116 : Cond.fieldLink "EndSums$Pile" 22 "EndSums$Pile" "marks" "[I" ∈ zTb := zTm (L := tables_1_1) zT1 116 rfl rfl
theorem wk_335 : Cond.code yX2_grow cX2_grow 7 none ∈ zTb := zTm (L := tables_1_2) zT2 95 rfl rfl
theorem wk_6 : Cond.initialized "EndSums$Pile" ∈ zTb := zTm (L := tables_1_1) zT1 6 rfl rfl
theorem wk_334 : Cond.instanceMethod yX2_grow ∈ zTb := zTm (L := tables_1_2) zT2 94 rfl rfl
theorem ws_19 : Cond.selects "EndSums$Pile" yX2_grow yX2_grow ∈ zTb := zTb_mem 19 rfl rfl
theorem wn_512 : Cond.methodLinkNest "EndSums$Pile" 36 yX7_at "EndSums" ∈ lw_tbl := zT3 _ (List.mem_of_getElem? (i := 32) rfl)
theorem wn_513 : Cond.methodLinkNest "EndSums$Pile" 40 yX7_at_ "EndSums" ∈ lw_tbl := zT3 _ (List.mem_of_getElem? (i := 33) rfl)
theorem wk_514 : Cond.methodLink "EndSums$Pile" 43 yX2_grow ∈ zTb := zTm (L := tables_1_3) zT3 34 rfl rfl
theorem wk_511 : Cond.code yX2_become cX2_become 3 none ∈ zTb := zTm (L := tables_1_3) zT3 31 rfl rfl
theorem wk_510 : Cond.instanceMethod yX2_become ∈ zTb := zTm (L := tables_1_3) zT3 30 rfl rfl
theorem ws_47 : Cond.selects "EndSums$Pile" yX2_become yX2_become ∈ zTb := zTb_mem 47 rfl rfl
theorem wn_508 : Cond.methodLinkNest "EndSums$Line" 47 yX2_become "EndSums" ∈ lw_tbl := zT3 _ (List.mem_of_getElem? (i := 28) rfl)
theorem wk_507 : Cond.code yX1_become cX1_become 2 none ∈ zTb := zTm (L := tables_1_3) zT3 27 rfl rfl
theorem wk_506 : Cond.instanceMethod yX1_become ∈ zTb := zTm (L := tables_1_3) zT3 26 rfl rfl
theorem ws_46 : Cond.selects "EndSums$Line" yX1_become yX1_become ∈ zTb := zTb_mem 46 rfl rfl
theorem wk_707 : Cond.code yX2_has cX2_has 3 (some .boolean) ∈ zTb := zTm (L := tables_1_3) zT3 227 rfl rfl
theorem wk_706 : Cond.instanceMethod yX2_has ∈ zTb := zTm (L := tables_1_3) zT3 226 rfl rfl
theorem ws_68 : Cond.selects "EndSums$Pile" yX2_has yX2_has ∈ zTb := zTb_mem 68 rfl rfl
theorem wn_704 : Cond.methodLinkNest "EndSums$Line" 51 yX2_has "EndSums" ∈ lw_tbl := zT3 _ (List.mem_of_getElem? (i := 224) rfl)
theorem wk_703 : Cond.code yX1_hasCell cX1_hasCell 4 (some .boolean) ∈ zTb := zTm (L := tables_1_3) zT3 223 rfl rfl
theorem wk_702 : Cond.instanceMethod yX1_hasCell ∈ zTb := zTm (L := tables_1_3) zT3 222 rfl rfl
theorem ws_67 : Cond.selects "EndSums$Line" yX1_hasCell yX1_hasCell ∈ zTb := zTb_mem 67 rfl rfl
theorem wk_695 : Cond.methodLink "EndSums$Line" 55 yX1_size ∈ zTb := zTm (L := tables_1_3) zT3 215 rfl rfl
theorem wk_696 : Cond.methodLink "EndSums$Line" 58 yX1_markOf ∈ zTb := zTm (L := tables_1_3) zT3 216 rfl rfl
theorem wk_700 : Cond.methodLink "EndSums$Line" 61 yX1_hasCell ∈ zTb := zTm (L := tables_1_3) zT3 220 rfl rfl
theorem wk_694 : Cond.code yX1_cellsSharedWith cX1_cellsSharedWith 4 (some .int) ∈ zTb := zTm (L := tables_1_3) zT3 214 rfl rfl
theorem wk_693 : Cond.instanceMethod yX1_cellsSharedWith ∈ zTb := zTm (L := tables_1_3) zT3 213 rfl rfl
theorem ws_65 : Cond.selects "EndSums$Line" yX1_cellsSharedWith yX1_cellsSharedWith ∈ zTb := zTb_mem 65 rfl rfl
theorem wk_712 : Cond.methodLink "EndSums$Line" 65 yX1_itemAt ∈ zTb := zTm (L := tables_1_3) zT3 232 rfl rfl
theorem wk_711 : Cond.code yX1_hasItemsOf cX1_hasItemsOf 4 (some .boolean) ∈ zTb := zTm (L := tables_1_3) zT3 231 rfl rfl
theorem wk_710 : Cond.instanceMethod yX1_hasItemsOf ∈ zTb := zTm (L := tables_1_3) zT3 230 rfl rfl
theorem ws_69 : Cond.selects "EndSums$Line" yX1_hasItemsOf yX1_hasItemsOf ∈ zTb := zTb_mem 69 rfl rfl
theorem wk_39 : Cond.fieldLink "EndSums$Table" 19 "EndSums$Table" "neutral" "I" ∈ zTb := zTm (L := tables_1_1) zT1 39 rfl rfl
theorem wn_403 : Cond.methodLinkNest "EndSums$Table" 22 yX7_at "EndSums" ∈ lw_tbl := zT2 _ (List.mem_of_getElem? (i := 163) rfl)
theorem wn_373 : Cond.methodLinkNest "EndSums$Table" 26 yX7_set "EndSums" ∈ lw_tbl := zT2 _ (List.mem_of_getElem? (i := 133) rfl)
theorem wk_402 : Cond.code yX3_become cX3_become 3 none ∈ zTb := zTm (L := tables_1_2) zT2 162 rfl rfl
theorem wk_401 : Cond.instanceMethod yX3_become ∈ zTb := zTm (L := tables_1_2) zT2 161 rfl rfl
theorem ws_32 : Cond.selects "EndSums$Table" yX3_become yX3_become ∈ zTb := zTb_mem 32 rfl rfl
theorem wk_149 : Cond.fieldLink "EndSums$Text" 15 "EndSums$Text" "length" "I" ∈ zTb := zTm (L := tables_1_1) zT1 149 rfl rfl
theorem wk_151 : Cond.fieldLink "EndSums$Text" 9 "EndSums$Text" "signs" "[I" ∈ zTb := zTm (L := tables_1_1) zT1 151 rfl rfl
theorem wn_352 : Cond.methodLinkNest "EndSums$Text" 23 yX7_at "EndSums" ∈ lw_tbl := zT2 _ (List.mem_of_getElem? (i := 112) rfl)
theorem wk_351 : Cond.code yX5_firstRow cX5_firstRow 2 (some .int) ∈ zTb := zTm (L := tables_1_2) zT2 111 rfl rfl
theorem wk_7 : Cond.initialized "EndSums$Text" ∈ zTb := zTm (L := tables_1_1) zT1 7 rfl rfl
theorem wk_350 : Cond.instanceMethod yX5_firstRow ∈ zTb := zTm (L := tables_1_2) zT2 110 rfl rfl
theorem ws_21 : Cond.selects "EndSums$Text" yX5_firstRow yX5_firstRow ∈ zTb := zTb_mem 21 rfl rfl
theorem wk_372 : Cond.code yX5_signAt cX5_signAt 2 (some .int) ∈ zTb := zTm (L := tables_1_2) zT2 132 rfl rfl
theorem wk_371 : Cond.instanceMethod yX5_signAt ∈ zTb := zTm (L := tables_1_2) zT2 131 rfl rfl
theorem ws_25 : Cond.selects "EndSums$Text" yX5_signAt yX5_signAt ∈ zTb := zTb_mem 25 rfl rfl
theorem wk_378 : Cond.methodLink "EndSums$Table" 43 yX3_entry ∈ zTb := zTm (L := tables_1_2) zT2 138 rfl rfl
theorem wk_377 : Cond.code yX3_neutralOne cX3_neutralOne 4 (some .int) ∈ zTb := zTm (L := tables_1_2) zT2 137 rfl rfl
theorem wk_376 : Cond.instanceMethod yX3_neutralOne ∈ zTb := zTm (L := tables_1_2) zT2 136 rfl rfl
theorem ws_26 : Cond.selects "EndSums$Table" yX3_neutralOne yX3_neutralOne ∈ zTb := zTb_mem 26 rfl rfl
theorem wn_368 : Cond.methodLinkNest "EndSums$Table" 30 yX5_firstRow "EndSums" ∈ lw_tbl := zT2 _ (List.mem_of_getElem? (i := 128) rfl)
theorem wk_374 : Cond.methodLink "EndSums$Table" 40 yX3_neutralOne ∈ zTb := zTm (L := tables_1_2) zT2 134 rfl rfl
theorem wn_369 : Cond.methodLinkNest "EndSums$Table" 36 yX5_signAt "EndSums" ∈ lw_tbl := zT2 _ (List.mem_of_getElem? (i := 129) rfl)
theorem wk_367 : Cond.code yX3_read cX3_read 4 none ∈ zTb := zTm (L := tables_1_2) zT2 127 rfl rfl
theorem wk_366 : Cond.instanceMethod yX3_read ∈ zTb := zTm (L := tables_1_2) zT2 126 rfl rfl
theorem ws_24 : Cond.selects "EndSums$Table" yX3_read yX3_read ∈ zTb := zTb_mem 24 rfl rfl
theorem wk_382 : Cond.code yX3_firstNotAlike cX3_firstNotAlike 4 (some .int) ∈ zTb := zTm (L := tables_1_2) zT2 142 rfl rfl
theorem wk_381 : Cond.instanceMethod yX3_firstNotAlike ∈ zTb := zTm (L := tables_1_2) zT2 141 rfl rfl
theorem ws_27 : Cond.selects "EndSums$Table" yX3_firstNotAlike yX3_firstNotAlike ∈ zTb := zTb_mem 27 rfl rfl
theorem wk_668 : Cond.code yX4_cost cX4_cost 4 (some .int) ∈ zTb := zTm (L := tables_1_3) zT3 188 rfl rfl
theorem wk_8 : Cond.initialized "EndSums$Takings" ∈ zTb := zTm (L := tables_1_1) zT1 8 rfl rfl
theorem wk_667 : Cond.static yX4_cost ∈ zTb := zTm (L := tables_1_3) zT3 187 rfl rfl
theorem wk_671 : Cond.code yX4_frontBehind cX4_frontBehind 5 (some .int) ∈ zTb := zTm (L := tables_1_3) zT3 191 rfl rfl
theorem wk_670 : Cond.static yX4_frontBehind ∈ zTb := zTm (L := tables_1_3) zT3 190 rfl rfl
theorem wk_666 : Cond.methodLink "EndSums$Takings" 24 yX4_cost ∈ zTb := zTm (L := tables_1_3) zT3 186 rfl rfl
theorem wk_669 : Cond.methodLink "EndSums$Takings" 28 yX4_frontBehind ∈ zTb := zTm (L := tables_1_3) zT3 189 rfl rfl
theorem wk_665 : Cond.code yX4_drain cX4_drain 5 (some .int) ∈ zTb := zTm (L := tables_1_3) zT3 185 rfl rfl
theorem wk_664 : Cond.static yX4_drain ∈ zTb := zTm (L := tables_1_3) zT3 184 rfl rfl
theorem wk_739 : Cond.code yX4_forget cX4_forget 2 none ∈ zTb := zTm (L := tables_1_4) zT4 19 rfl rfl
theorem wk_738 : Cond.static yX4_forget ∈ zTb := zTm (L := tables_1_4) zT4 18 rfl rfl
theorem wk_163 : Cond.fieldLink "EndSums$Takings" 9 "EndSums$Takings" "costs" "[I" ∈ zTb := zTm (L := tables_1_1) zT1 163 rfl rfl
theorem wn_741 : Cond.methodLinkNest "EndSums$Takings" 39 yX7_at "EndSums" ∈ lw_tbl := zT4 _ (List.mem_of_getElem? (i := 21) rfl)
theorem wk_164 : Cond.fieldLink "EndSums$Takings" 15 "EndSums$Takings" "ends" "[I" ∈ zTb := zTm (L := tables_1_1) zT1 164 rfl rfl
theorem wk_165 : Cond.fieldLink "EndSums$Takings" 18 "EndSums$Takings" "nextCosts" "[I" ∈ zTb := zTm (L := tables_1_1) zT1 165 rfl rfl
theorem wn_740 : Cond.methodLinkNest "EndSums$Takings" 35 yX7_set "EndSums" ∈ lw_tbl := zT4 _ (List.mem_of_getElem? (i := 20) rfl)
theorem wk_166 : Cond.fieldLink "EndSums$Takings" 21 "EndSums$Takings" "nextEnds" "[I" ∈ zTb := zTm (L := tables_1_1) zT1 166 rfl rfl
theorem wk_745 : Cond.code yX4_offer cX4_offer 8 none ∈ zTb := zTm (L := tables_1_4) zT4 25 rfl rfl
theorem wk_744 : Cond.instanceMethod yX4_offer ∈ zTb := zTm (L := tables_1_4) zT4 24 rfl rfl
theorem ws_72 : Cond.selects "EndSums$Takings" yX4_offer yX4_offer ∈ zTb := zTb_mem 72 rfl rfl
theorem wk_749 : Cond.code yX4_swap cX4_swap 3 none ∈ zTb := zTm (L := tables_1_4) zT4 29 rfl rfl
theorem wk_748 : Cond.instanceMethod yX4_swap ∈ zTb := zTm (L := tables_1_4) zT4 28 rfl rfl
theorem ws_73 : Cond.selects "EndSums$Takings" yX4_swap yX4_swap ∈ zTb := zTb_mem 73 rfl rfl
theorem wk_167 : Cond.fieldLink "EndSums$Takings" 54 "EndSums$Takings" "dearestCost" "I" ∈ zTb := zTm (L := tables_1_1) zT1 167 rfl rfl
theorem wk_169 : Cond.fieldLink "EndSums$Takings" 58 "EndSums$Takings" "dearestEnds" "I" ∈ zTb := zTm (L := tables_1_1) zT1 169 rfl rfl
theorem wk_753 : Cond.code yX4_choose cX4_choose 4 none ∈ zTb := zTm (L := tables_1_4) zT4 33 rfl rfl
theorem wk_752 : Cond.instanceMethod yX4_choose ∈ zTb := zTm (L := tables_1_4) zT4 32 rfl rfl
theorem ws_74 : Cond.selects "EndSums$Takings" yX4_choose yX4_choose ∈ zTb := zTb_mem 74 rfl rfl
theorem wk_737 : Cond.methodLink "EndSums$Takings" 31 yX4_forget ∈ zTb := zTm (L := tables_1_4) zT4 17 rfl rfl
theorem wk_750 : Cond.methodLink "EndSums$Takings" 50 yX4_choose ∈ zTb := zTm (L := tables_1_4) zT4 30 rfl rfl
theorem wk_746 : Cond.methodLink "EndSums$Takings" 47 yX4_swap ∈ zTb := zTm (L := tables_1_4) zT4 26 rfl rfl
theorem wk_742 : Cond.methodLink "EndSums$Takings" 43 yX4_offer ∈ zTb := zTm (L := tables_1_4) zT4 22 rfl rfl
theorem wk_736 : Cond.code yX4_seek cX4_seek 6 none ∈ zTb := zTm (L := tables_1_4) zT4 16 rfl rfl
theorem wk_735 : Cond.instanceMethod yX4_seek ∈ zTb := zTm (L := tables_1_4) zT4 15 rfl rfl
theorem ws_71 : Cond.selects "EndSums$Takings" yX4_seek yX4_seek ∈ zTb := zTb_mem 71 rfl rfl
theorem wn_609 : Cond.methodLinkNest "EndSums$Text" 19 yX7_set "EndSums" ∈ lw_tbl := zT3 _ (List.mem_of_getElem? (i := 129) rfl)
theorem wk_608 : Cond.code yX5_grow cX5_grow 2 none ∈ zTb := zTm (L := tables_1_3) zT3 128 rfl rfl
theorem wk_607 : Cond.instanceMethod yX5_grow ∈ zTb := zTm (L := tables_1_3) zT3 127 rfl rfl
theorem ws_58 : Cond.selects "EndSums$Text" yX5_grow yX5_grow ∈ zTb := zTb_mem 58 rfl rfl
theorem wk_360 : Cond.code yX5_signOrBehind cX5_signOrBehind 2 (some .int) ∈ zTb := zTm (L := tables_1_2) zT2 120 rfl rfl
theorem wk_359 : Cond.instanceMethod yX5_signOrBehind ∈ zTb := zTm (L := tables_1_2) zT2 119 rfl rfl
theorem ws_23 : Cond.selects "EndSums$Text" yX5_signOrBehind yX5_signOrBehind ∈ zTb := zTb_mem 23 rfl rfl
theorem wk_590 : Cond.code yX5_isDigit cX5_isDigit 1 (some .boolean) ∈ zTb := zTm (L := tables_1_3) zT3 110 rfl rfl
theorem wk_589 : Cond.static yX5_isDigit ∈ zTb := zTm (L := tables_1_3) zT3 109 rfl rfl
theorem wk_357 : Cond.methodLink "EndSums$Text" 35 yX5_signOrBehind ∈ zTb := zTm (L := tables_1_2) zT2 117 rfl rfl
theorem wk_361 : Cond.methodLink "EndSums$Text" 39 Lib.Math.min.name ∈ zTb := zTm (L := tables_1_2) zT2 121 rfl rfl
theorem wk_362 : Cond.static Lib.Math.min.name ∈ zTb := zTm (L := tables_1_2) zT2 122 rfl rfl
theorem wk_363 : Cond.code Lib.Math.min.name Lib.Math.min.code 2 (some .int) ∈ zTb := zTm (L := tables_1_2) zT2 123 rfl rfl
theorem wk_356 : Cond.code yX5_fitsTable cX5_fitsTable 6 (some .boolean) ∈ zTb := zTm (L := tables_1_2) zT2 116 rfl rfl
theorem wk_355 : Cond.instanceMethod yX5_fitsTable ∈ zTb := zTm (L := tables_1_2) zT2 115 rfl rfl
theorem ws_22 : Cond.selects "EndSums$Text" yX5_fitsTable yX5_fitsTable ∈ zTb := zTb_mem 22 rfl rfl
theorem wk_348 : Cond.methodLink "EndSums$Text" 27 yX5_firstRow ∈ zTb := zTm (L := tables_1_2) zT2 108 rfl rfl
theorem wk_353 : Cond.methodLink "EndSums$Text" 31 yX5_fitsTable ∈ zTb := zTm (L := tables_1_2) zT2 113 rfl rfl
theorem wk_347 : Cond.code yX5_firstWrongInTable cX5_firstWrongInTable 3 (some .int) ∈ zTb := zTm (L := tables_1_2) zT2 107 rfl rfl
theorem wk_346 : Cond.instanceMethod yX5_firstWrongInTable ∈ zTb := zTm (L := tables_1_2) zT2 106 rfl rfl
theorem ws_20 : Cond.selects "EndSums$Text" yX5_firstWrongInTable yX5_firstWrongInTable ∈ zTb := zTb_mem 20 rfl rfl
theorem wk_579 : Cond.methodLink "EndSums$Text" 45 yX5_signAt ∈ zTb := zTm (L := tables_1_3) zT3 99 rfl rfl
theorem wk_583 : Cond.code yX5_isAct cX5_isAct 3 (some .boolean) ∈ zTb := zTm (L := tables_1_3) zT3 103 rfl rfl
theorem wk_582 : Cond.instanceMethod yX5_isAct ∈ zTb := zTm (L := tables_1_3) zT3 102 rfl rfl
theorem ws_54 : Cond.selects "EndSums$Text" yX5_isAct yX5_isAct ∈ zTb := zTb_mem 54 rfl rfl
theorem wk_578 : Cond.code yX5_isPut cX5_isPut 3 (some .boolean) ∈ zTb := zTm (L := tables_1_3) zT3 98 rfl rfl
theorem wk_577 : Cond.instanceMethod yX5_isPut ∈ zTb := zTm (L := tables_1_3) zT3 97 rfl rfl
theorem ws_53 : Cond.selects "EndSums$Text" yX5_isPut yX5_isPut ∈ zTb := zTb_mem 53 rfl rfl
theorem wk_588 : Cond.methodLink "EndSums$Text" 48 yX5_isDigit ∈ zTb := zTm (L := tables_1_3) zT3 108 rfl rfl
theorem wk_587 : Cond.code yX5_digitsFrom cX5_digitsFrom 4 (some .int) ∈ zTb := zTm (L := tables_1_3) zT3 107 rfl rfl
theorem wk_586 : Cond.instanceMethod yX5_digitsFrom ∈ zTb := zTm (L := tables_1_3) zT3 106 rfl rfl
theorem ws_55 : Cond.selects "EndSums$Text" yX5_digitsFrom yX5_digitsFrom ∈ zTb := zTb_mem 55 rfl rfl
theorem wk_575 : Cond.methodLink "EndSums$Text" 52 yX5_isPut ∈ zTb := zTm (L := tables_1_3) zT3 95 rfl rfl
theorem wk_580 : Cond.methodLink "EndSums$Text" 55 yX5_isAct ∈ zTb := zTm (L := tables_1_3) zT3 100 rfl rfl
theorem wk_584 : Cond.methodLink "EndSums$Text" 58 yX5_digitsFrom ∈ zTb := zTm (L := tables_1_3) zT3 104 rfl rfl
theorem wk_574 : Cond.code yX5_firstWrongInActs cX5_firstWrongInActs 4 (some .int) ∈ zTb := zTm (L := tables_1_3) zT3 94 rfl rfl
theorem wk_573 : Cond.instanceMethod yX5_firstWrongInActs ∈ zTb := zTm (L := tables_1_3) zT3 93 rfl rfl
theorem ws_52 : Cond.selects "EndSums$Text" yX5_firstWrongInActs yX5_firstWrongInActs ∈ zTb := zTb_mem 52 rfl rfl
theorem wk_596 : Cond.code yX5_itemBehind cX5_itemBehind 6 (some .int) ∈ zTb := zTm (L := tables_1_3) zT3 116 rfl rfl
theorem wk_595 : Cond.instanceMethod yX5_itemBehind ∈ zTb := zTm (L := tables_1_3) zT3 115 rfl rfl
theorem ws_56 : Cond.selects "EndSums$Text" yX5_itemBehind yX5_itemBehind ∈ zTb := zTb_mem 56 rfl rfl
theorem wn_103 : Cond.fieldLinkNest "EndSums$Works" 19 "EndSums$Pile" "size" "I" "EndSums" ∈ lw_tbl := zT1 _ (List.mem_of_getElem? (i := 103) rfl)
theorem wk_76 : Cond.fieldLink "EndSums$Works" 56 "EndSums$Works" "made" "I" ∈ zTb := zTm (L := tables_1_1) zT1 76 rfl rfl
theorem wk_75 : Cond.fieldLink "EndSums$Works" 15 "EndSums$Works" "joining" "LEndSums$Joining;" ∈ zTb := zTm (L := tables_1_1) zT1 75 rfl rfl
theorem wn_55 : Cond.fieldLinkNest "EndSums$Works" 59 "EndSums$Joining" "p" "J" "EndSums" ∈ lw_tbl := zT1 _ (List.mem_of_getElem? (i := 55) rfl)
theorem wn_58 : Cond.fieldLinkNest "EndSums$Works" 63 "EndSums$Joining" "q" "J" "EndSums" ∈ lw_tbl := zT1 _ (List.mem_of_getElem? (i := 58) rfl)
theorem wn_332 : Cond.methodLinkNest "EndSums$Works" 66 yX2_grow "EndSums" ∈ lw_tbl := zT2 _ (List.mem_of_getElem? (i := 92) rfl)
theorem wn_286 : Cond.methodLinkNest "EndSums$Works" 45 yX0_elementP "EndSums" ∈ lw_tbl := zT2 _ (List.mem_of_getElem? (i := 46) rfl)
theorem wn_294 : Cond.methodLinkNest "EndSums$Works" 49 yX0_elementQ "EndSums" ∈ lw_tbl := zT2 _ (List.mem_of_getElem? (i := 54) rfl)
theorem wn_306 : Cond.methodLinkNest "EndSums$Works" 52 yX0_join "EndSums" ∈ lw_tbl := zT2 _ (List.mem_of_getElem? (i := 66) rfl)
theorem wn_114 : Cond.fieldLinkNest "EndSums$Works" 42 "EndSums$Pile" "qs" "[J" "EndSums" ∈ lw_tbl := zT1 _ (List.mem_of_getElem? (i := 114) rfl)
theorem wn_279 : Cond.methodLinkNest "EndSums$Works" 35 yX7_at_ "EndSums" ∈ lw_tbl := zT2 _ (List.mem_of_getElem? (i := 39) rfl)
theorem wn_282 : Cond.methodLinkNest "EndSums$Works" 39 yX0_emptyQ "EndSums" ∈ lw_tbl := zT2 _ (List.mem_of_getElem? (i := 42) rfl)
theorem wn_111 : Cond.fieldLinkNest "EndSums$Works" 31 "EndSums$Pile" "ps" "[J" "EndSums" ∈ lw_tbl := zT1 _ (List.mem_of_getElem? (i := 111) rfl)
theorem wn_273 : Cond.methodLinkNest "EndSums$Works" 25 yX0_emptyP "EndSums" ∈ lw_tbl := zT2 _ (List.mem_of_getElem? (i := 33) rfl)
theorem wk_272 : Cond.code yX6_make cX6_make 9 none ∈ zTb := zTm (L := tables_1_2) zT2 32 rfl rfl
theorem wk_4 : Cond.initialized "EndSums$Works" ∈ zTb := zTm (L := tables_1_1) zT1 4 rfl rfl
theorem wk_271 : Cond.instanceMethod yX6_make ∈ zTb := zTm (L := tables_1_2) zT2 31 rfl rfl
theorem ws_10 : Cond.selects "EndSums$Works" yX6_make yX6_make ∈ zTb := zTb_mem 10 rfl rfl
theorem wn_491 : Cond.methodLinkNest "EndSums$Works" 70 yX1_pile "EndSums" ∈ lw_tbl := zT3 _ (List.mem_of_getElem? (i := 11) rfl)
theorem wk_269 : Cond.methodLink "EndSums$Works" 76 yX6_make ∈ zTb := zTm (L := tables_1_2) zT2 29 rfl rfl
theorem wk_490 : Cond.code yX6_put cX6_put 4 none ∈ zTb := zTm (L := tables_1_3) zT3 10 rfl rfl
theorem wk_489 : Cond.instanceMethod yX6_put ∈ zTb := zTm (L := tables_1_3) zT3 9 rfl rfl
theorem ws_44 : Cond.selects "EndSums$Works" yX6_put yX6_put ∈ zTb := zTb_mem 44 rfl rfl
theorem wn_238 : Cond.methodLinkNest "EndSums$Works" 80 yX1_size "EndSums" ∈ lw_tbl := zT1 _ (List.mem_of_getElem? (i := 238) rfl)
theorem wk_80 : Cond.fieldLink "EndSums$Works" 9 "EndSums$Works" "held" "[I" ∈ zTb := zTm (L := tables_1_1) zT1 80 rfl rfl
theorem wn_242 : Cond.methodLinkNest "EndSums$Works" 83 yX1_itemAt "EndSums" ∈ lw_tbl := zT2 _ (List.mem_of_getElem? (i := 2) rfl)
theorem wn_261 : Cond.methodLinkNest "EndSums$Works" 87 yX7_set "EndSums" ∈ lw_tbl := zT2 _ (List.mem_of_getElem? (i := 21) rfl)
theorem wk_237 : Cond.code yX6_hold cX6_hold 3 none ∈ zTb := zTm (L := tables_1_1) zT1 237 rfl rfl
theorem wk_236 : Cond.instanceMethod yX6_hold ∈ zTb := zTm (L := tables_1_1) zT1 236 rfl rfl
theorem ws_3 : Cond.selects "EndSums$Works" yX6_hold yX6_hold ∈ zTb := zTb_mem 3 rfl rfl
theorem wn_131 : Cond.fieldLinkNest "EndSums$Works" 91 "EndSums$Line" "front" "LEndSums$Pile;" "EndSums" ∈ lw_tbl := zT1 _ (List.mem_of_getElem? (i := 131) rfl)
theorem wn_134 : Cond.fieldLinkNest "EndSums$Works" 95 "EndSums$Line" "back" "LEndSums$Pile;" "EndSums" ∈ lw_tbl := zT1 _ (List.mem_of_getElem? (i := 134) rfl)
theorem wn_268 : Cond.methodLinkNest "EndSums$Works" 98 yX7_at "EndSums" ∈ lw_tbl := zT2 _ (List.mem_of_getElem? (i := 28) rfl)
theorem wk_267 : Cond.code yX6_lay cX6_lay 6 none ∈ zTb := zTm (L := tables_1_2) zT2 27 rfl rfl
theorem wk_266 : Cond.instanceMethod yX6_lay ∈ zTb := zTm (L := tables_1_2) zT2 26 rfl rfl
theorem ws_9 : Cond.selects "EndSums$Works" yX6_lay yX6_lay ∈ zTb := zTb_mem 9 rfl rfl
theorem wk_234 : Cond.methodLink "EndSums$Works" 101 yX6_hold ∈ zTb := zTm (L := tables_1_1) zT1 234 rfl rfl
theorem wk_264 : Cond.methodLink "EndSums$Works" 105 yX6_lay ∈ zTb := zTm (L := tables_1_2) zT2 24 rfl rfl
theorem wk_233 : Cond.code yX6_layAsItLies cX6_layAsItLies 2 none ∈ zTb := zTm (L := tables_1_1) zT1 233 rfl rfl
theorem wk_232 : Cond.instanceMethod yX6_layAsItLies ∈ zTb := zTm (L := tables_1_1) zT1 232 rfl rfl
theorem ws_2 : Cond.selects "EndSums$Works" yX6_layAsItLies yX6_layAsItLies ∈ zTb := zTb_mem 2 rfl rfl
theorem wn_109 : Cond.fieldLinkNest "EndSums$Works" 112 "EndSums$Pile" "items" "[I" "EndSums" ∈ lw_tbl := zT1 _ (List.mem_of_getElem? (i := 109) rfl)
theorem wk_78 : Cond.fieldLink "EndSums$Works" 109 "EndSums$Works" "rebuilt" "I" ∈ zTb := zTm (L := tables_1_1) zT1 78 rfl rfl
theorem wk_499 : Cond.code yX6_take cX6_take 6 (some .int) ∈ zTb := zTm (L := tables_1_3) zT3 19 rfl rfl
theorem wk_498 : Cond.instanceMethod yX6_take ∈ zTb := zTm (L := tables_1_3) zT3 18 rfl rfl
theorem ws_45 : Cond.selects "EndSums$Works" yX6_take yX6_take ∈ zTb := zTb_mem 45 rfl rfl
theorem wk_526 : Cond.code yX6_split cX6_split 5 none ∈ zTb := zTm (L := tables_1_3) zT3 46 rfl rfl
theorem wk_525 : Cond.instanceMethod yX6_split ∈ zTb := zTm (L := tables_1_3) zT3 45 rfl rfl
theorem ws_48 : Cond.selects "EndSums$Works" yX6_split yX6_split ∈ zTb := zTb_mem 48 rfl rfl
theorem wk_534 : Cond.code yX6_turn cX6_turn 4 none ∈ zTb := zTm (L := tables_1_3) zT3 54 rfl rfl
theorem wk_533 : Cond.instanceMethod yX6_turn ∈ zTb := zTm (L := tables_1_3) zT3 53 rfl rfl
theorem ws_49 : Cond.selects "EndSums$Works" yX6_turn yX6_turn ∈ zTb := zTb_mem 49 rfl rfl
theorem wk_546 : Cond.code yX6_remake cX6_remake 8 none ∈ zTb := zTm (L := tables_1_3) zT3 66 rfl rfl
theorem wk_545 : Cond.instanceMethod yX6_remake ∈ zTb := zTm (L := tables_1_3) zT3 65 rfl rfl
theorem ws_50 : Cond.selects "EndSums$Works" yX6_remake yX6_remake ∈ zTb := zTb_mem 50 rfl rfl
theorem wk_186 : Cond.fieldLink "EndSums" 27 "EndSums" "lines" "[LEndSums$Line;" ∈ zTb := zTm (L := tables_1_1) zT1 186 rfl rfl
theorem wk_229 : Cond.code yX7_lineAt cX7_lineAt 2 (some (.object "EndSums$Line")) ∈ zTb := zTm (L := tables_1_1) zT1 229 rfl rfl
theorem wk_228 : Cond.instanceMethod yX7_lineAt ∈ zTb := zTm (L := tables_1_1) zT1 228 rfl rfl
theorem ws_1 : Cond.selects "EndSums" yX7_lineAt yX7_lineAt ∈ zTb := zTb_mem 1 rfl rfl
theorem wk_226 : Cond.methodLink "EndSums" 158 yX7_lineAt ∈ zTb := zTm (L := tables_1_1) zT1 226 rfl rfl
theorem wk_185 : Cond.fieldLink "EndSums" 21 "EndSums" "works" "LEndSums$Works;" ∈ zTb := zTm (L := tables_1_1) zT1 185 rfl rfl
theorem wn_230 : Cond.methodLinkNest "EndSums" 324 yX6_layAsItLies "EndSums" ∈ lw_tbl := zT1 _ (List.mem_of_getElem? (i := 230) rfl)
theorem wk_225 : Cond.code yX7_layAllAnew cX7_layAllAnew 3 none ∈ zTb := zTm (L := tables_1_1) zT1 225 rfl rfl
theorem wk_224 : Cond.instanceMethod yX7_layAllAnew ∈ zTb := zTm (L := tables_1_1) zT1 224 rfl rfl
theorem ws_0 : Cond.selects "EndSums" yX7_layAllAnew yX7_layAllAnew ∈ zTb := zTb_mem 0 rfl rfl
theorem wk_184 : Cond.fieldLink "EndSums" 10 "EndSums" "joining" "LEndSums$Joining;" ∈ zTb := zTm (L := tables_1_1) zT1 184 rfl rfl
theorem wn_50 : Cond.fieldLinkNest "EndSums" 67 "EndSums$Joining" "kind" "I" "EndSums" ∈ lw_tbl := zT1 _ (List.mem_of_getElem? (i := 50) rfl)
theorem wk_222 : Cond.methodLink "EndSums" 71 yX7_layAllAnew ∈ zTb := zTm (L := tables_1_1) zT1 222 rfl rfl
theorem wk_221 : Cond.code yX7_rule cX7_rule 3 (some .int) ∈ zTb := zTm (L := tables_1_1) zT1 221 rfl rfl
theorem wk_219 : Cond.instanceMethod yX7_rule ∈ zTb := zTm (L := tables_1_1) zT1 219 rfl rfl
theorem wk_220 : Cond.selects "EndSums" yX7_rule yX7_rule ∈ zTb := zTm (L := tables_1_1) zT1 220 rfl rfl
theorem wk_192 : Cond.fieldLink "EndSums" 256 "EndSums" "toldCount" "I" ∈ zTb := zTm (L := tables_1_1) zT1 192 rfl rfl
theorem wk_191 : Cond.fieldLink "EndSums" 57 "EndSums" "told" "[J" ∈ zTb := zTm (L := tables_1_1) zT1 191 rfl rfl
theorem wk_398 : Cond.code yX7_tellMore cX7_tellMore 3 none ∈ zTb := zTm (L := tables_1_2) zT2 158 rfl rfl
theorem wk_397 : Cond.instanceMethod yX7_tellMore ∈ zTb := zTm (L := tables_1_2) zT2 157 rfl rfl
theorem ws_31 : Cond.selects "EndSums" yX7_tellMore yX7_tellMore ∈ zTb := zTb_mem 31 rfl rfl
theorem wk_395 : Cond.methodLink "EndSums" 259 yX7_tellMore ∈ zTb := zTm (L := tables_1_2) zT2 155 rfl rfl
theorem wk_394 : Cond.code yX7_tell cX7_tell 3 none ∈ zTb := zTm (L := tables_1_2) zT2 154 rfl rfl
theorem wk_393 : Cond.instanceMethod yX7_tell ∈ zTb := zTm (L := tables_1_2) zT2 153 rfl rfl
theorem ws_30 : Cond.selects "EndSums" yX7_tell yX7_tell ∈ zTb := zTb_mem 30 rfl rfl
theorem wk_391 : Cond.methodLink "EndSums" 148 yX7_tell ∈ zTb := zTm (L := tables_1_2) zT2 151 rfl rfl
theorem wk_390 : Cond.code yX7_tell_ cX7_tell_ 5 none ∈ zTb := zTm (L := tables_1_2) zT2 150 rfl rfl
theorem wk_389 : Cond.instanceMethod yX7_tell_ ∈ zTb := zTm (L := tables_1_2) zT2 149 rfl rfl
theorem ws_29 : Cond.selects "EndSums" yX7_tell_ yX7_tell_ ∈ zTb := zTb_mem 29 rfl rfl
theorem wk_387 : Cond.methodLink "EndSums" 135 yX7_tell_ ∈ zTb := zTm (L := tables_1_2) zT2 147 rfl rfl
theorem wk_386 : Cond.code yX7_tell__ cX7_tell__ 7 none ∈ zTb := zTm (L := tables_1_2) zT2 146 rfl rfl
theorem wk_385 : Cond.instanceMethod yX7_tell__ ∈ zTb := zTm (L := tables_1_2) zT2 145 rfl rfl
theorem ws_28 : Cond.selects "EndSums" yX7_tell__ yX7_tell__ ∈ zTb := zTb_mem 28 rfl rfl
theorem wk_189 : Cond.fieldLink "EndSums" 46 "EndSums" "text" "LEndSums$Text;" ∈ zTb := zTm (L := tables_1_1) zT1 189 rfl rfl
theorem wn_344 : Cond.methodLinkNest "EndSums" 74 yX5_firstWrongInTable "EndSums" ∈ lw_tbl := zT2 _ (List.mem_of_getElem? (i := 104) rfl)
theorem wn_150 : Cond.fieldLinkNest "EndSums" 82 "EndSums$Text" "length" "I" "EndSums" ∈ lw_tbl := zT1 _ (List.mem_of_getElem? (i := 150) rfl)
theorem wk_188 : Cond.fieldLink "EndSums" 39 "EndSums" "fresh" "LEndSums$Table;" ∈ zTb := zTm (L := tables_1_1) zT1 188 rfl rfl
theorem wn_379 : Cond.methodLinkNest "EndSums" 85 yX3_firstNotAlike "EndSums" ∈ lw_tbl := zT2 _ (List.mem_of_getElem? (i := 139) rfl)
theorem wn_38 : Cond.fieldLinkNest "EndSums" 92 "EndSums$Table" "neutral" "I" "EndSums" ∈ lw_tbl := zT1 _ (List.mem_of_getElem? (i := 38) rfl)
theorem wn_53 : Cond.fieldLinkNest "EndSums" 95 "EndSums$Joining" "table" "LEndSums$Table;" "EndSums" ∈ lw_tbl := zT1 _ (List.mem_of_getElem? (i := 53) rfl)
theorem wn_399 : Cond.methodLinkNest "EndSums" 98 yX3_become "EndSums" ∈ lw_tbl := zT2 _ (List.mem_of_getElem? (i := 159) rfl)
theorem wn_36 : Cond.fieldLinkNest "EndSums" 102 "EndSums$Table" "n" "I" "EndSums" ∈ lw_tbl := zT1 _ (List.mem_of_getElem? (i := 36) rfl)
theorem wk_383 : Cond.methodLink "EndSums" 88 yX7_tell__ ∈ zTb := zTm (L := tables_1_2) zT2 143 rfl rfl
theorem wn_364 : Cond.methodLinkNest "EndSums" 78 yX3_read "EndSums" ∈ lw_tbl := zT2 _ (List.mem_of_getElem? (i := 124) rfl)
theorem wk_343 : Cond.code yX7_table cX7_table 3 (some .int) ∈ zTb := zTm (L := tables_1_2) zT2 103 rfl rfl
theorem wk_341 : Cond.instanceMethod yX7_table ∈ zTb := zTm (L := tables_1_2) zT2 101 rfl rfl
theorem wk_342 : Cond.selects "EndSums" yX7_table yX7_table ∈ zTb := zTm (L := tables_1_2) zT2 102 rfl rfl
theorem wk_410 : Cond.code yX7_isItem cX7_isItem 1 (some .boolean) ∈ zTb := zTm (L := tables_1_2) zT2 170 rfl rfl
theorem wk_409 : Cond.static yX7_isItem ∈ zTb := zTm (L := tables_1_2) zT2 169 rfl rfl
theorem wk_429 : Cond.code yX7_tell___ cX7_tell___ 9 none ∈ zTb := zTm (L := tables_1_2) zT2 189 rfl rfl
theorem wk_428 : Cond.instanceMethod yX7_tell___ ∈ zTb := zTm (L := tables_1_2) zT2 188 rfl rfl
theorem ws_36 : Cond.selects "EndSums" yX7_tell___ yX7_tell___ ∈ zTb := zTb_mem 36 rfl rfl
theorem wk_408 : Cond.methodLink "EndSums" 105 yX7_isItem ∈ zTb := zTm (L := tables_1_2) zT2 168 rfl rfl
theorem wn_411 : Cond.methodLinkNest "EndSums" 109 yX0_start "EndSums" ∈ lw_tbl := zT2 _ (List.mem_of_getElem? (i := 171) rfl)
theorem wn_417 : Cond.methodLinkNest "EndSums" 113 yX0_follow "EndSums" ∈ lw_tbl := zT2 _ (List.mem_of_getElem? (i := 177) rfl)
theorem wn_56 : Cond.fieldLinkNest "EndSums" 116 "EndSums$Joining" "p" "J" "EndSums" ∈ lw_tbl := zT1 _ (List.mem_of_getElem? (i := 56) rfl)
theorem wn_59 : Cond.fieldLinkNest "EndSums" 120 "EndSums$Joining" "q" "J" "EndSums" ∈ lw_tbl := zT1 _ (List.mem_of_getElem? (i := 59) rfl)
theorem wn_422 : Cond.methodLinkNest "EndSums" 123 yX0_comesTo "EndSums" ∈ lw_tbl := zT2 _ (List.mem_of_getElem? (i := 182) rfl)
theorem wk_426 : Cond.methodLink "EndSums" 127 yX7_tell___ ∈ zTb := zTm (L := tables_1_2) zT2 186 rfl rfl
theorem wk_407 : Cond.code yX7_commutes cX7_commutes 8 (some .int) ∈ zTb := zTm (L := tables_1_2) zT2 167 rfl rfl
theorem wk_405 : Cond.instanceMethod yX7_commutes ∈ zTb := zTm (L := tables_1_2) zT2 165 rfl rfl
theorem wk_406 : Cond.selects "EndSums" yX7_commutes yX7_commutes ∈ zTb := zTm (L := tables_1_2) zT2 166 rfl rfl
theorem wk_434 : Cond.constant "EndSums" 130 (1000000000 : Int32) ∈ zTb := zTm (L := tables_1_2) zT2 194 rfl rfl
theorem wn_435 : Cond.methodLinkNest "EndSums" 131 yX0_power "EndSums" ∈ lw_tbl := zT2 _ (List.mem_of_getElem? (i := 195) rfl)
theorem wk_433 : Cond.code yX7_powers cX7_powers 4 (some .int) ∈ zTb := zTm (L := tables_1_2) zT2 193 rfl rfl
theorem wk_431 : Cond.instanceMethod yX7_powers ∈ zTb := zTm (L := tables_1_2) zT2 191 rfl rfl
theorem wk_432 : Cond.selects "EndSums" yX7_powers yX7_powers ∈ zTb := zTm (L := tables_1_2) zT2 192 rfl rfl
theorem wk_193 : Cond.fieldLink "EndSums" 61 "EndSums" "sumsP" "[J" ∈ zTb := zTm (L := tables_1_1) zT1 193 rfl rfl
theorem wk_456 : Cond.methodLink "EndSums" 327 yX7_set_ ∈ zTb := zTm (L := tables_1_2) zT2 216 rfl rfl
theorem wk_194 : Cond.fieldLink "EndSums" 64 "EndSums" "sumsQ" "[J" ∈ zTb := zTm (L := tables_1_1) zT1 194 rfl rfl
theorem wk_455 : Cond.code yX7_keepSum cX7_keepSum 2 none ∈ zTb := zTm (L := tables_1_2) zT2 215 rfl rfl
theorem wk_454 : Cond.instanceMethod yX7_keepSum ∈ zTb := zTm (L := tables_1_2) zT2 214 rfl rfl
theorem ws_39 : Cond.selects "EndSums" yX7_keepSum yX7_keepSum ∈ zTb := zTb_mem 39 rfl rfl
theorem wk_461 : Cond.methodLink "EndSums" 249 yX7_at_ ∈ zTb := zTm (L := tables_1_2) zT2 221 rfl rfl
theorem wk_465 : Cond.code yX7_sumIsJust cX7_sumIsJust 6 (some .boolean) ∈ zTb := zTm (L := tables_1_2) zT2 225 rfl rfl
theorem wk_464 : Cond.instanceMethod yX7_sumIsJust ∈ zTb := zTm (L := tables_1_2) zT2 224 rfl rfl
theorem ws_41 : Cond.selects "EndSums" yX7_sumIsJust yX7_sumIsJust ∈ zTb := zTb_mem 41 rfl rfl
theorem wk_462 : Cond.methodLink "EndSums" 334 yX7_sumIsJust ∈ zTb := zTm (L := tables_1_2) zT2 222 rfl rfl
theorem wk_460 : Cond.code yX7_firstSumLike cX7_firstSumLike 3 (some .int) ∈ zTb := zTm (L := tables_1_2) zT2 220 rfl rfl
theorem wk_459 : Cond.instanceMethod yX7_firstSumLike ∈ zTb := zTm (L := tables_1_2) zT2 219 rfl rfl
theorem ws_40 : Cond.selects "EndSums" yX7_firstSumLike yX7_firstSumLike ∈ zTb := zTb_mem 40 rfl rfl
theorem wn_451 : Cond.methodLinkNest "EndSums" 138 yX0_startEmpty "EndSums" ∈ lw_tbl := zT2 _ (List.mem_of_getElem? (i := 211) rfl)
theorem wk_452 : Cond.methodLink "EndSums" 141 yX7_keepSum ∈ zTb := zTm (L := tables_1_2) zT2 212 rfl rfl
theorem wk_457 : Cond.methodLink "EndSums" 144 yX7_firstSumLike ∈ zTb := zTm (L := tables_1_2) zT2 217 rfl rfl
theorem wk_450 : Cond.code yX7_order cX7_order 4 (some .int) ∈ zTb := zTm (L := tables_1_2) zT2 210 rfl rfl
theorem wk_448 : Cond.instanceMethod yX7_order ∈ zTb := zTm (L := tables_1_2) zT2 208 rfl rfl
theorem wk_449 : Cond.selects "EndSums" yX7_order yX7_order ∈ zTb := zTm (L := tables_1_2) zT2 209 rfl rfl
theorem wn_470 : Cond.methodLinkNest "EndSums" 151 yX0_unlikeItems "EndSums" ∈ lw_tbl := zT2 _ (List.mem_of_getElem? (i := 230) rfl)
theorem wn_474 : Cond.methodLinkNest "EndSums" 154 yX0_undo "EndSums" ∈ lw_tbl := zT2 _ (List.mem_of_getElem? (i := 234) rfl)
theorem wk_469 : Cond.code yX7_undoes cX7_undoes 4 (some .int) ∈ zTb := zTm (L := tables_1_2) zT2 229 rfl rfl
theorem wk_467 : Cond.instanceMethod yX7_undoes ∈ zTb := zTm (L := tables_1_2) zT2 227 rfl rfl
theorem wk_468 : Cond.selects "EndSums" yX7_undoes yX7_undoes ∈ zTb := zTm (L := tables_1_2) zT2 228 rfl rfl
theorem wk_485 : Cond.code yX7_isEnd cX7_isEnd 1 (some .boolean) ∈ zTb := zTm (L := tables_1_3) zT3 5 rfl rfl
theorem wk_484 : Cond.static yX7_isEnd ∈ zTb := zTm (L := tables_1_3) zT3 4 rfl rfl
theorem wk_483 : Cond.methodLink "EndSums" 162 yX7_isEnd ∈ zTb := zTm (L := tables_1_3) zT3 3 rfl rfl
theorem wn_486 : Cond.methodLinkNest "EndSums" 165 yX1_size "EndSums" ∈ lw_tbl := zT3 _ (List.mem_of_getElem? (i := 6) rfl)
theorem wn_487 : Cond.methodLinkNest "EndSums" 168 yX6_put "EndSums" ∈ lw_tbl := zT3 _ (List.mem_of_getElem? (i := 7) rfl)
theorem wk_482 : Cond.code yX7_puts cX7_puts 5 (some .int) ∈ zTb := zTm (L := tables_1_3) zT3 2 rfl rfl
theorem wk_480 : Cond.instanceMethod yX7_puts ∈ zTb := zTm (L := tables_1_3) zT3 0 rfl rfl
theorem wk_481 : Cond.selects "EndSums" yX7_puts yX7_puts ∈ zTb := zTm (L := tables_1_3) zT3 1 rfl rfl
theorem wn_77 : Cond.fieldLinkNest "EndSums" 172 "EndSums$Works" "made" "I" "EndSums" ∈ lw_tbl := zT1 _ (List.mem_of_getElem? (i := 77) rfl)
theorem wn_496 : Cond.methodLinkNest "EndSums" 175 yX6_take "EndSums" ∈ lw_tbl := zT3 _ (List.mem_of_getElem? (i := 16) rfl)
theorem wk_495 : Cond.code yX7_takes cX7_takes 6 (some .int) ∈ zTb := zTm (L := tables_1_3) zT3 15 rfl rfl
theorem wk_493 : Cond.instanceMethod yX7_takes ∈ zTb := zTm (L := tables_1_3) zT3 13 rfl rfl
theorem wk_494 : Cond.selects "EndSums" yX7_takes yX7_takes ∈ zTb := zTm (L := tables_1_3) zT3 14 rfl rfl
theorem wn_504 : Cond.methodLinkNest "EndSums" 179 yX1_become "EndSums" ∈ lw_tbl := zT3 _ (List.mem_of_getElem? (i := 24) rfl)
theorem wk_503 : Cond.code yX7_copies cX7_copies 5 (some .int) ∈ zTb := zTm (L := tables_1_3) zT3 23 rfl rfl
theorem wk_501 : Cond.instanceMethod yX7_copies ∈ zTb := zTm (L := tables_1_3) zT3 21 rfl rfl
theorem wk_502 : Cond.selects "EndSums" yX7_copies yX7_copies ∈ zTb := zTm (L := tables_1_3) zT3 22 rfl rfl
theorem wk_187 : Cond.fieldLink "EndSums" 32 "EndSums" "spare" "LEndSums$Line;" ∈ zTb := zTm (L := tables_1_1) zT1 187 rfl rfl
theorem wk_518 : Cond.code yX7_joins cX7_joins 8 (some .int) ∈ zTb := zTm (L := tables_1_3) zT3 38 rfl rfl
theorem wk_516 : Cond.instanceMethod yX7_joins ∈ zTb := zTm (L := tables_1_3) zT3 36 rfl rfl
theorem wk_517 : Cond.selects "EndSums" yX7_joins yX7_joins ∈ zTb := zTm (L := tables_1_3) zT3 37 rfl rfl
theorem wn_523 : Cond.methodLinkNest "EndSums" 182 yX6_split "EndSums" ∈ lw_tbl := zT3 _ (List.mem_of_getElem? (i := 43) rfl)
theorem wk_522 : Cond.code yX7_parts cX7_parts 6 (some .int) ∈ zTb := zTm (L := tables_1_3) zT3 42 rfl rfl
theorem wk_520 : Cond.instanceMethod yX7_parts ∈ zTb := zTm (L := tables_1_3) zT3 40 rfl rfl
theorem wk_521 : Cond.selects "EndSums" yX7_parts yX7_parts ∈ zTb := zTm (L := tables_1_3) zT3 41 rfl rfl
theorem wn_531 : Cond.methodLinkNest "EndSums" 186 yX6_turn "EndSums" ∈ lw_tbl := zT3 _ (List.mem_of_getElem? (i := 51) rfl)
theorem wk_530 : Cond.code yX7_reverses cX7_reverses 3 (some .int) ∈ zTb := zTm (L := tables_1_3) zT3 50 rfl rfl
theorem wk_528 : Cond.instanceMethod yX7_reverses ∈ zTb := zTm (L := tables_1_3) zT3 48 rfl rfl
theorem wk_529 : Cond.selects "EndSums" yX7_reverses yX7_reverses ∈ zTb := zTm (L := tables_1_3) zT3 49 rfl rfl
theorem wn_539 : Cond.methodLinkNest "EndSums" 189 yX1_itemAt "EndSums" ∈ lw_tbl := zT3 _ (List.mem_of_getElem? (i := 59) rfl)
theorem wn_540 : Cond.methodLinkNest "EndSums" 192 yX1_endOf "EndSums" ∈ lw_tbl := zT3 _ (List.mem_of_getElem? (i := 60) rfl)
theorem wn_541 : Cond.methodLinkNest "EndSums" 195 yX1_heightOf "EndSums" ∈ lw_tbl := zT3 _ (List.mem_of_getElem? (i := 61) rfl)
theorem wn_542 : Cond.methodLinkNest "EndSums" 198 yX1_pile "EndSums" ∈ lw_tbl := zT3 _ (List.mem_of_getElem? (i := 62) rfl)
theorem wn_543 : Cond.methodLinkNest "EndSums" 202 yX6_remake "EndSums" ∈ lw_tbl := zT3 _ (List.mem_of_getElem? (i := 63) rfl)
theorem wk_538 : Cond.code yX7_changes cX7_changes 9 (some .int) ∈ zTb := zTm (L := tables_1_3) zT3 58 rfl rfl
theorem wk_536 : Cond.instanceMethod yX7_changes ∈ zTb := zTm (L := tables_1_3) zT3 56 rfl rfl
theorem wk_537 : Cond.selects "EndSums" yX7_changes yX7_changes ∈ zTb := zTm (L := tables_1_3) zT3 57 rfl rfl
theorem wk_550 : Cond.code yX7_slips cX7_slips 8 (some .int) ∈ zTb := zTm (L := tables_1_3) zT3 70 rfl rfl
theorem wk_548 : Cond.instanceMethod yX7_slips ∈ zTb := zTm (L := tables_1_3) zT3 68 rfl rfl
theorem wk_549 : Cond.selects "EndSums" yX7_slips yX7_slips ∈ zTb := zTm (L := tables_1_3) zT3 69 rfl rfl
theorem wk_554 : Cond.code yX7_drops cX7_drops 8 (some .int) ∈ zTb := zTm (L := tables_1_3) zT3 74 rfl rfl
theorem wk_552 : Cond.instanceMethod yX7_drops ∈ zTb := zTm (L := tables_1_3) zT3 72 rfl rfl
theorem wk_553 : Cond.selects "EndSums" yX7_drops yX7_drops ∈ zTb := zTm (L := tables_1_3) zT3 73 rfl rfl
theorem wk_562 : Cond.code yX7_sumUp cX7_sumUp 5 none ∈ zTb := zTm (L := tables_1_3) zT3 82 rfl rfl
theorem wk_561 : Cond.instanceMethod yX7_sumUp ∈ zTb := zTm (L := tables_1_3) zT3 81 rfl rfl
theorem ws_51 : Cond.selects "EndSums" yX7_sumUp yX7_sumUp ∈ zTb := zTb_mem 51 rfl rfl
theorem wk_559 : Cond.methodLink "EndSums" 206 yX7_sumUp ∈ zTb := zTm (L := tables_1_3) zT3 79 rfl rfl
theorem wk_558 : Cond.code yX7_shifts cX7_shifts 7 (some .int) ∈ zTb := zTm (L := tables_1_3) zT3 78 rfl rfl
theorem wk_556 : Cond.instanceMethod yX7_shifts ∈ zTb := zTm (L := tables_1_3) zT3 76 rfl rfl
theorem wk_557 : Cond.selects "EndSums" yX7_shifts yX7_shifts ∈ zTb := zTm (L := tables_1_3) zT3 77 rfl rfl
theorem wn_132 : Cond.fieldLinkNest "EndSums" 209 "EndSums$Line" "front" "LEndSums$Pile;" "EndSums" ∈ lw_tbl := zT1 _ (List.mem_of_getElem? (i := 132) rfl)
theorem wn_106 : Cond.fieldLinkNest "EndSums" 213 "EndSums$Pile" "size" "I" "EndSums" ∈ lw_tbl := zT1 _ (List.mem_of_getElem? (i := 106) rfl)
theorem wn_135 : Cond.fieldLinkNest "EndSums" 217 "EndSums$Line" "back" "LEndSums$Pile;" "EndSums" ∈ lw_tbl := zT1 _ (List.mem_of_getElem? (i := 135) rfl)
theorem wk_566 : Cond.code yX7_clears cX7_clears 4 (some .int) ∈ zTb := zTm (L := tables_1_3) zT3 86 rfl rfl
theorem wk_564 : Cond.instanceMethod yX7_clears ∈ zTb := zTm (L := tables_1_3) zT3 84 rfl rfl
theorem wk_565 : Cond.selects "EndSums" yX7_clears yX7_clears ∈ zTb := zTm (L := tables_1_3) zT3 85 rfl rfl
theorem wk_600 : Cond.code yX7_act cX7_act 6 (some .boolean) ∈ zTb := zTm (L := tables_1_3) zT3 120 rfl rfl
theorem wk_599 : Cond.instanceMethod yX7_act ∈ zTb := zTm (L := tables_1_3) zT3 119 rfl rfl
theorem ws_57 : Cond.selects "EndSums" yX7_act yX7_act ∈ zTb := zTb_mem 57 rfl rfl
theorem wn_571 : Cond.methodLinkNest "EndSums" 220 yX5_firstWrongInActs "EndSums" ∈ lw_tbl := zT3 _ (List.mem_of_getElem? (i := 91) rfl)
theorem wn_591 : Cond.methodLinkNest "EndSums" 223 yX5_isAct "EndSums" ∈ lw_tbl := zT3 _ (List.mem_of_getElem? (i := 111) rfl)
theorem wn_592 : Cond.methodLinkNest "EndSums" 226 yX5_signAt "EndSums" ∈ lw_tbl := zT3 _ (List.mem_of_getElem? (i := 112) rfl)
theorem wn_593 : Cond.methodLinkNest "EndSums" 229 yX5_itemBehind "EndSums" ∈ lw_tbl := zT3 _ (List.mem_of_getElem? (i := 113) rfl)
theorem wk_597 : Cond.methodLink "EndSums" 232 yX7_act ∈ zTb := zTm (L := tables_1_3) zT3 117 rfl rfl
theorem wk_570 : Cond.code yX7_run cX7_run 10 (some .int) ∈ zTb := zTm (L := tables_1_3) zT3 90 rfl rfl
theorem wk_568 : Cond.instanceMethod yX7_run ∈ zTb := zTm (L := tables_1_3) zT3 88 rfl rfl
theorem wk_569 : Cond.selects "EndSums" yX7_run yX7_run ∈ zTb := zTm (L := tables_1_3) zT3 89 rfl rfl
theorem wn_605 : Cond.methodLinkNest "EndSums" 236 yX5_grow "EndSums" ∈ lw_tbl := zT3 _ (List.mem_of_getElem? (i := 125) rfl)
theorem wk_604 : Cond.code yX7_sign cX7_sign 3 (some .int) ∈ zTb := zTm (L := tables_1_3) zT3 124 rfl rfl
theorem wk_602 : Cond.instanceMethod yX7_sign ∈ zTb := zTm (L := tables_1_3) zT3 122 rfl rfl
theorem wk_603 : Cond.selects "EndSums" yX7_sign yX7_sign ∈ zTb := zTm (L := tables_1_3) zT3 123 rfl rfl
theorem wk_613 : Cond.code yX7_end cX7_end 2 (some .boolean) ∈ zTb := zTm (L := tables_1_3) zT3 133 rfl rfl
theorem wk_611 : Cond.instanceMethod yX7_end ∈ zTb := zTm (L := tables_1_3) zT3 131 rfl rfl
theorem wk_612 : Cond.selects "EndSums" yX7_end yX7_end ∈ zTb := zTm (L := tables_1_3) zT3 132 rfl rfl
theorem wk_617 : Cond.code yX7_sum cX7_sum 3 (some .int) ∈ zTb := zTm (L := tables_1_3) zT3 137 rfl rfl
theorem wk_615 : Cond.instanceMethod yX7_sum ∈ zTb := zTm (L := tables_1_3) zT3 135 rfl rfl
theorem wk_616 : Cond.selects "EndSums" yX7_sum yX7_sum ∈ zTb := zTm (L := tables_1_3) zT3 136 rfl rfl
theorem wk_621 : Cond.code yX7_part cX7_part 5 (some .int) ∈ zTb := zTm (L := tables_1_3) zT3 141 rfl rfl
theorem wk_619 : Cond.instanceMethod yX7_part ∈ zTb := zTm (L := tables_1_3) zT3 139 rfl rfl
theorem wk_620 : Cond.selects "EndSums" yX7_part yX7_part ∈ zTb := zTm (L := tables_1_3) zT3 140 rfl rfl
theorem wk_625 : Cond.code yX7_windows cX7_windows 6 (some .int) ∈ zTb := zTm (L := tables_1_3) zT3 145 rfl rfl
theorem wk_623 : Cond.instanceMethod yX7_windows ∈ zTb := zTm (L := tables_1_3) zT3 143 rfl rfl
theorem wk_624 : Cond.selects "EndSums" yX7_windows yX7_windows ∈ zTb := zTm (L := tables_1_3) zT3 144 rfl rfl
theorem wk_629 : Cond.code yX7_first cX7_first 5 (some .int) ∈ zTb := zTm (L := tables_1_3) zT3 149 rfl rfl
theorem wk_627 : Cond.instanceMethod yX7_first ∈ zTb := zTm (L := tables_1_3) zT3 147 rfl rfl
theorem wk_628 : Cond.selects "EndSums" yX7_first yX7_first ∈ zTb := zTm (L := tables_1_3) zT3 148 rfl rfl
theorem wn_638 : Cond.methodLinkNest "EndSums" 331 yX0_startWith "EndSums" ∈ lw_tbl := zT3 _ (List.mem_of_getElem? (i := 158) rfl)
theorem wk_637 : Cond.code yX7_stretch cX7_stretch 4 none ∈ zTb := zTm (L := tables_1_3) zT3 157 rfl rfl
theorem wk_636 : Cond.instanceMethod yX7_stretch ∈ zTb := zTm (L := tables_1_3) zT3 156 rfl rfl
theorem ws_59 : Cond.selects "EndSums" yX7_stretch yX7_stretch ∈ zTb := zTb_mem 59 rfl rfl
theorem wk_642 : Cond.code yX7_firstAtMost cX7_firstAtMost 4 (some .int) ∈ zTb := zTm (L := tables_1_3) zT3 162 rfl rfl
theorem wk_641 : Cond.instanceMethod yX7_firstAtMost ∈ zTb := zTm (L := tables_1_3) zT3 161 rfl rfl
theorem ws_60 : Cond.selects "EndSums" yX7_firstAtMost yX7_firstAtMost ∈ zTb := zTb_mem 60 rfl rfl
theorem wk_634 : Cond.methodLink "EndSums" 262 yX7_stretch ∈ zTb := zTm (L := tables_1_3) zT3 154 rfl rfl
theorem wk_639 : Cond.methodLink "EndSums" 266 yX7_firstAtMost ∈ zTb := zTm (L := tables_1_3) zT3 159 rfl rfl
theorem wk_633 : Cond.code yX7_longest cX7_longest 8 (some .int) ∈ zTb := zTm (L := tables_1_3) zT3 153 rfl rfl
theorem wk_631 : Cond.instanceMethod yX7_longest ∈ zTb := zTm (L := tables_1_3) zT3 151 rfl rfl
theorem wk_632 : Cond.selects "EndSums" yX7_longest yX7_longest ∈ zTb := zTm (L := tables_1_3) zT3 152 rfl rfl
theorem wk_646 : Cond.code yX7_greatest cX7_greatest 10 (some .int) ∈ zTb := zTm (L := tables_1_3) zT3 166 rfl rfl
theorem wk_644 : Cond.instanceMethod yX7_greatest ∈ zTb := zTm (L := tables_1_3) zT3 164 rfl rfl
theorem wk_645 : Cond.selects "EndSums" yX7_greatest yX7_greatest ∈ zTb := zTm (L := tables_1_3) zT3 165 rfl rfl
theorem wk_654 : Cond.code yX7_sumsJust cX7_sumsJust 8 (some .int) ∈ zTb := zTm (L := tables_1_3) zT3 174 rfl rfl
theorem wk_653 : Cond.instanceMethod yX7_sumsJust ∈ zTb := zTm (L := tables_1_3) zT3 173 rfl rfl
theorem ws_61 : Cond.selects "EndSums" yX7_sumsJust yX7_sumsJust ∈ zTb := zTb_mem 61 rfl rfl
theorem wk_658 : Cond.code yX7_firstJust cX7_firstJust 7 (some .int) ∈ zTb := zTm (L := tables_1_3) zT3 178 rfl rfl
theorem wk_657 : Cond.instanceMethod yX7_firstJust ∈ zTb := zTm (L := tables_1_3) zT3 177 rfl rfl
theorem ws_62 : Cond.selects "EndSums" yX7_firstJust yX7_firstJust ∈ zTb := zTb_mem 62 rfl rfl
theorem wk_651 : Cond.methodLink "EndSums" 269 yX7_sumsJust ∈ zTb := zTm (L := tables_1_3) zT3 171 rfl rfl
theorem wk_655 : Cond.methodLink "EndSums" 273 yX7_firstJust ∈ zTb := zTm (L := tables_1_3) zT3 175 rfl rfl
theorem wk_650 : Cond.code yX7_finds cX7_finds 8 (some .int) ∈ zTb := zTm (L := tables_1_3) zT3 170 rfl rfl
theorem wk_648 : Cond.instanceMethod yX7_finds ∈ zTb := zTm (L := tables_1_3) zT3 168 rfl rfl
theorem wk_649 : Cond.selects "EndSums" yX7_finds yX7_finds ∈ zTb := zTm (L := tables_1_3) zT3 169 rfl rfl
theorem wn_663 : Cond.methodLinkNest "EndSums" 276 yX4_drain "EndSums" ∈ lw_tbl := zT3 _ (List.mem_of_getElem? (i := 183) rfl)
theorem wk_662 : Cond.code yX7_drains cX7_drains 6 (some .int) ∈ zTb := zTm (L := tables_1_3) zT3 182 rfl rfl
theorem wk_660 : Cond.instanceMethod yX7_drains ∈ zTb := zTm (L := tables_1_3) zT3 180 rfl rfl
theorem wk_661 : Cond.selects "EndSums" yX7_drains yX7_drains ∈ zTb := zTm (L := tables_1_3) zT3 181 rfl rfl
theorem wk_679 : Cond.code yX7_sumFirsts cX7_sumFirsts 3 none ∈ zTb := zTm (L := tables_1_3) zT3 199 rfl rfl
theorem wk_678 : Cond.instanceMethod yX7_sumFirsts ∈ zTb := zTm (L := tables_1_3) zT3 198 rfl rfl
theorem ws_63 : Cond.selects "EndSums" yX7_sumFirsts yX7_sumFirsts ∈ zTb := zTb_mem 63 rfl rfl
theorem wk_683 : Cond.code yX7_sumsLike cX7_sumsLike 5 (some .int) ∈ zTb := zTm (L := tables_1_3) zT3 203 rfl rfl
theorem wk_682 : Cond.instanceMethod yX7_sumsLike ∈ zTb := zTm (L := tables_1_3) zT3 202 rfl rfl
theorem ws_64 : Cond.selects "EndSums" yX7_sumsLike yX7_sumsLike ∈ zTb := zTb_mem 64 rfl rfl
theorem wk_676 : Cond.methodLink "EndSums" 279 yX7_sumFirsts ∈ zTb := zTm (L := tables_1_3) zT3 196 rfl rfl
theorem wk_680 : Cond.methodLink "EndSums" 282 yX7_sumsLike ∈ zTb := zTm (L := tables_1_3) zT3 200 rfl rfl
theorem wk_684 : Cond.methodLink "EndSums" 285 Lib.Math.max.name ∈ zTb := zTm (L := tables_1_3) zT3 204 rfl rfl
theorem wk_685 : Cond.static Lib.Math.max.name ∈ zTb := zTm (L := tables_1_3) zT3 205 rfl rfl
theorem wk_686 : Cond.code Lib.Math.max.name Lib.Math.max.code 2 (some .int) ∈ zTb := zTm (L := tables_1_3) zT3 206 rfl rfl
theorem wk_675 : Cond.code yX7_unlike cX7_unlike 8 (some .int) ∈ zTb := zTm (L := tables_1_3) zT3 195 rfl rfl
theorem wk_673 : Cond.instanceMethod yX7_unlike ∈ zTb := zTm (L := tables_1_3) zT3 193 rfl rfl
theorem wk_674 : Cond.selects "EndSums" yX7_unlike yX7_unlike ∈ zTb := zTm (L := tables_1_3) zT3 194 rfl rfl
theorem wn_691 : Cond.methodLinkNest "EndSums" 290 yX1_cellsSharedWith "EndSums" ∈ lw_tbl := zT3 _ (List.mem_of_getElem? (i := 211) rfl)
theorem wn_708 : Cond.methodLinkNest "EndSums" 294 yX1_hasItemsOf "EndSums" ∈ lw_tbl := zT3 _ (List.mem_of_getElem? (i := 228) rfl)
theorem wk_690 : Cond.code yX7_same cX7_same 9 (some .int) ∈ zTb := zTm (L := tables_1_3) zT3 210 rfl rfl
theorem wk_688 : Cond.instanceMethod yX7_same ∈ zTb := zTm (L := tables_1_3) zT3 208 rfl rfl
theorem wk_689 : Cond.selects "EndSums" yX7_same yX7_same ∈ zTb := zTm (L := tables_1_3) zT3 209 rfl rfl
theorem wn_721 : Cond.methodLinkNest "EndSums" 338 yX1_markOf "EndSums" ∈ lw_tbl := zT4 _ (List.mem_of_getElem? (i := 1) rfl)
theorem wn_722 : Cond.methodLinkNest "EndSums" 341 yX1_hasCell "EndSums" ∈ lw_tbl := zT4 _ (List.mem_of_getElem? (i := 2) rfl)
theorem wk_720 : Cond.code yX7_linesWithCell cX7_linesWithCell 7 (some .int) ∈ zTb := zTm (L := tables_1_4) zT4 0 rfl rfl
theorem wk_719 : Cond.instanceMethod yX7_linesWithCell ∈ zTb := zTm (L := tables_1_3) zT3 239 rfl rfl
theorem ws_70 : Cond.selects "EndSums" yX7_linesWithCell yX7_linesWithCell ∈ zTb := zTb_mem 70 rfl rfl
theorem wk_717 : Cond.methodLink "EndSums" 298 yX7_linesWithCell ∈ zTb := zTm (L := tables_1_3) zT3 237 rfl rfl
theorem wk_716 : Cond.code yX7_shared cX7_shared 10 (some .int) ∈ zTb := zTm (L := tables_1_3) zT3 236 rfl rfl
theorem wk_714 : Cond.instanceMethod yX7_shared ∈ zTb := zTm (L := tables_1_3) zT3 234 rfl rfl
theorem wk_715 : Cond.selects "EndSums" yX7_shared yX7_shared ∈ zTb := zTm (L := tables_1_3) zT3 235 rfl rfl
theorem wn_727 : Cond.methodLinkNest "EndSums" 302 yX4_frontBehind "EndSums" ∈ lw_tbl := zT4 _ (List.mem_of_getElem? (i := 7) rfl)
theorem wn_728 : Cond.methodLinkNest "EndSums" 306 yX4_cost "EndSums" ∈ lw_tbl := zT4 _ (List.mem_of_getElem? (i := 8) rfl)
theorem wk_726 : Cond.code yX7_would cX7_would 5 (some .int) ∈ zTb := zTm (L := tables_1_4) zT4 6 rfl rfl
theorem wk_724 : Cond.instanceMethod yX7_would ∈ zTb := zTm (L := tables_1_4) zT4 4 rfl rfl
theorem wk_725 : Cond.selects "EndSums" yX7_would yX7_would ∈ zTb := zTm (L := tables_1_4) zT4 5 rfl rfl
theorem wk_190 : Cond.fieldLink "EndSums" 53 "EndSums" "takings" "LEndSums$Takings;" ∈ zTb := zTm (L := tables_1_1) zT1 190 rfl rfl
theorem wn_733 : Cond.methodLinkNest "EndSums" 309 yX4_seek "EndSums" ∈ lw_tbl := zT4 _ (List.mem_of_getElem? (i := 13) rfl)
theorem wn_170 : Cond.fieldLinkNest "EndSums" 313 "EndSums$Takings" "dearestEnds" "I" "EndSums" ∈ lw_tbl := zT1 _ (List.mem_of_getElem? (i := 170) rfl)
theorem wn_168 : Cond.fieldLinkNest "EndSums" 316 "EndSums$Takings" "dearestCost" "I" "EndSums" ∈ lw_tbl := zT1 _ (List.mem_of_getElem? (i := 168) rfl)
theorem wk_732 : Cond.code yX7_dearest cX7_dearest 4 (some .int) ∈ zTb := zTm (L := tables_1_4) zT4 12 rfl rfl
theorem wk_730 : Cond.instanceMethod yX7_dearest ∈ zTb := zTm (L := tables_1_4) zT4 10 rfl rfl
theorem wk_731 : Cond.selects "EndSums" yX7_dearest yX7_dearest ∈ zTb := zTm (L := tables_1_4) zT4 11 rfl rfl
theorem wn_79 : Cond.fieldLinkNest "EndSums" 319 "EndSums$Works" "rebuilt" "I" "EndSums" ∈ lw_tbl := zT1 _ (List.mem_of_getElem? (i := 79) rfl)
theorem wk_757 : Cond.code yX7_count cX7_count 3 (some .int) ∈ zTb := zTm (L := tables_1_4) zT4 37 rfl rfl
theorem wk_755 : Cond.instanceMethod yX7_count ∈ zTb := zTm (L := tables_1_4) zT4 35 rfl rfl
theorem wk_756 : Cond.selects "EndSums" yX7_count yX7_count ∈ zTb := zTm (L := tables_1_4) zT4 36 rfl rfl
theorem wk_861 : Cond.fieldLink "EndSumsModel" 1 "EndSumsModel" "thrown" "I" ∈ zTb := zTm (L := tables_1_4) zT4 141 rfl rfl
theorem wk_843 : Cond.code yX8_thrown cX8_thrown 1 (some .int) ∈ zTb := zTm (L := tables_1_4) zT4 123 rfl rfl
theorem wk_9 : Cond.initialized "EndSumsModel" ∈ zTb := zTm (L := tables_1_1) zT1 9 rfl rfl
theorem wk_841 : Cond.instanceMethod yX8_thrown ∈ zTb := zTm (L := tables_1_4) zT4 121 rfl rfl
theorem wk_842 : Cond.selects "EndSumsModel" yX8_thrown yX8_thrown ∈ zTb := zTm (L := tables_1_4) zT4 122 rfl rfl
theorem wk_854 : Cond.code yX8_in cX8_in 6 (some .boolean) ∈ zTb := zTm (L := tables_1_4) zT4 134 rfl rfl
theorem wk_853 : Cond.static yX8_in ∈ zTb := zTm (L := tables_1_4) zT4 133 rfl rfl
theorem wk_987 : Cond.code yX8_flag cX8_flag 1 (some .int) ∈ zTb := zTm (L := tables_1_5) zT5 27 rfl rfl
theorem wk_986 : Cond.static yX8_flag ∈ zTb := zTm (L := tables_1_5) zT5 26 rfl rfl
theorem wk_863 : Cond.fieldLink "EndSumsModel" 7 "EndSumsModel" "row" "[J" ∈ zTb := zTm (L := tables_1_4) zT4 143 rfl rfl
theorem wk_862 : Cond.fieldLink "EndSumsModel" 11 "EndSumsModel" "told" "I" ∈ zTb := zTm (L := tables_1_4) zT4 142 rfl rfl
theorem wk_1009 : Cond.code yX8_enters cX8_enters 3 none ∈ zTb := zTm (L := tables_1_5) zT5 49 rfl rfl
theorem wk_1008 : Cond.instanceMethod yX8_enters ∈ zTb := zTm (L := tables_1_5) zT5 48 rfl rfl
theorem ws_82 : Cond.selects "EndSumsModel" yX8_enters yX8_enters ∈ zTb := zTb_mem 82 rfl rfl
theorem wk_865 : Cond.fieldLink "EndSumsModel" 14 "EndSumsModel" "taped" "I" ∈ zTb := zTm (L := tables_1_4) zT4 145 rfl rfl
theorem wk_864 : Cond.fieldLink "EndSumsModel" 17 "EndSumsModel" "tape" "[I" ∈ zTb := zTm (L := tables_1_4) zT4 144 rfl rfl
theorem wk_847 : Cond.code yX8_sign cX8_sign 3 (some .int) ∈ zTb := zTm (L := tables_1_4) zT4 127 rfl rfl
theorem wk_845 : Cond.instanceMethod yX8_sign ∈ zTb := zTm (L := tables_1_4) zT4 125 rfl rfl
theorem wk_846 : Cond.selects "EndSumsModel" yX8_sign yX8_sign ∈ zTb := zTm (L := tables_1_4) zT4 126 rfl rfl
theorem wk_852 : Cond.methodLink "EndSumsModel" 21 yX8_in ∈ zTb := zTm (L := tables_1_4) zT4 132 rfl rfl
theorem wk_851 : Cond.code yX8_end cX8_end 2 (some .boolean) ∈ zTb := zTm (L := tables_1_4) zT4 131 rfl rfl
theorem wk_849 : Cond.instanceMethod yX8_end ∈ zTb := zTm (L := tables_1_4) zT4 129 rfl rfl
theorem wk_850 : Cond.selects "EndSumsModel" yX8_end yX8_end ∈ zTb := zTm (L := tables_1_4) zT4 130 rfl rfl
theorem wk_867 : Cond.fieldLink "EndSumsModel" 25 "EndSumsModel" "to" "I" ∈ zTb := zTm (L := tables_1_4) zT4 147 rfl rfl
theorem wk_866 : Cond.fieldLink "EndSumsModel" 28 "EndSumsModel" "at" "I" ∈ zTb := zTm (L := tables_1_4) zT4 146 rfl rfl
theorem wk_1076 : Cond.code yX8_reads cX8_reads 1 none ∈ zTb := zTm (L := tables_1_5) zT5 116 rfl rfl
theorem wk_1075 : Cond.instanceMethod yX8_reads ∈ zTb := zTm (L := tables_1_5) zT5 115 rfl rfl
theorem ws_92 : Cond.selects "EndSumsModel" yX8_reads yX8_reads ∈ zTb := zTb_mem 92 rfl rfl
theorem wk_985 : Cond.methodLink "EndSumsModel" 31 yX8_flag ∈ zTb := zTm (L := tables_1_5) zT5 25 rfl rfl
theorem wk_1086 : Cond.code yX8_takesSign cX8_takesSign 3 (some .boolean) ∈ zTb := zTm (L := tables_1_5) zT5 126 rfl rfl
theorem wk_1085 : Cond.instanceMethod yX8_takesSign ∈ zTb := zTm (L := tables_1_5) zT5 125 rfl rfl
theorem ws_94 : Cond.selects "EndSumsModel" yX8_takesSign yX8_takesSign ∈ zTb := zTb_mem 94 rfl rfl
theorem wk_1081 : Cond.constantLong "EndSumsModel" 35 (48 : Int64) ∈ zTb := zTm (L := tables_1_5) zT5 121 rfl rfl
theorem wk_1091 : Cond.constantLong "EndSumsModel" 37 (57 : Int64) ∈ zTb := zTm (L := tables_1_5) zT5 131 rfl rfl
theorem wk_1090 : Cond.code yX8_isDigit cX8_isDigit 1 (some .boolean) ∈ zTb := zTm (L := tables_1_5) zT5 130 rfl rfl
theorem wk_1089 : Cond.instanceMethod yX8_isDigit ∈ zTb := zTm (L := tables_1_5) zT5 129 rfl rfl
theorem ws_95 : Cond.selects "EndSumsModel" yX8_isDigit yX8_isDigit ∈ zTb := zTb_mem 95 rfl rfl
theorem wk_872 : Cond.fieldLink "EndSumsModel" 96 "EndSumsModel" "p" "J" ∈ zTb := zTm (L := tables_1_4) zT4 152 rfl rfl
theorem wk_873 : Cond.fieldLink "EndSumsModel" 100 "EndSumsModel" "q" "J" ∈ zTb := zTm (L := tables_1_4) zT4 153 rfl rfl
theorem wk_977 : Cond.code yX8_is cX8_is 5 none ∈ zTb := zTm (L := tables_1_5) zT5 17 rfl rfl
theorem wk_976 : Cond.instanceMethod yX8_is ∈ zTb := zTm (L := tables_1_5) zT5 16 rfl rfl
theorem ws_78 : Cond.selects "EndSumsModel" yX8_is yX8_is ∈ zTb := zTb_mem 78 rfl rfl
theorem wk_868 : Cond.fieldLink "EndSumsModel" 93 "EndSumsModel" "rule" "I" ∈ zTb := zTm (L := tables_1_4) zT4 148 rfl rfl
theorem wk_1023 : Cond.constantLong "EndSumsModel" 103 (10000 : Int64) ∈ zTb := zTm (L := tables_1_5) zT5 63 rfl rfl
theorem wk_1024 : Cond.constantLong "EndSumsModel" 105 (-1 : Int64) ∈ zTb := zTm (L := tables_1_5) zT5 64 rfl rfl
theorem wk_974 : Cond.methodLink "EndSumsModel" 107 yX8_is ∈ zTb := zTm (L := tables_1_5) zT5 14 rfl rfl
theorem wk_870 : Cond.fieldLink "EndSumsModel" 111 "EndSumsModel" "neutral" "I" ∈ zTb := zTm (L := tables_1_4) zT4 150 rfl rfl
theorem wk_1022 : Cond.code yX8_empty cX8_empty 1 none ∈ zTb := zTm (L := tables_1_5) zT5 62 rfl rfl
theorem wk_1021 : Cond.instanceMethod yX8_empty ∈ zTb := zTm (L := tables_1_5) zT5 61 rfl rfl
theorem ws_84 : Cond.selects "EndSumsModel" yX8_empty yX8_empty ∈ zTb := zTb_mem 84 rfl rfl
theorem wk_984 : Cond.code yX8_lays cX8_lays 8 none ∈ zTb := zTm (L := tables_1_5) zT5 24 rfl rfl
theorem wk_983 : Cond.static yX8_lays ∈ zTb := zTm (L := tables_1_5) zT5 23 rfl rfl
theorem wk_874 : Cond.fieldLink "EndSumsModel" 51 "EndSumsModel" "places" "[I" ∈ zTb := zTm (L := tables_1_4) zT4 154 rfl rfl
theorem wk_982 : Cond.methodLink "EndSumsModel" 118 yX8_lays ∈ zTb := zTm (L := tables_1_5) zT5 22 rfl rfl
theorem wk_981 : Cond.code yX8_leaps cX8_leaps 5 (some .int) ∈ zTb := zTm (L := tables_1_5) zT5 21 rfl rfl
theorem wk_980 : Cond.instanceMethod yX8_leaps ∈ zTb := zTm (L := tables_1_5) zT5 20 rfl rfl
theorem ws_79 : Cond.selects "EndSumsModel" yX8_leaps yX8_leaps ∈ zTb := zTb_mem 79 rfl rfl
theorem wk_978 : Cond.methodLink "EndSumsModel" 114 yX8_leaps ∈ zTb := zTm (L := tables_1_5) zT5 18 rfl rfl
theorem wk_869 : Cond.fieldLink "EndSumsModel" 45 "EndSumsModel" "wide" "I" ∈ zTb := zTm (L := tables_1_4) zT4 149 rfl rfl
theorem wk_973 : Cond.code yX8_element cX8_element 2 none ∈ zTb := zTm (L := tables_1_5) zT5 13 rfl rfl
theorem wk_972 : Cond.instanceMethod yX8_element ∈ zTb := zTm (L := tables_1_5) zT5 12 rfl rfl
theorem ws_77 : Cond.selects "EndSumsModel" yX8_element yX8_element ∈ zTb := zTb_mem 77 rfl rfl
theorem wk_996 : Cond.code yX8_common cX8_common 10 (some .long) ∈ zTb := zTm (L := tables_1_5) zT5 36 rfl rfl
theorem wk_995 : Cond.static yX8_common ∈ zTb := zTm (L := tables_1_5) zT5 35 rfl rfl
theorem wk_1004 : Cond.code yX8_numberOf cX8_numberOf 6 (some .int) ∈ zTb := zTm (L := tables_1_5) zT5 44 rfl rfl
theorem wk_1003 : Cond.static yX8_numberOf ∈ zTb := zTm (L := tables_1_5) zT5 43 rfl rfl
theorem wk_875 : Cond.fieldLink "EndSumsModel" 54 "EndSumsModel" "others" "[I" ∈ zTb := zTm (L := tables_1_4) zT4 155 rfl rfl
theorem wk_876 : Cond.fieldLink "EndSumsModel" 57 "EndSumsModel" "made" "[I" ∈ zTb := zTm (L := tables_1_4) zT4 156 rfl rfl
theorem wk_1002 : Cond.methodLink "EndSumsModel" 122 yX8_numberOf ∈ zTb := zTm (L := tables_1_5) zT5 42 rfl rfl
theorem wk_1001 : Cond.code yX8_arrangedBy cX8_arrangedBy 4 (some .int) ∈ zTb := zTm (L := tables_1_5) zT5 41 rfl rfl
theorem wk_1000 : Cond.instanceMethod yX8_arrangedBy ∈ zTb := zTm (L := tables_1_5) zT5 40 rfl rfl
theorem ws_81 : Cond.selects "EndSumsModel" yX8_arrangedBy yX8_arrangedBy ∈ zTb := zTb_mem 81 rfl rfl
theorem wk_992 : Cond.methodLink "EndSumsModel" 126 Lib.MathLoose.min_long.x ∈ zTb := zTm (L := tables_1_5) zT5 32 rfl rfl
theorem wk_993 : Cond.methodLink "EndSumsModel" 132 Lib.MathLoose.max_long.x ∈ zTb := zTm (L := tables_1_5) zT5 33 rfl rfl
theorem wk_994 : Cond.methodLink "EndSumsModel" 135 yX8_common ∈ zTb := zTm (L := tables_1_5) zT5 34 rfl rfl
theorem wk_997 : Cond.constantLong "EndSumsModel" 138 (101 : Int64) ∈ zTb := zTm (L := tables_1_5) zT5 37 rfl rfl
theorem wk_998 : Cond.methodLink "EndSumsModel" 140 yX8_arrangedBy ∈ zTb := zTm (L := tables_1_5) zT5 38 rfl rfl
theorem wk_1005 : Cond.constantLong "EndSumsModel" 144 (2 : Int64) ∈ zTb := zTm (L := tables_1_5) zT5 45 rfl rfl
theorem wk_871 : Cond.fieldLink "EndSumsModel" 48 "EndSumsModel" "table" "[I" ∈ zTb := zTm (L := tables_1_4) zT4 151 rfl rfl
theorem wk_991 : Cond.code yX8_join cX8_join 11 none ∈ zTb := zTm (L := tables_1_5) zT5 31 rfl rfl
theorem wk_990 : Cond.instanceMethod yX8_join ∈ zTb := zTm (L := tables_1_5) zT5 30 rfl rfl
theorem ws_80 : Cond.selects "EndSumsModel" yX8_join yX8_join ∈ zTb := zTb_mem 80 rfl rfl
theorem wk_965 : Cond.constantLong "EndSumsModel" 146 (9999 : Int64) ∈ zTb := zTm (L := tables_1_5) zT5 5 rfl rfl
theorem wk_964 : Cond.code yX8_isItem cX8_isItem 1 (some .boolean) ∈ zTb := zTm (L := tables_1_5) zT5 4 rfl rfl
theorem wk_963 : Cond.static yX8_isItem ∈ zTb := zTm (L := tables_1_5) zT5 3 rfl rfl
theorem wk_970 : Cond.methodLink "EndSumsModel" 148 yX8_element ∈ zTb := zTm (L := tables_1_5) zT5 10 rfl rfl
theorem wk_988 : Cond.methodLink "EndSumsModel" 152 yX8_join ∈ zTb := zTm (L := tables_1_5) zT5 28 rfl rfl
theorem wk_969 : Cond.code yX8_joinsTwo cX8_joinsTwo 7 none ∈ zTb := zTm (L := tables_1_5) zT5 9 rfl rfl
theorem wk_968 : Cond.instanceMethod yX8_joinsTwo ∈ zTb := zTm (L := tables_1_5) zT5 8 rfl rfl
theorem ws_76 : Cond.selects "EndSumsModel" yX8_joinsTwo yX8_joinsTwo ∈ zTb := zTb_mem 76 rfl rfl
theorem wk_962 : Cond.methodLink "EndSumsModel" 156 yX8_isItem ∈ zTb := zTm (L := tables_1_5) zT5 2 rfl rfl
theorem wk_966 : Cond.methodLink "EndSumsModel" 160 yX8_joinsTwo ∈ zTb := zTm (L := tables_1_5) zT5 6 rfl rfl
theorem wk_1006 : Cond.methodLink "EndSumsModel" 164 yX8_enters ∈ zTb := zTm (L := tables_1_5) zT5 46 rfl rfl
theorem wk_961 : Cond.code yX8_commutes cX8_commutes 7 (some .int) ∈ zTb := zTm (L := tables_1_5) zT5 1 rfl rfl
theorem wk_959 : Cond.instanceMethod yX8_commutes ∈ zTb := zTm (L := tables_1_4) zT4 239 rfl rfl
theorem wk_960 : Cond.selects "EndSumsModel" yX8_commutes yX8_commutes ∈ zTb := zTm (L := tables_1_5) zT5 0 rfl rfl
theorem wk_1015 : Cond.methodLink "EndSumsModel" 171 yX8_power ∈ zTb := zTm (L := tables_1_5) zT5 55 rfl rfl
theorem wk_1019 : Cond.methodLink "EndSumsModel" 168 yX8_empty ∈ zTb := zTm (L := tables_1_5) zT5 59 rfl rfl
theorem wk_1018 : Cond.code yX8_power cX8_power 8 (some .int) ∈ zTb := zTm (L := tables_1_5) zT5 58 rfl rfl
theorem wk_1017 : Cond.instanceMethod yX8_power ∈ zTb := zTm (L := tables_1_5) zT5 57 rfl rfl
theorem ws_83 : Cond.selects "EndSumsModel" yX8_power yX8_power ∈ zTb := zTb_mem 83 rfl rfl
theorem wk_1014 : Cond.constantLong "EndSumsModel" 174 (1000000000 : Int64) ∈ zTb := zTm (L := tables_1_5) zT5 54 rfl rfl
theorem wk_1013 : Cond.code yX8_powers cX8_powers 4 (some .int) ∈ zTb := zTm (L := tables_1_5) zT5 53 rfl rfl
theorem wk_1011 : Cond.instanceMethod yX8_powers ∈ zTb := zTm (L := tables_1_5) zT5 51 rfl rfl
theorem wk_1012 : Cond.selects "EndSumsModel" yX8_powers yX8_powers ∈ zTb := zTm (L := tables_1_5) zT5 52 rfl rfl
theorem wk_877 : Cond.fieldLink "EndSumsModel" 60 "EndSumsModel" "sumP" "[J" ∈ zTb := zTm (L := tables_1_4) zT4 157 rfl rfl
theorem wk_878 : Cond.fieldLink "EndSumsModel" 63 "EndSumsModel" "sumQ" "[J" ∈ zTb := zTm (L := tables_1_4) zT4 158 rfl rfl
theorem wk_1028 : Cond.code yX8_order cX8_order 8 (some .int) ∈ zTb := zTm (L := tables_1_5) zT5 68 rfl rfl
theorem wk_1026 : Cond.instanceMethod yX8_order ∈ zTb := zTm (L := tables_1_5) zT5 66 rfl rfl
theorem wk_1027 : Cond.selects "EndSumsModel" yX8_order yX8_order ∈ zTb := zTm (L := tables_1_5) zT5 67 rfl rfl
theorem wk_1032 : Cond.code yX8_undoes cX8_undoes 8 (some .int) ∈ zTb := zTm (L := tables_1_5) zT5 72 rfl rfl
theorem wk_1030 : Cond.instanceMethod yX8_undoes ∈ zTb := zTm (L := tables_1_5) zT5 70 rfl rfl
theorem wk_1031 : Cond.selects "EndSumsModel" yX8_undoes yX8_undoes ∈ zTb := zTm (L := tables_1_5) zT5 71 rfl rfl
theorem wk_1111 : Cond.constantLong "EndSumsModel" 176 (3 : Int64) ∈ zTb := zTm (L := tables_1_5) zT5 151 rfl rfl
theorem wk_1110 : Cond.code yX8_isLine cX8_isLine 1 (some .boolean) ∈ zTb := zTm (L := tables_1_5) zT5 150 rfl rfl
theorem wk_1109 : Cond.static yX8_isLine ∈ zTb := zTm (L := tables_1_5) zT5 149 rfl rfl
theorem wk_1114 : Cond.code yX8_isEnd cX8_isEnd 1 (some .boolean) ∈ zTb := zTm (L := tables_1_5) zT5 154 rfl rfl
theorem wk_1113 : Cond.static yX8_isEnd ∈ zTb := zTm (L := tables_1_5) zT5 153 rfl rfl
theorem wk_879 : Cond.fieldLink "EndSumsModel" 66 "EndSumsModel" "many" "[I" ∈ zTb := zTm (L := tables_1_4) zT4 159 rfl rfl
theorem wk_1049 : Cond.code yX8_sizeOf cX8_sizeOf 2 (some .int) ∈ zTb := zTm (L := tables_1_5) zT5 89 rfl rfl
theorem wk_1048 : Cond.instanceMethod yX8_sizeOf ∈ zTb := zTm (L := tables_1_5) zT5 88 rfl rfl
theorem ws_87 : Cond.selects "EndSumsModel" yX8_sizeOf yX8_sizeOf ∈ zTb := zTb_mem 87 rfl rfl
theorem wk_1060 : Cond.code yX8_place cX8_place 2 (some .int) ∈ zTb := zTm (L := tables_1_5) zT5 100 rfl rfl
theorem wk_1059 : Cond.static yX8_place ∈ zTb := zTm (L := tables_1_5) zT5 99 rfl rfl
theorem wk_1058 : Cond.methodLink "EndSumsModel" 178 yX8_place ∈ zTb := zTm (L := tables_1_5) zT5 98 rfl rfl
theorem wk_1057 : Cond.code yX8_placeOf cX8_placeOf 4 (some .int) ∈ zTb := zTm (L := tables_1_5) zT5 97 rfl rfl
theorem wk_1056 : Cond.instanceMethod yX8_placeOf ∈ zTb := zTm (L := tables_1_5) zT5 96 rfl rfl
theorem ws_89 : Cond.selects "EndSumsModel" yX8_placeOf yX8_placeOf ∈ zTb := zTb_mem 89 rfl rfl
theorem wk_881 : Cond.fieldLink "EndSumsModel" 72 "EndSumsModel" "item" "[I" ∈ zTb := zTm (L := tables_1_4) zT4 161 rfl rfl
theorem wk_1054 : Cond.methodLink "EndSumsModel" 181 yX8_placeOf ∈ zTb := zTm (L := tables_1_5) zT5 94 rfl rfl
theorem wk_1053 : Cond.code yX8_itemAt cX8_itemAt 3 (some .int) ∈ zTb := zTm (L := tables_1_5) zT5 93 rfl rfl
theorem wk_1052 : Cond.instanceMethod yX8_itemAt ∈ zTb := zTm (L := tables_1_5) zT5 92 rfl rfl
theorem ws_88 : Cond.selects "EndSumsModel" yX8_itemAt yX8_itemAt ∈ zTb := zTb_mem 88 rfl rfl
theorem wk_882 : Cond.fieldLink "EndSumsModel" 75 "EndSumsModel" "cellP" "[J" ∈ zTb := zTm (L := tables_1_4) zT4 162 rfl rfl
theorem wk_883 : Cond.fieldLink "EndSumsModel" 78 "EndSumsModel" "cellQ" "[J" ∈ zTb := zTm (L := tables_1_4) zT4 163 rfl rfl
theorem wk_880 : Cond.fieldLink "EndSumsModel" 69 "EndSumsModel" "cell" "[I" ∈ zTb := zTm (L := tables_1_4) zT4 160 rfl rfl
theorem wk_884 : Cond.fieldLink "EndSumsModel" 184 "EndSumsModel" "work" "I" ∈ zTb := zTm (L := tables_1_4) zT4 164 rfl rfl
theorem wk_1068 : Cond.code yX8_makes cX8_makes 8 none ∈ zTb := zTm (L := tables_1_5) zT5 108 rfl rfl
theorem wk_1067 : Cond.instanceMethod yX8_makes ∈ zTb := zTm (L := tables_1_5) zT5 107 rfl rfl
theorem ws_91 : Cond.selects "EndSumsModel" yX8_makes yX8_makes ∈ zTb := zTb_mem 91 rfl rfl
theorem wk_1046 : Cond.methodLink "EndSumsModel" 187 yX8_sizeOf ∈ zTb := zTm (L := tables_1_5) zT5 86 rfl rfl
theorem wk_886 : Cond.fieldLink "EndSumsModel" 81 "EndSumsModel" "items" "[I" ∈ zTb := zTm (L := tables_1_4) zT4 166 rfl rfl
theorem wk_1050 : Cond.methodLink "EndSumsModel" 190 yX8_itemAt ∈ zTb := zTm (L := tables_1_5) zT5 90 rfl rfl
theorem wk_1045 : Cond.code yX8_takesItems cX8_takesItems 4 (some .int) ∈ zTb := zTm (L := tables_1_5) zT5 85 rfl rfl
theorem wk_1044 : Cond.instanceMethod yX8_takesItems ∈ zTb := zTm (L := tables_1_5) zT5 84 rfl rfl
theorem ws_86 : Cond.selects "EndSumsModel" yX8_takesItems yX8_takesItems ∈ zTb := zTb_mem 86 rfl rfl
theorem wk_1065 : Cond.methodLink "EndSumsModel" 193 yX8_makes ∈ zTb := zTm (L := tables_1_5) zT5 105 rfl rfl
theorem wk_1064 : Cond.code yX8_lays_ cX8_lays_ 6 none ∈ zTb := zTm (L := tables_1_5) zT5 104 rfl rfl
theorem wk_1063 : Cond.instanceMethod yX8_lays_ ∈ zTb := zTm (L := tables_1_5) zT5 103 rfl rfl
theorem ws_90 : Cond.selects "EndSumsModel" yX8_lays_ yX8_lays_ ∈ zTb := zTb_mem 90 rfl rfl
theorem wk_1042 : Cond.methodLink "EndSumsModel" 196 yX8_takesItems ∈ zTb := zTm (L := tables_1_5) zT5 82 rfl rfl
theorem wk_1061 : Cond.methodLink "EndSumsModel" 199 yX8_lays_ ∈ zTb := zTm (L := tables_1_5) zT5 101 rfl rfl
theorem wk_1041 : Cond.code yX8_laysAll cX8_laysAll 4 none ∈ zTb := zTm (L := tables_1_5) zT5 81 rfl rfl
theorem wk_1040 : Cond.instanceMethod yX8_laysAll ∈ zTb := zTm (L := tables_1_5) zT5 80 rfl rfl
theorem ws_85 : Cond.selects "EndSumsModel" yX8_laysAll yX8_laysAll ∈ zTb := zTb_mem 85 rfl rfl
theorem wk_885 : Cond.fieldLink "EndSumsModel" 202 "EndSumsModel" "rebuilt" "I" ∈ zTb := zTm (L := tables_1_4) zT4 165 rfl rfl
theorem wk_1122 : Cond.code yX8_takesOne cX8_takesOne 6 (some .int) ∈ zTb := zTm (L := tables_1_5) zT5 162 rfl rfl
theorem wk_1121 : Cond.instanceMethod yX8_takesOne ∈ zTb := zTm (L := tables_1_5) zT5 161 rfl rfl
theorem ws_99 : Cond.selects "EndSumsModel" yX8_takesOne yX8_takesOne ∈ zTb := zTb_mem 99 rfl rfl
theorem wk_1134 : Cond.code yX8_copiesTo cX8_copiesTo 7 none ∈ zTb := zTm (L := tables_1_5) zT5 174 rfl rfl
theorem wk_1133 : Cond.instanceMethod yX8_copiesTo ∈ zTb := zTm (L := tables_1_5) zT5 173 rfl rfl
theorem ws_101 : Cond.selects "EndSumsModel" yX8_copiesTo yX8_copiesTo ∈ zTb := zTb_mem 101 rfl rfl
theorem wk_1037 : Cond.constantLong "EndSumsModel" 205 (7 : Int64) ∈ zTb := zTm (L := tables_1_5) zT5 77 rfl rfl
theorem wk_1038 : Cond.methodLink "EndSumsModel" 207 yX8_laysAll ∈ zTb := zTm (L := tables_1_5) zT5 78 rfl rfl
theorem wk_1036 : Cond.code yX8_rule cX8_rule 3 (some .int) ∈ zTb := zTm (L := tables_1_5) zT5 76 rfl rfl
theorem wk_1034 : Cond.instanceMethod yX8_rule ∈ zTb := zTm (L := tables_1_5) zT5 74 rfl rfl
theorem wk_1035 : Cond.selects "EndSumsModel" yX8_rule yX8_rule ∈ zTb := zTm (L := tables_1_5) zT5 75 rfl rfl
theorem wk_888 : Cond.fieldLink "EndSumsModel" 210 "EndSumsModel" "readWide" "I" ∈ zTb := zTm (L := tables_1_4) zT4 168 rfl rfl
theorem wk_1087 : Cond.methodLink "EndSumsModel" 218 yX8_isDigit ∈ zTb := zTm (L := tables_1_5) zT5 127 rfl rfl
theorem wk_887 : Cond.fieldLink "EndSumsModel" 84 "EndSumsModel" "readTable" "[I" ∈ zTb := zTm (L := tables_1_4) zT4 167 rfl rfl
theorem wk_1083 : Cond.methodLink "EndSumsModel" 215 yX8_takesSign ∈ zTb := zTm (L := tables_1_5) zT5 123 rfl rfl
theorem wk_1082 : Cond.constantLong "EndSumsModel" 213 (52 : Int64) ∈ zTb := zTm (L := tables_1_5) zT5 122 rfl rfl
theorem wk_1080 : Cond.code yX8_readsTable cX8_readsTable 3 (some .boolean) ∈ zTb := zTm (L := tables_1_5) zT5 120 rfl rfl
theorem wk_1079 : Cond.instanceMethod yX8_readsTable ∈ zTb := zTm (L := tables_1_5) zT5 119 rfl rfl
theorem ws_93 : Cond.selects "EndSumsModel" yX8_readsTable yX8_readsTable ∈ zTb := zTb_mem 93 rfl rfl
theorem wk_1099 : Cond.code yX8_read cX8_read 3 (some .int) ∈ zTb := zTm (L := tables_1_5) zT5 139 rfl rfl
theorem wk_1098 : Cond.instanceMethod yX8_read ∈ zTb := zTm (L := tables_1_5) zT5 138 rfl rfl
theorem ws_97 : Cond.selects "EndSumsModel" yX8_read yX8_read ∈ zTb := zTb_mem 97 rfl rfl
theorem wk_1096 : Cond.methodLink "EndSumsModel" 222 yX8_read ∈ zTb := zTm (L := tables_1_5) zT5 136 rfl rfl
theorem wk_1095 : Cond.code yX8_hasUnlike cX8_hasUnlike 4 (some .boolean) ∈ zTb := zTm (L := tables_1_5) zT5 135 rfl rfl
theorem wk_1094 : Cond.instanceMethod yX8_hasUnlike ∈ zTb := zTm (L := tables_1_5) zT5 134 rfl rfl
theorem ws_96 : Cond.selects "EndSumsModel" yX8_hasUnlike yX8_hasUnlike ∈ zTb := zTb_mem 96 rfl rfl
theorem wk_1103 : Cond.code yX8_isNeutral cX8_isNeutral 4 (some .boolean) ∈ zTb := zTm (L := tables_1_5) zT5 143 rfl rfl
theorem wk_1102 : Cond.instanceMethod yX8_isNeutral ∈ zTb := zTm (L := tables_1_5) zT5 142 rfl rfl
theorem ws_98 : Cond.selects "EndSumsModel" yX8_isNeutral yX8_isNeutral ∈ zTb := zTb_mem 98 rfl rfl
theorem wk_1073 : Cond.methodLink "EndSumsModel" 225 yX8_reads ∈ zTb := zTm (L := tables_1_5) zT5 113 rfl rfl
theorem wk_1077 : Cond.methodLink "EndSumsModel" 228 yX8_readsTable ∈ zTb := zTm (L := tables_1_5) zT5 117 rfl rfl
theorem wk_1092 : Cond.methodLink "EndSumsModel" 231 yX8_hasUnlike ∈ zTb := zTm (L := tables_1_5) zT5 132 rfl rfl
theorem wk_1100 : Cond.methodLink "EndSumsModel" 234 yX8_isNeutral ∈ zTb := zTm (L := tables_1_5) zT5 140 rfl rfl
theorem wk_1072 : Cond.code yX8_table cX8_table 3 (some .int) ∈ zTb := zTm (L := tables_1_5) zT5 112 rfl rfl
theorem wk_1070 : Cond.instanceMethod yX8_table ∈ zTb := zTm (L := tables_1_5) zT5 110 rfl rfl
theorem wk_1071 : Cond.selects "EndSumsModel" yX8_table yX8_table ∈ zTb := zTm (L := tables_1_5) zT5 111 rfl rfl
theorem wk_1108 : Cond.methodLink "EndSumsModel" 237 yX8_isLine ∈ zTb := zTm (L := tables_1_5) zT5 148 rfl rfl
theorem wk_1112 : Cond.methodLink "EndSumsModel" 240 yX8_isEnd ∈ zTb := zTm (L := tables_1_5) zT5 152 rfl rfl
theorem wk_1107 : Cond.code yX8_puts cX8_puts 4 (some .int) ∈ zTb := zTm (L := tables_1_5) zT5 147 rfl rfl
theorem wk_1105 : Cond.instanceMethod yX8_puts ∈ zTb := zTm (L := tables_1_5) zT5 145 rfl rfl
theorem wk_1106 : Cond.selects "EndSumsModel" yX8_puts yX8_puts ∈ zTb := zTm (L := tables_1_5) zT5 146 rfl rfl
theorem wk_1126 : Cond.code yX8_tellsWork cX8_tellsWork 3 (some .int) ∈ zTb := zTm (L := tables_1_5) zT5 166 rfl rfl
theorem wk_1125 : Cond.instanceMethod yX8_tellsWork ∈ zTb := zTm (L := tables_1_5) zT5 165 rfl rfl
theorem ws_100 : Cond.selects "EndSumsModel" yX8_tellsWork yX8_tellsWork ∈ zTb := zTb_mem 100 rfl rfl
theorem wk_1119 : Cond.methodLink "EndSumsModel" 243 yX8_takesOne ∈ zTb := zTm (L := tables_1_5) zT5 159 rfl rfl
theorem wk_1123 : Cond.methodLink "EndSumsModel" 246 yX8_tellsWork ∈ zTb := zTm (L := tables_1_5) zT5 163 rfl rfl
theorem wk_1118 : Cond.code yX8_takes cX8_takes 5 (some .int) ∈ zTb := zTm (L := tables_1_5) zT5 158 rfl rfl
theorem wk_1116 : Cond.instanceMethod yX8_takes ∈ zTb := zTm (L := tables_1_5) zT5 156 rfl rfl
theorem wk_1117 : Cond.selects "EndSumsModel" yX8_takes yX8_takes ∈ zTb := zTm (L := tables_1_5) zT5 157 rfl rfl
theorem wk_1131 : Cond.methodLink "EndSumsModel" 249 yX8_copiesTo ∈ zTb := zTm (L := tables_1_5) zT5 171 rfl rfl
theorem wk_1130 : Cond.code yX8_copies cX8_copies 3 (some .int) ∈ zTb := zTm (L := tables_1_5) zT5 170 rfl rfl
theorem wk_1128 : Cond.instanceMethod yX8_copies ∈ zTb := zTm (L := tables_1_5) zT5 168 rfl rfl
theorem wk_1129 : Cond.selects "EndSumsModel" yX8_copies yX8_copies ∈ zTb := zTm (L := tables_1_5) zT5 169 rfl rfl
theorem wk_1138 : Cond.code yX8_joins cX8_joins 5 (some .int) ∈ zTb := zTm (L := tables_1_5) zT5 178 rfl rfl
theorem wk_1136 : Cond.instanceMethod yX8_joins ∈ zTb := zTm (L := tables_1_5) zT5 176 rfl rfl
theorem wk_1137 : Cond.selects "EndSumsModel" yX8_joins yX8_joins ∈ zTb := zTm (L := tables_1_5) zT5 177 rfl rfl
theorem wk_1142 : Cond.code yX8_parts cX8_parts 5 (some .int) ∈ zTb := zTm (L := tables_1_5) zT5 182 rfl rfl
theorem wk_1140 : Cond.instanceMethod yX8_parts ∈ zTb := zTm (L := tables_1_5) zT5 180 rfl rfl
theorem wk_1141 : Cond.selects "EndSumsModel" yX8_parts yX8_parts ∈ zTb := zTm (L := tables_1_5) zT5 181 rfl rfl
theorem wk_1150 : Cond.code yX8_turns cX8_turns 6 (some .int) ∈ zTb := zTm (L := tables_1_5) zT5 190 rfl rfl
theorem wk_1149 : Cond.instanceMethod yX8_turns ∈ zTb := zTm (L := tables_1_5) zT5 189 rfl rfl
theorem ws_102 : Cond.selects "EndSumsModel" yX8_turns yX8_turns ∈ zTb := zTb_mem 102 rfl rfl
theorem wk_1147 : Cond.methodLink "EndSumsModel" 252 yX8_turns ∈ zTb := zTm (L := tables_1_5) zT5 187 rfl rfl
theorem wk_1146 : Cond.code yX8_reverses cX8_reverses 2 (some .int) ∈ zTb := zTm (L := tables_1_5) zT5 186 rfl rfl
theorem wk_1144 : Cond.instanceMethod yX8_reverses ∈ zTb := zTm (L := tables_1_5) zT5 184 rfl rfl
theorem wk_1145 : Cond.selects "EndSumsModel" yX8_reverses yX8_reverses ∈ zTb := zTm (L := tables_1_5) zT5 185 rfl rfl
theorem wk_1162 : Cond.code yX8_makesAgain cX8_makesAgain 7 none ∈ zTb := zTm (L := tables_1_5) zT5 202 rfl rfl
theorem wk_1161 : Cond.instanceMethod yX8_makesAgain ∈ zTb := zTm (L := tables_1_5) zT5 201 rfl rfl
theorem ws_104 : Cond.selects "EndSumsModel" yX8_makesAgain yX8_makesAgain ∈ zTb := zTb_mem 104 rfl rfl
theorem wk_1158 : Cond.code yX8_isAt cX8_isAt 3 (some .boolean) ∈ zTb := zTm (L := tables_1_5) zT5 198 rfl rfl
theorem wk_1157 : Cond.instanceMethod yX8_isAt ∈ zTb := zTm (L := tables_1_5) zT5 197 rfl rfl
theorem ws_103 : Cond.selects "EndSumsModel" yX8_isAt yX8_isAt ∈ zTb := zTb_mem 103 rfl rfl
theorem wk_1155 : Cond.methodLink "EndSumsModel" 255 yX8_isAt ∈ zTb := zTm (L := tables_1_5) zT5 195 rfl rfl
theorem wk_1159 : Cond.methodLink "EndSumsModel" 259 yX8_makesAgain ∈ zTb := zTm (L := tables_1_5) zT5 199 rfl rfl
theorem wk_1154 : Cond.code yX8_changes cX8_changes 8 (some .int) ∈ zTb := zTm (L := tables_1_5) zT5 194 rfl rfl
theorem wk_1152 : Cond.instanceMethod yX8_changes ∈ zTb := zTm (L := tables_1_5) zT5 192 rfl rfl
theorem wk_1153 : Cond.selects "EndSumsModel" yX8_changes yX8_changes ∈ zTb := zTm (L := tables_1_5) zT5 193 rfl rfl
theorem wk_1166 : Cond.code yX8_slips cX8_slips 7 (some .int) ∈ zTb := zTm (L := tables_1_5) zT5 206 rfl rfl
theorem wk_1164 : Cond.instanceMethod yX8_slips ∈ zTb := zTm (L := tables_1_5) zT5 204 rfl rfl
theorem wk_1165 : Cond.selects "EndSumsModel" yX8_slips yX8_slips ∈ zTb := zTm (L := tables_1_5) zT5 205 rfl rfl
theorem wk_1170 : Cond.code yX8_drops cX8_drops 8 (some .int) ∈ zTb := zTm (L := tables_1_5) zT5 210 rfl rfl
theorem wk_1168 : Cond.instanceMethod yX8_drops ∈ zTb := zTm (L := tables_1_5) zT5 208 rfl rfl
theorem wk_1169 : Cond.selects "EndSumsModel" yX8_drops yX8_drops ∈ zTb := zTm (L := tables_1_5) zT5 209 rfl rfl
theorem wk_1183 : Cond.code yX8_summary cX8_summary 6 none ∈ zTb := zTm (L := tables_1_5) zT5 223 rfl rfl
theorem wk_1182 : Cond.instanceMethod yX8_summary ∈ zTb := zTm (L := tables_1_5) zT5 222 rfl rfl
theorem ws_106 : Cond.selects "EndSumsModel" yX8_summary yX8_summary ∈ zTb := zTb_mem 106 rfl rfl
theorem wk_1180 : Cond.methodLink "EndSumsModel" 263 yX8_summary ∈ zTb := zTm (L := tables_1_5) zT5 220 rfl rfl
theorem wk_1179 : Cond.code yX8_entersSummary cX8_entersSummary 2 none ∈ zTb := zTm (L := tables_1_5) zT5 219 rfl rfl
theorem wk_1178 : Cond.instanceMethod yX8_entersSummary ∈ zTb := zTm (L := tables_1_5) zT5 218 rfl rfl
theorem ws_105 : Cond.selects "EndSumsModel" yX8_entersSummary yX8_entersSummary ∈ zTb := zTb_mem 105 rfl rfl
theorem wk_1175 : Cond.constantLong "EndSumsModel" 266 (64 : Int64) ∈ zTb := zTm (L := tables_1_5) zT5 215 rfl rfl
theorem wk_1176 : Cond.methodLink "EndSumsModel" 268 yX8_entersSummary ∈ zTb := zTm (L := tables_1_5) zT5 216 rfl rfl
theorem wk_1174 : Cond.code yX8_shifts cX8_shifts 7 (some .int) ∈ zTb := zTm (L := tables_1_5) zT5 214 rfl rfl
theorem wk_1172 : Cond.instanceMethod yX8_shifts ∈ zTb := zTm (L := tables_1_5) zT5 212 rfl rfl
theorem wk_1173 : Cond.selects "EndSumsModel" yX8_shifts yX8_shifts ∈ zTb := zTm (L := tables_1_5) zT5 213 rfl rfl
theorem wk_1187 : Cond.code yX8_clears cX8_clears 3 (some .int) ∈ zTb := zTm (L := tables_1_5) zT5 227 rfl rfl
theorem wk_1185 : Cond.instanceMethod yX8_clears ∈ zTb := zTm (L := tables_1_5) zT5 225 rfl rfl
theorem wk_1186 : Cond.selects "EndSumsModel" yX8_clears yX8_clears ∈ zTb := zTm (L := tables_1_5) zT5 226 rfl rfl
theorem wk_1195 : Cond.code yX8_passes cX8_passes 1 none ∈ zTb := zTm (L := tables_1_5) zT5 235 rfl rfl
theorem wk_1194 : Cond.instanceMethod yX8_passes ∈ zTb := zTm (L := tables_1_5) zT5 234 rfl rfl
theorem ws_107 : Cond.selects "EndSumsModel" yX8_passes yX8_passes ∈ zTb := zTb_mem 107 rfl rfl
theorem wk_889 : Cond.fieldLink "EndSumsModel" 87 "EndSumsModel" "act" "[I" ∈ zTb := zTm (L := tables_1_4) zT4 169 rfl rfl
theorem wk_890 : Cond.fieldLink "EndSumsModel" 90 "EndSumsModel" "actItem" "[I" ∈ zTb := zTm (L := tables_1_4) zT4 170 rfl rfl
theorem wk_1199 : Cond.code yX8_readsAct cX8_readsAct 6 (some .boolean) ∈ zTb := zTm (L := tables_1_5) zT5 239 rfl rfl
theorem wk_1198 : Cond.instanceMethod yX8_readsAct ∈ zTb := zTm (L := tables_1_5) zT5 238 rfl rfl
theorem ws_108 : Cond.selects "EndSumsModel" yX8_readsAct yX8_readsAct ∈ zTb := zTb_mem 108 rfl rfl
theorem wk_1203 : Cond.code yX8_does cX8_does 3 (some .boolean) ∈ zTb := zTm (L := tables_1_6) zT6 3 rfl rfl
theorem wk_1202 : Cond.instanceMethod yX8_does ∈ zTb := zTm (L := tables_1_6) zT6 2 rfl rfl
theorem ws_109 : Cond.selects "EndSumsModel" yX8_does yX8_does ∈ zTb := zTb_mem 109 rfl rfl
theorem wk_1192 : Cond.methodLink "EndSumsModel" 271 yX8_passes ∈ zTb := zTm (L := tables_1_5) zT5 232 rfl rfl
theorem wk_1200 : Cond.methodLink "EndSumsModel" 277 yX8_does ∈ zTb := zTm (L := tables_1_6) zT6 0 rfl rfl
theorem wk_1196 : Cond.methodLink "EndSumsModel" 274 yX8_readsAct ∈ zTb := zTm (L := tables_1_5) zT5 236 rfl rfl
theorem wk_1191 : Cond.code yX8_run cX8_run 5 (some .int) ∈ zTb := zTm (L := tables_1_5) zT5 231 rfl rfl
theorem wk_1189 : Cond.instanceMethod yX8_run ∈ zTb := zTm (L := tables_1_5) zT5 229 rfl rfl
theorem wk_1190 : Cond.selects "EndSumsModel" yX8_run yX8_run ∈ zTb := zTm (L := tables_1_5) zT5 230 rfl rfl
theorem wk_1207 : Cond.code yX8_sum cX8_sum 2 (some .int) ∈ zTb := zTm (L := tables_1_6) zT6 7 rfl rfl
theorem wk_1205 : Cond.instanceMethod yX8_sum ∈ zTb := zTm (L := tables_1_6) zT6 5 rfl rfl
theorem wk_1206 : Cond.selects "EndSumsModel" yX8_sum yX8_sum ∈ zTb := zTm (L := tables_1_6) zT6 6 rfl rfl
theorem wk_1211 : Cond.code yX8_item cX8_item 5 (some .int) ∈ zTb := zTm (L := tables_1_6) zT6 11 rfl rfl
theorem wk_1209 : Cond.instanceMethod yX8_item ∈ zTb := zTm (L := tables_1_6) zT6 9 rfl rfl
theorem wk_1210 : Cond.selects "EndSumsModel" yX8_item yX8_item ∈ zTb := zTm (L := tables_1_6) zT6 10 rfl rfl
theorem wk_1219 : Cond.code yX8_sums cX8_sums 9 none ∈ zTb := zTm (L := tables_1_6) zT6 19 rfl rfl
theorem wk_1218 : Cond.instanceMethod yX8_sums ∈ zTb := zTm (L := tables_1_6) zT6 18 rfl rfl
theorem ws_110 : Cond.selects "EndSumsModel" yX8_sums yX8_sums ∈ zTb := zTb_mem 110 rfl rfl
theorem wk_1216 : Cond.methodLink "EndSumsModel" 280 yX8_sums ∈ zTb := zTm (L := tables_1_6) zT6 16 rfl rfl
theorem wk_1215 : Cond.code yX8_part cX8_part 4 (some .int) ∈ zTb := zTm (L := tables_1_6) zT6 15 rfl rfl
theorem wk_1213 : Cond.instanceMethod yX8_part ∈ zTb := zTm (L := tables_1_6) zT6 13 rfl rfl
theorem wk_1214 : Cond.selects "EndSumsModel" yX8_part yX8_part ∈ zTb := zTm (L := tables_1_6) zT6 14 rfl rfl
theorem wk_1223 : Cond.code yX8_windows cX8_windows 5 (some .int) ∈ zTb := zTm (L := tables_1_6) zT6 23 rfl rfl
theorem wk_1221 : Cond.instanceMethod yX8_windows ∈ zTb := zTm (L := tables_1_6) zT6 21 rfl rfl
theorem wk_1222 : Cond.selects "EndSumsModel" yX8_windows yX8_windows ∈ zTb := zTm (L := tables_1_6) zT6 22 rfl rfl
theorem wk_1227 : Cond.code yX8_first cX8_first 4 (some .int) ∈ zTb := zTm (L := tables_1_6) zT6 27 rfl rfl
theorem wk_1225 : Cond.instanceMethod yX8_first ∈ zTb := zTm (L := tables_1_6) zT6 25 rfl rfl
theorem wk_1226 : Cond.selects "EndSumsModel" yX8_first yX8_first ∈ zTb := zTm (L := tables_1_6) zT6 26 rfl rfl
theorem wk_1231 : Cond.code yX8_longest cX8_longest 6 (some .int) ∈ zTb := zTm (L := tables_1_6) zT6 31 rfl rfl
theorem wk_1229 : Cond.instanceMethod yX8_longest ∈ zTb := zTm (L := tables_1_6) zT6 29 rfl rfl
theorem wk_1230 : Cond.selects "EndSumsModel" yX8_longest yX8_longest ∈ zTb := zTm (L := tables_1_6) zT6 30 rfl rfl
theorem wk_1235 : Cond.code yX8_greatest cX8_greatest 10 (some .int) ∈ zTb := zTm (L := tables_1_6) zT6 35 rfl rfl
theorem wk_1233 : Cond.instanceMethod yX8_greatest ∈ zTb := zTm (L := tables_1_6) zT6 33 rfl rfl
theorem wk_1234 : Cond.selects "EndSumsModel" yX8_greatest yX8_greatest ∈ zTb := zTm (L := tables_1_6) zT6 34 rfl rfl
theorem wk_1239 : Cond.code yX8_finds cX8_finds 10 (some .int) ∈ zTb := zTm (L := tables_1_6) zT6 39 rfl rfl
theorem wk_1237 : Cond.instanceMethod yX8_finds ∈ zTb := zTm (L := tables_1_6) zT6 37 rfl rfl
theorem wk_1238 : Cond.selects "EndSumsModel" yX8_finds yX8_finds ∈ zTb := zTm (L := tables_1_6) zT6 38 rfl rfl
theorem wk_891 : Cond.fieldLink "EndSumsModel" 284 "EndSumsModel" "front" "I" ∈ zTb := zTm (L := tables_1_4) zT4 171 rfl rfl
theorem wk_892 : Cond.fieldLink "EndSumsModel" 287 "EndSumsModel" "back" "I" ∈ zTb := zTm (L := tables_1_4) zT4 172 rfl rfl
theorem wk_1255 : Cond.code yX8_costs cX8_costs 5 (some .int) ∈ zTb := zTm (L := tables_1_6) zT6 55 rfl rfl
theorem wk_1254 : Cond.instanceMethod yX8_costs ∈ zTb := zTm (L := tables_1_6) zT6 54 rfl rfl
theorem ws_113 : Cond.selects "EndSumsModel" yX8_costs yX8_costs ∈ zTb := zTb_mem 113 rfl rfl
theorem wk_1251 : Cond.code yX8_begins cX8_begins 2 none ∈ zTb := zTm (L := tables_1_6) zT6 51 rfl rfl
theorem wk_1250 : Cond.instanceMethod yX8_begins ∈ zTb := zTm (L := tables_1_6) zT6 50 rfl rfl
theorem ws_112 : Cond.selects "EndSumsModel" yX8_begins yX8_begins ∈ zTb := zTb_mem 112 rfl rfl
theorem wk_1248 : Cond.methodLink "EndSumsModel" 290 yX8_begins ∈ zTb := zTm (L := tables_1_6) zT6 48 rfl rfl
theorem wk_1252 : Cond.methodLink "EndSumsModel" 293 yX8_costs ∈ zTb := zTm (L := tables_1_6) zT6 52 rfl rfl
theorem wk_1247 : Cond.code yX8_drainsBy cX8_drainsBy 4 (some .int) ∈ zTb := zTm (L := tables_1_6) zT6 47 rfl rfl
theorem wk_1246 : Cond.instanceMethod yX8_drainsBy ∈ zTb := zTm (L := tables_1_6) zT6 46 rfl rfl
theorem ws_111 : Cond.selects "EndSumsModel" yX8_drainsBy yX8_drainsBy ∈ zTb := zTb_mem 111 rfl rfl
theorem wk_1244 : Cond.methodLink "EndSumsModel" 296 yX8_drainsBy ∈ zTb := zTm (L := tables_1_6) zT6 44 rfl rfl
theorem wk_1256 : Cond.methodLink "EndSumsModel" 299 Lib.Math.min.name ∈ zTb := zTm (L := tables_1_6) zT6 56 rfl rfl
theorem wk_1243 : Cond.code yX8_drains cX8_drains 4 (some .int) ∈ zTb := zTm (L := tables_1_6) zT6 43 rfl rfl
theorem wk_1241 : Cond.instanceMethod yX8_drains ∈ zTb := zTm (L := tables_1_6) zT6 41 rfl rfl
theorem wk_1242 : Cond.selects "EndSumsModel" yX8_drains yX8_drains ∈ zTb := zTm (L := tables_1_6) zT6 42 rfl rfl
theorem wk_1260 : Cond.code yX8_would cX8_would 4 (some .int) ∈ zTb := zTm (L := tables_1_6) zT6 60 rfl rfl
theorem wk_1258 : Cond.instanceMethod yX8_would ∈ zTb := zTm (L := tables_1_6) zT6 58 rfl rfl
theorem wk_1259 : Cond.selects "EndSumsModel" yX8_would yX8_would ∈ zTb := zTm (L := tables_1_6) zT6 59 rfl rfl
theorem wk_1265 : Cond.constantLong "EndSumsModel" 301 (12 : Int64) ∈ zTb := zTm (L := tables_1_6) zT6 65 rfl rfl
theorem wk_1264 : Cond.code yX8_dearest cX8_dearest 8 (some .int) ∈ zTb := zTm (L := tables_1_6) zT6 64 rfl rfl
theorem wk_1262 : Cond.instanceMethod yX8_dearest ∈ zTb := zTm (L := tables_1_6) zT6 62 rfl rfl
theorem wk_1263 : Cond.selects "EndSumsModel" yX8_dearest yX8_dearest ∈ zTb := zTm (L := tables_1_6) zT6 63 rfl rfl
theorem wk_1270 : Cond.methodLink "EndSumsModel" 303 Lib.Math.max.name ∈ zTb := zTm (L := tables_1_6) zT6 70 rfl rfl
theorem wk_1269 : Cond.code yX8_unlike cX8_unlike 11 (some .int) ∈ zTb := zTm (L := tables_1_6) zT6 69 rfl rfl
theorem wk_1267 : Cond.instanceMethod yX8_unlike ∈ zTb := zTm (L := tables_1_6) zT6 67 rfl rfl
theorem wk_1268 : Cond.selects "EndSumsModel" yX8_unlike yX8_unlike ∈ zTb := zTm (L := tables_1_6) zT6 68 rfl rfl
theorem wk_1278 : Cond.code yX8_hasCell cX8_hasCell 4 (some .boolean) ∈ zTb := zTm (L := tables_1_6) zT6 78 rfl rfl
theorem wk_1277 : Cond.instanceMethod yX8_hasCell ∈ zTb := zTm (L := tables_1_6) zT6 77 rfl rfl
theorem ws_114 : Cond.selects "EndSumsModel" yX8_hasCell yX8_hasCell ∈ zTb := zTb_mem 114 rfl rfl
theorem wk_1275 : Cond.methodLink "EndSumsModel" 305 yX8_hasCell ∈ zTb := zTm (L := tables_1_6) zT6 75 rfl rfl
theorem wk_1274 : Cond.code yX8_same cX8_same 9 (some .int) ∈ zTb := zTm (L := tables_1_6) zT6 74 rfl rfl
theorem wk_1272 : Cond.instanceMethod yX8_same ∈ zTb := zTm (L := tables_1_6) zT6 72 rfl rfl
theorem wk_1273 : Cond.selects "EndSumsModel" yX8_same yX8_same ∈ zTb := zTm (L := tables_1_6) zT6 73 rfl rfl
theorem wk_1282 : Cond.code yX8_shared cX8_shared 11 (some .int) ∈ zTb := zTm (L := tables_1_6) zT6 82 rfl rfl
theorem wk_1280 : Cond.instanceMethod yX8_shared ∈ zTb := zTm (L := tables_1_6) zT6 80 rfl rfl
theorem wk_1281 : Cond.selects "EndSumsModel" yX8_shared yX8_shared ∈ zTb := zTm (L := tables_1_6) zT6 81 rfl rfl
theorem wk_1286 : Cond.code yX8_count cX8_count 2 (some .int) ∈ zTb := zTm (L := tables_1_6) zT6 86 rfl rfl
theorem wk_1284 : Cond.instanceMethod yX8_count ∈ zTb := zTm (L := tables_1_6) zT6 84 rfl rfl
theorem wk_1285 : Cond.selects "EndSumsModel" yX8_count yX8_count ∈ zTb := zTm (L := tables_1_6) zT6 85 rfl rfl
theorem wk_1290 : Cond.code yX8_row cX8_row 2 (some .long) ∈ zTb := zTm (L := tables_1_6) zT6 90 rfl rfl
theorem wk_1288 : Cond.instanceMethod yX8_row ∈ zTb := zTm (L := tables_1_6) zT6 88 rfl rfl
theorem wk_1289 : Cond.selects "EndSumsModel" yX8_row yX8_row ∈ zTb := zTm (L := tables_1_6) zT6 89 rfl rfl
end
section
theorem wkc_102 : Cond.methodLink "EndSums$Pile" 3 objectInit ∈ zTb := zTm (L := tables_1_1) zT1 102 rfl rfl
theorem wkc_21 : Cond.instanceMethod objectInit ∈ zTb := zTm (L := tables_1_1) zT1 21 rfl rfl
theorem wkc_22 : Cond.code objectInit ⟨#[0xb1]⟩ 1 none ∈ zTb := zTm (L := tables_1_1) zT1 22 rfl rfl
theorem wkc_49 : Cond.arrayClass .int ∈ zTb := zTm (L := tables_1_1) zT1 49 rfl rfl
theorem wkc_107 : Cond.fieldLink "EndSums$Pile" 9 "EndSums$Pile" "items" "[I" ∈ zTb := zTm (L := tables_1_1) zT1 107 rfl rfl
theorem wkc_129 : Cond.arrayClass .long ∈ zTb := zTm (L := tables_1_1) zT1 129 rfl rfl
theorem wkc_110 : Cond.fieldLink "EndSums$Pile" 15 "EndSums$Pile" "ps" "[J" ∈ zTb := zTm (L := tables_1_1) zT1 110 rfl rfl
theorem wkc_113 : Cond.fieldLink "EndSums$Pile" 19 "EndSums$Pile" "qs" "[J" ∈ zTb := zTm (L := tables_1_1) zT1 113 rfl rfl
theorem wkc_116 : Cond.fieldLink "EndSums$Pile" 22 "EndSums$Pile" "marks" "[I" ∈ zTb := zTm (L := tables_1_1) zT1 116 rfl rfl
theorem wkc_96 : Cond.methodLink "EndSums$Line" 3 objectInit ∈ zTb := zTm (L := tables_1_1) zT1 96 rfl rfl
theorem wkc_97 : Cond.classLink "EndSums$Line" 9 "EndSums$Pile" ∈ zTb := zTm (L := tables_1_1) zT1 97 rfl rfl
theorem wkc_98 : Cond.instantiable "EndSums$Pile" 5 ∈ zTb := zTm (L := tables_1_1) zT1 98 rfl rfl
theorem wkc_6 : Cond.initialized "EndSums$Pile" ∈ zTb := zTm (L := tables_1_1) zT1 6 rfl rfl
theorem wnc_99 : Cond.methodLinkNest "EndSums$Line" 11 yX2_init "EndSums" ∈ lw_tbl := zT1 _ (List.mem_of_getElem? (i := 99) rfl)
theorem wkc_100 : Cond.instanceMethod yX2_init ∈ zTb := zTm (L := tables_1_1) zT1 100 rfl rfl
theorem wkc_101 : Cond.code yX2_init cX2_init 1 none ∈ zTb := zTm (L := tables_1_1) zT1 101 rfl rfl
theorem wkc_130 : Cond.fieldLink "EndSums$Line" 12 "EndSums$Line" "front" "LEndSums$Pile;" ∈ zTb := zTm (L := tables_1_1) zT1 130 rfl rfl
theorem wkc_133 : Cond.fieldLink "EndSums$Line" 18 "EndSums$Line" "back" "LEndSums$Pile;" ∈ zTb := zTm (L := tables_1_1) zT1 133 rfl rfl
theorem wkc_34 : Cond.methodLink "EndSums$Table" 3 objectInit ∈ zTb := zTm (L := tables_1_1) zT1 34 rfl rfl
theorem wkc_35 : Cond.fieldLink "EndSums$Table" 9 "EndSums$Table" "n" "I" ∈ zTb := zTm (L := tables_1_1) zT1 35 rfl rfl
theorem wkc_41 : Cond.fieldLink "EndSums$Table" 15 "EndSums$Table" "entries" "[I" ∈ zTb := zTm (L := tables_1_1) zT1 41 rfl rfl
theorem wkc_28 : Cond.methodLink "EndSums$Joining" 3 objectInit ∈ zTb := zTm (L := tables_1_1) zT1 28 rfl rfl
theorem wkc_29 : Cond.classLink "EndSums$Joining" 9 "EndSums$Table" ∈ zTb := zTm (L := tables_1_1) zT1 29 rfl rfl
theorem wkc_30 : Cond.instantiable "EndSums$Table" 3 ∈ zTb := zTm (L := tables_1_1) zT1 30 rfl rfl
theorem wkc_3 : Cond.initialized "EndSums$Table" ∈ zTb := zTm (L := tables_1_1) zT1 3 rfl rfl
theorem wnc_31 : Cond.methodLinkNest "EndSums$Joining" 11 yX3_init "EndSums" ∈ lw_tbl := zT1 _ (List.mem_of_getElem? (i := 31) rfl)
theorem wkc_32 : Cond.instanceMethod yX3_init ∈ zTb := zTm (L := tables_1_1) zT1 32 rfl rfl
theorem wkc_33 : Cond.code yX3_init cX3_init 1 none ∈ zTb := zTm (L := tables_1_1) zT1 33 rfl rfl
theorem wkc_52 : Cond.fieldLink "EndSums$Joining" 12 "EndSums$Joining" "table" "LEndSums$Table;" ∈ zTb := zTm (L := tables_1_1) zT1 52 rfl rfl
theorem wkc_148 : Cond.methodLink "EndSums$Text" 3 objectInit ∈ zTb := zTm (L := tables_1_1) zT1 148 rfl rfl
theorem wkc_151 : Cond.fieldLink "EndSums$Text" 9 "EndSums$Text" "signs" "[I" ∈ zTb := zTm (L := tables_1_1) zT1 151 rfl rfl
theorem wkc_162 : Cond.methodLink "EndSums$Takings" 3 objectInit ∈ zTb := zTm (L := tables_1_1) zT1 162 rfl rfl
theorem wkc_163 : Cond.fieldLink "EndSums$Takings" 9 "EndSums$Takings" "costs" "[I" ∈ zTb := zTm (L := tables_1_1) zT1 163 rfl rfl
theorem wkc_164 : Cond.fieldLink "EndSums$Takings" 15 "EndSums$Takings" "ends" "[I" ∈ zTb := zTm (L := tables_1_1) zT1 164 rfl rfl
theorem wkc_165 : Cond.fieldLink "EndSums$Takings" 18 "EndSums$Takings" "nextCosts" "[I" ∈ zTb := zTm (L := tables_1_1) zT1 165 rfl rfl
theorem wkc_166 : Cond.fieldLink "EndSums$Takings" 21 "EndSums$Takings" "nextEnds" "[I" ∈ zTb := zTm (L := tables_1_1) zT1 166 rfl rfl
theorem wkc_74 : Cond.methodLink "EndSums$Works" 3 objectInit ∈ zTb := zTm (L := tables_1_1) zT1 74 rfl rfl
theorem wkc_80 : Cond.fieldLink "EndSums$Works" 9 "EndSums$Works" "held" "[I" ∈ zTb := zTm (L := tables_1_1) zT1 80 rfl rfl
theorem wkc_75 : Cond.fieldLink "EndSums$Works" 15 "EndSums$Works" "joining" "LEndSums$Joining;" ∈ zTb := zTm (L := tables_1_1) zT1 75 rfl rfl
theorem wkc_20 : Cond.methodLink "EndSums" 1 objectInit ∈ zTb := zTm (L := tables_1_1) zT1 20 rfl rfl
theorem wkc_23 : Cond.classLink "EndSums" 7 "EndSums$Joining" ∈ zTb := zTm (L := tables_1_1) zT1 23 rfl rfl
theorem wkc_24 : Cond.instantiable "EndSums$Joining" 4 ∈ zTb := zTm (L := tables_1_1) zT1 24 rfl rfl
theorem wkc_2 : Cond.initialized "EndSums$Joining" ∈ zTb := zTm (L := tables_1_1) zT1 2 rfl rfl
theorem wnc_25 : Cond.methodLinkNest "EndSums" 9 yX0_init "EndSums" ∈ lw_tbl := zT1 _ (List.mem_of_getElem? (i := 25) rfl)
theorem wkc_26 : Cond.instanceMethod yX0_init ∈ zTb := zTm (L := tables_1_1) zT1 26 rfl rfl
theorem wkc_27 : Cond.code yX0_init cX0_init 1 none ∈ zTb := zTm (L := tables_1_1) zT1 27 rfl rfl
theorem wkc_184 : Cond.fieldLink "EndSums" 10 "EndSums" "joining" "LEndSums$Joining;" ∈ zTb := zTm (L := tables_1_1) zT1 184 rfl rfl
theorem wkc_69 : Cond.classLink "EndSums" 16 "EndSums$Works" ∈ zTb := zTm (L := tables_1_1) zT1 69 rfl rfl
theorem wkc_70 : Cond.instantiable "EndSums$Works" 4 ∈ zTb := zTm (L := tables_1_1) zT1 70 rfl rfl
theorem wkc_4 : Cond.initialized "EndSums$Works" ∈ zTb := zTm (L := tables_1_1) zT1 4 rfl rfl
theorem wnc_71 : Cond.methodLinkNest "EndSums" 18 yX6_init "EndSums" ∈ lw_tbl := zT1 _ (List.mem_of_getElem? (i := 71) rfl)
theorem wkc_72 : Cond.instanceMethod yX6_init ∈ zTb := zTm (L := tables_1_1) zT1 72 rfl rfl
theorem wkc_73 : Cond.code yX6_init cX6_init 2 none ∈ zTb := zTm (L := tables_1_1) zT1 73 rfl rfl
theorem wkc_185 : Cond.fieldLink "EndSums" 21 "EndSums" "works" "LEndSums$Works;" ∈ zTb := zTm (L := tables_1_1) zT1 185 rfl rfl
theorem wkc_90 : Cond.classLink "EndSums" 25 "EndSums$Line" ∈ zTb := zTm (L := tables_1_1) zT1 90 rfl rfl
theorem wkc_186 : Cond.fieldLink "EndSums" 27 "EndSums" "lines" "[LEndSums$Line;" ∈ zTb := zTm (L := tables_1_1) zT1 186 rfl rfl
theorem wkc_92 : Cond.instantiable "EndSums$Line" 2 ∈ zTb := zTm (L := tables_1_1) zT1 92 rfl rfl
theorem wkc_5 : Cond.initialized "EndSums$Line" ∈ zTb := zTm (L := tables_1_1) zT1 5 rfl rfl
theorem wnc_93 : Cond.methodLinkNest "EndSums" 31 yX1_init "EndSums" ∈ lw_tbl := zT1 _ (List.mem_of_getElem? (i := 93) rfl)
theorem wkc_94 : Cond.instanceMethod yX1_init ∈ zTb := zTm (L := tables_1_1) zT1 94 rfl rfl
theorem wkc_95 : Cond.code yX1_init cX1_init 1 none ∈ zTb := zTm (L := tables_1_1) zT1 95 rfl rfl
theorem wkc_187 : Cond.fieldLink "EndSums" 32 "EndSums" "spare" "LEndSums$Line;" ∈ zTb := zTm (L := tables_1_1) zT1 187 rfl rfl
theorem wkc_141 : Cond.classLink "EndSums" 36 "EndSums$Table" ∈ zTb := zTm (L := tables_1_1) zT1 141 rfl rfl
theorem wnc_142 : Cond.methodLinkNest "EndSums" 38 yX3_init "EndSums" ∈ lw_tbl := zT1 _ (List.mem_of_getElem? (i := 142) rfl)
theorem wkc_188 : Cond.fieldLink "EndSums" 39 "EndSums" "fresh" "LEndSums$Table;" ∈ zTb := zTm (L := tables_1_1) zT1 188 rfl rfl
theorem wkc_143 : Cond.classLink "EndSums" 43 "EndSums$Text" ∈ zTb := zTm (L := tables_1_1) zT1 143 rfl rfl
theorem wkc_144 : Cond.instantiable "EndSums$Text" 2 ∈ zTb := zTm (L := tables_1_1) zT1 144 rfl rfl
theorem wkc_7 : Cond.initialized "EndSums$Text" ∈ zTb := zTm (L := tables_1_1) zT1 7 rfl rfl
theorem wnc_145 : Cond.methodLinkNest "EndSums" 45 yX5_init "EndSums" ∈ lw_tbl := zT1 _ (List.mem_of_getElem? (i := 145) rfl)
theorem wkc_146 : Cond.instanceMethod yX5_init ∈ zTb := zTm (L := tables_1_1) zT1 146 rfl rfl
theorem wkc_147 : Cond.code yX5_init cX5_init 1 none ∈ zTb := zTm (L := tables_1_1) zT1 147 rfl rfl
theorem wkc_189 : Cond.fieldLink "EndSums" 46 "EndSums" "text" "LEndSums$Text;" ∈ zTb := zTm (L := tables_1_1) zT1 189 rfl rfl
theorem wkc_157 : Cond.classLink "EndSums" 50 "EndSums$Takings" ∈ zTb := zTm (L := tables_1_1) zT1 157 rfl rfl
theorem wkc_158 : Cond.instantiable "EndSums$Takings" 6 ∈ zTb := zTm (L := tables_1_1) zT1 158 rfl rfl
theorem wkc_8 : Cond.initialized "EndSums$Takings" ∈ zTb := zTm (L := tables_1_1) zT1 8 rfl rfl
theorem wnc_159 : Cond.methodLinkNest "EndSums" 52 yX4_init "EndSums" ∈ lw_tbl := zT1 _ (List.mem_of_getElem? (i := 159) rfl)
theorem wkc_160 : Cond.instanceMethod yX4_init ∈ zTb := zTm (L := tables_1_1) zT1 160 rfl rfl
theorem wkc_161 : Cond.code yX4_init cX4_init 1 none ∈ zTb := zTm (L := tables_1_1) zT1 161 rfl rfl
theorem wkc_190 : Cond.fieldLink "EndSums" 53 "EndSums" "takings" "LEndSums$Takings;" ∈ zTb := zTm (L := tables_1_1) zT1 190 rfl rfl
theorem wkc_191 : Cond.fieldLink "EndSums" 57 "EndSums" "told" "[J" ∈ zTb := zTm (L := tables_1_1) zT1 191 rfl rfl
theorem wkc_193 : Cond.fieldLink "EndSums" 61 "EndSums" "sumsP" "[J" ∈ zTb := zTm (L := tables_1_1) zT1 193 rfl rfl
theorem wkc_194 : Cond.fieldLink "EndSums" 64 "EndSums" "sumsQ" "[J" ∈ zTb := zTm (L := tables_1_1) zT1 194 rfl rfl
theorem wkc_860 : Cond.methodLink "EndSumsModel" 39 objectInit ∈ zTb := zTm (L := tables_1_4) zT4 140 rfl rfl
theorem wkc_863 : Cond.fieldLink "EndSumsModel" 7 "EndSumsModel" "row" "[J" ∈ zTb := zTm (L := tables_1_4) zT4 143 rfl rfl
theorem wkc_864 : Cond.fieldLink "EndSumsModel" 17 "EndSumsModel" "tape" "[I" ∈ zTb := zTm (L := tables_1_4) zT4 144 rfl rfl
theorem wkc_869 : Cond.fieldLink "EndSumsModel" 45 "EndSumsModel" "wide" "I" ∈ zTb := zTm (L := tables_1_4) zT4 149 rfl rfl
theorem wkc_871 : Cond.fieldLink "EndSumsModel" 48 "EndSumsModel" "table" "[I" ∈ zTb := zTm (L := tables_1_4) zT4 151 rfl rfl
theorem wkc_874 : Cond.fieldLink "EndSumsModel" 51 "EndSumsModel" "places" "[I" ∈ zTb := zTm (L := tables_1_4) zT4 154 rfl rfl
theorem wkc_875 : Cond.fieldLink "EndSumsModel" 54 "EndSumsModel" "others" "[I" ∈ zTb := zTm (L := tables_1_4) zT4 155 rfl rfl
theorem wkc_876 : Cond.fieldLink "EndSumsModel" 57 "EndSumsModel" "made" "[I" ∈ zTb := zTm (L := tables_1_4) zT4 156 rfl rfl
theorem wkc_877 : Cond.fieldLink "EndSumsModel" 60 "EndSumsModel" "sumP" "[J" ∈ zTb := zTm (L := tables_1_4) zT4 157 rfl rfl
theorem wkc_878 : Cond.fieldLink "EndSumsModel" 63 "EndSumsModel" "sumQ" "[J" ∈ zTb := zTm (L := tables_1_4) zT4 158 rfl rfl
theorem wkc_879 : Cond.fieldLink "EndSumsModel" 66 "EndSumsModel" "many" "[I" ∈ zTb := zTm (L := tables_1_4) zT4 159 rfl rfl
theorem wkc_880 : Cond.fieldLink "EndSumsModel" 69 "EndSumsModel" "cell" "[I" ∈ zTb := zTm (L := tables_1_4) zT4 160 rfl rfl
theorem wkc_881 : Cond.fieldLink "EndSumsModel" 72 "EndSumsModel" "item" "[I" ∈ zTb := zTm (L := tables_1_4) zT4 161 rfl rfl
theorem wkc_882 : Cond.fieldLink "EndSumsModel" 75 "EndSumsModel" "cellP" "[J" ∈ zTb := zTm (L := tables_1_4) zT4 162 rfl rfl
theorem wkc_883 : Cond.fieldLink "EndSumsModel" 78 "EndSumsModel" "cellQ" "[J" ∈ zTb := zTm (L := tables_1_4) zT4 163 rfl rfl
theorem wkc_886 : Cond.fieldLink "EndSumsModel" 81 "EndSumsModel" "items" "[I" ∈ zTb := zTm (L := tables_1_4) zT4 166 rfl rfl
theorem wkc_887 : Cond.fieldLink "EndSumsModel" 84 "EndSumsModel" "readTable" "[I" ∈ zTb := zTm (L := tables_1_4) zT4 167 rfl rfl
theorem wkc_889 : Cond.fieldLink "EndSumsModel" 87 "EndSumsModel" "act" "[I" ∈ zTb := zTm (L := tables_1_4) zT4 169 rfl rfl
theorem wkc_890 : Cond.fieldLink "EndSumsModel" 90 "EndSumsModel" "actItem" "[I" ∈ zTb := zTm (L := tables_1_4) zT4 170 rfl rfl
theorem wkc_868 : Cond.fieldLink "EndSumsModel" 93 "EndSumsModel" "rule" "I" ∈ zTb := zTm (L := tables_1_4) zT4 148 rfl rfl
theorem zK_same {D : va_G} {cA : Nat → ClassId} {s : State} {c : ClassId} {ty : FieldType} (t0 : Nat) (ht : (ztys cA)[t0]? = some (cA t0, ty)) (h : va_K D vwCl (ztys cA ++ [(c, ty)]) s) : c = cA t0 ∧ va_K D vwCl (ztys cA) s := by
  have hl : t0 < (ztys cA).length := (List.getElem?_eq_some_iff.mp ht).1
  have h1 := (h.2 3 (c, ty) rfl).2
  have h2 := (h.2 t0 (cA t0, ty) (by rw [List.getElem?_append_left hl]; exact ht)).2
  refine ⟨?_, h.1, fun k q hk => h.2 k q (by rw [List.getElem?_append_left (List.getElem?_eq_some_iff.mp hk).1]; exact hk)⟩
  cases ty <;> first | (exact Option.some.inj (Eq.trans (Eq.symm h1) h2)) | (obtain ⟨_, _, _, _, _, a⟩ := h1; obtain ⟨_, _, _, _, _, b⟩ := h2; exact Option.some.inj (Eq.trans (Eq.symm a) b))
section ZN
variable {p : Program} {l : Launch} {e : Env} {R : Room} {s : State} {m : MethodId} {args : Array Value} {below : List Frame} {meth : Method} {c : Code} {H : Heap} {locs : List Loc} {cells slots : Nat} {Q : State → Prop}
variable {cc : ByteArray} {pc : Nat} {ls : Array Slot} {rest : List Value} {D : va_G} {A : Nat → Prop} {cA : Nat → ClassId} {ws : va_W} {H0 : Heap}
theorem z_newaI (hexec : p.tables.exec = Jvm.exec) (hb : c.code = cc) (harr : (Cond.arrayClass .int).before args s = true) (hK : va_K D vwCl (ztys cA) s) (hP : va_P D vwCl ws H) (hD : va_D A ws) (hS : va_S A H0 H locs) (hA : ∀ q, H0.size ≤ q → A q)
    {n : Int32} {N' : Nat} (hn : ¬ n < 0) (hN : n.toNatClampNeg = N') (hbytes : N' * 4 ≤ 536870912) (hcells : cells + 1 ≤ R.cells) (hslots : slots + N' ≤ R.slots) (hdg : decode cc pc = .ok (.newarray .int, 2))
    (kk : ∀ (q : Nat) (H1 : Heap), va_P D vwCl (ws ++ [(q, .inl (cA 0, N', .inl fun _ => 0))]) H1 → va_D A (ws ++ [(q, .inl (cA 0, N', .inl fun _ => 0))]) → va_S A H0 H1 locs →
      W p l e R s m args below meth c H1 locs (cells + 1) (slots + N') Q (F0 m (pc + 2) ls (.ref q :: rest))) : W p l e R s m args below meth c H locs cells slots Q (F0 m pc ls (.int n :: rest)) := by
  refine va_newa (a0 := (N', .inl fun _ => 0)) (ty := .int) (atype := .int) hexec hb harr rfl hK hP hD hS hA (fun _ => rfl) hn hN hbytes hcells hslots hdg (fun q c1 H1 hK1 hP1 hD1 hS1 => ?_)
  obtain ⟨rfl, -⟩ := zK_same 0 rfl hK1
  exact kk q H1 hP1 hD1 hS1
theorem z_newaJ (hexec : p.tables.exec = Jvm.exec) (hb : c.code = cc) (harr : (Cond.arrayClass .long).before args s = true) (hK : va_K D vwCl (ztys cA) s) (hP : va_P D vwCl ws H) (hD : va_D A ws) (hS : va_S A H0 H locs) (hA : ∀ q, H0.size ≤ q → A q)
    {n : Int32} {N' : Nat} (hn : ¬ n < 0) (hN : n.toNatClampNeg = N') (hbytes : N' * 8 ≤ 536870912) (hcells : cells + 1 ≤ R.cells) (hslots : slots + N' ≤ R.slots) (hdg : decode cc pc = .ok (.newarray .long, 2))
    (kk : ∀ (q : Nat) (H1 : Heap), va_P D vwCl (ws ++ [(q, .inl (cA 1, N', .inr (.inl fun _ => 0)))]) H1 → va_D A (ws ++ [(q, .inl (cA 1, N', .inr (.inl fun _ => 0)))]) → va_S A H0 H1 locs →
      W p l e R s m args below meth c H1 locs (cells + 1) (slots + N') Q (F0 m (pc + 2) ls (.ref q :: rest))) : W p l e R s m args below meth c H locs cells slots Q (F0 m pc ls (.int n :: rest)) := by
  refine va_newa (a0 := (N', .inr (.inl fun _ => 0))) (ty := .long) (atype := .long) hexec hb harr rfl hK hP hD hS hA (fun _ => rfl) hn hN hbytes hcells hslots hdg (fun q c1 H1 hK1 hP1 hD1 hS1 => ?_)
  obtain ⟨rfl, -⟩ := zK_same 1 rfl hK1
  exact kk q H1 hP1 hD1 hS1
theorem z_newq {own : String} {index : Nat} (hexec : p.tables.exec = Jvm.exec) (hb : c.code = cc) (hown : s.vm.findClass own = some m.cls) (hclink : (Cond.classLink own index "EndSums$Line").before args s = true) (hover : va_AO "EndSums$Line" s) (hK : va_K D vwCl (ztys cA) s) (hP : va_P D vwCl ws H) (hD : va_D A ws) (hS : va_S A H0 H locs) (hA : ∀ q, H0.size ≤ q → A q)
    {n : Int32} {N' : Nat} (hn : ¬ n < 0) (hN : n.toNatClampNeg = N') (hbytes : N' * 4 ≤ 536870912) (hcells : cells + 1 ≤ R.cells) (hslots : slots + N' ≤ R.slots) (hdg : decode cc pc = .ok (.anewarray index, 3))
    (kk : ∀ (q : Nat) (H1 : Heap), va_P D vwCl (ws ++ [(q, .inl (cA 2, N', .inr (.inr (.inr (.inr fun _ => none)))))]) H1 → va_D A (ws ++ [(q, .inl (cA 2, N', .inr (.inr (.inr (.inr fun _ => none)))))]) → va_S A H0 H1 locs →
      W p l e R s m args below meth c H1 locs (cells + 1) (slots + N') Q (F0 m (pc + 3) ls (.ref q :: rest))) : W p l e R s m args below meth c H locs cells slots Q (F0 m pc ls (.int n :: rest)) := by
  refine va_newq hexec hb hown hclink hover hK hP hD hS hA hn hN hbytes hcells hslots hdg (fun q c1 H1 hK1 hP1 hD1 hS1 => ?_)
  obtain ⟨rfl, -⟩ := zK_same 2 rfl hK1
  exact kk q H1 hP1 hD1 hS1
end ZN
/-- what a constructor is told -/
def zCp (D : va_G) (cA : Nat → ClassId) (ws : va_W) (sz : Nat) (U : State) : Prop := U.heap.size = sz ∧ va_P D vwCl ws U.heap ∧ va_K D vwCl (ztys cA) U ∧ va_D (fun _ => True) ws ∧ zNs U ∧ va_AO "EndSums$Line" U
theorem zCp_blind {D : va_G} {cA : Nat → ClassId} {ws : va_W} {sz : Nat} {av : List Value} : FrameBlind (va_Pc av (zCp D cA ws sz)) := by
  intro a U g mk q
  obtain ⟨q0, q1, q2, q3, q4, q5, q6⟩ := q
  exact ⟨q0, q1, q2, va_K.moved (u := U) (U := U.calling g mk a) (Vm.Alike.refl U.vm) q3, q4, zNs_same (s := U) (U := U.calling g mk a) rfl q5, va_AO.moved (u := U) (U := U.calling g mk a) (Vm.Alike.refl U.vm) q6⟩
def QX2_init : List (Nat × Instr × Nat) := [(0, .aload_n 0, 1), (1, .invokespecial 3, 3), (4, .aload_n 0, 1), (5, .bipush 64, 2), (7, .newarray .int, 2), (9, .putfield 9, 3), (12, .aload_n 0, 1), (13, .bipush 64, 2), (15, .newarray .long, 2), (17, .putfield 15, 3), (20, .aload_n 0, 1), (21, .bipush 64, 2), (23, .newarray .long, 2), (25, .putfield 19, 3), (28, .aload_n 0, 1), (29, .bipush 64, 2), (31, .newarray .int, 2), (33, .putfield 22, 3), (36, .return_, 1)]
set_option maxRecDepth 100000 in
theorem DX2_init : ∀ q ∈ QX2_init, decode cX2_init q.1 = .ok (q.2.1, q.2.2) := by decide +kernel
abbrev k2 (cA : Nat → ClassId) (h0 : Nat) (f : Nat → Nat) : va_W := [(h0, .inr (2, [.int 0, .ref (f 1), .ref (f 2), .ref (f 3), .ref (f 4)])), ((f 1), .inl (cA 0, 64, .inl fun _ => 0)), ((f 2), .inl (cA 1, 64, .inr (.inl fun _ => 0))), ((f 3), .inl (cA 1, 64, .inr (.inl fun _ => 0))), ((f 4), .inl (cA 0, 64, .inl fun _ => 0))]
set_option maxHeartbeats 8000000 in
set_option maxRecDepth 100000 in
theorem nX2_init (l : Launch) (D : va_G) (cA : Nat → ClassId) (h0 : Nat) (sz : Nat) : Met l yX2_init (.code yX2_init cX2_init 1 none :: zTb) ({ frames := 1, cells := 4, slots := 256, locals := 12 }) (va_Pc [.ref h0] (zCp D cA [(h0, .inr (2, [.int 0, .null, .null, .null, .null]))] sz)) (va_Qv (fun _ : Nat → Nat => True) (fun f t => va_P D vwCl (k2 cA h0 f) t.heap ∧ va_D (va_A [(h0, .inr (2, [.int 0, .null, .null, .null, .null]))] sz) (k2 cA h0 f)) (va_A [(h0, .inr (2, [.int 0, .null, .null, .null, .null]))] sz)) 4 256 (va_A [(h0, .inr (2, [.int 0, .null, .null, .null, .null]))] sz) := by
  refine Met.ofW (cc := cX2_init) (maxL := 1) (ret := none) (by decide) rfl ?_
  intro p e s m args below meth c s₁ B hml hv
  obtain ⟨rfl, hsz, hP, hK, hD0, hNs, hAO⟩ := hv
  have hx := B.exec
  have hb := B.bytes
  have hr := B.returns
  have hts : ∀ w ∈ zTb, w.before _ s = true := fun w hw => atoms_spec (ws := .code yX2_init cX2_init 1 none :: zTb) B.pre w (List.mem_cons_of_mem _ hw)
  have hown : s.vm.findClass RX2 = some m.cls := findClass_of_methodNamed B.named
  have hlocks := B.notSynchronized
  have hin : meth.name = "<init>" := (name_of_methodNamed B.named B.method).1
  subst hsz
  have hD := hD0.self (sz := s.heap.size)
  generalize hAe : va_A [(h0, .inr (2, [.int 0, .null, .null, .null, .null]))] s.heap.size = A at hD ⊢
  have hA : ∀ q : Nat, s.heap.size ≤ q → A q := fun q h => by rw [← hAe]; exact Or.inr h
  have hS : va_S A s.heap s.heap [] := va_S.rf
  have hl := lv_entry ([.ref h0]) (n := 1) (Nat.le_of_ble_eq_true rfl)
  rw [lg_entry_eq]
  generalize (lg_sl ([.ref h0]) ++ List.replicate (1 - (lg_sl ([.ref h0])).length) Slot.unset).toArray = ls at hl ⊢
  have hl : lv_has ls 1 [(0, .ref h0)] := hl
  have hP : va_P D vwCl [(h0, .inr (2, [.int 0, .null, .null, .null, .null]))] s.heap := hP
  refine lv_aload_n hx hb (zd DX2_init 0 rfl) rfl (lv_at hl 0 rfl) ?_
  refine W.objInit hx hb hown (hts _ wkc_102) (hts _ wkc_21) (hts _ wkc_22) rfl (by rw [hml]; exact hl.1) rfl (zd DX2_init 1 rfl) (Nat.le_of_ble_eq_true rfl) (Nat.le_of_ble_eq_true rfl) ?_
  refine W.eq (g2 := F0 m 4 ls []) rfl ?_
  refine lv_aload_n hx hb (zd DX2_init 2 rfl) rfl (lv_at hl 0 rfl) ?_
  refine lv_bipush (v := 64) hx hb (zd DX2_init 3 rfl) (by decide) ?_
  refine z_newaI (N' := 64) hx hb (hts _ wkc_49) hK hP hD hS hA (by decide) (by decide) (by decide) (Nat.le_of_ble_eq_true rfl) (Nat.le_of_ble_eq_true rfl) (zd DX2_init 4 rfl) (fun q_1 H hP hD hS => ?_)
  have hP : va_P D vwCl [(h0, .inr (2, [.int 0, .null, .null, .null, .null])), (q_1, .inl (cA 0, 64, .inl fun _ => 0))] H := hP
  have hD : va_D A [(h0, .inr (2, [.int 0, .null, .null, .null, .null])), (q_1, .inl (cA 0, 64, .inl fun _ => 0))] := hD
  refine W.widen (k := 1) (n := 64) (Nat.le_of_ble_eq_true rfl) (Nat.le_of_ble_eq_true rfl) ?_
  refine va_putF (D := D) (ci := 2) (v := .ref q_1) (ty := .array .int) (C := RX2) (T := TX2) (N := 5) hx hb hts kz2.2.1 tyX2 tyX2_ok nmX2 hown hK hP hD hS 0 rfl rfl 1 (by decide) (hts _ wkc_107) (fun _ h9 => h9) rfl hin rfl (by decide +kernel) rfl rfl (Nat.le_of_ble_eq_true rfl) (zd DX2_init 5 rfl) (fun H locs hP hD hS => ?_)
  have hP : va_P D vwCl [(h0, .inr (2, [.int 0, .ref q_1, .null, .null, .null])), (q_1, .inl (cA 0, 64, .inl fun _ => 0))] H := hP
  have hD : va_D A [(h0, .inr (2, [.int 0, .ref q_1, .null, .null, .null])), (q_1, .inl (cA 0, 64, .inl fun _ => 0))] := hD
  refine lv_aload_n hx hb (zd DX2_init 6 rfl) rfl (lv_at hl 0 rfl) ?_
  refine lv_bipush (v := 64) hx hb (zd DX2_init 7 rfl) (by decide) ?_
  refine z_newaJ (N' := 64) hx hb (hts _ wkc_129) hK hP hD hS hA (by decide) (by decide) (by decide) (Nat.le_of_ble_eq_true rfl) (Nat.le_of_ble_eq_true rfl) (zd DX2_init 8 rfl) (fun q_2 H hP hD hS => ?_)
  have hP : va_P D vwCl [(h0, .inr (2, [.int 0, .ref q_1, .null, .null, .null])), (q_1, .inl (cA 0, 64, .inl fun _ => 0)), (q_2, .inl (cA 1, 64, .inr (.inl fun _ => 0)))] H := hP
  have hD : va_D A [(h0, .inr (2, [.int 0, .ref q_1, .null, .null, .null])), (q_1, .inl (cA 0, 64, .inl fun _ => 0)), (q_2, .inl (cA 1, 64, .inr (.inl fun _ => 0)))] := hD
  refine W.widen (k := 2) (n := 128) (Nat.le_of_ble_eq_true rfl) (Nat.le_of_ble_eq_true rfl) ?_
  refine va_putF (D := D) (ci := 2) (v := .ref q_2) (ty := .array .long) (C := RX2) (T := TX2) (N := 5) hx hb hts kz2.2.1 tyX2 tyX2_ok nmX2 hown hK hP hD hS 0 rfl rfl 2 (by decide) (hts _ wkc_110) (fun _ h9 => h9) rfl hin rfl (by decide +kernel) rfl rfl (Nat.le_of_ble_eq_true rfl) (zd DX2_init 9 rfl) (fun H locs hP hD hS => ?_)
  have hP : va_P D vwCl [(h0, .inr (2, [.int 0, .ref q_1, .ref q_2, .null, .null])), (q_1, .inl (cA 0, 64, .inl fun _ => 0)), (q_2, .inl (cA 1, 64, .inr (.inl fun _ => 0)))] H := hP
  have hD : va_D A [(h0, .inr (2, [.int 0, .ref q_1, .ref q_2, .null, .null])), (q_1, .inl (cA 0, 64, .inl fun _ => 0)), (q_2, .inl (cA 1, 64, .inr (.inl fun _ => 0)))] := hD
  refine lv_aload_n hx hb (zd DX2_init 10 rfl) rfl (lv_at hl 0 rfl) ?_
  refine lv_bipush (v := 64) hx hb (zd DX2_init 11 rfl) (by decide) ?_
  refine z_newaJ (N' := 64) hx hb (hts _ wkc_129) hK hP hD hS hA (by decide) (by decide) (by decide) (Nat.le_of_ble_eq_true rfl) (Nat.le_of_ble_eq_true rfl) (zd DX2_init 12 rfl) (fun q_3 H hP hD hS => ?_)
  have hP : va_P D vwCl [(h0, .inr (2, [.int 0, .ref q_1, .ref q_2, .null, .null])), (q_1, .inl (cA 0, 64, .inl fun _ => 0)), (q_2, .inl (cA 1, 64, .inr (.inl fun _ => 0))), (q_3, .inl (cA 1, 64, .inr (.inl fun _ => 0)))] H := hP
  have hD : va_D A [(h0, .inr (2, [.int 0, .ref q_1, .ref q_2, .null, .null])), (q_1, .inl (cA 0, 64, .inl fun _ => 0)), (q_2, .inl (cA 1, 64, .inr (.inl fun _ => 0))), (q_3, .inl (cA 1, 64, .inr (.inl fun _ => 0)))] := hD
  refine W.widen (k := 3) (n := 192) (Nat.le_of_ble_eq_true rfl) (Nat.le_of_ble_eq_true rfl) ?_
  refine va_putF (D := D) (ci := 2) (v := .ref q_3) (ty := .array .long) (C := RX2) (T := TX2) (N := 5) hx hb hts kz2.2.1 tyX2 tyX2_ok nmX2 hown hK hP hD hS 0 rfl rfl 3 (by decide) (hts _ wkc_113) (fun _ h9 => h9) rfl hin rfl (by decide +kernel) rfl rfl (Nat.le_of_ble_eq_true rfl) (zd DX2_init 13 rfl) (fun H locs hP hD hS => ?_)
  have hP : va_P D vwCl [(h0, .inr (2, [.int 0, .ref q_1, .ref q_2, .ref q_3, .null])), (q_1, .inl (cA 0, 64, .inl fun _ => 0)), (q_2, .inl (cA 1, 64, .inr (.inl fun _ => 0))), (q_3, .inl (cA 1, 64, .inr (.inl fun _ => 0)))] H := hP
  have hD : va_D A [(h0, .inr (2, [.int 0, .ref q_1, .ref q_2, .ref q_3, .null])), (q_1, .inl (cA 0, 64, .inl fun _ => 0)), (q_2, .inl (cA 1, 64, .inr (.inl fun _ => 0))), (q_3, .inl (cA 1, 64, .inr (.inl fun _ => 0)))] := hD
  refine lv_aload_n hx hb (zd DX2_init 14 rfl) rfl (lv_at hl 0 rfl) ?_
  refine lv_bipush (v := 64) hx hb (zd DX2_init 15 rfl) (by decide) ?_
  refine z_newaI (N' := 64) hx hb (hts _ wkc_49) hK hP hD hS hA (by decide) (by decide) (by decide) (Nat.le_of_ble_eq_true rfl) (Nat.le_of_ble_eq_true rfl) (zd DX2_init 16 rfl) (fun q_4 H hP hD hS => ?_)
  have hP : va_P D vwCl [(h0, .inr (2, [.int 0, .ref q_1, .ref q_2, .ref q_3, .null])), (q_1, .inl (cA 0, 64, .inl fun _ => 0)), (q_2, .inl (cA 1, 64, .inr (.inl fun _ => 0))), (q_3, .inl (cA 1, 64, .inr (.inl fun _ => 0))), (q_4, .inl (cA 0, 64, .inl fun _ => 0))] H := hP
  have hD : va_D A [(h0, .inr (2, [.int 0, .ref q_1, .ref q_2, .ref q_3, .null])), (q_1, .inl (cA 0, 64, .inl fun _ => 0)), (q_2, .inl (cA 1, 64, .inr (.inl fun _ => 0))), (q_3, .inl (cA 1, 64, .inr (.inl fun _ => 0))), (q_4, .inl (cA 0, 64, .inl fun _ => 0))] := hD
  refine W.widen (k := 4) (n := 256) (Nat.le_of_ble_eq_true rfl) (Nat.le_of_ble_eq_true rfl) ?_
  refine va_putF (D := D) (ci := 2) (v := .ref q_4) (ty := .array .int) (C := RX2) (T := TX2) (N := 5) hx hb hts kz2.2.1 tyX2 tyX2_ok nmX2 hown hK hP hD hS 0 rfl rfl 4 (by decide) (hts _ wkc_116) (fun _ h9 => h9) rfl hin rfl (by decide +kernel) rfl rfl (Nat.le_of_ble_eq_true rfl) (zd DX2_init 17 rfl) (fun H locs hP hD hS => ?_)
  have hP : va_P D vwCl [(h0, .inr (2, [.int 0, .ref q_1, .ref q_2, .ref q_3, .ref q_4])), (q_1, .inl (cA 0, 64, .inl fun _ => 0)), (q_2, .inl (cA 1, 64, .inr (.inl fun _ => 0))), (q_3, .inl (cA 1, 64, .inr (.inl fun _ => 0))), (q_4, .inl (cA 0, 64, .inl fun _ => 0))] H := hP
  have hD : va_D A [(h0, .inr (2, [.int 0, .ref q_1, .ref q_2, .ref q_3, .ref q_4])), (q_1, .inl (cA 0, 64, .inl fun _ => 0)), (q_2, .inl (cA 1, 64, .inr (.inl fun _ => 0))), (q_3, .inl (cA 1, 64, .inr (.inl fun _ => 0))), (q_4, .inl (cA 0, 64, .inl fun _ => 0))] := hD
  have hP9 := hP.sub (ws' := k2 cA h0 (fun j => [h0, q_1, q_2, q_3, q_4].getD j 0)) [0, 1, 2, 3, 4] rfl
  have hD9 := hD.sub (ws' := k2 cA h0 (fun j => [h0, q_1, q_2, q_3, q_4].getD j 0)) [0, 1, 2, 3, 4] (by decide) rfl
  exact W.vret hx hb hr (fun t ht hW => ⟨⟨(fun j => [h0, q_1, q_2, q_3, q_4].getD j 0), rfl, trivial, by rw [ht]; exact hP9, hD9⟩, hS.F ht⟩) hS.2.2 (zd DX2_init 18 rfl)
def QX1_init : List (Nat × Instr × Nat) := [(0, .aload_n 0, 1), (1, .invokespecial 3, 3), (4, .aload_n 0, 1), (5, .new 9, 3), (8, .dup, 1), (9, .invokespecial 11, 3), (12, .putfield 12, 3), (15, .aload_n 0, 1), (16, .new 9, 3), (19, .dup, 1), (20, .invokespecial 11, 3), (23, .putfield 18, 3), (26, .return_, 1)]
set_option maxRecDepth 100000 in
theorem DX1_init : ∀ q ∈ QX1_init, decode cX1_init q.1 = .ok (q.2.1, q.2.2) := by decide +kernel
abbrev k1 (cA : Nat → ClassId) (h0 : Nat) (f : Nat → Nat) : va_W := [(h0, .inr (1, [.ref (f 1), .ref (f 6)])), ((f 1), .inr (2, [.int 0, .ref (f 2), .ref (f 3), .ref (f 4), .ref (f 5)])), ((f 2), .inl (cA 0, 64, .inl fun _ => 0)), ((f 3), .inl (cA 1, 64, .inr (.inl fun _ => 0))), ((f 4), .inl (cA 1, 64, .inr (.inl fun _ => 0))), ((f 5), .inl (cA 0, 64, .inl fun _ => 0)), ((f 6), .inr (2, [.int 0, .ref (f 7), .ref (f 8), .ref (f 9), .ref (f 10)])), ((f 7), .inl (cA 0, 64, .inl fun _ => 0)), ((f 8), .inl (cA 1, 64, .inr (.inl fun _ => 0))), ((f 9), .inl (cA 1, 64, .inr (.inl fun _ => 0))), ((f 10), .inl (cA 0, 64, .inl fun _ => 0))]
set_option maxHeartbeats 8000000 in
set_option maxRecDepth 100000 in
theorem nX1_init (l : Launch) (D : va_G) (cA : Nat → ClassId) (h0 : Nat) (sz : Nat) : Met l yX1_init (.code yX1_init cX1_init 1 none :: zTb) ({ frames := 2, cells := 10, slots := 522, locals := 32 }) (va_Pc [.ref h0] (zCp D cA [(h0, .inr (1, [.null, .null]))] sz)) (va_Qv (fun _ : Nat → Nat => True) (fun f t => va_P D vwCl (k1 cA h0 f) t.heap ∧ va_D (va_A [(h0, .inr (1, [.null, .null]))] sz) (k1 cA h0 f)) (va_A [(h0, .inr (1, [.null, .null]))] sz)) 10 522 (va_A [(h0, .inr (1, [.null, .null]))] sz) := by
  refine Met.ofW (cc := cX1_init) (maxL := 1) (ret := none) (by decide) rfl ?_
  intro p e s m args below meth c s₁ B hml hv
  obtain ⟨rfl, hsz, hP, hK, hD0, hNs, hAO⟩ := hv
  have hx := B.exec
  have hb := B.bytes
  have hr := B.returns
  have hts : ∀ w ∈ zTb, w.before _ s = true := fun w hw => atoms_spec (ws := .code yX1_init cX1_init 1 none :: zTb) B.pre w (List.mem_cons_of_mem _ hw)
  have hown : s.vm.findClass RX1 = some m.cls := findClass_of_methodNamed B.named
  have hlocks := B.notSynchronized
  have hin : meth.name = "<init>" := (name_of_methodNamed B.named B.method).1
  subst hsz
  have hD := hD0.self (sz := s.heap.size)
  generalize hAe : va_A [(h0, .inr (1, [.null, .null]))] s.heap.size = A at hD ⊢
  have hA : ∀ q : Nat, s.heap.size ≤ q → A q := fun q h => by rw [← hAe]; exact Or.inr h
  have hS : va_S A s.heap s.heap [] := va_S.rf
  have hl := lv_entry ([.ref h0]) (n := 1) (Nat.le_of_ble_eq_true rfl)
  rw [lg_entry_eq]
  generalize (lg_sl ([.ref h0]) ++ List.replicate (1 - (lg_sl ([.ref h0])).length) Slot.unset).toArray = ls at hl ⊢
  have hl : lv_has ls 1 [(0, .ref h0)] := hl
  have hP : va_P D vwCl [(h0, .inr (1, [.null, .null]))] s.heap := hP
  refine lv_aload_n hx hb (zd DX1_init 0 rfl) rfl (lv_at hl 0 rfl) ?_
  refine W.objInit hx hb hown (hts _ wkc_96) (hts _ wkc_21) (hts _ wkc_22) rfl (by rw [hml]; exact hl.1) rfl (zd DX1_init 1 rfl) (Nat.le_of_ble_eq_true rfl) (Nat.le_of_ble_eq_true rfl) ?_
  refine W.eq (g2 := F0 m 4 ls []) rfl ?_
  refine lv_aload_n hx hb (zd DX1_init 2 rfl) rfl (lv_at hl 0 rfl) ?_
  refine va_new (ci := 2) (fs := [.int 0, .null, .null, .null, .null]) (C := RX2) (T := TX2) (N := 5) hx hb hts kz2.2.1 tyX2 tyX2_ok hown (hts _ wkc_97) (hts _ wkc_98) (hts _ wkc_6) hK hP hD hS hA rfl (by decide +kernel) (Nat.le_of_ble_eq_true rfl) (Nat.le_of_ble_eq_true rfl) (zd DX1_init 3 rfl) (fun q_1 H hP hD hS => ?_)
  have hP : va_P D vwCl [(h0, .inr (1, [.null, .null])), (q_1, .inr (2, [.int 0, .null, .null, .null, .null]))] H := hP
  have hD : va_D A [(h0, .inr (1, [.null, .null])), (q_1, .inr (2, [.int 0, .null, .null, .null, .null]))] := hD
  refine W.widen (k := 1) (n := 5) (Nat.le_of_ble_eq_true rfl) (Nat.le_of_ble_eq_true rfl) ?_
  refine lv_dup hx hb (zd DX1_init 4 rfl) rfl ?_
  have hPc := hP.sub (ws' := [(q_1, .inr (2, [.int 0, .null, .null, .null, .null]))]) [1] rfl
  have hDc := hD.sub (ws' := [(q_1, .inr (2, [.int 0, .null, .null, .null, .null]))]) [1] (by decide) rfl
  have hFc := va_free (wc := [(q_1, .inr (2, [.int 0, .null, .null, .null, .null]))]) hD hS hA [1] rfl
  refine va_callv (va_runIN (host := "EndSums") (As := []) (rest := [.ref q_1, .ref h0]) ⟨hx, hb, hml, hown, hts⟩ (nX2_init l D cA q_1 H.size) ⟨va_cnB 0 hts (zTb_goodIn fun w hw => (List.mem_cons.mp hw).elim (fun z => z ▸ wkc_101) id) rfl rfl rfl (hNs _ wnc_99 rfl) (hts _ wkc_6) ⟨by decide, by decide, by decide +kernel⟩ ⟨Nat.le_of_ble_eq_true rfl, Nat.le_of_ble_eq_true rfl⟩, rfl, (hts _ wkc_100)⟩ ⟨zCp_blind, fun U hU hW => ⟨rfl, by rw [hU], by rw [hU]; exact hPc, va_K.moved hW.alike hK, hDc.weaken (fun _ _ _ _ => trivial), zNs_warm hW hNs, va_AO.moved hW.alike hAO⟩⟩ rfl rfl hl.1 rfl (lv_room (Nat.le_of_ble_eq_true rfl)) (zd DX1_init 5 rfl) ⟨Nat.le_of_ble_eq_true rfl, Nat.le_of_ble_eq_true rfl⟩) hS (fun q _ h => hFc q h) hFc (fun u_2 t H1 locs ht hvm hw hB hz1 hk1 hS => ?_)
  obtain ⟨hP1, hD1⟩ := hB
  rw [ht] at hP1
  obtain ⟨hP, hD⟩ := va_join (wr := [(h0, .inr (1, [.null, .null]))]) (w1 := [(q_1, .inr (2, [.int 0, .ref (u_2 1), .ref (u_2 2), .ref (u_2 3), .ref (u_2 4)])), ((u_2 1), .inl (cA 0, 64, .inl fun _ => 0)), ((u_2 2), .inl (cA 1, 64, .inr (.inl fun _ => 0))), ((u_2 3), .inl (cA 1, 64, .inr (.inl fun _ => 0))), ((u_2 4), .inl (cA 0, 64, .inl fun _ => 0))]) hP hD [1] [0] rfl rfl (by decide) (by decide) hk1 hFc hP1 hD1
  generalize H1 = H at hP hS ⊢
  have hP : va_P D vwCl [(h0, .inr (1, [.null, .null])), (q_1, .inr (2, [.int 0, .ref (u_2 1), .ref (u_2 2), .ref (u_2 3), .ref (u_2 4)])), ((u_2 1), .inl (cA 0, 64, .inl fun _ => 0)), ((u_2 2), .inl (cA 1, 64, .inr (.inl fun _ => 0))), ((u_2 3), .inl (cA 1, 64, .inr (.inl fun _ => 0))), ((u_2 4), .inl (cA 0, 64, .inl fun _ => 0))] H := hP
  have hD : va_D A [(h0, .inr (1, [.null, .null])), (q_1, .inr (2, [.int 0, .ref (u_2 1), .ref (u_2 2), .ref (u_2 3), .ref (u_2 4)])), ((u_2 1), .inl (cA 0, 64, .inl fun _ => 0)), ((u_2 2), .inl (cA 1, 64, .inr (.inl fun _ => 0))), ((u_2 3), .inl (cA 1, 64, .inr (.inl fun _ => 0))), ((u_2 4), .inl (cA 0, 64, .inl fun _ => 0))] := hD
  refine W.widen (k := 5) (n := 261) (Nat.le_of_ble_eq_true rfl) (Nat.le_of_ble_eq_true rfl) ?_
  refine va_putF (D := D) (ci := 1) (v := .ref q_1) (ty := .object "EndSums$Pile") (C := RX1) (T := TX1) (N := 2) hx hb hts kz1.2.1 tyX1 tyX1_ok nmX1 hown hK hP hD hS 0 rfl rfl 0 (by decide) (hts _ wkc_130) (fun _ h9 => h9) rfl hin rfl (by decide +kernel) rfl rfl (Nat.le_of_ble_eq_true rfl) (zd DX1_init 6 rfl) (fun H locs hP hD hS => ?_)
  have hP : va_P D vwCl [(h0, .inr (1, [.ref q_1, .null])), (q_1, .inr (2, [.int 0, .ref (u_2 1), .ref (u_2 2), .ref (u_2 3), .ref (u_2 4)])), ((u_2 1), .inl (cA 0, 64, .inl fun _ => 0)), ((u_2 2), .inl (cA 1, 64, .inr (.inl fun _ => 0))), ((u_2 3), .inl (cA 1, 64, .inr (.inl fun _ => 0))), ((u_2 4), .inl (cA 0, 64, .inl fun _ => 0))] H := hP
  have hD : va_D A [(h0, .inr (1, [.ref q_1, .null])), (q_1, .inr (2, [.int 0, .ref (u_2 1), .ref (u_2 2), .ref (u_2 3), .ref (u_2 4)])), ((u_2 1), .inl (cA 0, 64, .inl fun _ => 0)), ((u_2 2), .inl (cA 1, 64, .inr (.inl fun _ => 0))), ((u_2 3), .inl (cA 1, 64, .inr (.inl fun _ => 0))), ((u_2 4), .inl (cA 0, 64, .inl fun _ => 0))] := hD
  refine lv_aload_n hx hb (zd DX1_init 7 rfl) rfl (lv_at hl 0 rfl) ?_
  refine va_new (ci := 2) (fs := [.int 0, .null, .null, .null, .null]) (C := RX2) (T := TX2) (N := 5) hx hb hts kz2.2.1 tyX2 tyX2_ok hown (hts _ wkc_97) (hts _ wkc_98) (hts _ wkc_6) hK hP hD hS hA rfl (by decide +kernel) (Nat.le_of_ble_eq_true rfl) (Nat.le_of_ble_eq_true rfl) (zd DX1_init 8 rfl) (fun q_3 H hP hD hS => ?_)
  have hP : va_P D vwCl [(h0, .inr (1, [.ref q_1, .null])), (q_1, .inr (2, [.int 0, .ref (u_2 1), .ref (u_2 2), .ref (u_2 3), .ref (u_2 4)])), ((u_2 1), .inl (cA 0, 64, .inl fun _ => 0)), ((u_2 2), .inl (cA 1, 64, .inr (.inl fun _ => 0))), ((u_2 3), .inl (cA 1, 64, .inr (.inl fun _ => 0))), ((u_2 4), .inl (cA 0, 64, .inl fun _ => 0)), (q_3, .inr (2, [.int 0, .null, .null, .null, .null]))] H := hP
  have hD : va_D A [(h0, .inr (1, [.ref q_1, .null])), (q_1, .inr (2, [.int 0, .ref (u_2 1), .ref (u_2 2), .ref (u_2 3), .ref (u_2 4)])), ((u_2 1), .inl (cA 0, 64, .inl fun _ => 0)), ((u_2 2), .inl (cA 1, 64, .inr (.inl fun _ => 0))), ((u_2 3), .inl (cA 1, 64, .inr (.inl fun _ => 0))), ((u_2 4), .inl (cA 0, 64, .inl fun _ => 0)), (q_3, .inr (2, [.int 0, .null, .null, .null, .null]))] := hD
  refine W.widen (k := 6) (n := 266) (Nat.le_of_ble_eq_true rfl) (Nat.le_of_ble_eq_true rfl) ?_
  refine lv_dup hx hb (zd DX1_init 9 rfl) rfl ?_
  have hPc := hP.sub (ws' := [(q_3, .inr (2, [.int 0, .null, .null, .null, .null]))]) [6] rfl
  have hDc := hD.sub (ws' := [(q_3, .inr (2, [.int 0, .null, .null, .null, .null]))]) [6] (by decide) rfl
  have hFc := va_free (wc := [(q_3, .inr (2, [.int 0, .null, .null, .null, .null]))]) hD hS hA [6] rfl
  refine va_callv (va_runIN (host := "EndSums") (As := []) (rest := [.ref q_3, .ref h0]) ⟨hx, hb, hml, hown, hts⟩ (nX2_init l D cA q_3 H.size) ⟨va_cnB 0 hts (zTb_goodIn fun w hw => (List.mem_cons.mp hw).elim (fun z => z ▸ wkc_101) id) rfl rfl rfl (hNs _ wnc_99 rfl) (hts _ wkc_6) ⟨by decide, by decide, by decide +kernel⟩ ⟨Nat.le_of_ble_eq_true rfl, Nat.le_of_ble_eq_true rfl⟩, rfl, (hts _ wkc_100)⟩ ⟨zCp_blind, fun U hU hW => ⟨rfl, by rw [hU], by rw [hU]; exact hPc, va_K.moved hW.alike hK, hDc.weaken (fun _ _ _ _ => trivial), zNs_warm hW hNs, va_AO.moved hW.alike hAO⟩⟩ rfl rfl hl.1 rfl (lv_room (Nat.le_of_ble_eq_true rfl)) (zd DX1_init 10 rfl) ⟨Nat.le_of_ble_eq_true rfl, Nat.le_of_ble_eq_true rfl⟩) hS (fun q _ h => hFc q h) hFc (fun u_4 t H1 locs ht hvm hw hB hz1 hk1 hS => ?_)
  obtain ⟨hP1, hD1⟩ := hB
  rw [ht] at hP1
  obtain ⟨hP, hD⟩ := va_join (wr := [(h0, .inr (1, [.ref q_1, .null])), (q_1, .inr (2, [.int 0, .ref (u_2 1), .ref (u_2 2), .ref (u_2 3), .ref (u_2 4)])), ((u_2 1), .inl (cA 0, 64, .inl fun _ => 0)), ((u_2 2), .inl (cA 1, 64, .inr (.inl fun _ => 0))), ((u_2 3), .inl (cA 1, 64, .inr (.inl fun _ => 0))), ((u_2 4), .inl (cA 0, 64, .inl fun _ => 0))]) (w1 := [(q_3, .inr (2, [.int 0, .ref (u_4 1), .ref (u_4 2), .ref (u_4 3), .ref (u_4 4)])), ((u_4 1), .inl (cA 0, 64, .inl fun _ => 0)), ((u_4 2), .inl (cA 1, 64, .inr (.inl fun _ => 0))), ((u_4 3), .inl (cA 1, 64, .inr (.inl fun _ => 0))), ((u_4 4), .inl (cA 0, 64, .inl fun _ => 0))]) hP hD [6] [0, 1, 2, 3, 4, 5] rfl rfl (by decide) (by decide) hk1 hFc hP1 hD1
  generalize H1 = H at hP hS ⊢
  have hP : va_P D vwCl [(h0, .inr (1, [.ref q_1, .null])), (q_1, .inr (2, [.int 0, .ref (u_2 1), .ref (u_2 2), .ref (u_2 3), .ref (u_2 4)])), ((u_2 1), .inl (cA 0, 64, .inl fun _ => 0)), ((u_2 2), .inl (cA 1, 64, .inr (.inl fun _ => 0))), ((u_2 3), .inl (cA 1, 64, .inr (.inl fun _ => 0))), ((u_2 4), .inl (cA 0, 64, .inl fun _ => 0)), (q_3, .inr (2, [.int 0, .ref (u_4 1), .ref (u_4 2), .ref (u_4 3), .ref (u_4 4)])), ((u_4 1), .inl (cA 0, 64, .inl fun _ => 0)), ((u_4 2), .inl (cA 1, 64, .inr (.inl fun _ => 0))), ((u_4 3), .inl (cA 1, 64, .inr (.inl fun _ => 0))), ((u_4 4), .inl (cA 0, 64, .inl fun _ => 0))] H := hP
  have hD : va_D A [(h0, .inr (1, [.ref q_1, .null])), (q_1, .inr (2, [.int 0, .ref (u_2 1), .ref (u_2 2), .ref (u_2 3), .ref (u_2 4)])), ((u_2 1), .inl (cA 0, 64, .inl fun _ => 0)), ((u_2 2), .inl (cA 1, 64, .inr (.inl fun _ => 0))), ((u_2 3), .inl (cA 1, 64, .inr (.inl fun _ => 0))), ((u_2 4), .inl (cA 0, 64, .inl fun _ => 0)), (q_3, .inr (2, [.int 0, .ref (u_4 1), .ref (u_4 2), .ref (u_4 3), .ref (u_4 4)])), ((u_4 1), .inl (cA 0, 64, .inl fun _ => 0)), ((u_4 2), .inl (cA 1, 64, .inr (.inl fun _ => 0))), ((u_4 3), .inl (cA 1, 64, .inr (.inl fun _ => 0))), ((u_4 4), .inl (cA 0, 64, .inl fun _ => 0))] := hD
  refine W.widen (k := 10) (n := 522) (Nat.le_of_ble_eq_true rfl) (Nat.le_of_ble_eq_true rfl) ?_
  refine va_putF (D := D) (ci := 1) (v := .ref q_3) (ty := .object "EndSums$Pile") (C := RX1) (T := TX1) (N := 2) hx hb hts kz1.2.1 tyX1 tyX1_ok nmX1 hown hK hP hD hS 0 rfl rfl 1 (by decide) (hts _ wkc_133) (fun _ h9 => h9) rfl hin rfl (by decide +kernel) rfl rfl (Nat.le_of_ble_eq_true rfl) (zd DX1_init 11 rfl) (fun H locs hP hD hS => ?_)
  have hP : va_P D vwCl [(h0, .inr (1, [.ref q_1, .ref q_3])), (q_1, .inr (2, [.int 0, .ref (u_2 1), .ref (u_2 2), .ref (u_2 3), .ref (u_2 4)])), ((u_2 1), .inl (cA 0, 64, .inl fun _ => 0)), ((u_2 2), .inl (cA 1, 64, .inr (.inl fun _ => 0))), ((u_2 3), .inl (cA 1, 64, .inr (.inl fun _ => 0))), ((u_2 4), .inl (cA 0, 64, .inl fun _ => 0)), (q_3, .inr (2, [.int 0, .ref (u_4 1), .ref (u_4 2), .ref (u_4 3), .ref (u_4 4)])), ((u_4 1), .inl (cA 0, 64, .inl fun _ => 0)), ((u_4 2), .inl (cA 1, 64, .inr (.inl fun _ => 0))), ((u_4 3), .inl (cA 1, 64, .inr (.inl fun _ => 0))), ((u_4 4), .inl (cA 0, 64, .inl fun _ => 0))] H := hP
  have hD : va_D A [(h0, .inr (1, [.ref q_1, .ref q_3])), (q_1, .inr (2, [.int 0, .ref (u_2 1), .ref (u_2 2), .ref (u_2 3), .ref (u_2 4)])), ((u_2 1), .inl (cA 0, 64, .inl fun _ => 0)), ((u_2 2), .inl (cA 1, 64, .inr (.inl fun _ => 0))), ((u_2 3), .inl (cA 1, 64, .inr (.inl fun _ => 0))), ((u_2 4), .inl (cA 0, 64, .inl fun _ => 0)), (q_3, .inr (2, [.int 0, .ref (u_4 1), .ref (u_4 2), .ref (u_4 3), .ref (u_4 4)])), ((u_4 1), .inl (cA 0, 64, .inl fun _ => 0)), ((u_4 2), .inl (cA 1, 64, .inr (.inl fun _ => 0))), ((u_4 3), .inl (cA 1, 64, .inr (.inl fun _ => 0))), ((u_4 4), .inl (cA 0, 64, .inl fun _ => 0))] := hD
  have hP9 := hP.sub (ws' := k1 cA h0 (fun j => [h0, q_1, (u_2 1), (u_2 2), (u_2 3), (u_2 4), q_3, (u_4 1), (u_4 2), (u_4 3), (u_4 4)].getD j 0)) [0, 1, 2, 3, 4, 5, 6, 7, 8, 9, 10] rfl
  have hD9 := hD.sub (ws' := k1 cA h0 (fun j => [h0, q_1, (u_2 1), (u_2 2), (u_2 3), (u_2 4), q_3, (u_4 1), (u_4 2), (u_4 3), (u_4 4)].getD j 0)) [0, 1, 2, 3, 4, 5, 6, 7, 8, 9, 10] (by decide) rfl
  exact W.vret hx hb hr (fun t ht hW => ⟨⟨(fun j => [h0, q_1, (u_2 1), (u_2 2), (u_2 3), (u_2 4), q_3, (u_4 1), (u_4 2), (u_4 3), (u_4 4)].getD j 0), rfl, trivial, by rw [ht]; exact hP9, hD9⟩, hS.F ht⟩) hS.2.2 (zd DX1_init 12 rfl)
def QX3_init : List (Nat × Instr × Nat) := [(0, .aload_n 0, 1), (1, .invokespecial 3, 3), (4, .aload_n 0, 1), (5, .iconst 1, 1), (6, .putfield 9, 3), (9, .aload_n 0, 1), (10, .bipush 25, 2), (12, .newarray .int, 2), (14, .putfield 15, 3), (17, .return_, 1)]
set_option maxRecDepth 100000 in
theorem DX3_init : ∀ q ∈ QX3_init, decode cX3_init q.1 = .ok (q.2.1, q.2.2) := by decide +kernel
abbrev k3 (cA : Nat → ClassId) (h0 : Nat) (f : Nat → Nat) : va_W := [(h0, .inr (3, [.int 1, .int 0, .ref (f 1)])), ((f 1), .inl (cA 0, 25, .inl fun _ => 0))]
set_option maxHeartbeats 8000000 in
set_option maxRecDepth 100000 in
theorem nX3_init (l : Launch) (D : va_G) (cA : Nat → ClassId) (h0 : Nat) (sz : Nat) : Met l yX3_init (.code yX3_init cX3_init 1 none :: zTb) ({ frames := 1, cells := 1, slots := 25, locals := 12 }) (va_Pc [.ref h0] (zCp D cA [(h0, .inr (3, [.int 0, .int 0, .null]))] sz)) (va_Qv (fun _ : Nat → Nat => True) (fun f t => va_P D vwCl (k3 cA h0 f) t.heap ∧ va_D (va_A [(h0, .inr (3, [.int 0, .int 0, .null]))] sz) (k3 cA h0 f)) (va_A [(h0, .inr (3, [.int 0, .int 0, .null]))] sz)) 1 25 (va_A [(h0, .inr (3, [.int 0, .int 0, .null]))] sz) := by
  refine Met.ofW (cc := cX3_init) (maxL := 1) (ret := none) (by decide) rfl ?_
  intro p e s m args below meth c s₁ B hml hv
  obtain ⟨rfl, hsz, hP, hK, hD0, hNs, hAO⟩ := hv
  have hx := B.exec
  have hb := B.bytes
  have hr := B.returns
  have hts : ∀ w ∈ zTb, w.before _ s = true := fun w hw => atoms_spec (ws := .code yX3_init cX3_init 1 none :: zTb) B.pre w (List.mem_cons_of_mem _ hw)
  have hown : s.vm.findClass RX3 = some m.cls := findClass_of_methodNamed B.named
  have hlocks := B.notSynchronized
  have hin : meth.name = "<init>" := (name_of_methodNamed B.named B.method).1
  subst hsz
  have hD := hD0.self (sz := s.heap.size)
  generalize hAe : va_A [(h0, .inr (3, [.int 0, .int 0, .null]))] s.heap.size = A at hD ⊢
  have hA : ∀ q : Nat, s.heap.size ≤ q → A q := fun q h => by rw [← hAe]; exact Or.inr h
  have hS : va_S A s.heap s.heap [] := va_S.rf
  have hl := lv_entry ([.ref h0]) (n := 1) (Nat.le_of_ble_eq_true rfl)
  rw [lg_entry_eq]
  generalize (lg_sl ([.ref h0]) ++ List.replicate (1 - (lg_sl ([.ref h0])).length) Slot.unset).toArray = ls at hl ⊢
  have hl : lv_has ls 1 [(0, .ref h0)] := hl
  have hP : va_P D vwCl [(h0, .inr (3, [.int 0, .int 0, .null]))] s.heap := hP
  refine lv_aload_n hx hb (zd DX3_init 0 rfl) rfl (lv_at hl 0 rfl) ?_
  refine W.objInit hx hb hown (hts _ wkc_34) (hts _ wkc_21) (hts _ wkc_22) rfl (by rw [hml]; exact hl.1) rfl (zd DX3_init 1 rfl) (Nat.le_of_ble_eq_true rfl) (Nat.le_of_ble_eq_true rfl) ?_
  refine W.eq (g2 := F0 m 4 ls []) rfl ?_
  refine lv_aload_n hx hb (zd DX3_init 2 rfl) rfl (lv_at hl 0 rfl) ?_
  refine lv_iconst (v := 1) hx hb (zd DX3_init 3 rfl) (by decide) ?_
  refine va_put (D := D) (ci := 3) (v := .int 1) (ty := .int) (C := RX3) (T := TX3) (N := 3) hx hb hts kz3.2.1 tyX3 tyX3_ok nmX3 hown hK hP hD hS 0 rfl rfl 0 (by decide) (hts _ wkc_35) (fun _ h9 => h9) rfl (by decide +kernel) rfl rfl (Nat.le_of_ble_eq_true rfl) (zd DX3_init 4 rfl) (fun H locs hP hD hS => ?_)
  have hP : va_P D vwCl [(h0, .inr (3, [.int 1, .int 0, .null]))] H := hP
  have hD : va_D A [(h0, .inr (3, [.int 1, .int 0, .null]))] := hD
  refine lv_aload_n hx hb (zd DX3_init 5 rfl) rfl (lv_at hl 0 rfl) ?_
  refine lv_bipush (v := 25) hx hb (zd DX3_init 6 rfl) (by decide) ?_
  refine z_newaI (N' := 25) hx hb (hts _ wkc_49) hK hP hD hS hA (by decide) (by decide) (by decide) (Nat.le_of_ble_eq_true rfl) (Nat.le_of_ble_eq_true rfl) (zd DX3_init 7 rfl) (fun q_1 H hP hD hS => ?_)
  have hP : va_P D vwCl [(h0, .inr (3, [.int 1, .int 0, .null])), (q_1, .inl (cA 0, 25, .inl fun _ => 0))] H := hP
  have hD : va_D A [(h0, .inr (3, [.int 1, .int 0, .null])), (q_1, .inl (cA 0, 25, .inl fun _ => 0))] := hD
  refine W.widen (k := 1) (n := 25) (Nat.le_of_ble_eq_true rfl) (Nat.le_of_ble_eq_true rfl) ?_
  refine va_putF (D := D) (ci := 3) (v := .ref q_1) (ty := .array .int) (C := RX3) (T := TX3) (N := 3) hx hb hts kz3.2.1 tyX3 tyX3_ok nmX3 hown hK hP hD hS 0 rfl rfl 2 (by decide) (hts _ wkc_41) (fun _ h9 => h9) rfl hin rfl (by decide +kernel) rfl rfl (Nat.le_of_ble_eq_true rfl) (zd DX3_init 8 rfl) (fun H locs hP hD hS => ?_)
  have hP : va_P D vwCl [(h0, .inr (3, [.int 1, .int 0, .ref q_1])), (q_1, .inl (cA 0, 25, .inl fun _ => 0))] H := hP
  have hD : va_D A [(h0, .inr (3, [.int 1, .int 0, .ref q_1])), (q_1, .inl (cA 0, 25, .inl fun _ => 0))] := hD
  have hP9 := hP.sub (ws' := k3 cA h0 (fun j => [h0, q_1].getD j 0)) [0, 1] rfl
  have hD9 := hD.sub (ws' := k3 cA h0 (fun j => [h0, q_1].getD j 0)) [0, 1] (by decide) rfl
  exact W.vret hx hb hr (fun t ht hW => ⟨⟨(fun j => [h0, q_1].getD j 0), rfl, trivial, by rw [ht]; exact hP9, hD9⟩, hS.F ht⟩) hS.2.2 (zd DX3_init 9 rfl)
def QX0_init : List (Nat × Instr × Nat) := [(0, .aload_n 0, 1), (1, .invokespecial 3, 3), (4, .aload_n 0, 1), (5, .new 9, 3), (8, .dup, 1), (9, .invokespecial 11, 3), (12, .putfield 12, 3), (15, .return_, 1)]
set_option maxRecDepth 100000 in
theorem DX0_init : ∀ q ∈ QX0_init, decode cX0_init q.1 = .ok (q.2.1, q.2.2) := by decide +kernel
abbrev k0 (cA : Nat → ClassId) (h0 : Nat) (f : Nat → Nat) : va_W := [(h0, .inr (0, [.int 0, .ref (f 1), .long 0, .long 0])), ((f 1), .inr (3, [.int 1, .int 0, .ref (f 2)])), ((f 2), .inl (cA 0, 25, .inl fun _ => 0))]
set_option maxHeartbeats 8000000 in
set_option maxRecDepth 100000 in
theorem nX0_init (l : Launch) (D : va_G) (cA : Nat → ClassId) (h0 : Nat) (sz : Nat) : Met l yX0_init (.code yX0_init cX0_init 1 none :: zTb) ({ frames := 2, cells := 2, slots := 28, locals := 32 }) (va_Pc [.ref h0] (zCp D cA [(h0, .inr (0, [.int 0, .null, .long 0, .long 0]))] sz)) (va_Qv (fun _ : Nat → Nat => True) (fun f t => va_P D vwCl (k0 cA h0 f) t.heap ∧ va_D (va_A [(h0, .inr (0, [.int 0, .null, .long 0, .long 0]))] sz) (k0 cA h0 f)) (va_A [(h0, .inr (0, [.int 0, .null, .long 0, .long 0]))] sz)) 2 28 (va_A [(h0, .inr (0, [.int 0, .null, .long 0, .long 0]))] sz) := by
  refine Met.ofW (cc := cX0_init) (maxL := 1) (ret := none) (by decide) rfl ?_
  intro p e s m args below meth c s₁ B hml hv
  obtain ⟨rfl, hsz, hP, hK, hD0, hNs, hAO⟩ := hv
  have hx := B.exec
  have hb := B.bytes
  have hr := B.returns
  have hts : ∀ w ∈ zTb, w.before _ s = true := fun w hw => atoms_spec (ws := .code yX0_init cX0_init 1 none :: zTb) B.pre w (List.mem_cons_of_mem _ hw)
  have hown : s.vm.findClass RX0 = some m.cls := findClass_of_methodNamed B.named
  have hlocks := B.notSynchronized
  have hin : meth.name = "<init>" := (name_of_methodNamed B.named B.method).1
  subst hsz
  have hD := hD0.self (sz := s.heap.size)
  generalize hAe : va_A [(h0, .inr (0, [.int 0, .null, .long 0, .long 0]))] s.heap.size = A at hD ⊢
  have hA : ∀ q : Nat, s.heap.size ≤ q → A q := fun q h => by rw [← hAe]; exact Or.inr h
  have hS : va_S A s.heap s.heap [] := va_S.rf
  have hl := lv_entry ([.ref h0]) (n := 1) (Nat.le_of_ble_eq_true rfl)
  rw [lg_entry_eq]
  generalize (lg_sl ([.ref h0]) ++ List.replicate (1 - (lg_sl ([.ref h0])).length) Slot.unset).toArray = ls at hl ⊢
  have hl : lv_has ls 1 [(0, .ref h0)] := hl
  have hP : va_P D vwCl [(h0, .inr (0, [.int 0, .null, .long 0, .long 0]))] s.heap := hP
  refine lv_aload_n hx hb (zd DX0_init 0 rfl) rfl (lv_at hl 0 rfl) ?_
  refine W.objInit hx hb hown (hts _ wkc_28) (hts _ wkc_21) (hts _ wkc_22) rfl (by rw [hml]; exact hl.1) rfl (zd DX0_init 1 rfl) (Nat.le_of_ble_eq_true rfl) (Nat.le_of_ble_eq_true rfl) ?_
  refine W.eq (g2 := F0 m 4 ls []) rfl ?_
  refine lv_aload_n hx hb (zd DX0_init 2 rfl) rfl (lv_at hl 0 rfl) ?_
  refine va_new (ci := 3) (fs := [.int 0, .int 0, .null]) (C := RX3) (T := TX3) (N := 3) hx hb hts kz3.2.1 tyX3 tyX3_ok hown (hts _ wkc_29) (hts _ wkc_30) (hts _ wkc_3) hK hP hD hS hA rfl (by decide +kernel) (Nat.le_of_ble_eq_true rfl) (Nat.le_of_ble_eq_true rfl) (zd DX0_init 3 rfl) (fun q_1 H hP hD hS => ?_)
  have hP : va_P D vwCl [(h0, .inr (0, [.int 0, .null, .long 0, .long 0])), (q_1, .inr (3, [.int 0, .int 0, .null]))] H := hP
  have hD : va_D A [(h0, .inr (0, [.int 0, .null, .long 0, .long 0])), (q_1, .inr (3, [.int 0, .int 0, .null]))] := hD
  refine W.widen (k := 1) (n := 3) (Nat.le_of_ble_eq_true rfl) (Nat.le_of_ble_eq_true rfl) ?_
  refine lv_dup hx hb (zd DX0_init 4 rfl) rfl ?_
  have hPc := hP.sub (ws' := [(q_1, .inr (3, [.int 0, .int 0, .null]))]) [1] rfl
  have hDc := hD.sub (ws' := [(q_1, .inr (3, [.int 0, .int 0, .null]))]) [1] (by decide) rfl
  have hFc := va_free (wc := [(q_1, .inr (3, [.int 0, .int 0, .null]))]) hD hS hA [1] rfl
  refine va_callv (va_runIN (host := "EndSums") (As := []) (rest := [.ref q_1, .ref h0]) ⟨hx, hb, hml, hown, hts⟩ (nX3_init l D cA q_1 H.size) ⟨va_cnB 0 hts (zTb_goodIn fun w hw => (List.mem_cons.mp hw).elim (fun z => z ▸ wkc_33) id) rfl rfl rfl (hNs _ wnc_31 rfl) (hts _ wkc_3) ⟨by decide, by decide, by decide +kernel⟩ ⟨Nat.le_of_ble_eq_true rfl, Nat.le_of_ble_eq_true rfl⟩, rfl, (hts _ wkc_32)⟩ ⟨zCp_blind, fun U hU hW => ⟨rfl, by rw [hU], by rw [hU]; exact hPc, va_K.moved hW.alike hK, hDc.weaken (fun _ _ _ _ => trivial), zNs_warm hW hNs, va_AO.moved hW.alike hAO⟩⟩ rfl rfl hl.1 rfl (lv_room (Nat.le_of_ble_eq_true rfl)) (zd DX0_init 5 rfl) ⟨Nat.le_of_ble_eq_true rfl, Nat.le_of_ble_eq_true rfl⟩) hS (fun q _ h => hFc q h) hFc (fun u_2 t H1 locs ht hvm hw hB hz1 hk1 hS => ?_)
  obtain ⟨hP1, hD1⟩ := hB
  rw [ht] at hP1
  obtain ⟨hP, hD⟩ := va_join (wr := [(h0, .inr (0, [.int 0, .null, .long 0, .long 0]))]) (w1 := [(q_1, .inr (3, [.int 1, .int 0, .ref (u_2 1)])), ((u_2 1), .inl (cA 0, 25, .inl fun _ => 0))]) hP hD [1] [0] rfl rfl (by decide) (by decide) hk1 hFc hP1 hD1
  generalize H1 = H at hP hS ⊢
  have hP : va_P D vwCl [(h0, .inr (0, [.int 0, .null, .long 0, .long 0])), (q_1, .inr (3, [.int 1, .int 0, .ref (u_2 1)])), ((u_2 1), .inl (cA 0, 25, .inl fun _ => 0))] H := hP
  have hD : va_D A [(h0, .inr (0, [.int 0, .null, .long 0, .long 0])), (q_1, .inr (3, [.int 1, .int 0, .ref (u_2 1)])), ((u_2 1), .inl (cA 0, 25, .inl fun _ => 0))] := hD
  refine W.widen (k := 2) (n := 28) (Nat.le_of_ble_eq_true rfl) (Nat.le_of_ble_eq_true rfl) ?_
  refine va_putF (D := D) (ci := 0) (v := .ref q_1) (ty := .object "EndSums$Table") (C := RX0) (T := TX0) (N := 4) hx hb hts kz0.2.1 tyX0 tyX0_ok nmX0 hown hK hP hD hS 0 rfl rfl 1 (by decide) (hts _ wkc_52) (fun _ h9 => h9) rfl hin rfl (by decide +kernel) rfl rfl (Nat.le_of_ble_eq_true rfl) (zd DX0_init 6 rfl) (fun H locs hP hD hS => ?_)
  have hP : va_P D vwCl [(h0, .inr (0, [.int 0, .ref q_1, .long 0, .long 0])), (q_1, .inr (3, [.int 1, .int 0, .ref (u_2 1)])), ((u_2 1), .inl (cA 0, 25, .inl fun _ => 0))] H := hP
  have hD : va_D A [(h0, .inr (0, [.int 0, .ref q_1, .long 0, .long 0])), (q_1, .inr (3, [.int 1, .int 0, .ref (u_2 1)])), ((u_2 1), .inl (cA 0, 25, .inl fun _ => 0))] := hD
  have hP9 := hP.sub (ws' := k0 cA h0 (fun j => [h0, q_1, (u_2 1)].getD j 0)) [0, 1, 2] rfl
  have hD9 := hD.sub (ws' := k0 cA h0 (fun j => [h0, q_1, (u_2 1)].getD j 0)) [0, 1, 2] (by decide) rfl
  exact W.vret hx hb hr (fun t ht hW => ⟨⟨(fun j => [h0, q_1, (u_2 1)].getD j 0), rfl, trivial, by rw [ht]; exact hP9, hD9⟩, hS.F ht⟩) hS.2.2 (zd DX0_init 7 rfl)
def QX5_init : List (Nat × Instr × Nat) := [(0, .aload_n 0, 1), (1, .invokespecial 3, 3), (4, .aload_n 0, 1), (5, .bipush 100, 2), (7, .newarray .int, 2), (9, .putfield 9, 3), (12, .return_, 1)]
set_option maxRecDepth 100000 in
theorem DX5_init : ∀ q ∈ QX5_init, decode cX5_init q.1 = .ok (q.2.1, q.2.2) := by decide +kernel
abbrev k5 (cA : Nat → ClassId) (h0 : Nat) (f : Nat → Nat) : va_W := [(h0, .inr (5, [.int 0, .ref (f 1)])), ((f 1), .inl (cA 0, 100, .inl fun _ => 0))]
set_option maxHeartbeats 8000000 in
set_option maxRecDepth 100000 in
theorem nX5_init (l : Launch) (D : va_G) (cA : Nat → ClassId) (h0 : Nat) (sz : Nat) : Met l yX5_init (.code yX5_init cX5_init 1 none :: zTb) ({ frames := 1, cells := 1, slots := 100, locals := 12 }) (va_Pc [.ref h0] (zCp D cA [(h0, .inr (5, [.int 0, .null]))] sz)) (va_Qv (fun _ : Nat → Nat => True) (fun f t => va_P D vwCl (k5 cA h0 f) t.heap ∧ va_D (va_A [(h0, .inr (5, [.int 0, .null]))] sz) (k5 cA h0 f)) (va_A [(h0, .inr (5, [.int 0, .null]))] sz)) 1 100 (va_A [(h0, .inr (5, [.int 0, .null]))] sz) := by
  refine Met.ofW (cc := cX5_init) (maxL := 1) (ret := none) (by decide) rfl ?_
  intro p e s m args below meth c s₁ B hml hv
  obtain ⟨rfl, hsz, hP, hK, hD0, hNs, hAO⟩ := hv
  have hx := B.exec
  have hb := B.bytes
  have hr := B.returns
  have hts : ∀ w ∈ zTb, w.before _ s = true := fun w hw => atoms_spec (ws := .code yX5_init cX5_init 1 none :: zTb) B.pre w (List.mem_cons_of_mem _ hw)
  have hown : s.vm.findClass RX5 = some m.cls := findClass_of_methodNamed B.named
  have hlocks := B.notSynchronized
  have hin : meth.name = "<init>" := (name_of_methodNamed B.named B.method).1
  subst hsz
  have hD := hD0.self (sz := s.heap.size)
  generalize hAe : va_A [(h0, .inr (5, [.int 0, .null]))] s.heap.size = A at hD ⊢
  have hA : ∀ q : Nat, s.heap.size ≤ q → A q := fun q h => by rw [← hAe]; exact Or.inr h
  have hS : va_S A s.heap s.heap [] := va_S.rf
  have hl := lv_entry ([.ref h0]) (n := 1) (Nat.le_of_ble_eq_true rfl)
  rw [lg_entry_eq]
  generalize (lg_sl ([.ref h0]) ++ List.replicate (1 - (lg_sl ([.ref h0])).length) Slot.unset).toArray = ls at hl ⊢
  have hl : lv_has ls 1 [(0, .ref h0)] := hl
  have hP : va_P D vwCl [(h0, .inr (5, [.int 0, .null]))] s.heap := hP
  refine lv_aload_n hx hb (zd DX5_init 0 rfl) rfl (lv_at hl 0 rfl) ?_
  refine W.objInit hx hb hown (hts _ wkc_148) (hts _ wkc_21) (hts _ wkc_22) rfl (by rw [hml]; exact hl.1) rfl (zd DX5_init 1 rfl) (Nat.le_of_ble_eq_true rfl) (Nat.le_of_ble_eq_true rfl) ?_
  refine W.eq (g2 := F0 m 4 ls []) rfl ?_
  refine lv_aload_n hx hb (zd DX5_init 2 rfl) rfl (lv_at hl 0 rfl) ?_
  refine lv_bipush (v := 100) hx hb (zd DX5_init 3 rfl) (by decide) ?_
  refine z_newaI (N' := 100) hx hb (hts _ wkc_49) hK hP hD hS hA (by decide) (by decide) (by decide) (Nat.le_of_ble_eq_true rfl) (Nat.le_of_ble_eq_true rfl) (zd DX5_init 4 rfl) (fun q_1 H hP hD hS => ?_)
  have hP : va_P D vwCl [(h0, .inr (5, [.int 0, .null])), (q_1, .inl (cA 0, 100, .inl fun _ => 0))] H := hP
  have hD : va_D A [(h0, .inr (5, [.int 0, .null])), (q_1, .inl (cA 0, 100, .inl fun _ => 0))] := hD
  refine W.widen (k := 1) (n := 100) (Nat.le_of_ble_eq_true rfl) (Nat.le_of_ble_eq_true rfl) ?_
  refine va_putF (D := D) (ci := 5) (v := .ref q_1) (ty := .array .int) (C := RX5) (T := TX5) (N := 2) hx hb hts kz5.2.1 tyX5 tyX5_ok nmX5 hown hK hP hD hS 0 rfl rfl 1 (by decide) (hts _ wkc_151) (fun _ h9 => h9) rfl hin rfl (by decide +kernel) rfl rfl (Nat.le_of_ble_eq_true rfl) (zd DX5_init 5 rfl) (fun H locs hP hD hS => ?_)
  have hP : va_P D vwCl [(h0, .inr (5, [.int 0, .ref q_1])), (q_1, .inl (cA 0, 100, .inl fun _ => 0))] H := hP
  have hD : va_D A [(h0, .inr (5, [.int 0, .ref q_1])), (q_1, .inl (cA 0, 100, .inl fun _ => 0))] := hD
  have hP9 := hP.sub (ws' := k5 cA h0 (fun j => [h0, q_1].getD j 0)) [0, 1] rfl
  have hD9 := hD.sub (ws' := k5 cA h0 (fun j => [h0, q_1].getD j 0)) [0, 1] (by decide) rfl
  exact W.vret hx hb hr (fun t ht hW => ⟨⟨(fun j => [h0, q_1].getD j 0), rfl, trivial, by rw [ht]; exact hP9, hD9⟩, hS.F ht⟩) hS.2.2 (zd DX5_init 6 rfl)
def QX4_init : List (Nat × Instr × Nat) := [(0, .aload_n 0, 1), (1, .invokespecial 3, 3), (4, .aload_n 0, 1), (5, .bipush 65, 2), (7, .newarray .int, 2), (9, .putfield 9, 3), (12, .aload_n 0, 1), (13, .bipush 65, 2), (15, .newarray .int, 2), (17, .putfield 15, 3), (20, .aload_n 0, 1), (21, .bipush 65, 2), (23, .newarray .int, 2), (25, .putfield 18, 3), (28, .aload_n 0, 1), (29, .bipush 65, 2), (31, .newarray .int, 2), (33, .putfield 21, 3), (36, .return_, 1)]
set_option maxRecDepth 100000 in
theorem DX4_init : ∀ q ∈ QX4_init, decode cX4_init q.1 = .ok (q.2.1, q.2.2) := by decide +kernel
abbrev k4 (cA : Nat → ClassId) (h0 : Nat) (f : Nat → Nat) : va_W := [(h0, .inr (4, [.ref (f 1), .ref (f 2), .ref (f 3), .ref (f 4), .int 0, .int 0])), ((f 1), .inl (cA 0, 65, .inl fun _ => 0)), ((f 2), .inl (cA 0, 65, .inl fun _ => 0)), ((f 3), .inl (cA 0, 65, .inl fun _ => 0)), ((f 4), .inl (cA 0, 65, .inl fun _ => 0))]
set_option maxHeartbeats 8000000 in
set_option maxRecDepth 100000 in
theorem nX4_init (l : Launch) (D : va_G) (cA : Nat → ClassId) (h0 : Nat) (sz : Nat) : Met l yX4_init (.code yX4_init cX4_init 1 none :: zTb) ({ frames := 1, cells := 4, slots := 260, locals := 12 }) (va_Pc [.ref h0] (zCp D cA [(h0, .inr (4, [.null, .null, .null, .null, .int 0, .int 0]))] sz)) (va_Qv (fun _ : Nat → Nat => True) (fun f t => va_P D vwCl (k4 cA h0 f) t.heap ∧ va_D (va_A [(h0, .inr (4, [.null, .null, .null, .null, .int 0, .int 0]))] sz) (k4 cA h0 f)) (va_A [(h0, .inr (4, [.null, .null, .null, .null, .int 0, .int 0]))] sz)) 4 260 (va_A [(h0, .inr (4, [.null, .null, .null, .null, .int 0, .int 0]))] sz) := by
  refine Met.ofW (cc := cX4_init) (maxL := 1) (ret := none) (by decide) rfl ?_
  intro p e s m args below meth c s₁ B hml hv
  obtain ⟨rfl, hsz, hP, hK, hD0, hNs, hAO⟩ := hv
  have hx := B.exec
  have hb := B.bytes
  have hr := B.returns
  have hts : ∀ w ∈ zTb, w.before _ s = true := fun w hw => atoms_spec (ws := .code yX4_init cX4_init 1 none :: zTb) B.pre w (List.mem_cons_of_mem _ hw)
  have hown : s.vm.findClass RX4 = some m.cls := findClass_of_methodNamed B.named
  have hlocks := B.notSynchronized
  have hin : meth.name = "<init>" := (name_of_methodNamed B.named B.method).1
  subst hsz
  have hD := hD0.self (sz := s.heap.size)
  generalize hAe : va_A [(h0, .inr (4, [.null, .null, .null, .null, .int 0, .int 0]))] s.heap.size = A at hD ⊢
  have hA : ∀ q : Nat, s.heap.size ≤ q → A q := fun q h => by rw [← hAe]; exact Or.inr h
  have hS : va_S A s.heap s.heap [] := va_S.rf
  have hl := lv_entry ([.ref h0]) (n := 1) (Nat.le_of_ble_eq_true rfl)
  rw [lg_entry_eq]
  generalize (lg_sl ([.ref h0]) ++ List.replicate (1 - (lg_sl ([.ref h0])).length) Slot.unset).toArray = ls at hl ⊢
  have hl : lv_has ls 1 [(0, .ref h0)] := hl
  have hP : va_P D vwCl [(h0, .inr (4, [.null, .null, .null, .null, .int 0, .int 0]))] s.heap := hP
  refine lv_aload_n hx hb (zd DX4_init 0 rfl) rfl (lv_at hl 0 rfl) ?_
  refine W.objInit hx hb hown (hts _ wkc_162) (hts _ wkc_21) (hts _ wkc_22) rfl (by rw [hml]; exact hl.1) rfl (zd DX4_init 1 rfl) (Nat.le_of_ble_eq_true rfl) (Nat.le_of_ble_eq_true rfl) ?_
  refine W.eq (g2 := F0 m 4 ls []) rfl ?_
  refine lv_aload_n hx hb (zd DX4_init 2 rfl) rfl (lv_at hl 0 rfl) ?_
  refine lv_bipush (v := 65) hx hb (zd DX4_init 3 rfl) (by decide) ?_
  refine z_newaI (N' := 65) hx hb (hts _ wkc_49) hK hP hD hS hA (by decide) (by decide) (by decide) (Nat.le_of_ble_eq_true rfl) (Nat.le_of_ble_eq_true rfl) (zd DX4_init 4 rfl) (fun q_1 H hP hD hS => ?_)
  have hP : va_P D vwCl [(h0, .inr (4, [.null, .null, .null, .null, .int 0, .int 0])), (q_1, .inl (cA 0, 65, .inl fun _ => 0))] H := hP
  have hD : va_D A [(h0, .inr (4, [.null, .null, .null, .null, .int 0, .int 0])), (q_1, .inl (cA 0, 65, .inl fun _ => 0))] := hD
  refine W.widen (k := 1) (n := 65) (Nat.le_of_ble_eq_true rfl) (Nat.le_of_ble_eq_true rfl) ?_
  refine va_put (D := D) (ci := 4) (v := .ref q_1) (ty := .array .int) (C := RX4) (T := TX4) (N := 6) hx hb hts kz4.2.1 tyX4 tyX4_ok nmX4 hown hK hP hD hS 0 rfl rfl 0 (by decide) (hts _ wkc_163) (fun _ h9 => h9) rfl (by decide +kernel) rfl rfl (Nat.le_of_ble_eq_true rfl) (zd DX4_init 5 rfl) (fun H locs hP hD hS => ?_)
  have hP : va_P D vwCl [(h0, .inr (4, [.ref q_1, .null, .null, .null, .int 0, .int 0])), (q_1, .inl (cA 0, 65, .inl fun _ => 0))] H := hP
  have hD : va_D A [(h0, .inr (4, [.ref q_1, .null, .null, .null, .int 0, .int 0])), (q_1, .inl (cA 0, 65, .inl fun _ => 0))] := hD
  refine lv_aload_n hx hb (zd DX4_init 6 rfl) rfl (lv_at hl 0 rfl) ?_
  refine lv_bipush (v := 65) hx hb (zd DX4_init 7 rfl) (by decide) ?_
  refine z_newaI (N' := 65) hx hb (hts _ wkc_49) hK hP hD hS hA (by decide) (by decide) (by decide) (Nat.le_of_ble_eq_true rfl) (Nat.le_of_ble_eq_true rfl) (zd DX4_init 8 rfl) (fun q_2 H hP hD hS => ?_)
  have hP : va_P D vwCl [(h0, .inr (4, [.ref q_1, .null, .null, .null, .int 0, .int 0])), (q_1, .inl (cA 0, 65, .inl fun _ => 0)), (q_2, .inl (cA 0, 65, .inl fun _ => 0))] H := hP
  have hD : va_D A [(h0, .inr (4, [.ref q_1, .null, .null, .null, .int 0, .int 0])), (q_1, .inl (cA 0, 65, .inl fun _ => 0)), (q_2, .inl (cA 0, 65, .inl fun _ => 0))] := hD
  refine W.widen (k := 2) (n := 130) (Nat.le_of_ble_eq_true rfl) (Nat.le_of_ble_eq_true rfl) ?_
  refine va_put (D := D) (ci := 4) (v := .ref q_2) (ty := .array .int) (C := RX4) (T := TX4) (N := 6) hx hb hts kz4.2.1 tyX4 tyX4_ok nmX4 hown hK hP hD hS 0 rfl rfl 1 (by decide) (hts _ wkc_164) (fun _ h9 => h9) rfl (by decide +kernel) rfl rfl (Nat.le_of_ble_eq_true rfl) (zd DX4_init 9 rfl) (fun H locs hP hD hS => ?_)
  have hP : va_P D vwCl [(h0, .inr (4, [.ref q_1, .ref q_2, .null, .null, .int 0, .int 0])), (q_1, .inl (cA 0, 65, .inl fun _ => 0)), (q_2, .inl (cA 0, 65, .inl fun _ => 0))] H := hP
  have hD : va_D A [(h0, .inr (4, [.ref q_1, .ref q_2, .null, .null, .int 0, .int 0])), (q_1, .inl (cA 0, 65, .inl fun _ => 0)), (q_2, .inl (cA 0, 65, .inl fun _ => 0))] := hD
  refine lv_aload_n hx hb (zd DX4_init 10 rfl) rfl (lv_at hl 0 rfl) ?_
  refine lv_bipush (v := 65) hx hb (zd DX4_init 11 rfl) (by decide) ?_
  refine z_newaI (N' := 65) hx hb (hts _ wkc_49) hK hP hD hS hA (by decide) (by decide) (by decide) (Nat.le_of_ble_eq_true rfl) (Nat.le_of_ble_eq_true rfl) (zd DX4_init 12 rfl) (fun q_3 H hP hD hS => ?_)
  have hP : va_P D vwCl [(h0, .inr (4, [.ref q_1, .ref q_2, .null, .null, .int 0, .int 0])), (q_1, .inl (cA 0, 65, .inl fun _ => 0)), (q_2, .inl (cA 0, 65, .inl fun _ => 0)), (q_3, .inl (cA 0, 65, .inl fun _ => 0))] H := hP
  have hD : va_D A [(h0, .inr (4, [.ref q_1, .ref q_2, .null, .null, .int 0, .int 0])), (q_1, .inl (cA 0, 65, .inl fun _ => 0)), (q_2, .inl (cA 0, 65, .inl fun _ => 0)), (q_3, .inl (cA 0, 65, .inl fun _ => 0))] := hD
  refine W.widen (k := 3) (n := 195) (Nat.le_of_ble_eq_true rfl) (Nat.le_of_ble_eq_true rfl) ?_
  refine va_put (D := D) (ci := 4) (v := .ref q_3) (ty := .array .int) (C := RX4) (T := TX4) (N := 6) hx hb hts kz4.2.1 tyX4 tyX4_ok nmX4 hown hK hP hD hS 0 rfl rfl 2 (by decide) (hts _ wkc_165) (fun _ h9 => h9) rfl (by decide +kernel) rfl rfl (Nat.le_of_ble_eq_true rfl) (zd DX4_init 13 rfl) (fun H locs hP hD hS => ?_)
  have hP : va_P D vwCl [(h0, .inr (4, [.ref q_1, .ref q_2, .ref q_3, .null, .int 0, .int 0])), (q_1, .inl (cA 0, 65, .inl fun _ => 0)), (q_2, .inl (cA 0, 65, .inl fun _ => 0)), (q_3, .inl (cA 0, 65, .inl fun _ => 0))] H := hP
  have hD : va_D A [(h0, .inr (4, [.ref q_1, .ref q_2, .ref q_3, .null, .int 0, .int 0])), (q_1, .inl (cA 0, 65, .inl fun _ => 0)), (q_2, .inl (cA 0, 65, .inl fun _ => 0)), (q_3, .inl (cA 0, 65, .inl fun _ => 0))] := hD
  refine lv_aload_n hx hb (zd DX4_init 14 rfl) rfl (lv_at hl 0 rfl) ?_
  refine lv_bipush (v := 65) hx hb (zd DX4_init 15 rfl) (by decide) ?_
  refine z_newaI (N' := 65) hx hb (hts _ wkc_49) hK hP hD hS hA (by decide) (by decide) (by decide) (Nat.le_of_ble_eq_true rfl) (Nat.le_of_ble_eq_true rfl) (zd DX4_init 16 rfl) (fun q_4 H hP hD hS => ?_)
  have hP : va_P D vwCl [(h0, .inr (4, [.ref q_1, .ref q_2, .ref q_3, .null, .int 0, .int 0])), (q_1, .inl (cA 0, 65, .inl fun _ => 0)), (q_2, .inl (cA 0, 65, .inl fun _ => 0)), (q_3, .inl (cA 0, 65, .inl fun _ => 0)), (q_4, .inl (cA 0, 65, .inl fun _ => 0))] H := hP
  have hD : va_D A [(h0, .inr (4, [.ref q_1, .ref q_2, .ref q_3, .null, .int 0, .int 0])), (q_1, .inl (cA 0, 65, .inl fun _ => 0)), (q_2, .inl (cA 0, 65, .inl fun _ => 0)), (q_3, .inl (cA 0, 65, .inl fun _ => 0)), (q_4, .inl (cA 0, 65, .inl fun _ => 0))] := hD
  refine W.widen (k := 4) (n := 260) (Nat.le_of_ble_eq_true rfl) (Nat.le_of_ble_eq_true rfl) ?_
  refine va_put (D := D) (ci := 4) (v := .ref q_4) (ty := .array .int) (C := RX4) (T := TX4) (N := 6) hx hb hts kz4.2.1 tyX4 tyX4_ok nmX4 hown hK hP hD hS 0 rfl rfl 3 (by decide) (hts _ wkc_166) (fun _ h9 => h9) rfl (by decide +kernel) rfl rfl (Nat.le_of_ble_eq_true rfl) (zd DX4_init 17 rfl) (fun H locs hP hD hS => ?_)
  have hP : va_P D vwCl [(h0, .inr (4, [.ref q_1, .ref q_2, .ref q_3, .ref q_4, .int 0, .int 0])), (q_1, .inl (cA 0, 65, .inl fun _ => 0)), (q_2, .inl (cA 0, 65, .inl fun _ => 0)), (q_3, .inl (cA 0, 65, .inl fun _ => 0)), (q_4, .inl (cA 0, 65, .inl fun _ => 0))] H := hP
  have hD : va_D A [(h0, .inr (4, [.ref q_1, .ref q_2, .ref q_3, .ref q_4, .int 0, .int 0])), (q_1, .inl (cA 0, 65, .inl fun _ => 0)), (q_2, .inl (cA 0, 65, .inl fun _ => 0)), (q_3, .inl (cA 0, 65, .inl fun _ => 0)), (q_4, .inl (cA 0, 65, .inl fun _ => 0))] := hD
  have hP9 := hP.sub (ws' := k4 cA h0 (fun j => [h0, q_1, q_2, q_3, q_4].getD j 0)) [0, 1, 2, 3, 4] rfl
  have hD9 := hD.sub (ws' := k4 cA h0 (fun j => [h0, q_1, q_2, q_3, q_4].getD j 0)) [0, 1, 2, 3, 4] (by decide) rfl
  exact W.vret hx hb hr (fun t ht hW => ⟨⟨(fun j => [h0, q_1, q_2, q_3, q_4].getD j 0), rfl, trivial, by rw [ht]; exact hP9, hD9⟩, hS.F ht⟩) hS.2.2 (zd DX4_init 18 rfl)
def QX6_init : List (Nat × Instr × Nat) := [(0, .aload_n 0, 1), (1, .invokespecial 3, 3), (4, .aload_n 0, 1), (5, .bipush 64, 2), (7, .newarray .int, 2), (9, .putfield 9, 3), (12, .aload_n 0, 1), (13, .aload_n 1, 1), (14, .putfield 15, 3), (17, .return_, 1)]
set_option maxRecDepth 100000 in
theorem DX6_init : ∀ q ∈ QX6_init, decode cX6_init q.1 = .ok (q.2.1, q.2.2) := by decide +kernel
abbrev k6 (cA : Nat → ClassId) (r1 : Nat) (h0 : Nat) (f : Nat → Nat) : va_W := [(h0, .inr (6, [.ref r1, .int 0, .int 0, .ref (f 1)])), ((f 1), .inl (cA 0, 64, .inl fun _ => 0))]
set_option maxHeartbeats 8000000 in
set_option maxRecDepth 100000 in
theorem nX6_init (l : Launch) (D : va_G) (cA : Nat → ClassId) (r1 : Nat) (h0 : Nat) (sz : Nat) : Met l yX6_init (.code yX6_init cX6_init 2 none :: zTb) ({ frames := 1, cells := 1, slots := 64, locals := 12 }) (va_Pc [.ref h0, .ref r1] (zCp D cA [(h0, .inr (6, [.null, .int 0, .int 0, .null]))] sz)) (va_Qv (fun _ : Nat → Nat => True) (fun f t => va_P D vwCl (k6 cA r1 h0 f) t.heap ∧ va_D (va_A [(h0, .inr (6, [.null, .int 0, .int 0, .null]))] sz) (k6 cA r1 h0 f)) (va_A [(h0, .inr (6, [.null, .int 0, .int 0, .null]))] sz)) 1 64 (va_A [(h0, .inr (6, [.null, .int 0, .int 0, .null]))] sz) := by
  refine Met.ofW (cc := cX6_init) (maxL := 2) (ret := none) (by decide) rfl ?_
  intro p e s m args below meth c s₁ B hml hv
  obtain ⟨rfl, hsz, hP, hK, hD0, hNs, hAO⟩ := hv
  have hx := B.exec
  have hb := B.bytes
  have hr := B.returns
  have hts : ∀ w ∈ zTb, w.before _ s = true := fun w hw => atoms_spec (ws := .code yX6_init cX6_init 2 none :: zTb) B.pre w (List.mem_cons_of_mem _ hw)
  have hown : s.vm.findClass RX6 = some m.cls := findClass_of_methodNamed B.named
  have hlocks := B.notSynchronized
  have hin : meth.name = "<init>" := (name_of_methodNamed B.named B.method).1
  subst hsz
  have hD := hD0.self (sz := s.heap.size)
  generalize hAe : va_A [(h0, .inr (6, [.null, .int 0, .int 0, .null]))] s.heap.size = A at hD ⊢
  have hA : ∀ q : Nat, s.heap.size ≤ q → A q := fun q h => by rw [← hAe]; exact Or.inr h
  have hS : va_S A s.heap s.heap [] := va_S.rf
  have hl := lv_entry ([.ref h0, .ref r1]) (n := 2) (Nat.le_of_ble_eq_true rfl)
  rw [lg_entry_eq]
  generalize (lg_sl ([.ref h0, .ref r1]) ++ List.replicate (2 - (lg_sl ([.ref h0, .ref r1])).length) Slot.unset).toArray = ls at hl ⊢
  have hl : lv_has ls 2 [(0, .ref h0), (1, .ref r1)] := hl
  have hP : va_P D vwCl [(h0, .inr (6, [.null, .int 0, .int 0, .null]))] s.heap := hP
  refine lv_aload_n hx hb (zd DX6_init 0 rfl) rfl (lv_at hl 0 rfl) ?_
  refine W.objInit hx hb hown (hts _ wkc_74) (hts _ wkc_21) (hts _ wkc_22) rfl (by rw [hml]; exact hl.1) rfl (zd DX6_init 1 rfl) (Nat.le_of_ble_eq_true rfl) (Nat.le_of_ble_eq_true rfl) ?_
  refine W.eq (g2 := F0 m 4 ls []) rfl ?_
  refine lv_aload_n hx hb (zd DX6_init 2 rfl) rfl (lv_at hl 0 rfl) ?_
  refine lv_bipush (v := 64) hx hb (zd DX6_init 3 rfl) (by decide) ?_
  refine z_newaI (N' := 64) hx hb (hts _ wkc_49) hK hP hD hS hA (by decide) (by decide) (by decide) (Nat.le_of_ble_eq_true rfl) (Nat.le_of_ble_eq_true rfl) (zd DX6_init 4 rfl) (fun q_1 H hP hD hS => ?_)
  have hP : va_P D vwCl [(h0, .inr (6, [.null, .int 0, .int 0, .null])), (q_1, .inl (cA 0, 64, .inl fun _ => 0))] H := hP
  have hD : va_D A [(h0, .inr (6, [.null, .int 0, .int 0, .null])), (q_1, .inl (cA 0, 64, .inl fun _ => 0))] := hD
  refine W.widen (k := 1) (n := 64) (Nat.le_of_ble_eq_true rfl) (Nat.le_of_ble_eq_true rfl) ?_
  refine va_putF (D := D) (ci := 6) (v := .ref q_1) (ty := .array .int) (C := RX6) (T := TX6) (N := 4) hx hb hts kz6.2.1 tyX6 tyX6_ok nmX6 hown hK hP hD hS 0 rfl rfl 3 (by decide) (hts _ wkc_80) (fun _ h9 => h9) rfl hin rfl (by decide +kernel) rfl rfl (Nat.le_of_ble_eq_true rfl) (zd DX6_init 5 rfl) (fun H locs hP hD hS => ?_)
  have hP : va_P D vwCl [(h0, .inr (6, [.null, .int 0, .int 0, .ref q_1])), (q_1, .inl (cA 0, 64, .inl fun _ => 0))] H := hP
  have hD : va_D A [(h0, .inr (6, [.null, .int 0, .int 0, .ref q_1])), (q_1, .inl (cA 0, 64, .inl fun _ => 0))] := hD
  refine lv_aload_n hx hb (zd DX6_init 6 rfl) rfl (lv_at hl 0 rfl) ?_
  refine lv_aload_n hx hb (zd DX6_init 7 rfl) rfl (lv_at hl 1 rfl) ?_
  refine va_putF (D := D) (ci := 6) (v := .ref r1) (ty := .object "EndSums$Joining") (C := RX6) (T := TX6) (N := 4) hx hb hts kz6.2.1 tyX6 tyX6_ok nmX6 hown hK hP hD hS 0 rfl rfl 0 (by decide) (hts _ wkc_75) (fun _ h9 => h9) rfl hin rfl (by decide +kernel) rfl rfl (Nat.le_of_ble_eq_true rfl) (zd DX6_init 8 rfl) (fun H locs hP hD hS => ?_)
  have hP : va_P D vwCl [(h0, .inr (6, [.ref r1, .int 0, .int 0, .ref q_1])), (q_1, .inl (cA 0, 64, .inl fun _ => 0))] H := hP
  have hD : va_D A [(h0, .inr (6, [.ref r1, .int 0, .int 0, .ref q_1])), (q_1, .inl (cA 0, 64, .inl fun _ => 0))] := hD
  have hP9 := hP.sub (ws' := k6 cA r1 h0 (fun j => [h0, q_1].getD j 0)) [0, 1] rfl
  have hD9 := hD.sub (ws' := k6 cA r1 h0 (fun j => [h0, q_1].getD j 0)) [0, 1] (by decide) rfl
  exact W.vret hx hb hr (fun t ht hW => ⟨⟨(fun j => [h0, q_1].getD j 0), rfl, trivial, by rw [ht]; exact hP9, hD9⟩, hS.F ht⟩) hS.2.2 (zd DX6_init 9 rfl)
def QX7_init : List (Nat × Instr × Nat) := [(0, .aload_n 0, 1), (1, .invokespecial 1, 3), (4, .aload_n 0, 1), (5, .new 7, 3), (8, .dup, 1), (9, .invokespecial 9, 3), (12, .putfield 10, 3), (15, .aload_n 0, 1), (16, .new 16, 3), (19, .dup, 1), (20, .aload_n 0, 1), (21, .getfield 10, 3), (24, .invokespecial 18, 3), (27, .putfield 21, 3), (30, .aload_n 0, 1), (31, .iconst 4, 1), (32, .anewarray 25, 3), (35, .putfield 27, 3), (38, .iconst 0, 1), (39, .istore_n 1, 1), (40, .iload_n 1, 1), (41, .aload_n 0, 1), (42, .getfield 27, 3), (45, .arraylength, 1), (46, .if_icmp .ge 22, 3), (49, .aload_n 0, 1), (50, .getfield 27, 3), (53, .iload_n 1, 1), (54, .new 25, 3), (57, .dup, 1), (58, .invokespecial 31, 3), (61, .aastore, 1), (62, .iinc 1 1, 3), (65, .goto (-25), 3), (68, .aload_n 0, 1), (69, .new 25, 3), (72, .dup, 1), (73, .invokespecial 31, 3), (76, .putfield 32, 3), (79, .aload_n 0, 1), (80, .new 36, 3), (83, .dup, 1), (84, .invokespecial 38, 3), (87, .putfield 39, 3), (90, .aload_n 0, 1), (91, .new 43, 3), (94, .dup, 1), (95, .invokespecial 45, 3), (98, .putfield 46, 3), (101, .aload_n 0, 1), (102, .new 50, 3), (105, .dup, 1), (106, .invokespecial 52, 3), (109, .putfield 53, 3), (112, .aload_n 0, 1), (113, .sipush 128, 3), (116, .newarray .long, 2), (118, .putfield 57, 3), (121, .aload_n 0, 1), (122, .sipush 129, 3), (125, .newarray .long, 2), (127, .putfield 61, 3), (130, .aload_n 0, 1), (131, .sipush 129, 3), (134, .newarray .long, 2), (136, .putfield 64, 3), (139, .return_, 1)]
set_option maxRecDepth 100000 in
theorem DX7_init : ∀ q ∈ QX7_init, decode cX7_init q.1 = .ok (q.2.1, q.2.2) := by decide +kernel
abbrev k7 (cA : Nat → ClassId) (h0 : Nat) (f : Nat → Nat) : va_W := [(h0, .inr (7, [.ref (f 1), .ref (f 4), .ref (f 6), .ref (f 51), .ref (f 62), .ref (f 64), .ref (f 66), .ref (f 71), .int 0, .ref (f 72), .ref (f 73)])), ((f 1), .inr (0, [.int 0, .ref (f 2), .long 0, .long 0])), ((f 2), .inr (3, [.int 1, .int 0, .ref (f 3)])), ((f 3), .inl (cA 0, 25, .inl fun _ => 0)), ((f 4), .inr (6, [.ref (f 1), .int 0, .int 0, .ref (f 5)])), ((f 5), .inl (cA 0, 64, .inl fun _ => 0)), ((f 6), .inl (cA 2, 4, .inr (.inr (.inr (.inr (va_up (va_up (va_up (va_up (fun _ => none) 0 (some (f 7))) 1 (some (f 18))) 2 (some (f 29))) 3 (some (f 40)))))))), ((f 7), .inr (1, [.ref (f 8), .ref (f 13)])), ((f 8), .inr (2, [.int 0, .ref (f 9), .ref (f 10), .ref (f 11), .ref (f 12)])), ((f 9), .inl (cA 0, 64, .inl fun _ => 0)), ((f 10), .inl (cA 1, 64, .inr (.inl fun _ => 0))), ((f 11), .inl (cA 1, 64, .inr (.inl fun _ => 0))), ((f 12), .inl (cA 0, 64, .inl fun _ => 0)), ((f 13), .inr (2, [.int 0, .ref (f 14), .ref (f 15), .ref (f 16), .ref (f 17)])), ((f 14), .inl (cA 0, 64, .inl fun _ => 0)), ((f 15), .inl (cA 1, 64, .inr (.inl fun _ => 0))), ((f 16), .inl (cA 1, 64, .inr (.inl fun _ => 0))), ((f 17), .inl (cA 0, 64, .inl fun _ => 0)), ((f 18), .inr (1, [.ref (f 19), .ref (f 24)])), ((f 19), .inr (2, [.int 0, .ref (f 20), .ref (f 21), .ref (f 22), .ref (f 23)])), ((f 20), .inl (cA 0, 64, .inl fun _ => 0)), ((f 21), .inl (cA 1, 64, .inr (.inl fun _ => 0))), ((f 22), .inl (cA 1, 64, .inr (.inl fun _ => 0))), ((f 23), .inl (cA 0, 64, .inl fun _ => 0)), ((f 24), .inr (2, [.int 0, .ref (f 25), .ref (f 26), .ref (f 27), .ref (f 28)])), ((f 25), .inl (cA 0, 64, .inl fun _ => 0)), ((f 26), .inl (cA 1, 64, .inr (.inl fun _ => 0))), ((f 27), .inl (cA 1, 64, .inr (.inl fun _ => 0))), ((f 28), .inl (cA 0, 64, .inl fun _ => 0)), ((f 29), .inr (1, [.ref (f 30), .ref (f 35)])), ((f 30), .inr (2, [.int 0, .ref (f 31), .ref (f 32), .ref (f 33), .ref (f 34)])), ((f 31), .inl (cA 0, 64, .inl fun _ => 0)), ((f 32), .inl (cA 1, 64, .inr (.inl fun _ => 0))), ((f 33), .inl (cA 1, 64, .inr (.inl fun _ => 0))), ((f 34), .inl (cA 0, 64, .inl fun _ => 0)), ((f 35), .inr (2, [.int 0, .ref (f 36), .ref (f 37), .ref (f 38), .ref (f 39)])), ((f 36), .inl (cA 0, 64, .inl fun _ => 0)), ((f 37), .inl (cA 1, 64, .inr (.inl fun _ => 0))), ((f 38), .inl (cA 1, 64, .inr (.inl fun _ => 0))), ((f 39), .inl (cA 0, 64, .inl fun _ => 0)), ((f 40), .inr (1, [.ref (f 41), .ref (f 46)])), ((f 41), .inr (2, [.int 0, .ref (f 42), .ref (f 43), .ref (f 44), .ref (f 45)])), ((f 42), .inl (cA 0, 64, .inl fun _ => 0)), ((f 43), .inl (cA 1, 64, .inr (.inl fun _ => 0))), ((f 44), .inl (cA 1, 64, .inr (.inl fun _ => 0))), ((f 45), .inl (cA 0, 64, .inl fun _ => 0)), ((f 46), .inr (2, [.int 0, .ref (f 47), .ref (f 48), .ref (f 49), .ref (f 50)])), ((f 47), .inl (cA 0, 64, .inl fun _ => 0)), ((f 48), .inl (cA 1, 64, .inr (.inl fun _ => 0))), ((f 49), .inl (cA 1, 64, .inr (.inl fun _ => 0))), ((f 50), .inl (cA 0, 64, .inl fun _ => 0)), ((f 51), .inr (1, [.ref (f 52), .ref (f 57)])), ((f 52), .inr (2, [.int 0, .ref (f 53), .ref (f 54), .ref (f 55), .ref (f 56)])), ((f 53), .inl (cA 0, 64, .inl fun _ => 0)), ((f 54), .inl (cA 1, 64, .inr (.inl fun _ => 0))), ((f 55), .inl (cA 1, 64, .inr (.inl fun _ => 0))), ((f 56), .inl (cA 0, 64, .inl fun _ => 0)), ((f 57), .inr (2, [.int 0, .ref (f 58), .ref (f 59), .ref (f 60), .ref (f 61)])), ((f 58), .inl (cA 0, 64, .inl fun _ => 0)), ((f 59), .inl (cA 1, 64, .inr (.inl fun _ => 0))), ((f 60), .inl (cA 1, 64, .inr (.inl fun _ => 0))), ((f 61), .inl (cA 0, 64, .inl fun _ => 0)), ((f 62), .inr (3, [.int 1, .int 0, .ref (f 63)])), ((f 63), .inl (cA 0, 25, .inl fun _ => 0)), ((f 64), .inr (5, [.int 0, .ref (f 65)])), ((f 65), .inl (cA 0, 100, .inl fun _ => 0)), ((f 66), .inr (4, [.ref (f 67), .ref (f 68), .ref (f 69), .ref (f 70), .int 0, .int 0])), ((f 67), .inl (cA 0, 65, .inl fun _ => 0)), ((f 68), .inl (cA 0, 65, .inl fun _ => 0)), ((f 69), .inl (cA 0, 65, .inl fun _ => 0)), ((f 70), .inl (cA 0, 65, .inl fun _ => 0)), ((f 71), .inl (cA 1, 128, .inr (.inl fun _ => 0))), ((f 72), .inl (cA 1, 129, .inr (.inl fun _ => 0))), ((f 73), .inl (cA 1, 129, .inr (.inl fun _ => 0)))]
set_option maxHeartbeats 8000000 in
set_option maxRecDepth 100000 in
theorem nX7_init (l : Launch) (D : va_G) (cA : Nat → ClassId) (h0 : Nat) (sz : Nat) : Met l yX7_init (.code yX7_init cX7_init 2 none :: zTb) ({ frames := 3, cells := 73, slots := 3506, locals := 52 }) (va_Pc [.ref h0] (zCp D cA [(h0, .inr (7, [.null, .null, .null, .null, .null, .null, .null, .null, .int 0, .null, .null]))] sz)) (va_Qv (fun _ : Nat → Nat => True) (fun f t => va_P D vwCl (k7 cA h0 f) t.heap ∧ va_D (va_A [(h0, .inr (7, [.null, .null, .null, .null, .null, .null, .null, .null, .int 0, .null, .null]))] sz) (k7 cA h0 f)) (va_A [(h0, .inr (7, [.null, .null, .null, .null, .null, .null, .null, .null, .int 0, .null, .null]))] sz)) 73 3506 (va_A [(h0, .inr (7, [.null, .null, .null, .null, .null, .null, .null, .null, .int 0, .null, .null]))] sz) := by
  refine Met.ofW (cc := cX7_init) (maxL := 2) (ret := none) (by decide) rfl ?_
  intro p e s m args below meth c s₁ B hml hv
  obtain ⟨rfl, hsz, hP, hK, hD0, hNs, hAO⟩ := hv
  have hx := B.exec
  have hb := B.bytes
  have hr := B.returns
  have hts : ∀ w ∈ zTb, w.before _ s = true := fun w hw => atoms_spec (ws := .code yX7_init cX7_init 2 none :: zTb) B.pre w (List.mem_cons_of_mem _ hw)
  have hown : s.vm.findClass RX7 = some m.cls := findClass_of_methodNamed B.named
  have hlocks := B.notSynchronized
  have hin : meth.name = "<init>" := (name_of_methodNamed B.named B.method).1
  subst hsz
  have hD := hD0.self (sz := s.heap.size)
  generalize hAe : va_A [(h0, .inr (7, [.null, .null, .null, .null, .null, .null, .null, .null, .int 0, .null, .null]))] s.heap.size = A at hD ⊢
  have hA : ∀ q : Nat, s.heap.size ≤ q → A q := fun q h => by rw [← hAe]; exact Or.inr h
  have hS : va_S A s.heap s.heap [] := va_S.rf
  have hl := lv_entry ([.ref h0]) (n := 2) (Nat.le_of_ble_eq_true rfl)
  rw [lg_entry_eq]
  generalize (lg_sl ([.ref h0]) ++ List.replicate (2 - (lg_sl ([.ref h0])).length) Slot.unset).toArray = ls at hl ⊢
  have hl : lv_has ls 2 [(0, .ref h0)] := hl
  have hP : va_P D vwCl [(h0, .inr (7, [.null, .null, .null, .null, .null, .null, .null, .null, .int 0, .null, .null]))] s.heap := hP
  refine lv_aload_n hx hb (zd DX7_init 0 rfl) rfl (lv_at hl 0 rfl) ?_
  refine W.objInit hx hb hown (hts _ wkc_20) (hts _ wkc_21) (hts _ wkc_22) rfl (by rw [hml]; exact hl.1) rfl (zd DX7_init 1 rfl) (Nat.le_of_ble_eq_true rfl) (Nat.le_of_ble_eq_true rfl) ?_
  refine W.eq (g2 := F0 m 4 ls []) rfl ?_
  refine lv_aload_n hx hb (zd DX7_init 2 rfl) rfl (lv_at hl 0 rfl) ?_
  refine va_new (ci := 0) (fs := [.int 0, .null, .long 0, .long 0]) (C := RX0) (T := TX0) (N := 4) hx hb hts kz0.2.1 tyX0 tyX0_ok hown (hts _ wkc_23) (hts _ wkc_24) (hts _ wkc_2) hK hP hD hS hA rfl (by decide +kernel) (Nat.le_of_ble_eq_true rfl) (Nat.le_of_ble_eq_true rfl) (zd DX7_init 3 rfl) (fun q_1 H hP hD hS => ?_)
  have hP : va_P D vwCl [(h0, .inr (7, [.null, .null, .null, .null, .null, .null, .null, .null, .int 0, .null, .null])), (q_1, .inr (0, [.int 0, .null, .long 0, .long 0]))] H := hP
  have hD : va_D A [(h0, .inr (7, [.null, .null, .null, .null, .null, .null, .null, .null, .int 0, .null, .null])), (q_1, .inr (0, [.int 0, .null, .long 0, .long 0]))] := hD
  refine W.widen (k := 1) (n := 4) (Nat.le_of_ble_eq_true rfl) (Nat.le_of_ble_eq_true rfl) ?_
  refine lv_dup hx hb (zd DX7_init 4 rfl) rfl ?_
  have hPc := hP.sub (ws' := [(q_1, .inr (0, [.int 0, .null, .long 0, .long 0]))]) [1] rfl
  have hDc := hD.sub (ws' := [(q_1, .inr (0, [.int 0, .null, .long 0, .long 0]))]) [1] (by decide) rfl
  have hFc := va_free (wc := [(q_1, .inr (0, [.int 0, .null, .long 0, .long 0]))]) hD hS hA [1] rfl
  refine va_callv (va_runIN (host := "EndSums") (As := []) (rest := [.ref q_1, .ref h0]) ⟨hx, hb, hml, hown, hts⟩ (nX0_init l D cA q_1 H.size) ⟨va_cnB 0 hts (zTb_goodIn fun w hw => (List.mem_cons.mp hw).elim (fun z => z ▸ wkc_27) id) rfl rfl rfl (hNs _ wnc_25 rfl) (hts _ wkc_2) ⟨by decide, by decide, by decide +kernel⟩ ⟨Nat.le_of_ble_eq_true rfl, Nat.le_of_ble_eq_true rfl⟩, rfl, (hts _ wkc_26)⟩ ⟨zCp_blind, fun U hU hW => ⟨rfl, by rw [hU], by rw [hU]; exact hPc, va_K.moved hW.alike hK, hDc.weaken (fun _ _ _ _ => trivial), zNs_warm hW hNs, va_AO.moved hW.alike hAO⟩⟩ rfl rfl hl.1 rfl (lv_room (Nat.le_of_ble_eq_true rfl)) (zd DX7_init 5 rfl) ⟨Nat.le_of_ble_eq_true rfl, Nat.le_of_ble_eq_true rfl⟩) hS (fun q _ h => hFc q h) hFc (fun u_2 t H1 locs ht hvm hw hB hz1 hk1 hS => ?_)
  obtain ⟨hP1, hD1⟩ := hB
  rw [ht] at hP1
  obtain ⟨hP, hD⟩ := va_join (wr := [(h0, .inr (7, [.null, .null, .null, .null, .null, .null, .null, .null, .int 0, .null, .null]))]) (w1 := [(q_1, .inr (0, [.int 0, .ref (u_2 1), .long 0, .long 0])), ((u_2 1), .inr (3, [.int 1, .int 0, .ref (u_2 2)])), ((u_2 2), .inl (cA 0, 25, .inl fun _ => 0))]) hP hD [1] [0] rfl rfl (by decide) (by decide) hk1 hFc hP1 hD1
  generalize H1 = H at hP hS ⊢
  have hP : va_P D vwCl [(h0, .inr (7, [.null, .null, .null, .null, .null, .null, .null, .null, .int 0, .null, .null])), (q_1, .inr (0, [.int 0, .ref (u_2 1), .long 0, .long 0])), ((u_2 1), .inr (3, [.int 1, .int 0, .ref (u_2 2)])), ((u_2 2), .inl (cA 0, 25, .inl fun _ => 0))] H := hP
  have hD : va_D A [(h0, .inr (7, [.null, .null, .null, .null, .null, .null, .null, .null, .int 0, .null, .null])), (q_1, .inr (0, [.int 0, .ref (u_2 1), .long 0, .long 0])), ((u_2 1), .inr (3, [.int 1, .int 0, .ref (u_2 2)])), ((u_2 2), .inl (cA 0, 25, .inl fun _ => 0))] := hD
  refine W.widen (k := 3) (n := 32) (Nat.le_of_ble_eq_true rfl) (Nat.le_of_ble_eq_true rfl) ?_
  refine va_putF (D := D) (ci := 7) (v := .ref q_1) (ty := .object "EndSums$Joining") (C := RX7) (T := TX7) (N := 11) hx hb hts kz7.2.1 tyX7 tyX7_ok nmX7 hown hK hP hD hS 0 rfl rfl 0 (by decide) (hts _ wkc_184) (fun _ h9 => h9) rfl hin rfl (by decide +kernel) rfl rfl (Nat.le_of_ble_eq_true rfl) (zd DX7_init 6 rfl) (fun H locs hP hD hS => ?_)
  have hP : va_P D vwCl [(h0, .inr (7, [.ref q_1, .null, .null, .null, .null, .null, .null, .null, .int 0, .null, .null])), (q_1, .inr (0, [.int 0, .ref (u_2 1), .long 0, .long 0])), ((u_2 1), .inr (3, [.int 1, .int 0, .ref (u_2 2)])), ((u_2 2), .inl (cA 0, 25, .inl fun _ => 0))] H := hP
  have hD : va_D A [(h0, .inr (7, [.ref q_1, .null, .null, .null, .null, .null, .null, .null, .int 0, .null, .null])), (q_1, .inr (0, [.int 0, .ref (u_2 1), .long 0, .long 0])), ((u_2 1), .inr (3, [.int 1, .int 0, .ref (u_2 2)])), ((u_2 2), .inl (cA 0, 25, .inl fun _ => 0))] := hD
  refine lv_aload_n hx hb (zd DX7_init 7 rfl) rfl (lv_at hl 0 rfl) ?_
  refine va_new (ci := 6) (fs := [.null, .int 0, .int 0, .null]) (C := RX6) (T := TX6) (N := 4) hx hb hts kz6.2.1 tyX6 tyX6_ok hown (hts _ wkc_69) (hts _ wkc_70) (hts _ wkc_4) hK hP hD hS hA rfl (by decide +kernel) (Nat.le_of_ble_eq_true rfl) (Nat.le_of_ble_eq_true rfl) (zd DX7_init 8 rfl) (fun q_3 H hP hD hS => ?_)
  have hP : va_P D vwCl [(h0, .inr (7, [.ref q_1, .null, .null, .null, .null, .null, .null, .null, .int 0, .null, .null])), (q_1, .inr (0, [.int 0, .ref (u_2 1), .long 0, .long 0])), ((u_2 1), .inr (3, [.int 1, .int 0, .ref (u_2 2)])), ((u_2 2), .inl (cA 0, 25, .inl fun _ => 0)), (q_3, .inr (6, [.null, .int 0, .int 0, .null]))] H := hP
  have hD : va_D A [(h0, .inr (7, [.ref q_1, .null, .null, .null, .null, .null, .null, .null, .int 0, .null, .null])), (q_1, .inr (0, [.int 0, .ref (u_2 1), .long 0, .long 0])), ((u_2 1), .inr (3, [.int 1, .int 0, .ref (u_2 2)])), ((u_2 2), .inl (cA 0, 25, .inl fun _ => 0)), (q_3, .inr (6, [.null, .int 0, .int 0, .null]))] := hD
  refine W.widen (k := 4) (n := 36) (Nat.le_of_ble_eq_true rfl) (Nat.le_of_ble_eq_true rfl) ?_
  refine lv_dup hx hb (zd DX7_init 9 rfl) rfl ?_
  refine lv_aload_n hx hb (zd DX7_init 10 rfl) rfl (lv_at hl 0 rfl) ?_
  refine va_get (D := D) (ci := 7) (v := .ref q_1) (C := RX7) (T := TX7) (N := 11) hx hb hts kz7.2.1 hown hK hP 0 rfl rfl 0 (by decide) (hts _ wkc_184) (fun _ h9 => h9) rfl (zd DX7_init 11 rfl) ?_
  have hPc := hP.sub (ws' := [(q_3, .inr (6, [.null, .int 0, .int 0, .null]))]) [4] rfl
  have hDc := hD.sub (ws' := [(q_3, .inr (6, [.null, .int 0, .int 0, .null]))]) [4] (by decide) rfl
  have hFc := va_free (wc := [(q_3, .inr (6, [.null, .int 0, .int 0, .null]))]) hD hS hA [4] rfl
  refine va_callv (va_runIN (host := "EndSums") (As := [.ref q_1]) (rest := [.ref q_3, .ref h0]) ⟨hx, hb, hml, hown, hts⟩ (nX6_init l D cA q_1 q_3 H.size) ⟨va_cnB 1 hts (zTb_goodIn fun w hw => (List.mem_cons.mp hw).elim (fun z => z ▸ wkc_73) id) rfl rfl rfl (hNs _ wnc_71 rfl) (hts _ wkc_4) ⟨by decide, by decide, by decide +kernel⟩ ⟨Nat.le_of_ble_eq_true rfl, Nat.le_of_ble_eq_true rfl⟩, rfl, (hts _ wkc_72)⟩ ⟨zCp_blind, fun U hU hW => ⟨rfl, by rw [hU], by rw [hU]; exact hPc, va_K.moved hW.alike hK, hDc.weaken (fun _ _ _ _ => trivial), zNs_warm hW hNs, va_AO.moved hW.alike hAO⟩⟩ rfl rfl hl.1 rfl (lv_room (Nat.le_of_ble_eq_true rfl)) (zd DX7_init 12 rfl) ⟨Nat.le_of_ble_eq_true rfl, Nat.le_of_ble_eq_true rfl⟩) hS (fun q _ h => hFc q h) hFc (fun u_4 t H1 locs ht hvm hw hB hz1 hk1 hS => ?_)
  obtain ⟨hP1, hD1⟩ := hB
  rw [ht] at hP1
  obtain ⟨hP, hD⟩ := va_join (wr := [(h0, .inr (7, [.ref q_1, .null, .null, .null, .null, .null, .null, .null, .int 0, .null, .null])), (q_1, .inr (0, [.int 0, .ref (u_2 1), .long 0, .long 0])), ((u_2 1), .inr (3, [.int 1, .int 0, .ref (u_2 2)])), ((u_2 2), .inl (cA 0, 25, .inl fun _ => 0))]) (w1 := [(q_3, .inr (6, [.ref q_1, .int 0, .int 0, .ref (u_4 1)])), ((u_4 1), .inl (cA 0, 64, .inl fun _ => 0))]) hP hD [4] [0, 1, 2, 3] rfl rfl (by decide) (by decide) hk1 hFc hP1 hD1
  generalize H1 = H at hP hS ⊢
  have hP : va_P D vwCl [(h0, .inr (7, [.ref q_1, .null, .null, .null, .null, .null, .null, .null, .int 0, .null, .null])), (q_1, .inr (0, [.int 0, .ref (u_2 1), .long 0, .long 0])), ((u_2 1), .inr (3, [.int 1, .int 0, .ref (u_2 2)])), ((u_2 2), .inl (cA 0, 25, .inl fun _ => 0)), (q_3, .inr (6, [.ref q_1, .int 0, .int 0, .ref (u_4 1)])), ((u_4 1), .inl (cA 0, 64, .inl fun _ => 0))] H := hP
  have hD : va_D A [(h0, .inr (7, [.ref q_1, .null, .null, .null, .null, .null, .null, .null, .int 0, .null, .null])), (q_1, .inr (0, [.int 0, .ref (u_2 1), .long 0, .long 0])), ((u_2 1), .inr (3, [.int 1, .int 0, .ref (u_2 2)])), ((u_2 2), .inl (cA 0, 25, .inl fun _ => 0)), (q_3, .inr (6, [.ref q_1, .int 0, .int 0, .ref (u_4 1)])), ((u_4 1), .inl (cA 0, 64, .inl fun _ => 0))] := hD
  refine W.widen (k := 5) (n := 100) (Nat.le_of_ble_eq_true rfl) (Nat.le_of_ble_eq_true rfl) ?_
  refine va_putF (D := D) (ci := 7) (v := .ref q_3) (ty := .object "EndSums$Works") (C := RX7) (T := TX7) (N := 11) hx hb hts kz7.2.1 tyX7 tyX7_ok nmX7 hown hK hP hD hS 0 rfl rfl 1 (by decide) (hts _ wkc_185) (fun _ h9 => h9) rfl hin rfl (by decide +kernel) rfl rfl (Nat.le_of_ble_eq_true rfl) (zd DX7_init 13 rfl) (fun H locs hP hD hS => ?_)
  have hP : va_P D vwCl [(h0, .inr (7, [.ref q_1, .ref q_3, .null, .null, .null, .null, .null, .null, .int 0, .null, .null])), (q_1, .inr (0, [.int 0, .ref (u_2 1), .long 0, .long 0])), ((u_2 1), .inr (3, [.int 1, .int 0, .ref (u_2 2)])), ((u_2 2), .inl (cA 0, 25, .inl fun _ => 0)), (q_3, .inr (6, [.ref q_1, .int 0, .int 0, .ref (u_4 1)])), ((u_4 1), .inl (cA 0, 64, .inl fun _ => 0))] H := hP
  have hD : va_D A [(h0, .inr (7, [.ref q_1, .ref q_3, .null, .null, .null, .null, .null, .null, .int 0, .null, .null])), (q_1, .inr (0, [.int 0, .ref (u_2 1), .long 0, .long 0])), ((u_2 1), .inr (3, [.int 1, .int 0, .ref (u_2 2)])), ((u_2 2), .inl (cA 0, 25, .inl fun _ => 0)), (q_3, .inr (6, [.ref q_1, .int 0, .int 0, .ref (u_4 1)])), ((u_4 1), .inl (cA 0, 64, .inl fun _ => 0))] := hD
  refine lv_aload_n hx hb (zd DX7_init 14 rfl) rfl (lv_at hl 0 rfl) ?_
  refine lv_iconst (v := 4) hx hb (zd DX7_init 15 rfl) (by decide) ?_
  refine z_newq (N' := 4) hx hb hown (hts _ wkc_90) hAO hK hP hD hS hA (by decide) (by decide) (by decide) (Nat.le_of_ble_eq_true rfl) (Nat.le_of_ble_eq_true rfl) (zd DX7_init 16 rfl) (fun q_5 H hP hD hS => ?_)
  have hP : va_P D vwCl [(h0, .inr (7, [.ref q_1, .ref q_3, .null, .null, .null, .null, .null, .null, .int 0, .null, .null])), (q_1, .inr (0, [.int 0, .ref (u_2 1), .long 0, .long 0])), ((u_2 1), .inr (3, [.int 1, .int 0, .ref (u_2 2)])), ((u_2 2), .inl (cA 0, 25, .inl fun _ => 0)), (q_3, .inr (6, [.ref q_1, .int 0, .int 0, .ref (u_4 1)])), ((u_4 1), .inl (cA 0, 64, .inl fun _ => 0)), (q_5, .inl (cA 2, 4, .inr (.inr (.inr (.inr fun _ => none)))))] H := hP
  have hD : va_D A [(h0, .inr (7, [.ref q_1, .ref q_3, .null, .null, .null, .null, .null, .null, .int 0, .null, .null])), (q_1, .inr (0, [.int 0, .ref (u_2 1), .long 0, .long 0])), ((u_2 1), .inr (3, [.int 1, .int 0, .ref (u_2 2)])), ((u_2 2), .inl (cA 0, 25, .inl fun _ => 0)), (q_3, .inr (6, [.ref q_1, .int 0, .int 0, .ref (u_4 1)])), ((u_4 1), .inl (cA 0, 64, .inl fun _ => 0)), (q_5, .inl (cA 2, 4, .inr (.inr (.inr (.inr fun _ => none)))))] := hD
  refine W.widen (k := 6) (n := 104) (Nat.le_of_ble_eq_true rfl) (Nat.le_of_ble_eq_true rfl) ?_
  refine va_putF (D := D) (ci := 7) (v := .ref q_5) (ty := .array (.object "EndSums$Line")) (C := RX7) (T := TX7) (N := 11) hx hb hts kz7.2.1 tyX7 tyX7_ok nmX7 hown hK hP hD hS 0 rfl rfl 2 (by decide) (hts _ wkc_186) (fun _ h9 => h9) rfl hin rfl (by decide +kernel) rfl rfl (Nat.le_of_ble_eq_true rfl) (zd DX7_init 17 rfl) (fun H locs hP hD hS => ?_)
  have hP : va_P D vwCl [(h0, .inr (7, [.ref q_1, .ref q_3, .ref q_5, .null, .null, .null, .null, .null, .int 0, .null, .null])), (q_1, .inr (0, [.int 0, .ref (u_2 1), .long 0, .long 0])), ((u_2 1), .inr (3, [.int 1, .int 0, .ref (u_2 2)])), ((u_2 2), .inl (cA 0, 25, .inl fun _ => 0)), (q_3, .inr (6, [.ref q_1, .int 0, .int 0, .ref (u_4 1)])), ((u_4 1), .inl (cA 0, 64, .inl fun _ => 0)), (q_5, .inl (cA 2, 4, .inr (.inr (.inr (.inr fun _ => none)))))] H := hP
  have hD : va_D A [(h0, .inr (7, [.ref q_1, .ref q_3, .ref q_5, .null, .null, .null, .null, .null, .int 0, .null, .null])), (q_1, .inr (0, [.int 0, .ref (u_2 1), .long 0, .long 0])), ((u_2 1), .inr (3, [.int 1, .int 0, .ref (u_2 2)])), ((u_2 2), .inl (cA 0, 25, .inl fun _ => 0)), (q_3, .inr (6, [.ref q_1, .int 0, .int 0, .ref (u_4 1)])), ((u_4 1), .inl (cA 0, 64, .inl fun _ => 0)), (q_5, .inl (cA 2, 4, .inr (.inr (.inr (.inr fun _ => none)))))] := hD
  refine lv_iconst (v := 0) hx hb (zd DX7_init 18 rfl) (by decide) ?_
  refine lv_istore_n (lv' := [(1, .int 0), (0, .ref h0)]) hx hb (zd DX7_init 19 rfl) rfl hl (by decide) rfl (fun ls hl => ?_)
  refine lv_iload_n hx hb (zd DX7_init 20 rfl) rfl (lv_at hl 0 rfl) ?_
  refine lv_aload_n hx hb (zd DX7_init 21 rfl) rfl (lv_at hl 1 rfl) ?_
  refine va_get (D := D) (ci := 7) (v := .ref q_5) (C := RX7) (T := TX7) (N := 11) hx hb hts kz7.2.1 hown hK hP 0 rfl rfl 2 (by decide) (hts _ wkc_186) (fun _ h9 => h9) rfl (zd DX7_init 22 rfl) ?_
  refine va_alen hx hb hK hP 6 2 rfl rfl (v := 4) (show Int32.ofNat 4 = 4 by decide) (zd DX7_init 23 rfl) ?_
  refine lv_icmp_ge (tgt := 68) hx hb (zd DX7_init 24 rfl) (by decide) (fun z => absurd z (by decide)) (fun _ => ?_)
  refine lv_aload_n hx hb (zd DX7_init 25 rfl) rfl (lv_at hl 1 rfl) ?_
  refine va_get (D := D) (ci := 7) (v := .ref q_5) (C := RX7) (T := TX7) (N := 11) hx hb hts kz7.2.1 hown hK hP 0 rfl rfl 2 (by decide) (hts _ wkc_186) (fun _ h9 => h9) rfl (zd DX7_init 26 rfl) ?_
  refine lv_iload_n hx hb (zd DX7_init 27 rfl) rfl (lv_at hl 0 rfl) ?_
  refine va_new (ci := 1) (fs := [.null, .null]) (C := RX1) (T := TX1) (N := 2) hx hb hts kz1.2.1 tyX1 tyX1_ok hown (hts _ wkc_90) (hts _ wkc_92) (hts _ wkc_5) hK hP hD hS hA rfl (by decide +kernel) (Nat.le_of_ble_eq_true rfl) (Nat.le_of_ble_eq_true rfl) (zd DX7_init 28 rfl) (fun q_6 H hP hD hS => ?_)
  have hP : va_P D vwCl [(h0, .inr (7, [.ref q_1, .ref q_3, .ref q_5, .null, .null, .null, .null, .null, .int 0, .null, .null])), (q_1, .inr (0, [.int 0, .ref (u_2 1), .long 0, .long 0])), ((u_2 1), .inr (3, [.int 1, .int 0, .ref (u_2 2)])), ((u_2 2), .inl (cA 0, 25, .inl fun _ => 0)), (q_3, .inr (6, [.ref q_1, .int 0, .int 0, .ref (u_4 1)])), ((u_4 1), .inl (cA 0, 64, .inl fun _ => 0)), (q_5, .inl (cA 2, 4, .inr (.inr (.inr (.inr fun _ => none))))), (q_6, .inr (1, [.null, .null]))] H := hP
  have hD : va_D A [(h0, .inr (7, [.ref q_1, .ref q_3, .ref q_5, .null, .null, .null, .null, .null, .int 0, .null, .null])), (q_1, .inr (0, [.int 0, .ref (u_2 1), .long 0, .long 0])), ((u_2 1), .inr (3, [.int 1, .int 0, .ref (u_2 2)])), ((u_2 2), .inl (cA 0, 25, .inl fun _ => 0)), (q_3, .inr (6, [.ref q_1, .int 0, .int 0, .ref (u_4 1)])), ((u_4 1), .inl (cA 0, 64, .inl fun _ => 0)), (q_5, .inl (cA 2, 4, .inr (.inr (.inr (.inr fun _ => none))))), (q_6, .inr (1, [.null, .null]))] := hD
  refine W.widen (k := 7) (n := 106) (Nat.le_of_ble_eq_true rfl) (Nat.le_of_ble_eq_true rfl) ?_
  refine lv_dup hx hb (zd DX7_init 29 rfl) rfl ?_
  have hPc := hP.sub (ws' := [(q_6, .inr (1, [.null, .null]))]) [7] rfl
  have hDc := hD.sub (ws' := [(q_6, .inr (1, [.null, .null]))]) [7] (by decide) rfl
  have hFc := va_free (wc := [(q_6, .inr (1, [.null, .null]))]) hD hS hA [7] rfl
  refine va_callv (va_runIN (host := "EndSums") (As := []) (rest := [.ref q_6, .int 0, .ref q_5]) ⟨hx, hb, hml, hown, hts⟩ (nX1_init l D cA q_6 H.size) ⟨va_cnB 0 hts (zTb_goodIn fun w hw => (List.mem_cons.mp hw).elim (fun z => z ▸ wkc_95) id) rfl rfl rfl (hNs _ wnc_93 rfl) (hts _ wkc_5) ⟨by decide, by decide, by decide +kernel⟩ ⟨Nat.le_of_ble_eq_true rfl, Nat.le_of_ble_eq_true rfl⟩, rfl, (hts _ wkc_94)⟩ ⟨zCp_blind, fun U hU hW => ⟨rfl, by rw [hU], by rw [hU]; exact hPc, va_K.moved hW.alike hK, hDc.weaken (fun _ _ _ _ => trivial), zNs_warm hW hNs, va_AO.moved hW.alike hAO⟩⟩ rfl rfl hl.1 rfl (lv_room (Nat.le_of_ble_eq_true rfl)) (zd DX7_init 30 rfl) ⟨Nat.le_of_ble_eq_true rfl, Nat.le_of_ble_eq_true rfl⟩) hS (fun q _ h => hFc q h) hFc (fun u_7 t H1 locs ht hvm hw hB hz1 hk1 hS => ?_)
  obtain ⟨hP1, hD1⟩ := hB
  rw [ht] at hP1
  obtain ⟨hP, hD⟩ := va_join (wr := [(h0, .inr (7, [.ref q_1, .ref q_3, .ref q_5, .null, .null, .null, .null, .null, .int 0, .null, .null])), (q_1, .inr (0, [.int 0, .ref (u_2 1), .long 0, .long 0])), ((u_2 1), .inr (3, [.int 1, .int 0, .ref (u_2 2)])), ((u_2 2), .inl (cA 0, 25, .inl fun _ => 0)), (q_3, .inr (6, [.ref q_1, .int 0, .int 0, .ref (u_4 1)])), ((u_4 1), .inl (cA 0, 64, .inl fun _ => 0)), (q_5, .inl (cA 2, 4, .inr (.inr (.inr (.inr fun _ => none)))))]) (w1 := [(q_6, .inr (1, [.ref (u_7 1), .ref (u_7 6)])), ((u_7 1), .inr (2, [.int 0, .ref (u_7 2), .ref (u_7 3), .ref (u_7 4), .ref (u_7 5)])), ((u_7 2), .inl (cA 0, 64, .inl fun _ => 0)), ((u_7 3), .inl (cA 1, 64, .inr (.inl fun _ => 0))), ((u_7 4), .inl (cA 1, 64, .inr (.inl fun _ => 0))), ((u_7 5), .inl (cA 0, 64, .inl fun _ => 0)), ((u_7 6), .inr (2, [.int 0, .ref (u_7 7), .ref (u_7 8), .ref (u_7 9), .ref (u_7 10)])), ((u_7 7), .inl (cA 0, 64, .inl fun _ => 0)), ((u_7 8), .inl (cA 1, 64, .inr (.inl fun _ => 0))), ((u_7 9), .inl (cA 1, 64, .inr (.inl fun _ => 0))), ((u_7 10), .inl (cA 0, 64, .inl fun _ => 0))]) hP hD [7] [0, 1, 2, 3, 4, 5, 6] rfl rfl (by decide) (by decide) hk1 hFc hP1 hD1
  generalize H1 = H at hP hS ⊢
  have hP : va_P D vwCl [(h0, .inr (7, [.ref q_1, .ref q_3, .ref q_5, .null, .null, .null, .null, .null, .int 0, .null, .null])), (q_1, .inr (0, [.int 0, .ref (u_2 1), .long 0, .long 0])), ((u_2 1), .inr (3, [.int 1, .int 0, .ref (u_2 2)])), ((u_2 2), .inl (cA 0, 25, .inl fun _ => 0)), (q_3, .inr (6, [.ref q_1, .int 0, .int 0, .ref (u_4 1)])), ((u_4 1), .inl (cA 0, 64, .inl fun _ => 0)), (q_5, .inl (cA 2, 4, .inr (.inr (.inr (.inr fun _ => none))))), (q_6, .inr (1, [.ref (u_7 1), .ref (u_7 6)])), ((u_7 1), .inr (2, [.int 0, .ref (u_7 2), .ref (u_7 3), .ref (u_7 4), .ref (u_7 5)])), ((u_7 2), .inl (cA 0, 64, .inl fun _ => 0)), ((u_7 3), .inl (cA 1, 64, .inr (.inl fun _ => 0))), ((u_7 4), .inl (cA 1, 64, .inr (.inl fun _ => 0))), ((u_7 5), .inl (cA 0, 64, .inl fun _ => 0)), ((u_7 6), .inr (2, [.int 0, .ref (u_7 7), .ref (u_7 8), .ref (u_7 9), .ref (u_7 10)])), ((u_7 7), .inl (cA 0, 64, .inl fun _ => 0)), ((u_7 8), .inl (cA 1, 64, .inr (.inl fun _ => 0))), ((u_7 9), .inl (cA 1, 64, .inr (.inl fun _ => 0))), ((u_7 10), .inl (cA 0, 64, .inl fun _ => 0))] H := hP
  have hD : va_D A [(h0, .inr (7, [.ref q_1, .ref q_3, .ref q_5, .null, .null, .null, .null, .null, .int 0, .null, .null])), (q_1, .inr (0, [.int 0, .ref (u_2 1), .long 0, .long 0])), ((u_2 1), .inr (3, [.int 1, .int 0, .ref (u_2 2)])), ((u_2 2), .inl (cA 0, 25, .inl fun _ => 0)), (q_3, .inr (6, [.ref q_1, .int 0, .int 0, .ref (u_4 1)])), ((u_4 1), .inl (cA 0, 64, .inl fun _ => 0)), (q_5, .inl (cA 2, 4, .inr (.inr (.inr (.inr fun _ => none))))), (q_6, .inr (1, [.ref (u_7 1), .ref (u_7 6)])), ((u_7 1), .inr (2, [.int 0, .ref (u_7 2), .ref (u_7 3), .ref (u_7 4), .ref (u_7 5)])), ((u_7 2), .inl (cA 0, 64, .inl fun _ => 0)), ((u_7 3), .inl (cA 1, 64, .inr (.inl fun _ => 0))), ((u_7 4), .inl (cA 1, 64, .inr (.inl fun _ => 0))), ((u_7 5), .inl (cA 0, 64, .inl fun _ => 0)), ((u_7 6), .inr (2, [.int 0, .ref (u_7 7), .ref (u_7 8), .ref (u_7 9), .ref (u_7 10)])), ((u_7 7), .inl (cA 0, 64, .inl fun _ => 0)), ((u_7 8), .inl (cA 1, 64, .inr (.inl fun _ => 0))), ((u_7 9), .inl (cA 1, 64, .inr (.inl fun _ => 0))), ((u_7 10), .inl (cA 0, 64, .inl fun _ => 0))] := hD
  refine W.widen (k := 17) (n := 628) (Nat.le_of_ble_eq_true rfl) (Nat.le_of_ble_eq_true rfl) ?_
  refine va_astq (r := (RX1, TX1, 2)) hx hb hK hP hD hS 6 2 7 1 rfl rfl rfl rfl (vp_in_iff.mpr (by decide)) (zd DX7_init 31 rfl) (fun H locs hP hD hS => ?_)
  have hP : va_P D vwCl [(h0, .inr (7, [.ref q_1, .ref q_3, .ref q_5, .null, .null, .null, .null, .null, .int 0, .null, .null])), (q_1, .inr (0, [.int 0, .ref (u_2 1), .long 0, .long 0])), ((u_2 1), .inr (3, [.int 1, .int 0, .ref (u_2 2)])), ((u_2 2), .inl (cA 0, 25, .inl fun _ => 0)), (q_3, .inr (6, [.ref q_1, .int 0, .int 0, .ref (u_4 1)])), ((u_4 1), .inl (cA 0, 64, .inl fun _ => 0)), (q_5, .inl (cA 2, 4, .inr (.inr (.inr (.inr (va_up (fun _ => none) 0 (some q_6))))))), (q_6, .inr (1, [.ref (u_7 1), .ref (u_7 6)])), ((u_7 1), .inr (2, [.int 0, .ref (u_7 2), .ref (u_7 3), .ref (u_7 4), .ref (u_7 5)])), ((u_7 2), .inl (cA 0, 64, .inl fun _ => 0)), ((u_7 3), .inl (cA 1, 64, .inr (.inl fun _ => 0))), ((u_7 4), .inl (cA 1, 64, .inr (.inl fun _ => 0))), ((u_7 5), .inl (cA 0, 64, .inl fun _ => 0)), ((u_7 6), .inr (2, [.int 0, .ref (u_7 7), .ref (u_7 8), .ref (u_7 9), .ref (u_7 10)])), ((u_7 7), .inl (cA 0, 64, .inl fun _ => 0)), ((u_7 8), .inl (cA 1, 64, .inr (.inl fun _ => 0))), ((u_7 9), .inl (cA 1, 64, .inr (.inl fun _ => 0))), ((u_7 10), .inl (cA 0, 64, .inl fun _ => 0))] H := hP
  have hD : va_D A [(h0, .inr (7, [.ref q_1, .ref q_3, .ref q_5, .null, .null, .null, .null, .null, .int 0, .null, .null])), (q_1, .inr (0, [.int 0, .ref (u_2 1), .long 0, .long 0])), ((u_2 1), .inr (3, [.int 1, .int 0, .ref (u_2 2)])), ((u_2 2), .inl (cA 0, 25, .inl fun _ => 0)), (q_3, .inr (6, [.ref q_1, .int 0, .int 0, .ref (u_4 1)])), ((u_4 1), .inl (cA 0, 64, .inl fun _ => 0)), (q_5, .inl (cA 2, 4, .inr (.inr (.inr (.inr (va_up (fun _ => none) 0 (some q_6))))))), (q_6, .inr (1, [.ref (u_7 1), .ref (u_7 6)])), ((u_7 1), .inr (2, [.int 0, .ref (u_7 2), .ref (u_7 3), .ref (u_7 4), .ref (u_7 5)])), ((u_7 2), .inl (cA 0, 64, .inl fun _ => 0)), ((u_7 3), .inl (cA 1, 64, .inr (.inl fun _ => 0))), ((u_7 4), .inl (cA 1, 64, .inr (.inl fun _ => 0))), ((u_7 5), .inl (cA 0, 64, .inl fun _ => 0)), ((u_7 6), .inr (2, [.int 0, .ref (u_7 7), .ref (u_7 8), .ref (u_7 9), .ref (u_7 10)])), ((u_7 7), .inl (cA 0, 64, .inl fun _ => 0)), ((u_7 8), .inl (cA 1, 64, .inr (.inl fun _ => 0))), ((u_7 9), .inl (cA 1, 64, .inr (.inl fun _ => 0))), ((u_7 10), .inl (cA 0, 64, .inl fun _ => 0))] := hD
  refine lv_iinc (v := 1) (lv' := [(1, .int 1), (0, .ref h0)]) hx hb (zd DX7_init 32 rfl) hl (k := 0) rfl (by decide) (by decide) rfl (fun ls hl => ?_)
  refine lv_goto (tgt := 40) hx hb (zd DX7_init 33 rfl) (by decide) ?_
  refine lv_iload_n hx hb (zd DX7_init 20 rfl) rfl (lv_at hl 0 rfl) ?_
  refine lv_aload_n hx hb (zd DX7_init 21 rfl) rfl (lv_at hl 1 rfl) ?_
  refine va_get (D := D) (ci := 7) (v := .ref q_5) (C := RX7) (T := TX7) (N := 11) hx hb hts kz7.2.1 hown hK hP 0 rfl rfl 2 (by decide) (hts _ wkc_186) (fun _ h9 => h9) rfl (zd DX7_init 22 rfl) ?_
  refine va_alen hx hb hK hP 6 2 rfl rfl (v := 4) (show Int32.ofNat 4 = 4 by decide) (zd DX7_init 23 rfl) ?_
  refine lv_icmp_ge (tgt := 68) hx hb (zd DX7_init 24 rfl) (by decide) (fun z => absurd z (by decide)) (fun _ => ?_)
  refine lv_aload_n hx hb (zd DX7_init 25 rfl) rfl (lv_at hl 1 rfl) ?_
  refine va_get (D := D) (ci := 7) (v := .ref q_5) (C := RX7) (T := TX7) (N := 11) hx hb hts kz7.2.1 hown hK hP 0 rfl rfl 2 (by decide) (hts _ wkc_186) (fun _ h9 => h9) rfl (zd DX7_init 26 rfl) ?_
  refine lv_iload_n hx hb (zd DX7_init 27 rfl) rfl (lv_at hl 0 rfl) ?_
  refine va_new (ci := 1) (fs := [.null, .null]) (C := RX1) (T := TX1) (N := 2) hx hb hts kz1.2.1 tyX1 tyX1_ok hown (hts _ wkc_90) (hts _ wkc_92) (hts _ wkc_5) hK hP hD hS hA rfl (by decide +kernel) (Nat.le_of_ble_eq_true rfl) (Nat.le_of_ble_eq_true rfl) (zd DX7_init 28 rfl) (fun q_8 H hP hD hS => ?_)
  have hP : va_P D vwCl [(h0, .inr (7, [.ref q_1, .ref q_3, .ref q_5, .null, .null, .null, .null, .null, .int 0, .null, .null])), (q_1, .inr (0, [.int 0, .ref (u_2 1), .long 0, .long 0])), ((u_2 1), .inr (3, [.int 1, .int 0, .ref (u_2 2)])), ((u_2 2), .inl (cA 0, 25, .inl fun _ => 0)), (q_3, .inr (6, [.ref q_1, .int 0, .int 0, .ref (u_4 1)])), ((u_4 1), .inl (cA 0, 64, .inl fun _ => 0)), (q_5, .inl (cA 2, 4, .inr (.inr (.inr (.inr (va_up (fun _ => none) 0 (some q_6))))))), (q_6, .inr (1, [.ref (u_7 1), .ref (u_7 6)])), ((u_7 1), .inr (2, [.int 0, .ref (u_7 2), .ref (u_7 3), .ref (u_7 4), .ref (u_7 5)])), ((u_7 2), .inl (cA 0, 64, .inl fun _ => 0)), ((u_7 3), .inl (cA 1, 64, .inr (.inl fun _ => 0))), ((u_7 4), .inl (cA 1, 64, .inr (.inl fun _ => 0))), ((u_7 5), .inl (cA 0, 64, .inl fun _ => 0)), ((u_7 6), .inr (2, [.int 0, .ref (u_7 7), .ref (u_7 8), .ref (u_7 9), .ref (u_7 10)])), ((u_7 7), .inl (cA 0, 64, .inl fun _ => 0)), ((u_7 8), .inl (cA 1, 64, .inr (.inl fun _ => 0))), ((u_7 9), .inl (cA 1, 64, .inr (.inl fun _ => 0))), ((u_7 10), .inl (cA 0, 64, .inl fun _ => 0)), (q_8, .inr (1, [.null, .null]))] H := hP
  have hD : va_D A [(h0, .inr (7, [.ref q_1, .ref q_3, .ref q_5, .null, .null, .null, .null, .null, .int 0, .null, .null])), (q_1, .inr (0, [.int 0, .ref (u_2 1), .long 0, .long 0])), ((u_2 1), .inr (3, [.int 1, .int 0, .ref (u_2 2)])), ((u_2 2), .inl (cA 0, 25, .inl fun _ => 0)), (q_3, .inr (6, [.ref q_1, .int 0, .int 0, .ref (u_4 1)])), ((u_4 1), .inl (cA 0, 64, .inl fun _ => 0)), (q_5, .inl (cA 2, 4, .inr (.inr (.inr (.inr (va_up (fun _ => none) 0 (some q_6))))))), (q_6, .inr (1, [.ref (u_7 1), .ref (u_7 6)])), ((u_7 1), .inr (2, [.int 0, .ref (u_7 2), .ref (u_7 3), .ref (u_7 4), .ref (u_7 5)])), ((u_7 2), .inl (cA 0, 64, .inl fun _ => 0)), ((u_7 3), .inl (cA 1, 64, .inr (.inl fun _ => 0))), ((u_7 4), .inl (cA 1, 64, .inr (.inl fun _ => 0))), ((u_7 5), .inl (cA 0, 64, .inl fun _ => 0)), ((u_7 6), .inr (2, [.int 0, .ref (u_7 7), .ref (u_7 8), .ref (u_7 9), .ref (u_7 10)])), ((u_7 7), .inl (cA 0, 64, .inl fun _ => 0)), ((u_7 8), .inl (cA 1, 64, .inr (.inl fun _ => 0))), ((u_7 9), .inl (cA 1, 64, .inr (.inl fun _ => 0))), ((u_7 10), .inl (cA 0, 64, .inl fun _ => 0)), (q_8, .inr (1, [.null, .null]))] := hD
  refine W.widen (k := 18) (n := 630) (Nat.le_of_ble_eq_true rfl) (Nat.le_of_ble_eq_true rfl) ?_
  refine lv_dup hx hb (zd DX7_init 29 rfl) rfl ?_
  have hPc := hP.sub (ws' := [(q_8, .inr (1, [.null, .null]))]) [18] rfl
  have hDc := hD.sub (ws' := [(q_8, .inr (1, [.null, .null]))]) [18] (by decide) rfl
  have hFc := va_free (wc := [(q_8, .inr (1, [.null, .null]))]) hD hS hA [18] rfl
  refine va_callv (va_runIN (host := "EndSums") (As := []) (rest := [.ref q_8, .int 1, .ref q_5]) ⟨hx, hb, hml, hown, hts⟩ (nX1_init l D cA q_8 H.size) ⟨va_cnB 0 hts (zTb_goodIn fun w hw => (List.mem_cons.mp hw).elim (fun z => z ▸ wkc_95) id) rfl rfl rfl (hNs _ wnc_93 rfl) (hts _ wkc_5) ⟨by decide, by decide, by decide +kernel⟩ ⟨Nat.le_of_ble_eq_true rfl, Nat.le_of_ble_eq_true rfl⟩, rfl, (hts _ wkc_94)⟩ ⟨zCp_blind, fun U hU hW => ⟨rfl, by rw [hU], by rw [hU]; exact hPc, va_K.moved hW.alike hK, hDc.weaken (fun _ _ _ _ => trivial), zNs_warm hW hNs, va_AO.moved hW.alike hAO⟩⟩ rfl rfl hl.1 rfl (lv_room (Nat.le_of_ble_eq_true rfl)) (zd DX7_init 30 rfl) ⟨Nat.le_of_ble_eq_true rfl, Nat.le_of_ble_eq_true rfl⟩) hS (fun q _ h => hFc q h) hFc (fun u_9 t H1 locs ht hvm hw hB hz1 hk1 hS => ?_)
  obtain ⟨hP1, hD1⟩ := hB
  rw [ht] at hP1
  obtain ⟨hP, hD⟩ := va_join (wr := [(h0, .inr (7, [.ref q_1, .ref q_3, .ref q_5, .null, .null, .null, .null, .null, .int 0, .null, .null])), (q_1, .inr (0, [.int 0, .ref (u_2 1), .long 0, .long 0])), ((u_2 1), .inr (3, [.int 1, .int 0, .ref (u_2 2)])), ((u_2 2), .inl (cA 0, 25, .inl fun _ => 0)), (q_3, .inr (6, [.ref q_1, .int 0, .int 0, .ref (u_4 1)])), ((u_4 1), .inl (cA 0, 64, .inl fun _ => 0)), (q_5, .inl (cA 2, 4, .inr (.inr (.inr (.inr (va_up (fun _ => none) 0 (some q_6))))))), (q_6, .inr (1, [.ref (u_7 1), .ref (u_7 6)])), ((u_7 1), .inr (2, [.int 0, .ref (u_7 2), .ref (u_7 3), .ref (u_7 4), .ref (u_7 5)])), ((u_7 2), .inl (cA 0, 64, .inl fun _ => 0)), ((u_7 3), .inl (cA 1, 64, .inr (.inl fun _ => 0))), ((u_7 4), .inl (cA 1, 64, .inr (.inl fun _ => 0))), ((u_7 5), .inl (cA 0, 64, .inl fun _ => 0)), ((u_7 6), .inr (2, [.int 0, .ref (u_7 7), .ref (u_7 8), .ref (u_7 9), .ref (u_7 10)])), ((u_7 7), .inl (cA 0, 64, .inl fun _ => 0)), ((u_7 8), .inl (cA 1, 64, .inr (.inl fun _ => 0))), ((u_7 9), .inl (cA 1, 64, .inr (.inl fun _ => 0))), ((u_7 10), .inl (cA 0, 64, .inl fun _ => 0))]) (w1 := [(q_8, .inr (1, [.ref (u_9 1), .ref (u_9 6)])), ((u_9 1), .inr (2, [.int 0, .ref (u_9 2), .ref (u_9 3), .ref (u_9 4), .ref (u_9 5)])), ((u_9 2), .inl (cA 0, 64, .inl fun _ => 0)), ((u_9 3), .inl (cA 1, 64, .inr (.inl fun _ => 0))), ((u_9 4), .inl (cA 1, 64, .inr (.inl fun _ => 0))), ((u_9 5), .inl (cA 0, 64, .inl fun _ => 0)), ((u_9 6), .inr (2, [.int 0, .ref (u_9 7), .ref (u_9 8), .ref (u_9 9), .ref (u_9 10)])), ((u_9 7), .inl (cA 0, 64, .inl fun _ => 0)), ((u_9 8), .inl (cA 1, 64, .inr (.inl fun _ => 0))), ((u_9 9), .inl (cA 1, 64, .inr (.inl fun _ => 0))), ((u_9 10), .inl (cA 0, 64, .inl fun _ => 0))]) hP hD [18] [0, 1, 2, 3, 4, 5, 6, 7, 8, 9, 10, 11, 12, 13, 14, 15, 16, 17] rfl rfl (by decide) (by decide) hk1 hFc hP1 hD1
  generalize H1 = H at hP hS ⊢
  have hP : va_P D vwCl [(h0, .inr (7, [.ref q_1, .ref q_3, .ref q_5, .null, .null, .null, .null, .null, .int 0, .null, .null])), (q_1, .inr (0, [.int 0, .ref (u_2 1), .long 0, .long 0])), ((u_2 1), .inr (3, [.int 1, .int 0, .ref (u_2 2)])), ((u_2 2), .inl (cA 0, 25, .inl fun _ => 0)), (q_3, .inr (6, [.ref q_1, .int 0, .int 0, .ref (u_4 1)])), ((u_4 1), .inl (cA 0, 64, .inl fun _ => 0)), (q_5, .inl (cA 2, 4, .inr (.inr (.inr (.inr (va_up (fun _ => none) 0 (some q_6))))))), (q_6, .inr (1, [.ref (u_7 1), .ref (u_7 6)])), ((u_7 1), .inr (2, [.int 0, .ref (u_7 2), .ref (u_7 3), .ref (u_7 4), .ref (u_7 5)])), ((u_7 2), .inl (cA 0, 64, .inl fun _ => 0)), ((u_7 3), .inl (cA 1, 64, .inr (.inl fun _ => 0))), ((u_7 4), .inl (cA 1, 64, .inr (.inl fun _ => 0))), ((u_7 5), .inl (cA 0, 64, .inl fun _ => 0)), ((u_7 6), .inr (2, [.int 0, .ref (u_7 7), .ref (u_7 8), .ref (u_7 9), .ref (u_7 10)])), ((u_7 7), .inl (cA 0, 64, .inl fun _ => 0)), ((u_7 8), .inl (cA 1, 64, .inr (.inl fun _ => 0))), ((u_7 9), .inl (cA 1, 64, .inr (.inl fun _ => 0))), ((u_7 10), .inl (cA 0, 64, .inl fun _ => 0)), (q_8, .inr (1, [.ref (u_9 1), .ref (u_9 6)])), ((u_9 1), .inr (2, [.int 0, .ref (u_9 2), .ref (u_9 3), .ref (u_9 4), .ref (u_9 5)])), ((u_9 2), .inl (cA 0, 64, .inl fun _ => 0)), ((u_9 3), .inl (cA 1, 64, .inr (.inl fun _ => 0))), ((u_9 4), .inl (cA 1, 64, .inr (.inl fun _ => 0))), ((u_9 5), .inl (cA 0, 64, .inl fun _ => 0)), ((u_9 6), .inr (2, [.int 0, .ref (u_9 7), .ref (u_9 8), .ref (u_9 9), .ref (u_9 10)])), ((u_9 7), .inl (cA 0, 64, .inl fun _ => 0)), ((u_9 8), .inl (cA 1, 64, .inr (.inl fun _ => 0))), ((u_9 9), .inl (cA 1, 64, .inr (.inl fun _ => 0))), ((u_9 10), .inl (cA 0, 64, .inl fun _ => 0))] H := hP
  have hD : va_D A [(h0, .inr (7, [.ref q_1, .ref q_3, .ref q_5, .null, .null, .null, .null, .null, .int 0, .null, .null])), (q_1, .inr (0, [.int 0, .ref (u_2 1), .long 0, .long 0])), ((u_2 1), .inr (3, [.int 1, .int 0, .ref (u_2 2)])), ((u_2 2), .inl (cA 0, 25, .inl fun _ => 0)), (q_3, .inr (6, [.ref q_1, .int 0, .int 0, .ref (u_4 1)])), ((u_4 1), .inl (cA 0, 64, .inl fun _ => 0)), (q_5, .inl (cA 2, 4, .inr (.inr (.inr (.inr (va_up (fun _ => none) 0 (some q_6))))))), (q_6, .inr (1, [.ref (u_7 1), .ref (u_7 6)])), ((u_7 1), .inr (2, [.int 0, .ref (u_7 2), .ref (u_7 3), .ref (u_7 4), .ref (u_7 5)])), ((u_7 2), .inl (cA 0, 64, .inl fun _ => 0)), ((u_7 3), .inl (cA 1, 64, .inr (.inl fun _ => 0))), ((u_7 4), .inl (cA 1, 64, .inr (.inl fun _ => 0))), ((u_7 5), .inl (cA 0, 64, .inl fun _ => 0)), ((u_7 6), .inr (2, [.int 0, .ref (u_7 7), .ref (u_7 8), .ref (u_7 9), .ref (u_7 10)])), ((u_7 7), .inl (cA 0, 64, .inl fun _ => 0)), ((u_7 8), .inl (cA 1, 64, .inr (.inl fun _ => 0))), ((u_7 9), .inl (cA 1, 64, .inr (.inl fun _ => 0))), ((u_7 10), .inl (cA 0, 64, .inl fun _ => 0)), (q_8, .inr (1, [.ref (u_9 1), .ref (u_9 6)])), ((u_9 1), .inr (2, [.int 0, .ref (u_9 2), .ref (u_9 3), .ref (u_9 4), .ref (u_9 5)])), ((u_9 2), .inl (cA 0, 64, .inl fun _ => 0)), ((u_9 3), .inl (cA 1, 64, .inr (.inl fun _ => 0))), ((u_9 4), .inl (cA 1, 64, .inr (.inl fun _ => 0))), ((u_9 5), .inl (cA 0, 64, .inl fun _ => 0)), ((u_9 6), .inr (2, [.int 0, .ref (u_9 7), .ref (u_9 8), .ref (u_9 9), .ref (u_9 10)])), ((u_9 7), .inl (cA 0, 64, .inl fun _ => 0)), ((u_9 8), .inl (cA 1, 64, .inr (.inl fun _ => 0))), ((u_9 9), .inl (cA 1, 64, .inr (.inl fun _ => 0))), ((u_9 10), .inl (cA 0, 64, .inl fun _ => 0))] := hD
  refine W.widen (k := 28) (n := 1152) (Nat.le_of_ble_eq_true rfl) (Nat.le_of_ble_eq_true rfl) ?_
  refine va_astq (r := (RX1, TX1, 2)) hx hb hK hP hD hS 6 2 18 1 rfl rfl rfl rfl (vp_in_iff.mpr (by decide)) (zd DX7_init 31 rfl) (fun H locs hP hD hS => ?_)
  have hP : va_P D vwCl [(h0, .inr (7, [.ref q_1, .ref q_3, .ref q_5, .null, .null, .null, .null, .null, .int 0, .null, .null])), (q_1, .inr (0, [.int 0, .ref (u_2 1), .long 0, .long 0])), ((u_2 1), .inr (3, [.int 1, .int 0, .ref (u_2 2)])), ((u_2 2), .inl (cA 0, 25, .inl fun _ => 0)), (q_3, .inr (6, [.ref q_1, .int 0, .int 0, .ref (u_4 1)])), ((u_4 1), .inl (cA 0, 64, .inl fun _ => 0)), (q_5, .inl (cA 2, 4, .inr (.inr (.inr (.inr (va_up (va_up (fun _ => none) 0 (some q_6)) 1 (some q_8))))))), (q_6, .inr (1, [.ref (u_7 1), .ref (u_7 6)])), ((u_7 1), .inr (2, [.int 0, .ref (u_7 2), .ref (u_7 3), .ref (u_7 4), .ref (u_7 5)])), ((u_7 2), .inl (cA 0, 64, .inl fun _ => 0)), ((u_7 3), .inl (cA 1, 64, .inr (.inl fun _ => 0))), ((u_7 4), .inl (cA 1, 64, .inr (.inl fun _ => 0))), ((u_7 5), .inl (cA 0, 64, .inl fun _ => 0)), ((u_7 6), .inr (2, [.int 0, .ref (u_7 7), .ref (u_7 8), .ref (u_7 9), .ref (u_7 10)])), ((u_7 7), .inl (cA 0, 64, .inl fun _ => 0)), ((u_7 8), .inl (cA 1, 64, .inr (.inl fun _ => 0))), ((u_7 9), .inl (cA 1, 64, .inr (.inl fun _ => 0))), ((u_7 10), .inl (cA 0, 64, .inl fun _ => 0)), (q_8, .inr (1, [.ref (u_9 1), .ref (u_9 6)])), ((u_9 1), .inr (2, [.int 0, .ref (u_9 2), .ref (u_9 3), .ref (u_9 4), .ref (u_9 5)])), ((u_9 2), .inl (cA 0, 64, .inl fun _ => 0)), ((u_9 3), .inl (cA 1, 64, .inr (.inl fun _ => 0))), ((u_9 4), .inl (cA 1, 64, .inr (.inl fun _ => 0))), ((u_9 5), .inl (cA 0, 64, .inl fun _ => 0)), ((u_9 6), .inr (2, [.int 0, .ref (u_9 7), .ref (u_9 8), .ref (u_9 9), .ref (u_9 10)])), ((u_9 7), .inl (cA 0, 64, .inl fun _ => 0)), ((u_9 8), .inl (cA 1, 64, .inr (.inl fun _ => 0))), ((u_9 9), .inl (cA 1, 64, .inr (.inl fun _ => 0))), ((u_9 10), .inl (cA 0, 64, .inl fun _ => 0))] H := hP
  have hD : va_D A [(h0, .inr (7, [.ref q_1, .ref q_3, .ref q_5, .null, .null, .null, .null, .null, .int 0, .null, .null])), (q_1, .inr (0, [.int 0, .ref (u_2 1), .long 0, .long 0])), ((u_2 1), .inr (3, [.int 1, .int 0, .ref (u_2 2)])), ((u_2 2), .inl (cA 0, 25, .inl fun _ => 0)), (q_3, .inr (6, [.ref q_1, .int 0, .int 0, .ref (u_4 1)])), ((u_4 1), .inl (cA 0, 64, .inl fun _ => 0)), (q_5, .inl (cA 2, 4, .inr (.inr (.inr (.inr (va_up (va_up (fun _ => none) 0 (some q_6)) 1 (some q_8))))))), (q_6, .inr (1, [.ref (u_7 1), .ref (u_7 6)])), ((u_7 1), .inr (2, [.int 0, .ref (u_7 2), .ref (u_7 3), .ref (u_7 4), .ref (u_7 5)])), ((u_7 2), .inl (cA 0, 64, .inl fun _ => 0)), ((u_7 3), .inl (cA 1, 64, .inr (.inl fun _ => 0))), ((u_7 4), .inl (cA 1, 64, .inr (.inl fun _ => 0))), ((u_7 5), .inl (cA 0, 64, .inl fun _ => 0)), ((u_7 6), .inr (2, [.int 0, .ref (u_7 7), .ref (u_7 8), .ref (u_7 9), .ref (u_7 10)])), ((u_7 7), .inl (cA 0, 64, .inl fun _ => 0)), ((u_7 8), .inl (cA 1, 64, .inr (.inl fun _ => 0))), ((u_7 9), .inl (cA 1, 64, .inr (.inl fun _ => 0))), ((u_7 10), .inl (cA 0, 64, .inl fun _ => 0)), (q_8, .inr (1, [.ref (u_9 1), .ref (u_9 6)])), ((u_9 1), .inr (2, [.int 0, .ref (u_9 2), .ref (u_9 3), .ref (u_9 4), .ref (u_9 5)])), ((u_9 2), .inl (cA 0, 64, .inl fun _ => 0)), ((u_9 3), .inl (cA 1, 64, .inr (.inl fun _ => 0))), ((u_9 4), .inl (cA 1, 64, .inr (.inl fun _ => 0))), ((u_9 5), .inl (cA 0, 64, .inl fun _ => 0)), ((u_9 6), .inr (2, [.int 0, .ref (u_9 7), .ref (u_9 8), .ref (u_9 9), .ref (u_9 10)])), ((u_9 7), .inl (cA 0, 64, .inl fun _ => 0)), ((u_9 8), .inl (cA 1, 64, .inr (.inl fun _ => 0))), ((u_9 9), .inl (cA 1, 64, .inr (.inl fun _ => 0))), ((u_9 10), .inl (cA 0, 64, .inl fun _ => 0))] := hD
  refine lv_iinc (v := 2) (lv' := [(1, .int 2), (0, .ref h0)]) hx hb (zd DX7_init 32 rfl) hl (k := 0) rfl (by decide) (by decide) rfl (fun ls hl => ?_)
  refine lv_goto (tgt := 40) hx hb (zd DX7_init 33 rfl) (by decide) ?_
  refine lv_iload_n hx hb (zd DX7_init 20 rfl) rfl (lv_at hl 0 rfl) ?_
  refine lv_aload_n hx hb (zd DX7_init 21 rfl) rfl (lv_at hl 1 rfl) ?_
  refine va_get (D := D) (ci := 7) (v := .ref q_5) (C := RX7) (T := TX7) (N := 11) hx hb hts kz7.2.1 hown hK hP 0 rfl rfl 2 (by decide) (hts _ wkc_186) (fun _ h9 => h9) rfl (zd DX7_init 22 rfl) ?_
  refine va_alen hx hb hK hP 6 2 rfl rfl (v := 4) (show Int32.ofNat 4 = 4 by decide) (zd DX7_init 23 rfl) ?_
  refine lv_icmp_ge (tgt := 68) hx hb (zd DX7_init 24 rfl) (by decide) (fun z => absurd z (by decide)) (fun _ => ?_)
  refine lv_aload_n hx hb (zd DX7_init 25 rfl) rfl (lv_at hl 1 rfl) ?_
  refine va_get (D := D) (ci := 7) (v := .ref q_5) (C := RX7) (T := TX7) (N := 11) hx hb hts kz7.2.1 hown hK hP 0 rfl rfl 2 (by decide) (hts _ wkc_186) (fun _ h9 => h9) rfl (zd DX7_init 26 rfl) ?_
  refine lv_iload_n hx hb (zd DX7_init 27 rfl) rfl (lv_at hl 0 rfl) ?_
  refine va_new (ci := 1) (fs := [.null, .null]) (C := RX1) (T := TX1) (N := 2) hx hb hts kz1.2.1 tyX1 tyX1_ok hown (hts _ wkc_90) (hts _ wkc_92) (hts _ wkc_5) hK hP hD hS hA rfl (by decide +kernel) (Nat.le_of_ble_eq_true rfl) (Nat.le_of_ble_eq_true rfl) (zd DX7_init 28 rfl) (fun q_10 H hP hD hS => ?_)
  have hP : va_P D vwCl [(h0, .inr (7, [.ref q_1, .ref q_3, .ref q_5, .null, .null, .null, .null, .null, .int 0, .null, .null])), (q_1, .inr (0, [.int 0, .ref (u_2 1), .long 0, .long 0])), ((u_2 1), .inr (3, [.int 1, .int 0, .ref (u_2 2)])), ((u_2 2), .inl (cA 0, 25, .inl fun _ => 0)), (q_3, .inr (6, [.ref q_1, .int 0, .int 0, .ref (u_4 1)])), ((u_4 1), .inl (cA 0, 64, .inl fun _ => 0)), (q_5, .inl (cA 2, 4, .inr (.inr (.inr (.inr (va_up (va_up (fun _ => none) 0 (some q_6)) 1 (some q_8))))))), (q_6, .inr (1, [.ref (u_7 1), .ref (u_7 6)])), ((u_7 1), .inr (2, [.int 0, .ref (u_7 2), .ref (u_7 3), .ref (u_7 4), .ref (u_7 5)])), ((u_7 2), .inl (cA 0, 64, .inl fun _ => 0)), ((u_7 3), .inl (cA 1, 64, .inr (.inl fun _ => 0))), ((u_7 4), .inl (cA 1, 64, .inr (.inl fun _ => 0))), ((u_7 5), .inl (cA 0, 64, .inl fun _ => 0)), ((u_7 6), .inr (2, [.int 0, .ref (u_7 7), .ref (u_7 8), .ref (u_7 9), .ref (u_7 10)])), ((u_7 7), .inl (cA 0, 64, .inl fun _ => 0)), ((u_7 8), .inl (cA 1, 64, .inr (.inl fun _ => 0))), ((u_7 9), .inl (cA 1, 64, .inr (.inl fun _ => 0))), ((u_7 10), .inl (cA 0, 64, .inl fun _ => 0)), (q_8, .inr (1, [.ref (u_9 1), .ref (u_9 6)])), ((u_9 1), .inr (2, [.int 0, .ref (u_9 2), .ref (u_9 3), .ref (u_9 4), .ref (u_9 5)])), ((u_9 2), .inl (cA 0, 64, .inl fun _ => 0)), ((u_9 3), .inl (cA 1, 64, .inr (.inl fun _ => 0))), ((u_9 4), .inl (cA 1, 64, .inr (.inl fun _ => 0))), ((u_9 5), .inl (cA 0, 64, .inl fun _ => 0)), ((u_9 6), .inr (2, [.int 0, .ref (u_9 7), .ref (u_9 8), .ref (u_9 9), .ref (u_9 10)])), ((u_9 7), .inl (cA 0, 64, .inl fun _ => 0)), ((u_9 8), .inl (cA 1, 64, .inr (.inl fun _ => 0))), ((u_9 9), .inl (cA 1, 64, .inr (.inl fun _ => 0))), ((u_9 10), .inl (cA 0, 64, .inl fun _ => 0)), (q_10, .inr (1, [.null, .null]))] H := hP
  have hD : va_D A [(h0, .inr (7, [.ref q_1, .ref q_3, .ref q_5, .null, .null, .null, .null, .null, .int 0, .null, .null])), (q_1, .inr (0, [.int 0, .ref (u_2 1), .long 0, .long 0])), ((u_2 1), .inr (3, [.int 1, .int 0, .ref (u_2 2)])), ((u_2 2), .inl (cA 0, 25, .inl fun _ => 0)), (q_3, .inr (6, [.ref q_1, .int 0, .int 0, .ref (u_4 1)])), ((u_4 1), .inl (cA 0, 64, .inl fun _ => 0)), (q_5, .inl (cA 2, 4, .inr (.inr (.inr (.inr (va_up (va_up (fun _ => none) 0 (some q_6)) 1 (some q_8))))))), (q_6, .inr (1, [.ref (u_7 1), .ref (u_7 6)])), ((u_7 1), .inr (2, [.int 0, .ref (u_7 2), .ref (u_7 3), .ref (u_7 4), .ref (u_7 5)])), ((u_7 2), .inl (cA 0, 64, .inl fun _ => 0)), ((u_7 3), .inl (cA 1, 64, .inr (.inl fun _ => 0))), ((u_7 4), .inl (cA 1, 64, .inr (.inl fun _ => 0))), ((u_7 5), .inl (cA 0, 64, .inl fun _ => 0)), ((u_7 6), .inr (2, [.int 0, .ref (u_7 7), .ref (u_7 8), .ref (u_7 9), .ref (u_7 10)])), ((u_7 7), .inl (cA 0, 64, .inl fun _ => 0)), ((u_7 8), .inl (cA 1, 64, .inr (.inl fun _ => 0))), ((u_7 9), .inl (cA 1, 64, .inr (.inl fun _ => 0))), ((u_7 10), .inl (cA 0, 64, .inl fun _ => 0)), (q_8, .inr (1, [.ref (u_9 1), .ref (u_9 6)])), ((u_9 1), .inr (2, [.int 0, .ref (u_9 2), .ref (u_9 3), .ref (u_9 4), .ref (u_9 5)])), ((u_9 2), .inl (cA 0, 64, .inl fun _ => 0)), ((u_9 3), .inl (cA 1, 64, .inr (.inl fun _ => 0))), ((u_9 4), .inl (cA 1, 64, .inr (.inl fun _ => 0))), ((u_9 5), .inl (cA 0, 64, .inl fun _ => 0)), ((u_9 6), .inr (2, [.int 0, .ref (u_9 7), .ref (u_9 8), .ref (u_9 9), .ref (u_9 10)])), ((u_9 7), .inl (cA 0, 64, .inl fun _ => 0)), ((u_9 8), .inl (cA 1, 64, .inr (.inl fun _ => 0))), ((u_9 9), .inl (cA 1, 64, .inr (.inl fun _ => 0))), ((u_9 10), .inl (cA 0, 64, .inl fun _ => 0)), (q_10, .inr (1, [.null, .null]))] := hD
  refine W.widen (k := 29) (n := 1154) (Nat.le_of_ble_eq_true rfl) (Nat.le_of_ble_eq_true rfl) ?_
  refine lv_dup hx hb (zd DX7_init 29 rfl) rfl ?_
  have hPc := hP.sub (ws' := [(q_10, .inr (1, [.null, .null]))]) [29] rfl
  have hDc := hD.sub (ws' := [(q_10, .inr (1, [.null, .null]))]) [29] (by decide) rfl
  have hFc := va_free (wc := [(q_10, .inr (1, [.null, .null]))]) hD hS hA [29] rfl
  refine va_callv (va_runIN (host := "EndSums") (As := []) (rest := [.ref q_10, .int 2, .ref q_5]) ⟨hx, hb, hml, hown, hts⟩ (nX1_init l D cA q_10 H.size) ⟨va_cnB 0 hts (zTb_goodIn fun w hw => (List.mem_cons.mp hw).elim (fun z => z ▸ wkc_95) id) rfl rfl rfl (hNs _ wnc_93 rfl) (hts _ wkc_5) ⟨by decide, by decide, by decide +kernel⟩ ⟨Nat.le_of_ble_eq_true rfl, Nat.le_of_ble_eq_true rfl⟩, rfl, (hts _ wkc_94)⟩ ⟨zCp_blind, fun U hU hW => ⟨rfl, by rw [hU], by rw [hU]; exact hPc, va_K.moved hW.alike hK, hDc.weaken (fun _ _ _ _ => trivial), zNs_warm hW hNs, va_AO.moved hW.alike hAO⟩⟩ rfl rfl hl.1 rfl (lv_room (Nat.le_of_ble_eq_true rfl)) (zd DX7_init 30 rfl) ⟨Nat.le_of_ble_eq_true rfl, Nat.le_of_ble_eq_true rfl⟩) hS (fun q _ h => hFc q h) hFc (fun u_11 t H1 locs ht hvm hw hB hz1 hk1 hS => ?_)
  obtain ⟨hP1, hD1⟩ := hB
  rw [ht] at hP1
  obtain ⟨hP, hD⟩ := va_join (wr := [(h0, .inr (7, [.ref q_1, .ref q_3, .ref q_5, .null, .null, .null, .null, .null, .int 0, .null, .null])), (q_1, .inr (0, [.int 0, .ref (u_2 1), .long 0, .long 0])), ((u_2 1), .inr (3, [.int 1, .int 0, .ref (u_2 2)])), ((u_2 2), .inl (cA 0, 25, .inl fun _ => 0)), (q_3, .inr (6, [.ref q_1, .int 0, .int 0, .ref (u_4 1)])), ((u_4 1), .inl (cA 0, 64, .inl fun _ => 0)), (q_5, .inl (cA 2, 4, .inr (.inr (.inr (.inr (va_up (va_up (fun _ => none) 0 (some q_6)) 1 (some q_8))))))), (q_6, .inr (1, [.ref (u_7 1), .ref (u_7 6)])), ((u_7 1), .inr (2, [.int 0, .ref (u_7 2), .ref (u_7 3), .ref (u_7 4), .ref (u_7 5)])), ((u_7 2), .inl (cA 0, 64, .inl fun _ => 0)), ((u_7 3), .inl (cA 1, 64, .inr (.inl fun _ => 0))), ((u_7 4), .inl (cA 1, 64, .inr (.inl fun _ => 0))), ((u_7 5), .inl (cA 0, 64, .inl fun _ => 0)), ((u_7 6), .inr (2, [.int 0, .ref (u_7 7), .ref (u_7 8), .ref (u_7 9), .ref (u_7 10)])), ((u_7 7), .inl (cA 0, 64, .inl fun _ => 0)), ((u_7 8), .inl (cA 1, 64, .inr (.inl fun _ => 0))), ((u_7 9), .inl (cA 1, 64, .inr (.inl fun _ => 0))), ((u_7 10), .inl (cA 0, 64, .inl fun _ => 0)), (q_8, .inr (1, [.ref (u_9 1), .ref (u_9 6)])), ((u_9 1), .inr (2, [.int 0, .ref (u_9 2), .ref (u_9 3), .ref (u_9 4), .ref (u_9 5)])), ((u_9 2), .inl (cA 0, 64, .inl fun _ => 0)), ((u_9 3), .inl (cA 1, 64, .inr (.inl fun _ => 0))), ((u_9 4), .inl (cA 1, 64, .inr (.inl fun _ => 0))), ((u_9 5), .inl (cA 0, 64, .inl fun _ => 0)), ((u_9 6), .inr (2, [.int 0, .ref (u_9 7), .ref (u_9 8), .ref (u_9 9), .ref (u_9 10)])), ((u_9 7), .inl (cA 0, 64, .inl fun _ => 0)), ((u_9 8), .inl (cA 1, 64, .inr (.inl fun _ => 0))), ((u_9 9), .inl (cA 1, 64, .inr (.inl fun _ => 0))), ((u_9 10), .inl (cA 0, 64, .inl fun _ => 0))]) (w1 := [(q_10, .inr (1, [.ref (u_11 1), .ref (u_11 6)])), ((u_11 1), .inr (2, [.int 0, .ref (u_11 2), .ref (u_11 3), .ref (u_11 4), .ref (u_11 5)])), ((u_11 2), .inl (cA 0, 64, .inl fun _ => 0)), ((u_11 3), .inl (cA 1, 64, .inr (.inl fun _ => 0))), ((u_11 4), .inl (cA 1, 64, .inr (.inl fun _ => 0))), ((u_11 5), .inl (cA 0, 64, .inl fun _ => 0)), ((u_11 6), .inr (2, [.int 0, .ref (u_11 7), .ref (u_11 8), .ref (u_11 9), .ref (u_11 10)])), ((u_11 7), .inl (cA 0, 64, .inl fun _ => 0)), ((u_11 8), .inl (cA 1, 64, .inr (.inl fun _ => 0))), ((u_11 9), .inl (cA 1, 64, .inr (.inl fun _ => 0))), ((u_11 10), .inl (cA 0, 64, .inl fun _ => 0))]) hP hD [29] [0, 1, 2, 3, 4, 5, 6, 7, 8, 9, 10, 11, 12, 13, 14, 15, 16, 17, 18, 19, 20, 21, 22, 23, 24, 25, 26, 27, 28] rfl rfl (by decide) (by decide) hk1 hFc hP1 hD1
  generalize H1 = H at hP hS ⊢
  have hP : va_P D vwCl [(h0, .inr (7, [.ref q_1, .ref q_3, .ref q_5, .null, .null, .null, .null, .null, .int 0, .null, .null])), (q_1, .inr (0, [.int 0, .ref (u_2 1), .long 0, .long 0])), ((u_2 1), .inr (3, [.int 1, .int 0, .ref (u_2 2)])), ((u_2 2), .inl (cA 0, 25, .inl fun _ => 0)), (q_3, .inr (6, [.ref q_1, .int 0, .int 0, .ref (u_4 1)])), ((u_4 1), .inl (cA 0, 64, .inl fun _ => 0)), (q_5, .inl (cA 2, 4, .inr (.inr (.inr (.inr (va_up (va_up (fun _ => none) 0 (some q_6)) 1 (some q_8))))))), (q_6, .inr (1, [.ref (u_7 1), .ref (u_7 6)])), ((u_7 1), .inr (2, [.int 0, .ref (u_7 2), .ref (u_7 3), .ref (u_7 4), .ref (u_7 5)])), ((u_7 2), .inl (cA 0, 64, .inl fun _ => 0)), ((u_7 3), .inl (cA 1, 64, .inr (.inl fun _ => 0))), ((u_7 4), .inl (cA 1, 64, .inr (.inl fun _ => 0))), ((u_7 5), .inl (cA 0, 64, .inl fun _ => 0)), ((u_7 6), .inr (2, [.int 0, .ref (u_7 7), .ref (u_7 8), .ref (u_7 9), .ref (u_7 10)])), ((u_7 7), .inl (cA 0, 64, .inl fun _ => 0)), ((u_7 8), .inl (cA 1, 64, .inr (.inl fun _ => 0))), ((u_7 9), .inl (cA 1, 64, .inr (.inl fun _ => 0))), ((u_7 10), .inl (cA 0, 64, .inl fun _ => 0)), (q_8, .inr (1, [.ref (u_9 1), .ref (u_9 6)])), ((u_9 1), .inr (2, [.int 0, .ref (u_9 2), .ref (u_9 3), .ref (u_9 4), .ref (u_9 5)])), ((u_9 2), .inl (cA 0, 64, .inl fun _ => 0)), ((u_9 3), .inl (cA 1, 64, .inr (.inl fun _ => 0))), ((u_9 4), .inl (cA 1, 64, .inr (.inl fun _ => 0))), ((u_9 5), .inl (cA 0, 64, .inl fun _ => 0)), ((u_9 6), .inr (2, [.int 0, .ref (u_9 7), .ref (u_9 8), .ref (u_9 9), .ref (u_9 10)])), ((u_9 7), .inl (cA 0, 64, .inl fun _ => 0)), ((u_9 8), .inl (cA 1, 64, .inr (.inl fun _ => 0))), ((u_9 9), .inl (cA 1, 64, .inr (.inl fun _ => 0))), ((u_9 10), .inl (cA 0, 64, .inl fun _ => 0)), (q_10, .inr (1, [.ref (u_11 1), .ref (u_11 6)])), ((u_11 1), .inr (2, [.int 0, .ref (u_11 2), .ref (u_11 3), .ref (u_11 4), .ref (u_11 5)])), ((u_11 2), .inl (cA 0, 64, .inl fun _ => 0)), ((u_11 3), .inl (cA 1, 64, .inr (.inl fun _ => 0))), ((u_11 4), .inl (cA 1, 64, .inr (.inl fun _ => 0))), ((u_11 5), .inl (cA 0, 64, .inl fun _ => 0)), ((u_11 6), .inr (2, [.int 0, .ref (u_11 7), .ref (u_11 8), .ref (u_11 9), .ref (u_11 10)])), ((u_11 7), .inl (cA 0, 64, .inl fun _ => 0)), ((u_11 8), .inl (cA 1, 64, .inr (.inl fun _ => 0))), ((u_11 9), .inl (cA 1, 64, .inr (.inl fun _ => 0))), ((u_11 10), .inl (cA 0, 64, .inl fun _ => 0))] H := hP
  have hD : va_D A [(h0, .inr (7, [.ref q_1, .ref q_3, .ref q_5, .null, .null, .null, .null, .null, .int 0, .null, .null])), (q_1, .inr (0, [.int 0, .ref (u_2 1), .long 0, .long 0])), ((u_2 1), .inr (3, [.int 1, .int 0, .ref (u_2 2)])), ((u_2 2), .inl (cA 0, 25, .inl fun _ => 0)), (q_3, .inr (6, [.ref q_1, .int 0, .int 0, .ref (u_4 1)])), ((u_4 1), .inl (cA 0, 64, .inl fun _ => 0)), (q_5, .inl (cA 2, 4, .inr (.inr (.inr (.inr (va_up (va_up (fun _ => none) 0 (some q_6)) 1 (some q_8))))))), (q_6, .inr (1, [.ref (u_7 1), .ref (u_7 6)])), ((u_7 1), .inr (2, [.int 0, .ref (u_7 2), .ref (u_7 3), .ref (u_7 4), .ref (u_7 5)])), ((u_7 2), .inl (cA 0, 64, .inl fun _ => 0)), ((u_7 3), .inl (cA 1, 64, .inr (.inl fun _ => 0))), ((u_7 4), .inl (cA 1, 64, .inr (.inl fun _ => 0))), ((u_7 5), .inl (cA 0, 64, .inl fun _ => 0)), ((u_7 6), .inr (2, [.int 0, .ref (u_7 7), .ref (u_7 8), .ref (u_7 9), .ref (u_7 10)])), ((u_7 7), .inl (cA 0, 64, .inl fun _ => 0)), ((u_7 8), .inl (cA 1, 64, .inr (.inl fun _ => 0))), ((u_7 9), .inl (cA 1, 64, .inr (.inl fun _ => 0))), ((u_7 10), .inl (cA 0, 64, .inl fun _ => 0)), (q_8, .inr (1, [.ref (u_9 1), .ref (u_9 6)])), ((u_9 1), .inr (2, [.int 0, .ref (u_9 2), .ref (u_9 3), .ref (u_9 4), .ref (u_9 5)])), ((u_9 2), .inl (cA 0, 64, .inl fun _ => 0)), ((u_9 3), .inl (cA 1, 64, .inr (.inl fun _ => 0))), ((u_9 4), .inl (cA 1, 64, .inr (.inl fun _ => 0))), ((u_9 5), .inl (cA 0, 64, .inl fun _ => 0)), ((u_9 6), .inr (2, [.int 0, .ref (u_9 7), .ref (u_9 8), .ref (u_9 9), .ref (u_9 10)])), ((u_9 7), .inl (cA 0, 64, .inl fun _ => 0)), ((u_9 8), .inl (cA 1, 64, .inr (.inl fun _ => 0))), ((u_9 9), .inl (cA 1, 64, .inr (.inl fun _ => 0))), ((u_9 10), .inl (cA 0, 64, .inl fun _ => 0)), (q_10, .inr (1, [.ref (u_11 1), .ref (u_11 6)])), ((u_11 1), .inr (2, [.int 0, .ref (u_11 2), .ref (u_11 3), .ref (u_11 4), .ref (u_11 5)])), ((u_11 2), .inl (cA 0, 64, .inl fun _ => 0)), ((u_11 3), .inl (cA 1, 64, .inr (.inl fun _ => 0))), ((u_11 4), .inl (cA 1, 64, .inr (.inl fun _ => 0))), ((u_11 5), .inl (cA 0, 64, .inl fun _ => 0)), ((u_11 6), .inr (2, [.int 0, .ref (u_11 7), .ref (u_11 8), .ref (u_11 9), .ref (u_11 10)])), ((u_11 7), .inl (cA 0, 64, .inl fun _ => 0)), ((u_11 8), .inl (cA 1, 64, .inr (.inl fun _ => 0))), ((u_11 9), .inl (cA 1, 64, .inr (.inl fun _ => 0))), ((u_11 10), .inl (cA 0, 64, .inl fun _ => 0))] := hD
  refine W.widen (k := 39) (n := 1676) (Nat.le_of_ble_eq_true rfl) (Nat.le_of_ble_eq_true rfl) ?_
  refine va_astq (r := (RX1, TX1, 2)) hx hb hK hP hD hS 6 2 29 1 rfl rfl rfl rfl (vp_in_iff.mpr (by decide)) (zd DX7_init 31 rfl) (fun H locs hP hD hS => ?_)
  have hP : va_P D vwCl [(h0, .inr (7, [.ref q_1, .ref q_3, .ref q_5, .null, .null, .null, .null, .null, .int 0, .null, .null])), (q_1, .inr (0, [.int 0, .ref (u_2 1), .long 0, .long 0])), ((u_2 1), .inr (3, [.int 1, .int 0, .ref (u_2 2)])), ((u_2 2), .inl (cA 0, 25, .inl fun _ => 0)), (q_3, .inr (6, [.ref q_1, .int 0, .int 0, .ref (u_4 1)])), ((u_4 1), .inl (cA 0, 64, .inl fun _ => 0)), (q_5, .inl (cA 2, 4, .inr (.inr (.inr (.inr (va_up (va_up (va_up (fun _ => none) 0 (some q_6)) 1 (some q_8)) 2 (some q_10))))))), (q_6, .inr (1, [.ref (u_7 1), .ref (u_7 6)])), ((u_7 1), .inr (2, [.int 0, .ref (u_7 2), .ref (u_7 3), .ref (u_7 4), .ref (u_7 5)])), ((u_7 2), .inl (cA 0, 64, .inl fun _ => 0)), ((u_7 3), .inl (cA 1, 64, .inr (.inl fun _ => 0))), ((u_7 4), .inl (cA 1, 64, .inr (.inl fun _ => 0))), ((u_7 5), .inl (cA 0, 64, .inl fun _ => 0)), ((u_7 6), .inr (2, [.int 0, .ref (u_7 7), .ref (u_7 8), .ref (u_7 9), .ref (u_7 10)])), ((u_7 7), .inl (cA 0, 64, .inl fun _ => 0)), ((u_7 8), .inl (cA 1, 64, .inr (.inl fun _ => 0))), ((u_7 9), .inl (cA 1, 64, .inr (.inl fun _ => 0))), ((u_7 10), .inl (cA 0, 64, .inl fun _ => 0)), (q_8, .inr (1, [.ref (u_9 1), .ref (u_9 6)])), ((u_9 1), .inr (2, [.int 0, .ref (u_9 2), .ref (u_9 3), .ref (u_9 4), .ref (u_9 5)])), ((u_9 2), .inl (cA 0, 64, .inl fun _ => 0)), ((u_9 3), .inl (cA 1, 64, .inr (.inl fun _ => 0))), ((u_9 4), .inl (cA 1, 64, .inr (.inl fun _ => 0))), ((u_9 5), .inl (cA 0, 64, .inl fun _ => 0)), ((u_9 6), .inr (2, [.int 0, .ref (u_9 7), .ref (u_9 8), .ref (u_9 9), .ref (u_9 10)])), ((u_9 7), .inl (cA 0, 64, .inl fun _ => 0)), ((u_9 8), .inl (cA 1, 64, .inr (.inl fun _ => 0))), ((u_9 9), .inl (cA 1, 64, .inr (.inl fun _ => 0))), ((u_9 10), .inl (cA 0, 64, .inl fun _ => 0)), (q_10, .inr (1, [.ref (u_11 1), .ref (u_11 6)])), ((u_11 1), .inr (2, [.int 0, .ref (u_11 2), .ref (u_11 3), .ref (u_11 4), .ref (u_11 5)])), ((u_11 2), .inl (cA 0, 64, .inl fun _ => 0)), ((u_11 3), .inl (cA 1, 64, .inr (.inl fun _ => 0))), ((u_11 4), .inl (cA 1, 64, .inr (.inl fun _ => 0))), ((u_11 5), .inl (cA 0, 64, .inl fun _ => 0)), ((u_11 6), .inr (2, [.int 0, .ref (u_11 7), .ref (u_11 8), .ref (u_11 9), .ref (u_11 10)])), ((u_11 7), .inl (cA 0, 64, .inl fun _ => 0)), ((u_11 8), .inl (cA 1, 64, .inr (.inl fun _ => 0))), ((u_11 9), .inl (cA 1, 64, .inr (.inl fun _ => 0))), ((u_11 10), .inl (cA 0, 64, .inl fun _ => 0))] H := hP
  have hD : va_D A [(h0, .inr (7, [.ref q_1, .ref q_3, .ref q_5, .null, .null, .null, .null, .null, .int 0, .null, .null])), (q_1, .inr (0, [.int 0, .ref (u_2 1), .long 0, .long 0])), ((u_2 1), .inr (3, [.int 1, .int 0, .ref (u_2 2)])), ((u_2 2), .inl (cA 0, 25, .inl fun _ => 0)), (q_3, .inr (6, [.ref q_1, .int 0, .int 0, .ref (u_4 1)])), ((u_4 1), .inl (cA 0, 64, .inl fun _ => 0)), (q_5, .inl (cA 2, 4, .inr (.inr (.inr (.inr (va_up (va_up (va_up (fun _ => none) 0 (some q_6)) 1 (some q_8)) 2 (some q_10))))))), (q_6, .inr (1, [.ref (u_7 1), .ref (u_7 6)])), ((u_7 1), .inr (2, [.int 0, .ref (u_7 2), .ref (u_7 3), .ref (u_7 4), .ref (u_7 5)])), ((u_7 2), .inl (cA 0, 64, .inl fun _ => 0)), ((u_7 3), .inl (cA 1, 64, .inr (.inl fun _ => 0))), ((u_7 4), .inl (cA 1, 64, .inr (.inl fun _ => 0))), ((u_7 5), .inl (cA 0, 64, .inl fun _ => 0)), ((u_7 6), .inr (2, [.int 0, .ref (u_7 7), .ref (u_7 8), .ref (u_7 9), .ref (u_7 10)])), ((u_7 7), .inl (cA 0, 64, .inl fun _ => 0)), ((u_7 8), .inl (cA 1, 64, .inr (.inl fun _ => 0))), ((u_7 9), .inl (cA 1, 64, .inr (.inl fun _ => 0))), ((u_7 10), .inl (cA 0, 64, .inl fun _ => 0)), (q_8, .inr (1, [.ref (u_9 1), .ref (u_9 6)])), ((u_9 1), .inr (2, [.int 0, .ref (u_9 2), .ref (u_9 3), .ref (u_9 4), .ref (u_9 5)])), ((u_9 2), .inl (cA 0, 64, .inl fun _ => 0)), ((u_9 3), .inl (cA 1, 64, .inr (.inl fun _ => 0))), ((u_9 4), .inl (cA 1, 64, .inr (.inl fun _ => 0))), ((u_9 5), .inl (cA 0, 64, .inl fun _ => 0)), ((u_9 6), .inr (2, [.int 0, .ref (u_9 7), .ref (u_9 8), .ref (u_9 9), .ref (u_9 10)])), ((u_9 7), .inl (cA 0, 64, .inl fun _ => 0)), ((u_9 8), .inl (cA 1, 64, .inr (.inl fun _ => 0))), ((u_9 9), .inl (cA 1, 64, .inr (.inl fun _ => 0))), ((u_9 10), .inl (cA 0, 64, .inl fun _ => 0)), (q_10, .inr (1, [.ref (u_11 1), .ref (u_11 6)])), ((u_11 1), .inr (2, [.int 0, .ref (u_11 2), .ref (u_11 3), .ref (u_11 4), .ref (u_11 5)])), ((u_11 2), .inl (cA 0, 64, .inl fun _ => 0)), ((u_11 3), .inl (cA 1, 64, .inr (.inl fun _ => 0))), ((u_11 4), .inl (cA 1, 64, .inr (.inl fun _ => 0))), ((u_11 5), .inl (cA 0, 64, .inl fun _ => 0)), ((u_11 6), .inr (2, [.int 0, .ref (u_11 7), .ref (u_11 8), .ref (u_11 9), .ref (u_11 10)])), ((u_11 7), .inl (cA 0, 64, .inl fun _ => 0)), ((u_11 8), .inl (cA 1, 64, .inr (.inl fun _ => 0))), ((u_11 9), .inl (cA 1, 64, .inr (.inl fun _ => 0))), ((u_11 10), .inl (cA 0, 64, .inl fun _ => 0))] := hD
  refine lv_iinc (v := 3) (lv' := [(1, .int 3), (0, .ref h0)]) hx hb (zd DX7_init 32 rfl) hl (k := 0) rfl (by decide) (by decide) rfl (fun ls hl => ?_)
  refine lv_goto (tgt := 40) hx hb (zd DX7_init 33 rfl) (by decide) ?_
  refine lv_iload_n hx hb (zd DX7_init 20 rfl) rfl (lv_at hl 0 rfl) ?_
  refine lv_aload_n hx hb (zd DX7_init 21 rfl) rfl (lv_at hl 1 rfl) ?_
  refine va_get (D := D) (ci := 7) (v := .ref q_5) (C := RX7) (T := TX7) (N := 11) hx hb hts kz7.2.1 hown hK hP 0 rfl rfl 2 (by decide) (hts _ wkc_186) (fun _ h9 => h9) rfl (zd DX7_init 22 rfl) ?_
  refine va_alen hx hb hK hP 6 2 rfl rfl (v := 4) (show Int32.ofNat 4 = 4 by decide) (zd DX7_init 23 rfl) ?_
  refine lv_icmp_ge (tgt := 68) hx hb (zd DX7_init 24 rfl) (by decide) (fun z => absurd z (by decide)) (fun _ => ?_)
  refine lv_aload_n hx hb (zd DX7_init 25 rfl) rfl (lv_at hl 1 rfl) ?_
  refine va_get (D := D) (ci := 7) (v := .ref q_5) (C := RX7) (T := TX7) (N := 11) hx hb hts kz7.2.1 hown hK hP 0 rfl rfl 2 (by decide) (hts _ wkc_186) (fun _ h9 => h9) rfl (zd DX7_init 26 rfl) ?_
  refine lv_iload_n hx hb (zd DX7_init 27 rfl) rfl (lv_at hl 0 rfl) ?_
  refine va_new (ci := 1) (fs := [.null, .null]) (C := RX1) (T := TX1) (N := 2) hx hb hts kz1.2.1 tyX1 tyX1_ok hown (hts _ wkc_90) (hts _ wkc_92) (hts _ wkc_5) hK hP hD hS hA rfl (by decide +kernel) (Nat.le_of_ble_eq_true rfl) (Nat.le_of_ble_eq_true rfl) (zd DX7_init 28 rfl) (fun q_12 H hP hD hS => ?_)
  have hP : va_P D vwCl [(h0, .inr (7, [.ref q_1, .ref q_3, .ref q_5, .null, .null, .null, .null, .null, .int 0, .null, .null])), (q_1, .inr (0, [.int 0, .ref (u_2 1), .long 0, .long 0])), ((u_2 1), .inr (3, [.int 1, .int 0, .ref (u_2 2)])), ((u_2 2), .inl (cA 0, 25, .inl fun _ => 0)), (q_3, .inr (6, [.ref q_1, .int 0, .int 0, .ref (u_4 1)])), ((u_4 1), .inl (cA 0, 64, .inl fun _ => 0)), (q_5, .inl (cA 2, 4, .inr (.inr (.inr (.inr (va_up (va_up (va_up (fun _ => none) 0 (some q_6)) 1 (some q_8)) 2 (some q_10))))))), (q_6, .inr (1, [.ref (u_7 1), .ref (u_7 6)])), ((u_7 1), .inr (2, [.int 0, .ref (u_7 2), .ref (u_7 3), .ref (u_7 4), .ref (u_7 5)])), ((u_7 2), .inl (cA 0, 64, .inl fun _ => 0)), ((u_7 3), .inl (cA 1, 64, .inr (.inl fun _ => 0))), ((u_7 4), .inl (cA 1, 64, .inr (.inl fun _ => 0))), ((u_7 5), .inl (cA 0, 64, .inl fun _ => 0)), ((u_7 6), .inr (2, [.int 0, .ref (u_7 7), .ref (u_7 8), .ref (u_7 9), .ref (u_7 10)])), ((u_7 7), .inl (cA 0, 64, .inl fun _ => 0)), ((u_7 8), .inl (cA 1, 64, .inr (.inl fun _ => 0))), ((u_7 9), .inl (cA 1, 64, .inr (.inl fun _ => 0))), ((u_7 10), .inl (cA 0, 64, .inl fun _ => 0)), (q_8, .inr (1, [.ref (u_9 1), .ref (u_9 6)])), ((u_9 1), .inr (2, [.int 0, .ref (u_9 2), .ref (u_9 3), .ref (u_9 4), .ref (u_9 5)])), ((u_9 2), .inl (cA 0, 64, .inl fun _ => 0)), ((u_9 3), .inl (cA 1, 64, .inr (.inl fun _ => 0))), ((u_9 4), .inl (cA 1, 64, .inr (.inl fun _ => 0))), ((u_9 5), .inl (cA 0, 64, .inl fun _ => 0)), ((u_9 6), .inr (2, [.int 0, .ref (u_9 7), .ref (u_9 8), .ref (u_9 9), .ref (u_9 10)])), ((u_9 7), .inl (cA 0, 64, .inl fun _ => 0)), ((u_9 8), .inl (cA 1, 64, .inr (.inl fun _ => 0))), ((u_9 9), .inl (cA 1, 64, .inr (.inl fun _ => 0))), ((u_9 10), .inl (cA 0, 64, .inl fun _ => 0)), (q_10, .inr (1, [.ref (u_11 1), .ref (u_11 6)])), ((u_11 1), .inr (2, [.int 0, .ref (u_11 2), .ref (u_11 3), .ref (u_11 4), .ref (u_11 5)])), ((u_11 2), .inl (cA 0, 64, .inl fun _ => 0)), ((u_11 3), .inl (cA 1, 64, .inr (.inl fun _ => 0))), ((u_11 4), .inl (cA 1, 64, .inr (.inl fun _ => 0))), ((u_11 5), .inl (cA 0, 64, .inl fun _ => 0)), ((u_11 6), .inr (2, [.int 0, .ref (u_11 7), .ref (u_11 8), .ref (u_11 9), .ref (u_11 10)])), ((u_11 7), .inl (cA 0, 64, .inl fun _ => 0)), ((u_11 8), .inl (cA 1, 64, .inr (.inl fun _ => 0))), ((u_11 9), .inl (cA 1, 64, .inr (.inl fun _ => 0))), ((u_11 10), .inl (cA 0, 64, .inl fun _ => 0)), (q_12, .inr (1, [.null, .null]))] H := hP
  have hD : va_D A [(h0, .inr (7, [.ref q_1, .ref q_3, .ref q_5, .null, .null, .null, .null, .null, .int 0, .null, .null])), (q_1, .inr (0, [.int 0, .ref (u_2 1), .long 0, .long 0])), ((u_2 1), .inr (3, [.int 1, .int 0, .ref (u_2 2)])), ((u_2 2), .inl (cA 0, 25, .inl fun _ => 0)), (q_3, .inr (6, [.ref q_1, .int 0, .int 0, .ref (u_4 1)])), ((u_4 1), .inl (cA 0, 64, .inl fun _ => 0)), (q_5, .inl (cA 2, 4, .inr (.inr (.inr (.inr (va_up (va_up (va_up (fun _ => none) 0 (some q_6)) 1 (some q_8)) 2 (some q_10))))))), (q_6, .inr (1, [.ref (u_7 1), .ref (u_7 6)])), ((u_7 1), .inr (2, [.int 0, .ref (u_7 2), .ref (u_7 3), .ref (u_7 4), .ref (u_7 5)])), ((u_7 2), .inl (cA 0, 64, .inl fun _ => 0)), ((u_7 3), .inl (cA 1, 64, .inr (.inl fun _ => 0))), ((u_7 4), .inl (cA 1, 64, .inr (.inl fun _ => 0))), ((u_7 5), .inl (cA 0, 64, .inl fun _ => 0)), ((u_7 6), .inr (2, [.int 0, .ref (u_7 7), .ref (u_7 8), .ref (u_7 9), .ref (u_7 10)])), ((u_7 7), .inl (cA 0, 64, .inl fun _ => 0)), ((u_7 8), .inl (cA 1, 64, .inr (.inl fun _ => 0))), ((u_7 9), .inl (cA 1, 64, .inr (.inl fun _ => 0))), ((u_7 10), .inl (cA 0, 64, .inl fun _ => 0)), (q_8, .inr (1, [.ref (u_9 1), .ref (u_9 6)])), ((u_9 1), .inr (2, [.int 0, .ref (u_9 2), .ref (u_9 3), .ref (u_9 4), .ref (u_9 5)])), ((u_9 2), .inl (cA 0, 64, .inl fun _ => 0)), ((u_9 3), .inl (cA 1, 64, .inr (.inl fun _ => 0))), ((u_9 4), .inl (cA 1, 64, .inr (.inl fun _ => 0))), ((u_9 5), .inl (cA 0, 64, .inl fun _ => 0)), ((u_9 6), .inr (2, [.int 0, .ref (u_9 7), .ref (u_9 8), .ref (u_9 9), .ref (u_9 10)])), ((u_9 7), .inl (cA 0, 64, .inl fun _ => 0)), ((u_9 8), .inl (cA 1, 64, .inr (.inl fun _ => 0))), ((u_9 9), .inl (cA 1, 64, .inr (.inl fun _ => 0))), ((u_9 10), .inl (cA 0, 64, .inl fun _ => 0)), (q_10, .inr (1, [.ref (u_11 1), .ref (u_11 6)])), ((u_11 1), .inr (2, [.int 0, .ref (u_11 2), .ref (u_11 3), .ref (u_11 4), .ref (u_11 5)])), ((u_11 2), .inl (cA 0, 64, .inl fun _ => 0)), ((u_11 3), .inl (cA 1, 64, .inr (.inl fun _ => 0))), ((u_11 4), .inl (cA 1, 64, .inr (.inl fun _ => 0))), ((u_11 5), .inl (cA 0, 64, .inl fun _ => 0)), ((u_11 6), .inr (2, [.int 0, .ref (u_11 7), .ref (u_11 8), .ref (u_11 9), .ref (u_11 10)])), ((u_11 7), .inl (cA 0, 64, .inl fun _ => 0)), ((u_11 8), .inl (cA 1, 64, .inr (.inl fun _ => 0))), ((u_11 9), .inl (cA 1, 64, .inr (.inl fun _ => 0))), ((u_11 10), .inl (cA 0, 64, .inl fun _ => 0)), (q_12, .inr (1, [.null, .null]))] := hD
  refine W.widen (k := 40) (n := 1678) (Nat.le_of_ble_eq_true rfl) (Nat.le_of_ble_eq_true rfl) ?_
  refine lv_dup hx hb (zd DX7_init 29 rfl) rfl ?_
  have hPc := hP.sub (ws' := [(q_12, .inr (1, [.null, .null]))]) [40] rfl
  have hDc := hD.sub (ws' := [(q_12, .inr (1, [.null, .null]))]) [40] (by decide) rfl
  have hFc := va_free (wc := [(q_12, .inr (1, [.null, .null]))]) hD hS hA [40] rfl
  refine va_callv (va_runIN (host := "EndSums") (As := []) (rest := [.ref q_12, .int 3, .ref q_5]) ⟨hx, hb, hml, hown, hts⟩ (nX1_init l D cA q_12 H.size) ⟨va_cnB 0 hts (zTb_goodIn fun w hw => (List.mem_cons.mp hw).elim (fun z => z ▸ wkc_95) id) rfl rfl rfl (hNs _ wnc_93 rfl) (hts _ wkc_5) ⟨by decide, by decide, by decide +kernel⟩ ⟨Nat.le_of_ble_eq_true rfl, Nat.le_of_ble_eq_true rfl⟩, rfl, (hts _ wkc_94)⟩ ⟨zCp_blind, fun U hU hW => ⟨rfl, by rw [hU], by rw [hU]; exact hPc, va_K.moved hW.alike hK, hDc.weaken (fun _ _ _ _ => trivial), zNs_warm hW hNs, va_AO.moved hW.alike hAO⟩⟩ rfl rfl hl.1 rfl (lv_room (Nat.le_of_ble_eq_true rfl)) (zd DX7_init 30 rfl) ⟨Nat.le_of_ble_eq_true rfl, Nat.le_of_ble_eq_true rfl⟩) hS (fun q _ h => hFc q h) hFc (fun u_13 t H1 locs ht hvm hw hB hz1 hk1 hS => ?_)
  obtain ⟨hP1, hD1⟩ := hB
  rw [ht] at hP1
  obtain ⟨hP, hD⟩ := va_join (wr := [(h0, .inr (7, [.ref q_1, .ref q_3, .ref q_5, .null, .null, .null, .null, .null, .int 0, .null, .null])), (q_1, .inr (0, [.int 0, .ref (u_2 1), .long 0, .long 0])), ((u_2 1), .inr (3, [.int 1, .int 0, .ref (u_2 2)])), ((u_2 2), .inl (cA 0, 25, .inl fun _ => 0)), (q_3, .inr (6, [.ref q_1, .int 0, .int 0, .ref (u_4 1)])), ((u_4 1), .inl (cA 0, 64, .inl fun _ => 0)), (q_5, .inl (cA 2, 4, .inr (.inr (.inr (.inr (va_up (va_up (va_up (fun _ => none) 0 (some q_6)) 1 (some q_8)) 2 (some q_10))))))), (q_6, .inr (1, [.ref (u_7 1), .ref (u_7 6)])), ((u_7 1), .inr (2, [.int 0, .ref (u_7 2), .ref (u_7 3), .ref (u_7 4), .ref (u_7 5)])), ((u_7 2), .inl (cA 0, 64, .inl fun _ => 0)), ((u_7 3), .inl (cA 1, 64, .inr (.inl fun _ => 0))), ((u_7 4), .inl (cA 1, 64, .inr (.inl fun _ => 0))), ((u_7 5), .inl (cA 0, 64, .inl fun _ => 0)), ((u_7 6), .inr (2, [.int 0, .ref (u_7 7), .ref (u_7 8), .ref (u_7 9), .ref (u_7 10)])), ((u_7 7), .inl (cA 0, 64, .inl fun _ => 0)), ((u_7 8), .inl (cA 1, 64, .inr (.inl fun _ => 0))), ((u_7 9), .inl (cA 1, 64, .inr (.inl fun _ => 0))), ((u_7 10), .inl (cA 0, 64, .inl fun _ => 0)), (q_8, .inr (1, [.ref (u_9 1), .ref (u_9 6)])), ((u_9 1), .inr (2, [.int 0, .ref (u_9 2), .ref (u_9 3), .ref (u_9 4), .ref (u_9 5)])), ((u_9 2), .inl (cA 0, 64, .inl fun _ => 0)), ((u_9 3), .inl (cA 1, 64, .inr (.inl fun _ => 0))), ((u_9 4), .inl (cA 1, 64, .inr (.inl fun _ => 0))), ((u_9 5), .inl (cA 0, 64, .inl fun _ => 0)), ((u_9 6), .inr (2, [.int 0, .ref (u_9 7), .ref (u_9 8), .ref (u_9 9), .ref (u_9 10)])), ((u_9 7), .inl (cA 0, 64, .inl fun _ => 0)), ((u_9 8), .inl (cA 1, 64, .inr (.inl fun _ => 0))), ((u_9 9), .inl (cA 1, 64, .inr (.inl fun _ => 0))), ((u_9 10), .inl (cA 0, 64, .inl fun _ => 0)), (q_10, .inr (1, [.ref (u_11 1), .ref (u_11 6)])), ((u_11 1), .inr (2, [.int 0, .ref (u_11 2), .ref (u_11 3), .ref (u_11 4), .ref (u_11 5)])), ((u_11 2), .inl (cA 0, 64, .inl fun _ => 0)), ((u_11 3), .inl (cA 1, 64, .inr (.inl fun _ => 0))), ((u_11 4), .inl (cA 1, 64, .inr (.inl fun _ => 0))), ((u_11 5), .inl (cA 0, 64, .inl fun _ => 0)), ((u_11 6), .inr (2, [.int 0, .ref (u_11 7), .ref (u_11 8), .ref (u_11 9), .ref (u_11 10)])), ((u_11 7), .inl (cA 0, 64, .inl fun _ => 0)), ((u_11 8), .inl (cA 1, 64, .inr (.inl fun _ => 0))), ((u_11 9), .inl (cA 1, 64, .inr (.inl fun _ => 0))), ((u_11 10), .inl (cA 0, 64, .inl fun _ => 0))]) (w1 := [(q_12, .inr (1, [.ref (u_13 1), .ref (u_13 6)])), ((u_13 1), .inr (2, [.int 0, .ref (u_13 2), .ref (u_13 3), .ref (u_13 4), .ref (u_13 5)])), ((u_13 2), .inl (cA 0, 64, .inl fun _ => 0)), ((u_13 3), .inl (cA 1, 64, .inr (.inl fun _ => 0))), ((u_13 4), .inl (cA 1, 64, .inr (.inl fun _ => 0))), ((u_13 5), .inl (cA 0, 64, .inl fun _ => 0)), ((u_13 6), .inr (2, [.int 0, .ref (u_13 7), .ref (u_13 8), .ref (u_13 9), .ref (u_13 10)])), ((u_13 7), .inl (cA 0, 64, .inl fun _ => 0)), ((u_13 8), .inl (cA 1, 64, .inr (.inl fun _ => 0))), ((u_13 9), .inl (cA 1, 64, .inr (.inl fun _ => 0))), ((u_13 10), .inl (cA 0, 64, .inl fun _ => 0))]) hP hD [40] [0, 1, 2, 3, 4, 5, 6, 7, 8, 9, 10, 11, 12, 13, 14, 15, 16, 17, 18, 19, 20, 21, 22, 23, 24, 25, 26, 27, 28, 29, 30, 31, 32, 33, 34, 35, 36, 37, 38, 39] rfl rfl (by decide) (by decide) hk1 hFc hP1 hD1
  generalize H1 = H at hP hS ⊢
  have hP : va_P D vwCl [(h0, .inr (7, [.ref q_1, .ref q_3, .ref q_5, .null, .null, .null, .null, .null, .int 0, .null, .null])), (q_1, .inr (0, [.int 0, .ref (u_2 1), .long 0, .long 0])), ((u_2 1), .inr (3, [.int 1, .int 0, .ref (u_2 2)])), ((u_2 2), .inl (cA 0, 25, .inl fun _ => 0)), (q_3, .inr (6, [.ref q_1, .int 0, .int 0, .ref (u_4 1)])), ((u_4 1), .inl (cA 0, 64, .inl fun _ => 0)), (q_5, .inl (cA 2, 4, .inr (.inr (.inr (.inr (va_up (va_up (va_up (fun _ => none) 0 (some q_6)) 1 (some q_8)) 2 (some q_10))))))), (q_6, .inr (1, [.ref (u_7 1), .ref (u_7 6)])), ((u_7 1), .inr (2, [.int 0, .ref (u_7 2), .ref (u_7 3), .ref (u_7 4), .ref (u_7 5)])), ((u_7 2), .inl (cA 0, 64, .inl fun _ => 0)), ((u_7 3), .inl (cA 1, 64, .inr (.inl fun _ => 0))), ((u_7 4), .inl (cA 1, 64, .inr (.inl fun _ => 0))), ((u_7 5), .inl (cA 0, 64, .inl fun _ => 0)), ((u_7 6), .inr (2, [.int 0, .ref (u_7 7), .ref (u_7 8), .ref (u_7 9), .ref (u_7 10)])), ((u_7 7), .inl (cA 0, 64, .inl fun _ => 0)), ((u_7 8), .inl (cA 1, 64, .inr (.inl fun _ => 0))), ((u_7 9), .inl (cA 1, 64, .inr (.inl fun _ => 0))), ((u_7 10), .inl (cA 0, 64, .inl fun _ => 0)), (q_8, .inr (1, [.ref (u_9 1), .ref (u_9 6)])), ((u_9 1), .inr (2, [.int 0, .ref (u_9 2), .ref (u_9 3), .ref (u_9 4), .ref (u_9 5)])), ((u_9 2), .inl (cA 0, 64, .inl fun _ => 0)), ((u_9 3), .inl (cA 1, 64, .inr (.inl fun _ => 0))), ((u_9 4), .inl (cA 1, 64, .inr (.inl fun _ => 0))), ((u_9 5), .inl (cA 0, 64, .inl fun _ => 0)), ((u_9 6), .inr (2, [.int 0, .ref (u_9 7), .ref (u_9 8), .ref (u_9 9), .ref (u_9 10)])), ((u_9 7), .inl (cA 0, 64, .inl fun _ => 0)), ((u_9 8), .inl (cA 1, 64, .inr (.inl fun _ => 0))), ((u_9 9), .inl (cA 1, 64, .inr (.inl fun _ => 0))), ((u_9 10), .inl (cA 0, 64, .inl fun _ => 0)), (q_10, .inr (1, [.ref (u_11 1), .ref (u_11 6)])), ((u_11 1), .inr (2, [.int 0, .ref (u_11 2), .ref (u_11 3), .ref (u_11 4), .ref (u_11 5)])), ((u_11 2), .inl (cA 0, 64, .inl fun _ => 0)), ((u_11 3), .inl (cA 1, 64, .inr (.inl fun _ => 0))), ((u_11 4), .inl (cA 1, 64, .inr (.inl fun _ => 0))), ((u_11 5), .inl (cA 0, 64, .inl fun _ => 0)), ((u_11 6), .inr (2, [.int 0, .ref (u_11 7), .ref (u_11 8), .ref (u_11 9), .ref (u_11 10)])), ((u_11 7), .inl (cA 0, 64, .inl fun _ => 0)), ((u_11 8), .inl (cA 1, 64, .inr (.inl fun _ => 0))), ((u_11 9), .inl (cA 1, 64, .inr (.inl fun _ => 0))), ((u_11 10), .inl (cA 0, 64, .inl fun _ => 0)), (q_12, .inr (1, [.ref (u_13 1), .ref (u_13 6)])), ((u_13 1), .inr (2, [.int 0, .ref (u_13 2), .ref (u_13 3), .ref (u_13 4), .ref (u_13 5)])), ((u_13 2), .inl (cA 0, 64, .inl fun _ => 0)), ((u_13 3), .inl (cA 1, 64, .inr (.inl fun _ => 0))), ((u_13 4), .inl (cA 1, 64, .inr (.inl fun _ => 0))), ((u_13 5), .inl (cA 0, 64, .inl fun _ => 0)), ((u_13 6), .inr (2, [.int 0, .ref (u_13 7), .ref (u_13 8), .ref (u_13 9), .ref (u_13 10)])), ((u_13 7), .inl (cA 0, 64, .inl fun _ => 0)), ((u_13 8), .inl (cA 1, 64, .inr (.inl fun _ => 0))), ((u_13 9), .inl (cA 1, 64, .inr (.inl fun _ => 0))), ((u_13 10), .inl (cA 0, 64, .inl fun _ => 0))] H := hP
  have hD : va_D A [(h0, .inr (7, [.ref q_1, .ref q_3, .ref q_5, .null, .null, .null, .null, .null, .int 0, .null, .null])), (q_1, .inr (0, [.int 0, .ref (u_2 1), .long 0, .long 0])), ((u_2 1), .inr (3, [.int 1, .int 0, .ref (u_2 2)])), ((u_2 2), .inl (cA 0, 25, .inl fun _ => 0)), (q_3, .inr (6, [.ref q_1, .int 0, .int 0, .ref (u_4 1)])), ((u_4 1), .inl (cA 0, 64, .inl fun _ => 0)), (q_5, .inl (cA 2, 4, .inr (.inr (.inr (.inr (va_up (va_up (va_up (fun _ => none) 0 (some q_6)) 1 (some q_8)) 2 (some q_10))))))), (q_6, .inr (1, [.ref (u_7 1), .ref (u_7 6)])), ((u_7 1), .inr (2, [.int 0, .ref (u_7 2), .ref (u_7 3), .ref (u_7 4), .ref (u_7 5)])), ((u_7 2), .inl (cA 0, 64, .inl fun _ => 0)), ((u_7 3), .inl (cA 1, 64, .inr (.inl fun _ => 0))), ((u_7 4), .inl (cA 1, 64, .inr (.inl fun _ => 0))), ((u_7 5), .inl (cA 0, 64, .inl fun _ => 0)), ((u_7 6), .inr (2, [.int 0, .ref (u_7 7), .ref (u_7 8), .ref (u_7 9), .ref (u_7 10)])), ((u_7 7), .inl (cA 0, 64, .inl fun _ => 0)), ((u_7 8), .inl (cA 1, 64, .inr (.inl fun _ => 0))), ((u_7 9), .inl (cA 1, 64, .inr (.inl fun _ => 0))), ((u_7 10), .inl (cA 0, 64, .inl fun _ => 0)), (q_8, .inr (1, [.ref (u_9 1), .ref (u_9 6)])), ((u_9 1), .inr (2, [.int 0, .ref (u_9 2), .ref (u_9 3), .ref (u_9 4), .ref (u_9 5)])), ((u_9 2), .inl (cA 0, 64, .inl fun _ => 0)), ((u_9 3), .inl (cA 1, 64, .inr (.inl fun _ => 0))), ((u_9 4), .inl (cA 1, 64, .inr (.inl fun _ => 0))), ((u_9 5), .inl (cA 0, 64, .inl fun _ => 0)), ((u_9 6), .inr (2, [.int 0, .ref (u_9 7), .ref (u_9 8), .ref (u_9 9), .ref (u_9 10)])), ((u_9 7), .inl (cA 0, 64, .inl fun _ => 0)), ((u_9 8), .inl (cA 1, 64, .inr (.inl fun _ => 0))), ((u_9 9), .inl (cA 1, 64, .inr (.inl fun _ => 0))), ((u_9 10), .inl (cA 0, 64, .inl fun _ => 0)), (q_10, .inr (1, [.ref (u_11 1), .ref (u_11 6)])), ((u_11 1), .inr (2, [.int 0, .ref (u_11 2), .ref (u_11 3), .ref (u_11 4), .ref (u_11 5)])), ((u_11 2), .inl (cA 0, 64, .inl fun _ => 0)), ((u_11 3), .inl (cA 1, 64, .inr (.inl fun _ => 0))), ((u_11 4), .inl (cA 1, 64, .inr (.inl fun _ => 0))), ((u_11 5), .inl (cA 0, 64, .inl fun _ => 0)), ((u_11 6), .inr (2, [.int 0, .ref (u_11 7), .ref (u_11 8), .ref (u_11 9), .ref (u_11 10)])), ((u_11 7), .inl (cA 0, 64, .inl fun _ => 0)), ((u_11 8), .inl (cA 1, 64, .inr (.inl fun _ => 0))), ((u_11 9), .inl (cA 1, 64, .inr (.inl fun _ => 0))), ((u_11 10), .inl (cA 0, 64, .inl fun _ => 0)), (q_12, .inr (1, [.ref (u_13 1), .ref (u_13 6)])), ((u_13 1), .inr (2, [.int 0, .ref (u_13 2), .ref (u_13 3), .ref (u_13 4), .ref (u_13 5)])), ((u_13 2), .inl (cA 0, 64, .inl fun _ => 0)), ((u_13 3), .inl (cA 1, 64, .inr (.inl fun _ => 0))), ((u_13 4), .inl (cA 1, 64, .inr (.inl fun _ => 0))), ((u_13 5), .inl (cA 0, 64, .inl fun _ => 0)), ((u_13 6), .inr (2, [.int 0, .ref (u_13 7), .ref (u_13 8), .ref (u_13 9), .ref (u_13 10)])), ((u_13 7), .inl (cA 0, 64, .inl fun _ => 0)), ((u_13 8), .inl (cA 1, 64, .inr (.inl fun _ => 0))), ((u_13 9), .inl (cA 1, 64, .inr (.inl fun _ => 0))), ((u_13 10), .inl (cA 0, 64, .inl fun _ => 0))] := hD
  refine W.widen (k := 50) (n := 2200) (Nat.le_of_ble_eq_true rfl) (Nat.le_of_ble_eq_true rfl) ?_
  refine va_astq (r := (RX1, TX1, 2)) hx hb hK hP hD hS 6 2 40 1 rfl rfl rfl rfl (vp_in_iff.mpr (by decide)) (zd DX7_init 31 rfl) (fun H locs hP hD hS => ?_)
  have hP : va_P D vwCl [(h0, .inr (7, [.ref q_1, .ref q_3, .ref q_5, .null, .null, .null, .null, .null, .int 0, .null, .null])), (q_1, .inr (0, [.int 0, .ref (u_2 1), .long 0, .long 0])), ((u_2 1), .inr (3, [.int 1, .int 0, .ref (u_2 2)])), ((u_2 2), .inl (cA 0, 25, .inl fun _ => 0)), (q_3, .inr (6, [.ref q_1, .int 0, .int 0, .ref (u_4 1)])), ((u_4 1), .inl (cA 0, 64, .inl fun _ => 0)), (q_5, .inl (cA 2, 4, .inr (.inr (.inr (.inr (va_up (va_up (va_up (va_up (fun _ => none) 0 (some q_6)) 1 (some q_8)) 2 (some q_10)) 3 (some q_12))))))), (q_6, .inr (1, [.ref (u_7 1), .ref (u_7 6)])), ((u_7 1), .inr (2, [.int 0, .ref (u_7 2), .ref (u_7 3), .ref (u_7 4), .ref (u_7 5)])), ((u_7 2), .inl (cA 0, 64, .inl fun _ => 0)), ((u_7 3), .inl (cA 1, 64, .inr (.inl fun _ => 0))), ((u_7 4), .inl (cA 1, 64, .inr (.inl fun _ => 0))), ((u_7 5), .inl (cA 0, 64, .inl fun _ => 0)), ((u_7 6), .inr (2, [.int 0, .ref (u_7 7), .ref (u_7 8), .ref (u_7 9), .ref (u_7 10)])), ((u_7 7), .inl (cA 0, 64, .inl fun _ => 0)), ((u_7 8), .inl (cA 1, 64, .inr (.inl fun _ => 0))), ((u_7 9), .inl (cA 1, 64, .inr (.inl fun _ => 0))), ((u_7 10), .inl (cA 0, 64, .inl fun _ => 0)), (q_8, .inr (1, [.ref (u_9 1), .ref (u_9 6)])), ((u_9 1), .inr (2, [.int 0, .ref (u_9 2), .ref (u_9 3), .ref (u_9 4), .ref (u_9 5)])), ((u_9 2), .inl (cA 0, 64, .inl fun _ => 0)), ((u_9 3), .inl (cA 1, 64, .inr (.inl fun _ => 0))), ((u_9 4), .inl (cA 1, 64, .inr (.inl fun _ => 0))), ((u_9 5), .inl (cA 0, 64, .inl fun _ => 0)), ((u_9 6), .inr (2, [.int 0, .ref (u_9 7), .ref (u_9 8), .ref (u_9 9), .ref (u_9 10)])), ((u_9 7), .inl (cA 0, 64, .inl fun _ => 0)), ((u_9 8), .inl (cA 1, 64, .inr (.inl fun _ => 0))), ((u_9 9), .inl (cA 1, 64, .inr (.inl fun _ => 0))), ((u_9 10), .inl (cA 0, 64, .inl fun _ => 0)), (q_10, .inr (1, [.ref (u_11 1), .ref (u_11 6)])), ((u_11 1), .inr (2, [.int 0, .ref (u_11 2), .ref (u_11 3), .ref (u_11 4), .ref (u_11 5)])), ((u_11 2), .inl (cA 0, 64, .inl fun _ => 0)), ((u_11 3), .inl (cA 1, 64, .inr (.inl fun _ => 0))), ((u_11 4), .inl (cA 1, 64, .inr (.inl fun _ => 0))), ((u_11 5), .inl (cA 0, 64, .inl fun _ => 0)), ((u_11 6), .inr (2, [.int 0, .ref (u_11 7), .ref (u_11 8), .ref (u_11 9), .ref (u_11 10)])), ((u_11 7), .inl (cA 0, 64, .inl fun _ => 0)), ((u_11 8), .inl (cA 1, 64, .inr (.inl fun _ => 0))), ((u_11 9), .inl (cA 1, 64, .inr (.inl fun _ => 0))), ((u_11 10), .inl (cA 0, 64, .inl fun _ => 0)), (q_12, .inr (1, [.ref (u_13 1), .ref (u_13 6)])), ((u_13 1), .inr (2, [.int 0, .ref (u_13 2), .ref (u_13 3), .ref (u_13 4), .ref (u_13 5)])), ((u_13 2), .inl (cA 0, 64, .inl fun _ => 0)), ((u_13 3), .inl (cA 1, 64, .inr (.inl fun _ => 0))), ((u_13 4), .inl (cA 1, 64, .inr (.inl fun _ => 0))), ((u_13 5), .inl (cA 0, 64, .inl fun _ => 0)), ((u_13 6), .inr (2, [.int 0, .ref (u_13 7), .ref (u_13 8), .ref (u_13 9), .ref (u_13 10)])), ((u_13 7), .inl (cA 0, 64, .inl fun _ => 0)), ((u_13 8), .inl (cA 1, 64, .inr (.inl fun _ => 0))), ((u_13 9), .inl (cA 1, 64, .inr (.inl fun _ => 0))), ((u_13 10), .inl (cA 0, 64, .inl fun _ => 0))] H := hP
  have hD : va_D A [(h0, .inr (7, [.ref q_1, .ref q_3, .ref q_5, .null, .null, .null, .null, .null, .int 0, .null, .null])), (q_1, .inr (0, [.int 0, .ref (u_2 1), .long 0, .long 0])), ((u_2 1), .inr (3, [.int 1, .int 0, .ref (u_2 2)])), ((u_2 2), .inl (cA 0, 25, .inl fun _ => 0)), (q_3, .inr (6, [.ref q_1, .int 0, .int 0, .ref (u_4 1)])), ((u_4 1), .inl (cA 0, 64, .inl fun _ => 0)), (q_5, .inl (cA 2, 4, .inr (.inr (.inr (.inr (va_up (va_up (va_up (va_up (fun _ => none) 0 (some q_6)) 1 (some q_8)) 2 (some q_10)) 3 (some q_12))))))), (q_6, .inr (1, [.ref (u_7 1), .ref (u_7 6)])), ((u_7 1), .inr (2, [.int 0, .ref (u_7 2), .ref (u_7 3), .ref (u_7 4), .ref (u_7 5)])), ((u_7 2), .inl (cA 0, 64, .inl fun _ => 0)), ((u_7 3), .inl (cA 1, 64, .inr (.inl fun _ => 0))), ((u_7 4), .inl (cA 1, 64, .inr (.inl fun _ => 0))), ((u_7 5), .inl (cA 0, 64, .inl fun _ => 0)), ((u_7 6), .inr (2, [.int 0, .ref (u_7 7), .ref (u_7 8), .ref (u_7 9), .ref (u_7 10)])), ((u_7 7), .inl (cA 0, 64, .inl fun _ => 0)), ((u_7 8), .inl (cA 1, 64, .inr (.inl fun _ => 0))), ((u_7 9), .inl (cA 1, 64, .inr (.inl fun _ => 0))), ((u_7 10), .inl (cA 0, 64, .inl fun _ => 0)), (q_8, .inr (1, [.ref (u_9 1), .ref (u_9 6)])), ((u_9 1), .inr (2, [.int 0, .ref (u_9 2), .ref (u_9 3), .ref (u_9 4), .ref (u_9 5)])), ((u_9 2), .inl (cA 0, 64, .inl fun _ => 0)), ((u_9 3), .inl (cA 1, 64, .inr (.inl fun _ => 0))), ((u_9 4), .inl (cA 1, 64, .inr (.inl fun _ => 0))), ((u_9 5), .inl (cA 0, 64, .inl fun _ => 0)), ((u_9 6), .inr (2, [.int 0, .ref (u_9 7), .ref (u_9 8), .ref (u_9 9), .ref (u_9 10)])), ((u_9 7), .inl (cA 0, 64, .inl fun _ => 0)), ((u_9 8), .inl (cA 1, 64, .inr (.inl fun _ => 0))), ((u_9 9), .inl (cA 1, 64, .inr (.inl fun _ => 0))), ((u_9 10), .inl (cA 0, 64, .inl fun _ => 0)), (q_10, .inr (1, [.ref (u_11 1), .ref (u_11 6)])), ((u_11 1), .inr (2, [.int 0, .ref (u_11 2), .ref (u_11 3), .ref (u_11 4), .ref (u_11 5)])), ((u_11 2), .inl (cA 0, 64, .inl fun _ => 0)), ((u_11 3), .inl (cA 1, 64, .inr (.inl fun _ => 0))), ((u_11 4), .inl (cA 1, 64, .inr (.inl fun _ => 0))), ((u_11 5), .inl (cA 0, 64, .inl fun _ => 0)), ((u_11 6), .inr (2, [.int 0, .ref (u_11 7), .ref (u_11 8), .ref (u_11 9), .ref (u_11 10)])), ((u_11 7), .inl (cA 0, 64, .inl fun _ => 0)), ((u_11 8), .inl (cA 1, 64, .inr (.inl fun _ => 0))), ((u_11 9), .inl (cA 1, 64, .inr (.inl fun _ => 0))), ((u_11 10), .inl (cA 0, 64, .inl fun _ => 0)), (q_12, .inr (1, [.ref (u_13 1), .ref (u_13 6)])), ((u_13 1), .inr (2, [.int 0, .ref (u_13 2), .ref (u_13 3), .ref (u_13 4), .ref (u_13 5)])), ((u_13 2), .inl (cA 0, 64, .inl fun _ => 0)), ((u_13 3), .inl (cA 1, 64, .inr (.inl fun _ => 0))), ((u_13 4), .inl (cA 1, 64, .inr (.inl fun _ => 0))), ((u_13 5), .inl (cA 0, 64, .inl fun _ => 0)), ((u_13 6), .inr (2, [.int 0, .ref (u_13 7), .ref (u_13 8), .ref (u_13 9), .ref (u_13 10)])), ((u_13 7), .inl (cA 0, 64, .inl fun _ => 0)), ((u_13 8), .inl (cA 1, 64, .inr (.inl fun _ => 0))), ((u_13 9), .inl (cA 1, 64, .inr (.inl fun _ => 0))), ((u_13 10), .inl (cA 0, 64, .inl fun _ => 0))] := hD
  refine lv_iinc (v := 4) (lv' := [(1, .int 4), (0, .ref h0)]) hx hb (zd DX7_init 32 rfl) hl (k := 0) rfl (by decide) (by decide) rfl (fun ls hl => ?_)
  refine lv_goto (tgt := 40) hx hb (zd DX7_init 33 rfl) (by decide) ?_
  refine lv_iload_n hx hb (zd DX7_init 20 rfl) rfl (lv_at hl 0 rfl) ?_
  refine lv_aload_n hx hb (zd DX7_init 21 rfl) rfl (lv_at hl 1 rfl) ?_
  refine va_get (D := D) (ci := 7) (v := .ref q_5) (C := RX7) (T := TX7) (N := 11) hx hb hts kz7.2.1 hown hK hP 0 rfl rfl 2 (by decide) (hts _ wkc_186) (fun _ h9 => h9) rfl (zd DX7_init 22 rfl) ?_
  refine va_alen hx hb hK hP 6 2 rfl rfl (v := 4) (show Int32.ofNat 4 = 4 by decide) (zd DX7_init 23 rfl) ?_
  refine lv_icmp_ge (tgt := 68) hx hb (zd DX7_init 24 rfl) (by decide) (fun _ => ?_) (fun z => absurd (by decide) z)
  refine lv_aload_n hx hb (zd DX7_init 34 rfl) rfl (lv_at hl 1 rfl) ?_
  refine va_new (ci := 1) (fs := [.null, .null]) (C := RX1) (T := TX1) (N := 2) hx hb hts kz1.2.1 tyX1 tyX1_ok hown (hts _ wkc_90) (hts _ wkc_92) (hts _ wkc_5) hK hP hD hS hA rfl (by decide +kernel) (Nat.le_of_ble_eq_true rfl) (Nat.le_of_ble_eq_true rfl) (zd DX7_init 35 rfl) (fun q_14 H hP hD hS => ?_)
  have hP : va_P D vwCl [(h0, .inr (7, [.ref q_1, .ref q_3, .ref q_5, .null, .null, .null, .null, .null, .int 0, .null, .null])), (q_1, .inr (0, [.int 0, .ref (u_2 1), .long 0, .long 0])), ((u_2 1), .inr (3, [.int 1, .int 0, .ref (u_2 2)])), ((u_2 2), .inl (cA 0, 25, .inl fun _ => 0)), (q_3, .inr (6, [.ref q_1, .int 0, .int 0, .ref (u_4 1)])), ((u_4 1), .inl (cA 0, 64, .inl fun _ => 0)), (q_5, .inl (cA 2, 4, .inr (.inr (.inr (.inr (va_up (va_up (va_up (va_up (fun _ => none) 0 (some q_6)) 1 (some q_8)) 2 (some q_10)) 3 (some q_12))))))), (q_6, .inr (1, [.ref (u_7 1), .ref (u_7 6)])), ((u_7 1), .inr (2, [.int 0, .ref (u_7 2), .ref (u_7 3), .ref (u_7 4), .ref (u_7 5)])), ((u_7 2), .inl (cA 0, 64, .inl fun _ => 0)), ((u_7 3), .inl (cA 1, 64, .inr (.inl fun _ => 0))), ((u_7 4), .inl (cA 1, 64, .inr (.inl fun _ => 0))), ((u_7 5), .inl (cA 0, 64, .inl fun _ => 0)), ((u_7 6), .inr (2, [.int 0, .ref (u_7 7), .ref (u_7 8), .ref (u_7 9), .ref (u_7 10)])), ((u_7 7), .inl (cA 0, 64, .inl fun _ => 0)), ((u_7 8), .inl (cA 1, 64, .inr (.inl fun _ => 0))), ((u_7 9), .inl (cA 1, 64, .inr (.inl fun _ => 0))), ((u_7 10), .inl (cA 0, 64, .inl fun _ => 0)), (q_8, .inr (1, [.ref (u_9 1), .ref (u_9 6)])), ((u_9 1), .inr (2, [.int 0, .ref (u_9 2), .ref (u_9 3), .ref (u_9 4), .ref (u_9 5)])), ((u_9 2), .inl (cA 0, 64, .inl fun _ => 0)), ((u_9 3), .inl (cA 1, 64, .inr (.inl fun _ => 0))), ((u_9 4), .inl (cA 1, 64, .inr (.inl fun _ => 0))), ((u_9 5), .inl (cA 0, 64, .inl fun _ => 0)), ((u_9 6), .inr (2, [.int 0, .ref (u_9 7), .ref (u_9 8), .ref (u_9 9), .ref (u_9 10)])), ((u_9 7), .inl (cA 0, 64, .inl fun _ => 0)), ((u_9 8), .inl (cA 1, 64, .inr (.inl fun _ => 0))), ((u_9 9), .inl (cA 1, 64, .inr (.inl fun _ => 0))), ((u_9 10), .inl (cA 0, 64, .inl fun _ => 0)), (q_10, .inr (1, [.ref (u_11 1), .ref (u_11 6)])), ((u_11 1), .inr (2, [.int 0, .ref (u_11 2), .ref (u_11 3), .ref (u_11 4), .ref (u_11 5)])), ((u_11 2), .inl (cA 0, 64, .inl fun _ => 0)), ((u_11 3), .inl (cA 1, 64, .inr (.inl fun _ => 0))), ((u_11 4), .inl (cA 1, 64, .inr (.inl fun _ => 0))), ((u_11 5), .inl (cA 0, 64, .inl fun _ => 0)), ((u_11 6), .inr (2, [.int 0, .ref (u_11 7), .ref (u_11 8), .ref (u_11 9), .ref (u_11 10)])), ((u_11 7), .inl (cA 0, 64, .inl fun _ => 0)), ((u_11 8), .inl (cA 1, 64, .inr (.inl fun _ => 0))), ((u_11 9), .inl (cA 1, 64, .inr (.inl fun _ => 0))), ((u_11 10), .inl (cA 0, 64, .inl fun _ => 0)), (q_12, .inr (1, [.ref (u_13 1), .ref (u_13 6)])), ((u_13 1), .inr (2, [.int 0, .ref (u_13 2), .ref (u_13 3), .ref (u_13 4), .ref (u_13 5)])), ((u_13 2), .inl (cA 0, 64, .inl fun _ => 0)), ((u_13 3), .inl (cA 1, 64, .inr (.inl fun _ => 0))), ((u_13 4), .inl (cA 1, 64, .inr (.inl fun _ => 0))), ((u_13 5), .inl (cA 0, 64, .inl fun _ => 0)), ((u_13 6), .inr (2, [.int 0, .ref (u_13 7), .ref (u_13 8), .ref (u_13 9), .ref (u_13 10)])), ((u_13 7), .inl (cA 0, 64, .inl fun _ => 0)), ((u_13 8), .inl (cA 1, 64, .inr (.inl fun _ => 0))), ((u_13 9), .inl (cA 1, 64, .inr (.inl fun _ => 0))), ((u_13 10), .inl (cA 0, 64, .inl fun _ => 0)), (q_14, .inr (1, [.null, .null]))] H := hP
  have hD : va_D A [(h0, .inr (7, [.ref q_1, .ref q_3, .ref q_5, .null, .null, .null, .null, .null, .int 0, .null, .null])), (q_1, .inr (0, [.int 0, .ref (u_2 1), .long 0, .long 0])), ((u_2 1), .inr (3, [.int 1, .int 0, .ref (u_2 2)])), ((u_2 2), .inl (cA 0, 25, .inl fun _ => 0)), (q_3, .inr (6, [.ref q_1, .int 0, .int 0, .ref (u_4 1)])), ((u_4 1), .inl (cA 0, 64, .inl fun _ => 0)), (q_5, .inl (cA 2, 4, .inr (.inr (.inr (.inr (va_up (va_up (va_up (va_up (fun _ => none) 0 (some q_6)) 1 (some q_8)) 2 (some q_10)) 3 (some q_12))))))), (q_6, .inr (1, [.ref (u_7 1), .ref (u_7 6)])), ((u_7 1), .inr (2, [.int 0, .ref (u_7 2), .ref (u_7 3), .ref (u_7 4), .ref (u_7 5)])), ((u_7 2), .inl (cA 0, 64, .inl fun _ => 0)), ((u_7 3), .inl (cA 1, 64, .inr (.inl fun _ => 0))), ((u_7 4), .inl (cA 1, 64, .inr (.inl fun _ => 0))), ((u_7 5), .inl (cA 0, 64, .inl fun _ => 0)), ((u_7 6), .inr (2, [.int 0, .ref (u_7 7), .ref (u_7 8), .ref (u_7 9), .ref (u_7 10)])), ((u_7 7), .inl (cA 0, 64, .inl fun _ => 0)), ((u_7 8), .inl (cA 1, 64, .inr (.inl fun _ => 0))), ((u_7 9), .inl (cA 1, 64, .inr (.inl fun _ => 0))), ((u_7 10), .inl (cA 0, 64, .inl fun _ => 0)), (q_8, .inr (1, [.ref (u_9 1), .ref (u_9 6)])), ((u_9 1), .inr (2, [.int 0, .ref (u_9 2), .ref (u_9 3), .ref (u_9 4), .ref (u_9 5)])), ((u_9 2), .inl (cA 0, 64, .inl fun _ => 0)), ((u_9 3), .inl (cA 1, 64, .inr (.inl fun _ => 0))), ((u_9 4), .inl (cA 1, 64, .inr (.inl fun _ => 0))), ((u_9 5), .inl (cA 0, 64, .inl fun _ => 0)), ((u_9 6), .inr (2, [.int 0, .ref (u_9 7), .ref (u_9 8), .ref (u_9 9), .ref (u_9 10)])), ((u_9 7), .inl (cA 0, 64, .inl fun _ => 0)), ((u_9 8), .inl (cA 1, 64, .inr (.inl fun _ => 0))), ((u_9 9), .inl (cA 1, 64, .inr (.inl fun _ => 0))), ((u_9 10), .inl (cA 0, 64, .inl fun _ => 0)), (q_10, .inr (1, [.ref (u_11 1), .ref (u_11 6)])), ((u_11 1), .inr (2, [.int 0, .ref (u_11 2), .ref (u_11 3), .ref (u_11 4), .ref (u_11 5)])), ((u_11 2), .inl (cA 0, 64, .inl fun _ => 0)), ((u_11 3), .inl (cA 1, 64, .inr (.inl fun _ => 0))), ((u_11 4), .inl (cA 1, 64, .inr (.inl fun _ => 0))), ((u_11 5), .inl (cA 0, 64, .inl fun _ => 0)), ((u_11 6), .inr (2, [.int 0, .ref (u_11 7), .ref (u_11 8), .ref (u_11 9), .ref (u_11 10)])), ((u_11 7), .inl (cA 0, 64, .inl fun _ => 0)), ((u_11 8), .inl (cA 1, 64, .inr (.inl fun _ => 0))), ((u_11 9), .inl (cA 1, 64, .inr (.inl fun _ => 0))), ((u_11 10), .inl (cA 0, 64, .inl fun _ => 0)), (q_12, .inr (1, [.ref (u_13 1), .ref (u_13 6)])), ((u_13 1), .inr (2, [.int 0, .ref (u_13 2), .ref (u_13 3), .ref (u_13 4), .ref (u_13 5)])), ((u_13 2), .inl (cA 0, 64, .inl fun _ => 0)), ((u_13 3), .inl (cA 1, 64, .inr (.inl fun _ => 0))), ((u_13 4), .inl (cA 1, 64, .inr (.inl fun _ => 0))), ((u_13 5), .inl (cA 0, 64, .inl fun _ => 0)), ((u_13 6), .inr (2, [.int 0, .ref (u_13 7), .ref (u_13 8), .ref (u_13 9), .ref (u_13 10)])), ((u_13 7), .inl (cA 0, 64, .inl fun _ => 0)), ((u_13 8), .inl (cA 1, 64, .inr (.inl fun _ => 0))), ((u_13 9), .inl (cA 1, 64, .inr (.inl fun _ => 0))), ((u_13 10), .inl (cA 0, 64, .inl fun _ => 0)), (q_14, .inr (1, [.null, .null]))] := hD
  refine W.widen (k := 51) (n := 2202) (Nat.le_of_ble_eq_true rfl) (Nat.le_of_ble_eq_true rfl) ?_
  refine lv_dup hx hb (zd DX7_init 36 rfl) rfl ?_
  have hPc := hP.sub (ws' := [(q_14, .inr (1, [.null, .null]))]) [51] rfl
  have hDc := hD.sub (ws' := [(q_14, .inr (1, [.null, .null]))]) [51] (by decide) rfl
  have hFc := va_free (wc := [(q_14, .inr (1, [.null, .null]))]) hD hS hA [51] rfl
  refine va_callv (va_runIN (host := "EndSums") (As := []) (rest := [.ref q_14, .ref h0]) ⟨hx, hb, hml, hown, hts⟩ (nX1_init l D cA q_14 H.size) ⟨va_cnB 0 hts (zTb_goodIn fun w hw => (List.mem_cons.mp hw).elim (fun z => z ▸ wkc_95) id) rfl rfl rfl (hNs _ wnc_93 rfl) (hts _ wkc_5) ⟨by decide, by decide, by decide +kernel⟩ ⟨Nat.le_of_ble_eq_true rfl, Nat.le_of_ble_eq_true rfl⟩, rfl, (hts _ wkc_94)⟩ ⟨zCp_blind, fun U hU hW => ⟨rfl, by rw [hU], by rw [hU]; exact hPc, va_K.moved hW.alike hK, hDc.weaken (fun _ _ _ _ => trivial), zNs_warm hW hNs, va_AO.moved hW.alike hAO⟩⟩ rfl rfl hl.1 rfl (lv_room (Nat.le_of_ble_eq_true rfl)) (zd DX7_init 37 rfl) ⟨Nat.le_of_ble_eq_true rfl, Nat.le_of_ble_eq_true rfl⟩) hS (fun q _ h => hFc q h) hFc (fun u_15 t H1 locs ht hvm hw hB hz1 hk1 hS => ?_)
  obtain ⟨hP1, hD1⟩ := hB
  rw [ht] at hP1
  obtain ⟨hP, hD⟩ := va_join (wr := [(h0, .inr (7, [.ref q_1, .ref q_3, .ref q_5, .null, .null, .null, .null, .null, .int 0, .null, .null])), (q_1, .inr (0, [.int 0, .ref (u_2 1), .long 0, .long 0])), ((u_2 1), .inr (3, [.int 1, .int 0, .ref (u_2 2)])), ((u_2 2), .inl (cA 0, 25, .inl fun _ => 0)), (q_3, .inr (6, [.ref q_1, .int 0, .int 0, .ref (u_4 1)])), ((u_4 1), .inl (cA 0, 64, .inl fun _ => 0)), (q_5, .inl (cA 2, 4, .inr (.inr (.inr (.inr (va_up (va_up (va_up (va_up (fun _ => none) 0 (some q_6)) 1 (some q_8)) 2 (some q_10)) 3 (some q_12))))))), (q_6, .inr (1, [.ref (u_7 1), .ref (u_7 6)])), ((u_7 1), .inr (2, [.int 0, .ref (u_7 2), .ref (u_7 3), .ref (u_7 4), .ref (u_7 5)])), ((u_7 2), .inl (cA 0, 64, .inl fun _ => 0)), ((u_7 3), .inl (cA 1, 64, .inr (.inl fun _ => 0))), ((u_7 4), .inl (cA 1, 64, .inr (.inl fun _ => 0))), ((u_7 5), .inl (cA 0, 64, .inl fun _ => 0)), ((u_7 6), .inr (2, [.int 0, .ref (u_7 7), .ref (u_7 8), .ref (u_7 9), .ref (u_7 10)])), ((u_7 7), .inl (cA 0, 64, .inl fun _ => 0)), ((u_7 8), .inl (cA 1, 64, .inr (.inl fun _ => 0))), ((u_7 9), .inl (cA 1, 64, .inr (.inl fun _ => 0))), ((u_7 10), .inl (cA 0, 64, .inl fun _ => 0)), (q_8, .inr (1, [.ref (u_9 1), .ref (u_9 6)])), ((u_9 1), .inr (2, [.int 0, .ref (u_9 2), .ref (u_9 3), .ref (u_9 4), .ref (u_9 5)])), ((u_9 2), .inl (cA 0, 64, .inl fun _ => 0)), ((u_9 3), .inl (cA 1, 64, .inr (.inl fun _ => 0))), ((u_9 4), .inl (cA 1, 64, .inr (.inl fun _ => 0))), ((u_9 5), .inl (cA 0, 64, .inl fun _ => 0)), ((u_9 6), .inr (2, [.int 0, .ref (u_9 7), .ref (u_9 8), .ref (u_9 9), .ref (u_9 10)])), ((u_9 7), .inl (cA 0, 64, .inl fun _ => 0)), ((u_9 8), .inl (cA 1, 64, .inr (.inl fun _ => 0))), ((u_9 9), .inl (cA 1, 64, .inr (.inl fun _ => 0))), ((u_9 10), .inl (cA 0, 64, .inl fun _ => 0)), (q_10, .inr (1, [.ref (u_11 1), .ref (u_11 6)])), ((u_11 1), .inr (2, [.int 0, .ref (u_11 2), .ref (u_11 3), .ref (u_11 4), .ref (u_11 5)])), ((u_11 2), .inl (cA 0, 64, .inl fun _ => 0)), ((u_11 3), .inl (cA 1, 64, .inr (.inl fun _ => 0))), ((u_11 4), .inl (cA 1, 64, .inr (.inl fun _ => 0))), ((u_11 5), .inl (cA 0, 64, .inl fun _ => 0)), ((u_11 6), .inr (2, [.int 0, .ref (u_11 7), .ref (u_11 8), .ref (u_11 9), .ref (u_11 10)])), ((u_11 7), .inl (cA 0, 64, .inl fun _ => 0)), ((u_11 8), .inl (cA 1, 64, .inr (.inl fun _ => 0))), ((u_11 9), .inl (cA 1, 64, .inr (.inl fun _ => 0))), ((u_11 10), .inl (cA 0, 64, .inl fun _ => 0)), (q_12, .inr (1, [.ref (u_13 1), .ref (u_13 6)])), ((u_13 1), .inr (2, [.int 0, .ref (u_13 2), .ref (u_13 3), .ref (u_13 4), .ref (u_13 5)])), ((u_13 2), .inl (cA 0, 64, .inl fun _ => 0)), ((u_13 3), .inl (cA 1, 64, .inr (.inl fun _ => 0))), ((u_13 4), .inl (cA 1, 64, .inr (.inl fun _ => 0))), ((u_13 5), .inl (cA 0, 64, .inl fun _ => 0)), ((u_13 6), .inr (2, [.int 0, .ref (u_13 7), .ref (u_13 8), .ref (u_13 9), .ref (u_13 10)])), ((u_13 7), .inl (cA 0, 64, .inl fun _ => 0)), ((u_13 8), .inl (cA 1, 64, .inr (.inl fun _ => 0))), ((u_13 9), .inl (cA 1, 64, .inr (.inl fun _ => 0))), ((u_13 10), .inl (cA 0, 64, .inl fun _ => 0))]) (w1 := [(q_14, .inr (1, [.ref (u_15 1), .ref (u_15 6)])), ((u_15 1), .inr (2, [.int 0, .ref (u_15 2), .ref (u_15 3), .ref (u_15 4), .ref (u_15 5)])), ((u_15 2), .inl (cA 0, 64, .inl fun _ => 0)), ((u_15 3), .inl (cA 1, 64, .inr (.inl fun _ => 0))), ((u_15 4), .inl (cA 1, 64, .inr (.inl fun _ => 0))), ((u_15 5), .inl (cA 0, 64, .inl fun _ => 0)), ((u_15 6), .inr (2, [.int 0, .ref (u_15 7), .ref (u_15 8), .ref (u_15 9), .ref (u_15 10)])), ((u_15 7), .inl (cA 0, 64, .inl fun _ => 0)), ((u_15 8), .inl (cA 1, 64, .inr (.inl fun _ => 0))), ((u_15 9), .inl (cA 1, 64, .inr (.inl fun _ => 0))), ((u_15 10), .inl (cA 0, 64, .inl fun _ => 0))]) hP hD [51] [0, 1, 2, 3, 4, 5, 6, 7, 8, 9, 10, 11, 12, 13, 14, 15, 16, 17, 18, 19, 20, 21, 22, 23, 24, 25, 26, 27, 28, 29, 30, 31, 32, 33, 34, 35, 36, 37, 38, 39, 40, 41, 42, 43, 44, 45, 46, 47, 48, 49, 50] rfl rfl (by decide) (by decide) hk1 hFc hP1 hD1
  generalize H1 = H at hP hS ⊢
  have hP : va_P D vwCl [(h0, .inr (7, [.ref q_1, .ref q_3, .ref q_5, .null, .null, .null, .null, .null, .int 0, .null, .null])), (q_1, .inr (0, [.int 0, .ref (u_2 1), .long 0, .long 0])), ((u_2 1), .inr (3, [.int 1, .int 0, .ref (u_2 2)])), ((u_2 2), .inl (cA 0, 25, .inl fun _ => 0)), (q_3, .inr (6, [.ref q_1, .int 0, .int 0, .ref (u_4 1)])), ((u_4 1), .inl (cA 0, 64, .inl fun _ => 0)), (q_5, .inl (cA 2, 4, .inr (.inr (.inr (.inr (va_up (va_up (va_up (va_up (fun _ => none) 0 (some q_6)) 1 (some q_8)) 2 (some q_10)) 3 (some q_12))))))), (q_6, .inr (1, [.ref (u_7 1), .ref (u_7 6)])), ((u_7 1), .inr (2, [.int 0, .ref (u_7 2), .ref (u_7 3), .ref (u_7 4), .ref (u_7 5)])), ((u_7 2), .inl (cA 0, 64, .inl fun _ => 0)), ((u_7 3), .inl (cA 1, 64, .inr (.inl fun _ => 0))), ((u_7 4), .inl (cA 1, 64, .inr (.inl fun _ => 0))), ((u_7 5), .inl (cA 0, 64, .inl fun _ => 0)), ((u_7 6), .inr (2, [.int 0, .ref (u_7 7), .ref (u_7 8), .ref (u_7 9), .ref (u_7 10)])), ((u_7 7), .inl (cA 0, 64, .inl fun _ => 0)), ((u_7 8), .inl (cA 1, 64, .inr (.inl fun _ => 0))), ((u_7 9), .inl (cA 1, 64, .inr (.inl fun _ => 0))), ((u_7 10), .inl (cA 0, 64, .inl fun _ => 0)), (q_8, .inr (1, [.ref (u_9 1), .ref (u_9 6)])), ((u_9 1), .inr (2, [.int 0, .ref (u_9 2), .ref (u_9 3), .ref (u_9 4), .ref (u_9 5)])), ((u_9 2), .inl (cA 0, 64, .inl fun _ => 0)), ((u_9 3), .inl (cA 1, 64, .inr (.inl fun _ => 0))), ((u_9 4), .inl (cA 1, 64, .inr (.inl fun _ => 0))), ((u_9 5), .inl (cA 0, 64, .inl fun _ => 0)), ((u_9 6), .inr (2, [.int 0, .ref (u_9 7), .ref (u_9 8), .ref (u_9 9), .ref (u_9 10)])), ((u_9 7), .inl (cA 0, 64, .inl fun _ => 0)), ((u_9 8), .inl (cA 1, 64, .inr (.inl fun _ => 0))), ((u_9 9), .inl (cA 1, 64, .inr (.inl fun _ => 0))), ((u_9 10), .inl (cA 0, 64, .inl fun _ => 0)), (q_10, .inr (1, [.ref (u_11 1), .ref (u_11 6)])), ((u_11 1), .inr (2, [.int 0, .ref (u_11 2), .ref (u_11 3), .ref (u_11 4), .ref (u_11 5)])), ((u_11 2), .inl (cA 0, 64, .inl fun _ => 0)), ((u_11 3), .inl (cA 1, 64, .inr (.inl fun _ => 0))), ((u_11 4), .inl (cA 1, 64, .inr (.inl fun _ => 0))), ((u_11 5), .inl (cA 0, 64, .inl fun _ => 0)), ((u_11 6), .inr (2, [.int 0, .ref (u_11 7), .ref (u_11 8), .ref (u_11 9), .ref (u_11 10)])), ((u_11 7), .inl (cA 0, 64, .inl fun _ => 0)), ((u_11 8), .inl (cA 1, 64, .inr (.inl fun _ => 0))), ((u_11 9), .inl (cA 1, 64, .inr (.inl fun _ => 0))), ((u_11 10), .inl (cA 0, 64, .inl fun _ => 0)), (q_12, .inr (1, [.ref (u_13 1), .ref (u_13 6)])), ((u_13 1), .inr (2, [.int 0, .ref (u_13 2), .ref (u_13 3), .ref (u_13 4), .ref (u_13 5)])), ((u_13 2), .inl (cA 0, 64, .inl fun _ => 0)), ((u_13 3), .inl (cA 1, 64, .inr (.inl fun _ => 0))), ((u_13 4), .inl (cA 1, 64, .inr (.inl fun _ => 0))), ((u_13 5), .inl (cA 0, 64, .inl fun _ => 0)), ((u_13 6), .inr (2, [.int 0, .ref (u_13 7), .ref (u_13 8), .ref (u_13 9), .ref (u_13 10)])), ((u_13 7), .inl (cA 0, 64, .inl fun _ => 0)), ((u_13 8), .inl (cA 1, 64, .inr (.inl fun _ => 0))), ((u_13 9), .inl (cA 1, 64, .inr (.inl fun _ => 0))), ((u_13 10), .inl (cA 0, 64, .inl fun _ => 0)), (q_14, .inr (1, [.ref (u_15 1), .ref (u_15 6)])), ((u_15 1), .inr (2, [.int 0, .ref (u_15 2), .ref (u_15 3), .ref (u_15 4), .ref (u_15 5)])), ((u_15 2), .inl (cA 0, 64, .inl fun _ => 0)), ((u_15 3), .inl (cA 1, 64, .inr (.inl fun _ => 0))), ((u_15 4), .inl (cA 1, 64, .inr (.inl fun _ => 0))), ((u_15 5), .inl (cA 0, 64, .inl fun _ => 0)), ((u_15 6), .inr (2, [.int 0, .ref (u_15 7), .ref (u_15 8), .ref (u_15 9), .ref (u_15 10)])), ((u_15 7), .inl (cA 0, 64, .inl fun _ => 0)), ((u_15 8), .inl (cA 1, 64, .inr (.inl fun _ => 0))), ((u_15 9), .inl (cA 1, 64, .inr (.inl fun _ => 0))), ((u_15 10), .inl (cA 0, 64, .inl fun _ => 0))] H := hP
  have hD : va_D A [(h0, .inr (7, [.ref q_1, .ref q_3, .ref q_5, .null, .null, .null, .null, .null, .int 0, .null, .null])), (q_1, .inr (0, [.int 0, .ref (u_2 1), .long 0, .long 0])), ((u_2 1), .inr (3, [.int 1, .int 0, .ref (u_2 2)])), ((u_2 2), .inl (cA 0, 25, .inl fun _ => 0)), (q_3, .inr (6, [.ref q_1, .int 0, .int 0, .ref (u_4 1)])), ((u_4 1), .inl (cA 0, 64, .inl fun _ => 0)), (q_5, .inl (cA 2, 4, .inr (.inr (.inr (.inr (va_up (va_up (va_up (va_up (fun _ => none) 0 (some q_6)) 1 (some q_8)) 2 (some q_10)) 3 (some q_12))))))), (q_6, .inr (1, [.ref (u_7 1), .ref (u_7 6)])), ((u_7 1), .inr (2, [.int 0, .ref (u_7 2), .ref (u_7 3), .ref (u_7 4), .ref (u_7 5)])), ((u_7 2), .inl (cA 0, 64, .inl fun _ => 0)), ((u_7 3), .inl (cA 1, 64, .inr (.inl fun _ => 0))), ((u_7 4), .inl (cA 1, 64, .inr (.inl fun _ => 0))), ((u_7 5), .inl (cA 0, 64, .inl fun _ => 0)), ((u_7 6), .inr (2, [.int 0, .ref (u_7 7), .ref (u_7 8), .ref (u_7 9), .ref (u_7 10)])), ((u_7 7), .inl (cA 0, 64, .inl fun _ => 0)), ((u_7 8), .inl (cA 1, 64, .inr (.inl fun _ => 0))), ((u_7 9), .inl (cA 1, 64, .inr (.inl fun _ => 0))), ((u_7 10), .inl (cA 0, 64, .inl fun _ => 0)), (q_8, .inr (1, [.ref (u_9 1), .ref (u_9 6)])), ((u_9 1), .inr (2, [.int 0, .ref (u_9 2), .ref (u_9 3), .ref (u_9 4), .ref (u_9 5)])), ((u_9 2), .inl (cA 0, 64, .inl fun _ => 0)), ((u_9 3), .inl (cA 1, 64, .inr (.inl fun _ => 0))), ((u_9 4), .inl (cA 1, 64, .inr (.inl fun _ => 0))), ((u_9 5), .inl (cA 0, 64, .inl fun _ => 0)), ((u_9 6), .inr (2, [.int 0, .ref (u_9 7), .ref (u_9 8), .ref (u_9 9), .ref (u_9 10)])), ((u_9 7), .inl (cA 0, 64, .inl fun _ => 0)), ((u_9 8), .inl (cA 1, 64, .inr (.inl fun _ => 0))), ((u_9 9), .inl (cA 1, 64, .inr (.inl fun _ => 0))), ((u_9 10), .inl (cA 0, 64, .inl fun _ => 0)), (q_10, .inr (1, [.ref (u_11 1), .ref (u_11 6)])), ((u_11 1), .inr (2, [.int 0, .ref (u_11 2), .ref (u_11 3), .ref (u_11 4), .ref (u_11 5)])), ((u_11 2), .inl (cA 0, 64, .inl fun _ => 0)), ((u_11 3), .inl (cA 1, 64, .inr (.inl fun _ => 0))), ((u_11 4), .inl (cA 1, 64, .inr (.inl fun _ => 0))), ((u_11 5), .inl (cA 0, 64, .inl fun _ => 0)), ((u_11 6), .inr (2, [.int 0, .ref (u_11 7), .ref (u_11 8), .ref (u_11 9), .ref (u_11 10)])), ((u_11 7), .inl (cA 0, 64, .inl fun _ => 0)), ((u_11 8), .inl (cA 1, 64, .inr (.inl fun _ => 0))), ((u_11 9), .inl (cA 1, 64, .inr (.inl fun _ => 0))), ((u_11 10), .inl (cA 0, 64, .inl fun _ => 0)), (q_12, .inr (1, [.ref (u_13 1), .ref (u_13 6)])), ((u_13 1), .inr (2, [.int 0, .ref (u_13 2), .ref (u_13 3), .ref (u_13 4), .ref (u_13 5)])), ((u_13 2), .inl (cA 0, 64, .inl fun _ => 0)), ((u_13 3), .inl (cA 1, 64, .inr (.inl fun _ => 0))), ((u_13 4), .inl (cA 1, 64, .inr (.inl fun _ => 0))), ((u_13 5), .inl (cA 0, 64, .inl fun _ => 0)), ((u_13 6), .inr (2, [.int 0, .ref (u_13 7), .ref (u_13 8), .ref (u_13 9), .ref (u_13 10)])), ((u_13 7), .inl (cA 0, 64, .inl fun _ => 0)), ((u_13 8), .inl (cA 1, 64, .inr (.inl fun _ => 0))), ((u_13 9), .inl (cA 1, 64, .inr (.inl fun _ => 0))), ((u_13 10), .inl (cA 0, 64, .inl fun _ => 0)), (q_14, .inr (1, [.ref (u_15 1), .ref (u_15 6)])), ((u_15 1), .inr (2, [.int 0, .ref (u_15 2), .ref (u_15 3), .ref (u_15 4), .ref (u_15 5)])), ((u_15 2), .inl (cA 0, 64, .inl fun _ => 0)), ((u_15 3), .inl (cA 1, 64, .inr (.inl fun _ => 0))), ((u_15 4), .inl (cA 1, 64, .inr (.inl fun _ => 0))), ((u_15 5), .inl (cA 0, 64, .inl fun _ => 0)), ((u_15 6), .inr (2, [.int 0, .ref (u_15 7), .ref (u_15 8), .ref (u_15 9), .ref (u_15 10)])), ((u_15 7), .inl (cA 0, 64, .inl fun _ => 0)), ((u_15 8), .inl (cA 1, 64, .inr (.inl fun _ => 0))), ((u_15 9), .inl (cA 1, 64, .inr (.inl fun _ => 0))), ((u_15 10), .inl (cA 0, 64, .inl fun _ => 0))] := hD
  refine W.widen (k := 61) (n := 2724) (Nat.le_of_ble_eq_true rfl) (Nat.le_of_ble_eq_true rfl) ?_
  refine va_putF (D := D) (ci := 7) (v := .ref q_14) (ty := .object "EndSums$Line") (C := RX7) (T := TX7) (N := 11) hx hb hts kz7.2.1 tyX7 tyX7_ok nmX7 hown hK hP hD hS 0 rfl rfl 3 (by decide) (hts _ wkc_187) (fun _ h9 => h9) rfl hin rfl (by decide +kernel) rfl rfl (Nat.le_of_ble_eq_true rfl) (zd DX7_init 38 rfl) (fun H locs hP hD hS => ?_)
  have hP : va_P D vwCl [(h0, .inr (7, [.ref q_1, .ref q_3, .ref q_5, .ref q_14, .null, .null, .null, .null, .int 0, .null, .null])), (q_1, .inr (0, [.int 0, .ref (u_2 1), .long 0, .long 0])), ((u_2 1), .inr (3, [.int 1, .int 0, .ref (u_2 2)])), ((u_2 2), .inl (cA 0, 25, .inl fun _ => 0)), (q_3, .inr (6, [.ref q_1, .int 0, .int 0, .ref (u_4 1)])), ((u_4 1), .inl (cA 0, 64, .inl fun _ => 0)), (q_5, .inl (cA 2, 4, .inr (.inr (.inr (.inr (va_up (va_up (va_up (va_up (fun _ => none) 0 (some q_6)) 1 (some q_8)) 2 (some q_10)) 3 (some q_12))))))), (q_6, .inr (1, [.ref (u_7 1), .ref (u_7 6)])), ((u_7 1), .inr (2, [.int 0, .ref (u_7 2), .ref (u_7 3), .ref (u_7 4), .ref (u_7 5)])), ((u_7 2), .inl (cA 0, 64, .inl fun _ => 0)), ((u_7 3), .inl (cA 1, 64, .inr (.inl fun _ => 0))), ((u_7 4), .inl (cA 1, 64, .inr (.inl fun _ => 0))), ((u_7 5), .inl (cA 0, 64, .inl fun _ => 0)), ((u_7 6), .inr (2, [.int 0, .ref (u_7 7), .ref (u_7 8), .ref (u_7 9), .ref (u_7 10)])), ((u_7 7), .inl (cA 0, 64, .inl fun _ => 0)), ((u_7 8), .inl (cA 1, 64, .inr (.inl fun _ => 0))), ((u_7 9), .inl (cA 1, 64, .inr (.inl fun _ => 0))), ((u_7 10), .inl (cA 0, 64, .inl fun _ => 0)), (q_8, .inr (1, [.ref (u_9 1), .ref (u_9 6)])), ((u_9 1), .inr (2, [.int 0, .ref (u_9 2), .ref (u_9 3), .ref (u_9 4), .ref (u_9 5)])), ((u_9 2), .inl (cA 0, 64, .inl fun _ => 0)), ((u_9 3), .inl (cA 1, 64, .inr (.inl fun _ => 0))), ((u_9 4), .inl (cA 1, 64, .inr (.inl fun _ => 0))), ((u_9 5), .inl (cA 0, 64, .inl fun _ => 0)), ((u_9 6), .inr (2, [.int 0, .ref (u_9 7), .ref (u_9 8), .ref (u_9 9), .ref (u_9 10)])), ((u_9 7), .inl (cA 0, 64, .inl fun _ => 0)), ((u_9 8), .inl (cA 1, 64, .inr (.inl fun _ => 0))), ((u_9 9), .inl (cA 1, 64, .inr (.inl fun _ => 0))), ((u_9 10), .inl (cA 0, 64, .inl fun _ => 0)), (q_10, .inr (1, [.ref (u_11 1), .ref (u_11 6)])), ((u_11 1), .inr (2, [.int 0, .ref (u_11 2), .ref (u_11 3), .ref (u_11 4), .ref (u_11 5)])), ((u_11 2), .inl (cA 0, 64, .inl fun _ => 0)), ((u_11 3), .inl (cA 1, 64, .inr (.inl fun _ => 0))), ((u_11 4), .inl (cA 1, 64, .inr (.inl fun _ => 0))), ((u_11 5), .inl (cA 0, 64, .inl fun _ => 0)), ((u_11 6), .inr (2, [.int 0, .ref (u_11 7), .ref (u_11 8), .ref (u_11 9), .ref (u_11 10)])), ((u_11 7), .inl (cA 0, 64, .inl fun _ => 0)), ((u_11 8), .inl (cA 1, 64, .inr (.inl fun _ => 0))), ((u_11 9), .inl (cA 1, 64, .inr (.inl fun _ => 0))), ((u_11 10), .inl (cA 0, 64, .inl fun _ => 0)), (q_12, .inr (1, [.ref (u_13 1), .ref (u_13 6)])), ((u_13 1), .inr (2, [.int 0, .ref (u_13 2), .ref (u_13 3), .ref (u_13 4), .ref (u_13 5)])), ((u_13 2), .inl (cA 0, 64, .inl fun _ => 0)), ((u_13 3), .inl (cA 1, 64, .inr (.inl fun _ => 0))), ((u_13 4), .inl (cA 1, 64, .inr (.inl fun _ => 0))), ((u_13 5), .inl (cA 0, 64, .inl fun _ => 0)), ((u_13 6), .inr (2, [.int 0, .ref (u_13 7), .ref (u_13 8), .ref (u_13 9), .ref (u_13 10)])), ((u_13 7), .inl (cA 0, 64, .inl fun _ => 0)), ((u_13 8), .inl (cA 1, 64, .inr (.inl fun _ => 0))), ((u_13 9), .inl (cA 1, 64, .inr (.inl fun _ => 0))), ((u_13 10), .inl (cA 0, 64, .inl fun _ => 0)), (q_14, .inr (1, [.ref (u_15 1), .ref (u_15 6)])), ((u_15 1), .inr (2, [.int 0, .ref (u_15 2), .ref (u_15 3), .ref (u_15 4), .ref (u_15 5)])), ((u_15 2), .inl (cA 0, 64, .inl fun _ => 0)), ((u_15 3), .inl (cA 1, 64, .inr (.inl fun _ => 0))), ((u_15 4), .inl (cA 1, 64, .inr (.inl fun _ => 0))), ((u_15 5), .inl (cA 0, 64, .inl fun _ => 0)), ((u_15 6), .inr (2, [.int 0, .ref (u_15 7), .ref (u_15 8), .ref (u_15 9), .ref (u_15 10)])), ((u_15 7), .inl (cA 0, 64, .inl fun _ => 0)), ((u_15 8), .inl (cA 1, 64, .inr (.inl fun _ => 0))), ((u_15 9), .inl (cA 1, 64, .inr (.inl fun _ => 0))), ((u_15 10), .inl (cA 0, 64, .inl fun _ => 0))] H := hP
  have hD : va_D A [(h0, .inr (7, [.ref q_1, .ref q_3, .ref q_5, .ref q_14, .null, .null, .null, .null, .int 0, .null, .null])), (q_1, .inr (0, [.int 0, .ref (u_2 1), .long 0, .long 0])), ((u_2 1), .inr (3, [.int 1, .int 0, .ref (u_2 2)])), ((u_2 2), .inl (cA 0, 25, .inl fun _ => 0)), (q_3, .inr (6, [.ref q_1, .int 0, .int 0, .ref (u_4 1)])), ((u_4 1), .inl (cA 0, 64, .inl fun _ => 0)), (q_5, .inl (cA 2, 4, .inr (.inr (.inr (.inr (va_up (va_up (va_up (va_up (fun _ => none) 0 (some q_6)) 1 (some q_8)) 2 (some q_10)) 3 (some q_12))))))), (q_6, .inr (1, [.ref (u_7 1), .ref (u_7 6)])), ((u_7 1), .inr (2, [.int 0, .ref (u_7 2), .ref (u_7 3), .ref (u_7 4), .ref (u_7 5)])), ((u_7 2), .inl (cA 0, 64, .inl fun _ => 0)), ((u_7 3), .inl (cA 1, 64, .inr (.inl fun _ => 0))), ((u_7 4), .inl (cA 1, 64, .inr (.inl fun _ => 0))), ((u_7 5), .inl (cA 0, 64, .inl fun _ => 0)), ((u_7 6), .inr (2, [.int 0, .ref (u_7 7), .ref (u_7 8), .ref (u_7 9), .ref (u_7 10)])), ((u_7 7), .inl (cA 0, 64, .inl fun _ => 0)), ((u_7 8), .inl (cA 1, 64, .inr (.inl fun _ => 0))), ((u_7 9), .inl (cA 1, 64, .inr (.inl fun _ => 0))), ((u_7 10), .inl (cA 0, 64, .inl fun _ => 0)), (q_8, .inr (1, [.ref (u_9 1), .ref (u_9 6)])), ((u_9 1), .inr (2, [.int 0, .ref (u_9 2), .ref (u_9 3), .ref (u_9 4), .ref (u_9 5)])), ((u_9 2), .inl (cA 0, 64, .inl fun _ => 0)), ((u_9 3), .inl (cA 1, 64, .inr (.inl fun _ => 0))), ((u_9 4), .inl (cA 1, 64, .inr (.inl fun _ => 0))), ((u_9 5), .inl (cA 0, 64, .inl fun _ => 0)), ((u_9 6), .inr (2, [.int 0, .ref (u_9 7), .ref (u_9 8), .ref (u_9 9), .ref (u_9 10)])), ((u_9 7), .inl (cA 0, 64, .inl fun _ => 0)), ((u_9 8), .inl (cA 1, 64, .inr (.inl fun _ => 0))), ((u_9 9), .inl (cA 1, 64, .inr (.inl fun _ => 0))), ((u_9 10), .inl (cA 0, 64, .inl fun _ => 0)), (q_10, .inr (1, [.ref (u_11 1), .ref (u_11 6)])), ((u_11 1), .inr (2, [.int 0, .ref (u_11 2), .ref (u_11 3), .ref (u_11 4), .ref (u_11 5)])), ((u_11 2), .inl (cA 0, 64, .inl fun _ => 0)), ((u_11 3), .inl (cA 1, 64, .inr (.inl fun _ => 0))), ((u_11 4), .inl (cA 1, 64, .inr (.inl fun _ => 0))), ((u_11 5), .inl (cA 0, 64, .inl fun _ => 0)), ((u_11 6), .inr (2, [.int 0, .ref (u_11 7), .ref (u_11 8), .ref (u_11 9), .ref (u_11 10)])), ((u_11 7), .inl (cA 0, 64, .inl fun _ => 0)), ((u_11 8), .inl (cA 1, 64, .inr (.inl fun _ => 0))), ((u_11 9), .inl (cA 1, 64, .inr (.inl fun _ => 0))), ((u_11 10), .inl (cA 0, 64, .inl fun _ => 0)), (q_12, .inr (1, [.ref (u_13 1), .ref (u_13 6)])), ((u_13 1), .inr (2, [.int 0, .ref (u_13 2), .ref (u_13 3), .ref (u_13 4), .ref (u_13 5)])), ((u_13 2), .inl (cA 0, 64, .inl fun _ => 0)), ((u_13 3), .inl (cA 1, 64, .inr (.inl fun _ => 0))), ((u_13 4), .inl (cA 1, 64, .inr (.inl fun _ => 0))), ((u_13 5), .inl (cA 0, 64, .inl fun _ => 0)), ((u_13 6), .inr (2, [.int 0, .ref (u_13 7), .ref (u_13 8), .ref (u_13 9), .ref (u_13 10)])), ((u_13 7), .inl (cA 0, 64, .inl fun _ => 0)), ((u_13 8), .inl (cA 1, 64, .inr (.inl fun _ => 0))), ((u_13 9), .inl (cA 1, 64, .inr (.inl fun _ => 0))), ((u_13 10), .inl (cA 0, 64, .inl fun _ => 0)), (q_14, .inr (1, [.ref (u_15 1), .ref (u_15 6)])), ((u_15 1), .inr (2, [.int 0, .ref (u_15 2), .ref (u_15 3), .ref (u_15 4), .ref (u_15 5)])), ((u_15 2), .inl (cA 0, 64, .inl fun _ => 0)), ((u_15 3), .inl (cA 1, 64, .inr (.inl fun _ => 0))), ((u_15 4), .inl (cA 1, 64, .inr (.inl fun _ => 0))), ((u_15 5), .inl (cA 0, 64, .inl fun _ => 0)), ((u_15 6), .inr (2, [.int 0, .ref (u_15 7), .ref (u_15 8), .ref (u_15 9), .ref (u_15 10)])), ((u_15 7), .inl (cA 0, 64, .inl fun _ => 0)), ((u_15 8), .inl (cA 1, 64, .inr (.inl fun _ => 0))), ((u_15 9), .inl (cA 1, 64, .inr (.inl fun _ => 0))), ((u_15 10), .inl (cA 0, 64, .inl fun _ => 0))] := hD
  refine lv_aload_n hx hb (zd DX7_init 39 rfl) rfl (lv_at hl 1 rfl) ?_
  refine va_new (ci := 3) (fs := [.int 0, .int 0, .null]) (C := RX3) (T := TX3) (N := 3) hx hb hts kz3.2.1 tyX3 tyX3_ok hown (hts _ wkc_141) (hts _ wkc_30) (hts _ wkc_3) hK hP hD hS hA rfl (by decide +kernel) (Nat.le_of_ble_eq_true rfl) (Nat.le_of_ble_eq_true rfl) (zd DX7_init 40 rfl) (fun q_16 H hP hD hS => ?_)
  have hP : va_P D vwCl [(h0, .inr (7, [.ref q_1, .ref q_3, .ref q_5, .ref q_14, .null, .null, .null, .null, .int 0, .null, .null])), (q_1, .inr (0, [.int 0, .ref (u_2 1), .long 0, .long 0])), ((u_2 1), .inr (3, [.int 1, .int 0, .ref (u_2 2)])), ((u_2 2), .inl (cA 0, 25, .inl fun _ => 0)), (q_3, .inr (6, [.ref q_1, .int 0, .int 0, .ref (u_4 1)])), ((u_4 1), .inl (cA 0, 64, .inl fun _ => 0)), (q_5, .inl (cA 2, 4, .inr (.inr (.inr (.inr (va_up (va_up (va_up (va_up (fun _ => none) 0 (some q_6)) 1 (some q_8)) 2 (some q_10)) 3 (some q_12))))))), (q_6, .inr (1, [.ref (u_7 1), .ref (u_7 6)])), ((u_7 1), .inr (2, [.int 0, .ref (u_7 2), .ref (u_7 3), .ref (u_7 4), .ref (u_7 5)])), ((u_7 2), .inl (cA 0, 64, .inl fun _ => 0)), ((u_7 3), .inl (cA 1, 64, .inr (.inl fun _ => 0))), ((u_7 4), .inl (cA 1, 64, .inr (.inl fun _ => 0))), ((u_7 5), .inl (cA 0, 64, .inl fun _ => 0)), ((u_7 6), .inr (2, [.int 0, .ref (u_7 7), .ref (u_7 8), .ref (u_7 9), .ref (u_7 10)])), ((u_7 7), .inl (cA 0, 64, .inl fun _ => 0)), ((u_7 8), .inl (cA 1, 64, .inr (.inl fun _ => 0))), ((u_7 9), .inl (cA 1, 64, .inr (.inl fun _ => 0))), ((u_7 10), .inl (cA 0, 64, .inl fun _ => 0)), (q_8, .inr (1, [.ref (u_9 1), .ref (u_9 6)])), ((u_9 1), .inr (2, [.int 0, .ref (u_9 2), .ref (u_9 3), .ref (u_9 4), .ref (u_9 5)])), ((u_9 2), .inl (cA 0, 64, .inl fun _ => 0)), ((u_9 3), .inl (cA 1, 64, .inr (.inl fun _ => 0))), ((u_9 4), .inl (cA 1, 64, .inr (.inl fun _ => 0))), ((u_9 5), .inl (cA 0, 64, .inl fun _ => 0)), ((u_9 6), .inr (2, [.int 0, .ref (u_9 7), .ref (u_9 8), .ref (u_9 9), .ref (u_9 10)])), ((u_9 7), .inl (cA 0, 64, .inl fun _ => 0)), ((u_9 8), .inl (cA 1, 64, .inr (.inl fun _ => 0))), ((u_9 9), .inl (cA 1, 64, .inr (.inl fun _ => 0))), ((u_9 10), .inl (cA 0, 64, .inl fun _ => 0)), (q_10, .inr (1, [.ref (u_11 1), .ref (u_11 6)])), ((u_11 1), .inr (2, [.int 0, .ref (u_11 2), .ref (u_11 3), .ref (u_11 4), .ref (u_11 5)])), ((u_11 2), .inl (cA 0, 64, .inl fun _ => 0)), ((u_11 3), .inl (cA 1, 64, .inr (.inl fun _ => 0))), ((u_11 4), .inl (cA 1, 64, .inr (.inl fun _ => 0))), ((u_11 5), .inl (cA 0, 64, .inl fun _ => 0)), ((u_11 6), .inr (2, [.int 0, .ref (u_11 7), .ref (u_11 8), .ref (u_11 9), .ref (u_11 10)])), ((u_11 7), .inl (cA 0, 64, .inl fun _ => 0)), ((u_11 8), .inl (cA 1, 64, .inr (.inl fun _ => 0))), ((u_11 9), .inl (cA 1, 64, .inr (.inl fun _ => 0))), ((u_11 10), .inl (cA 0, 64, .inl fun _ => 0)), (q_12, .inr (1, [.ref (u_13 1), .ref (u_13 6)])), ((u_13 1), .inr (2, [.int 0, .ref (u_13 2), .ref (u_13 3), .ref (u_13 4), .ref (u_13 5)])), ((u_13 2), .inl (cA 0, 64, .inl fun _ => 0)), ((u_13 3), .inl (cA 1, 64, .inr (.inl fun _ => 0))), ((u_13 4), .inl (cA 1, 64, .inr (.inl fun _ => 0))), ((u_13 5), .inl (cA 0, 64, .inl fun _ => 0)), ((u_13 6), .inr (2, [.int 0, .ref (u_13 7), .ref (u_13 8), .ref (u_13 9), .ref (u_13 10)])), ((u_13 7), .inl (cA 0, 64, .inl fun _ => 0)), ((u_13 8), .inl (cA 1, 64, .inr (.inl fun _ => 0))), ((u_13 9), .inl (cA 1, 64, .inr (.inl fun _ => 0))), ((u_13 10), .inl (cA 0, 64, .inl fun _ => 0)), (q_14, .inr (1, [.ref (u_15 1), .ref (u_15 6)])), ((u_15 1), .inr (2, [.int 0, .ref (u_15 2), .ref (u_15 3), .ref (u_15 4), .ref (u_15 5)])), ((u_15 2), .inl (cA 0, 64, .inl fun _ => 0)), ((u_15 3), .inl (cA 1, 64, .inr (.inl fun _ => 0))), ((u_15 4), .inl (cA 1, 64, .inr (.inl fun _ => 0))), ((u_15 5), .inl (cA 0, 64, .inl fun _ => 0)), ((u_15 6), .inr (2, [.int 0, .ref (u_15 7), .ref (u_15 8), .ref (u_15 9), .ref (u_15 10)])), ((u_15 7), .inl (cA 0, 64, .inl fun _ => 0)), ((u_15 8), .inl (cA 1, 64, .inr (.inl fun _ => 0))), ((u_15 9), .inl (cA 1, 64, .inr (.inl fun _ => 0))), ((u_15 10), .inl (cA 0, 64, .inl fun _ => 0)), (q_16, .inr (3, [.int 0, .int 0, .null]))] H := hP
  have hD : va_D A [(h0, .inr (7, [.ref q_1, .ref q_3, .ref q_5, .ref q_14, .null, .null, .null, .null, .int 0, .null, .null])), (q_1, .inr (0, [.int 0, .ref (u_2 1), .long 0, .long 0])), ((u_2 1), .inr (3, [.int 1, .int 0, .ref (u_2 2)])), ((u_2 2), .inl (cA 0, 25, .inl fun _ => 0)), (q_3, .inr (6, [.ref q_1, .int 0, .int 0, .ref (u_4 1)])), ((u_4 1), .inl (cA 0, 64, .inl fun _ => 0)), (q_5, .inl (cA 2, 4, .inr (.inr (.inr (.inr (va_up (va_up (va_up (va_up (fun _ => none) 0 (some q_6)) 1 (some q_8)) 2 (some q_10)) 3 (some q_12))))))), (q_6, .inr (1, [.ref (u_7 1), .ref (u_7 6)])), ((u_7 1), .inr (2, [.int 0, .ref (u_7 2), .ref (u_7 3), .ref (u_7 4), .ref (u_7 5)])), ((u_7 2), .inl (cA 0, 64, .inl fun _ => 0)), ((u_7 3), .inl (cA 1, 64, .inr (.inl fun _ => 0))), ((u_7 4), .inl (cA 1, 64, .inr (.inl fun _ => 0))), ((u_7 5), .inl (cA 0, 64, .inl fun _ => 0)), ((u_7 6), .inr (2, [.int 0, .ref (u_7 7), .ref (u_7 8), .ref (u_7 9), .ref (u_7 10)])), ((u_7 7), .inl (cA 0, 64, .inl fun _ => 0)), ((u_7 8), .inl (cA 1, 64, .inr (.inl fun _ => 0))), ((u_7 9), .inl (cA 1, 64, .inr (.inl fun _ => 0))), ((u_7 10), .inl (cA 0, 64, .inl fun _ => 0)), (q_8, .inr (1, [.ref (u_9 1), .ref (u_9 6)])), ((u_9 1), .inr (2, [.int 0, .ref (u_9 2), .ref (u_9 3), .ref (u_9 4), .ref (u_9 5)])), ((u_9 2), .inl (cA 0, 64, .inl fun _ => 0)), ((u_9 3), .inl (cA 1, 64, .inr (.inl fun _ => 0))), ((u_9 4), .inl (cA 1, 64, .inr (.inl fun _ => 0))), ((u_9 5), .inl (cA 0, 64, .inl fun _ => 0)), ((u_9 6), .inr (2, [.int 0, .ref (u_9 7), .ref (u_9 8), .ref (u_9 9), .ref (u_9 10)])), ((u_9 7), .inl (cA 0, 64, .inl fun _ => 0)), ((u_9 8), .inl (cA 1, 64, .inr (.inl fun _ => 0))), ((u_9 9), .inl (cA 1, 64, .inr (.inl fun _ => 0))), ((u_9 10), .inl (cA 0, 64, .inl fun _ => 0)), (q_10, .inr (1, [.ref (u_11 1), .ref (u_11 6)])), ((u_11 1), .inr (2, [.int 0, .ref (u_11 2), .ref (u_11 3), .ref (u_11 4), .ref (u_11 5)])), ((u_11 2), .inl (cA 0, 64, .inl fun _ => 0)), ((u_11 3), .inl (cA 1, 64, .inr (.inl fun _ => 0))), ((u_11 4), .inl (cA 1, 64, .inr (.inl fun _ => 0))), ((u_11 5), .inl (cA 0, 64, .inl fun _ => 0)), ((u_11 6), .inr (2, [.int 0, .ref (u_11 7), .ref (u_11 8), .ref (u_11 9), .ref (u_11 10)])), ((u_11 7), .inl (cA 0, 64, .inl fun _ => 0)), ((u_11 8), .inl (cA 1, 64, .inr (.inl fun _ => 0))), ((u_11 9), .inl (cA 1, 64, .inr (.inl fun _ => 0))), ((u_11 10), .inl (cA 0, 64, .inl fun _ => 0)), (q_12, .inr (1, [.ref (u_13 1), .ref (u_13 6)])), ((u_13 1), .inr (2, [.int 0, .ref (u_13 2), .ref (u_13 3), .ref (u_13 4), .ref (u_13 5)])), ((u_13 2), .inl (cA 0, 64, .inl fun _ => 0)), ((u_13 3), .inl (cA 1, 64, .inr (.inl fun _ => 0))), ((u_13 4), .inl (cA 1, 64, .inr (.inl fun _ => 0))), ((u_13 5), .inl (cA 0, 64, .inl fun _ => 0)), ((u_13 6), .inr (2, [.int 0, .ref (u_13 7), .ref (u_13 8), .ref (u_13 9), .ref (u_13 10)])), ((u_13 7), .inl (cA 0, 64, .inl fun _ => 0)), ((u_13 8), .inl (cA 1, 64, .inr (.inl fun _ => 0))), ((u_13 9), .inl (cA 1, 64, .inr (.inl fun _ => 0))), ((u_13 10), .inl (cA 0, 64, .inl fun _ => 0)), (q_14, .inr (1, [.ref (u_15 1), .ref (u_15 6)])), ((u_15 1), .inr (2, [.int 0, .ref (u_15 2), .ref (u_15 3), .ref (u_15 4), .ref (u_15 5)])), ((u_15 2), .inl (cA 0, 64, .inl fun _ => 0)), ((u_15 3), .inl (cA 1, 64, .inr (.inl fun _ => 0))), ((u_15 4), .inl (cA 1, 64, .inr (.inl fun _ => 0))), ((u_15 5), .inl (cA 0, 64, .inl fun _ => 0)), ((u_15 6), .inr (2, [.int 0, .ref (u_15 7), .ref (u_15 8), .ref (u_15 9), .ref (u_15 10)])), ((u_15 7), .inl (cA 0, 64, .inl fun _ => 0)), ((u_15 8), .inl (cA 1, 64, .inr (.inl fun _ => 0))), ((u_15 9), .inl (cA 1, 64, .inr (.inl fun _ => 0))), ((u_15 10), .inl (cA 0, 64, .inl fun _ => 0)), (q_16, .inr (3, [.int 0, .int 0, .null]))] := hD
  refine W.widen (k := 62) (n := 2727) (Nat.le_of_ble_eq_true rfl) (Nat.le_of_ble_eq_true rfl) ?_
  refine lv_dup hx hb (zd DX7_init 41 rfl) rfl ?_
  have hPc := hP.sub (ws' := [(q_16, .inr (3, [.int 0, .int 0, .null]))]) [62] rfl
  have hDc := hD.sub (ws' := [(q_16, .inr (3, [.int 0, .int 0, .null]))]) [62] (by decide) rfl
  have hFc := va_free (wc := [(q_16, .inr (3, [.int 0, .int 0, .null]))]) hD hS hA [62] rfl
  refine va_callv (va_runIN (host := "EndSums") (As := []) (rest := [.ref q_16, .ref h0]) ⟨hx, hb, hml, hown, hts⟩ (nX3_init l D cA q_16 H.size) ⟨va_cnB 0 hts (zTb_goodIn fun w hw => (List.mem_cons.mp hw).elim (fun z => z ▸ wkc_33) id) rfl rfl rfl (hNs _ wnc_142 rfl) (hts _ wkc_3) ⟨by decide, by decide, by decide +kernel⟩ ⟨Nat.le_of_ble_eq_true rfl, Nat.le_of_ble_eq_true rfl⟩, rfl, (hts _ wkc_32)⟩ ⟨zCp_blind, fun U hU hW => ⟨rfl, by rw [hU], by rw [hU]; exact hPc, va_K.moved hW.alike hK, hDc.weaken (fun _ _ _ _ => trivial), zNs_warm hW hNs, va_AO.moved hW.alike hAO⟩⟩ rfl rfl hl.1 rfl (lv_room (Nat.le_of_ble_eq_true rfl)) (zd DX7_init 42 rfl) ⟨Nat.le_of_ble_eq_true rfl, Nat.le_of_ble_eq_true rfl⟩) hS (fun q _ h => hFc q h) hFc (fun u_17 t H1 locs ht hvm hw hB hz1 hk1 hS => ?_)
  obtain ⟨hP1, hD1⟩ := hB
  rw [ht] at hP1
  obtain ⟨hP, hD⟩ := va_join (wr := [(h0, .inr (7, [.ref q_1, .ref q_3, .ref q_5, .ref q_14, .null, .null, .null, .null, .int 0, .null, .null])), (q_1, .inr (0, [.int 0, .ref (u_2 1), .long 0, .long 0])), ((u_2 1), .inr (3, [.int 1, .int 0, .ref (u_2 2)])), ((u_2 2), .inl (cA 0, 25, .inl fun _ => 0)), (q_3, .inr (6, [.ref q_1, .int 0, .int 0, .ref (u_4 1)])), ((u_4 1), .inl (cA 0, 64, .inl fun _ => 0)), (q_5, .inl (cA 2, 4, .inr (.inr (.inr (.inr (va_up (va_up (va_up (va_up (fun _ => none) 0 (some q_6)) 1 (some q_8)) 2 (some q_10)) 3 (some q_12))))))), (q_6, .inr (1, [.ref (u_7 1), .ref (u_7 6)])), ((u_7 1), .inr (2, [.int 0, .ref (u_7 2), .ref (u_7 3), .ref (u_7 4), .ref (u_7 5)])), ((u_7 2), .inl (cA 0, 64, .inl fun _ => 0)), ((u_7 3), .inl (cA 1, 64, .inr (.inl fun _ => 0))), ((u_7 4), .inl (cA 1, 64, .inr (.inl fun _ => 0))), ((u_7 5), .inl (cA 0, 64, .inl fun _ => 0)), ((u_7 6), .inr (2, [.int 0, .ref (u_7 7), .ref (u_7 8), .ref (u_7 9), .ref (u_7 10)])), ((u_7 7), .inl (cA 0, 64, .inl fun _ => 0)), ((u_7 8), .inl (cA 1, 64, .inr (.inl fun _ => 0))), ((u_7 9), .inl (cA 1, 64, .inr (.inl fun _ => 0))), ((u_7 10), .inl (cA 0, 64, .inl fun _ => 0)), (q_8, .inr (1, [.ref (u_9 1), .ref (u_9 6)])), ((u_9 1), .inr (2, [.int 0, .ref (u_9 2), .ref (u_9 3), .ref (u_9 4), .ref (u_9 5)])), ((u_9 2), .inl (cA 0, 64, .inl fun _ => 0)), ((u_9 3), .inl (cA 1, 64, .inr (.inl fun _ => 0))), ((u_9 4), .inl (cA 1, 64, .inr (.inl fun _ => 0))), ((u_9 5), .inl (cA 0, 64, .inl fun _ => 0)), ((u_9 6), .inr (2, [.int 0, .ref (u_9 7), .ref (u_9 8), .ref (u_9 9), .ref (u_9 10)])), ((u_9 7), .inl (cA 0, 64, .inl fun _ => 0)), ((u_9 8), .inl (cA 1, 64, .inr (.inl fun _ => 0))), ((u_9 9), .inl (cA 1, 64, .inr (.inl fun _ => 0))), ((u_9 10), .inl (cA 0, 64, .inl fun _ => 0)), (q_10, .inr (1, [.ref (u_11 1), .ref (u_11 6)])), ((u_11 1), .inr (2, [.int 0, .ref (u_11 2), .ref (u_11 3), .ref (u_11 4), .ref (u_11 5)])), ((u_11 2), .inl (cA 0, 64, .inl fun _ => 0)), ((u_11 3), .inl (cA 1, 64, .inr (.inl fun _ => 0))), ((u_11 4), .inl (cA 1, 64, .inr (.inl fun _ => 0))), ((u_11 5), .inl (cA 0, 64, .inl fun _ => 0)), ((u_11 6), .inr (2, [.int 0, .ref (u_11 7), .ref (u_11 8), .ref (u_11 9), .ref (u_11 10)])), ((u_11 7), .inl (cA 0, 64, .inl fun _ => 0)), ((u_11 8), .inl (cA 1, 64, .inr (.inl fun _ => 0))), ((u_11 9), .inl (cA 1, 64, .inr (.inl fun _ => 0))), ((u_11 10), .inl (cA 0, 64, .inl fun _ => 0)), (q_12, .inr (1, [.ref (u_13 1), .ref (u_13 6)])), ((u_13 1), .inr (2, [.int 0, .ref (u_13 2), .ref (u_13 3), .ref (u_13 4), .ref (u_13 5)])), ((u_13 2), .inl (cA 0, 64, .inl fun _ => 0)), ((u_13 3), .inl (cA 1, 64, .inr (.inl fun _ => 0))), ((u_13 4), .inl (cA 1, 64, .inr (.inl fun _ => 0))), ((u_13 5), .inl (cA 0, 64, .inl fun _ => 0)), ((u_13 6), .inr (2, [.int 0, .ref (u_13 7), .ref (u_13 8), .ref (u_13 9), .ref (u_13 10)])), ((u_13 7), .inl (cA 0, 64, .inl fun _ => 0)), ((u_13 8), .inl (cA 1, 64, .inr (.inl fun _ => 0))), ((u_13 9), .inl (cA 1, 64, .inr (.inl fun _ => 0))), ((u_13 10), .inl (cA 0, 64, .inl fun _ => 0)), (q_14, .inr (1, [.ref (u_15 1), .ref (u_15 6)])), ((u_15 1), .inr (2, [.int 0, .ref (u_15 2), .ref (u_15 3), .ref (u_15 4), .ref (u_15 5)])), ((u_15 2), .inl (cA 0, 64, .inl fun _ => 0)), ((u_15 3), .inl (cA 1, 64, .inr (.inl fun _ => 0))), ((u_15 4), .inl (cA 1, 64, .inr (.inl fun _ => 0))), ((u_15 5), .inl (cA 0, 64, .inl fun _ => 0)), ((u_15 6), .inr (2, [.int 0, .ref (u_15 7), .ref (u_15 8), .ref (u_15 9), .ref (u_15 10)])), ((u_15 7), .inl (cA 0, 64, .inl fun _ => 0)), ((u_15 8), .inl (cA 1, 64, .inr (.inl fun _ => 0))), ((u_15 9), .inl (cA 1, 64, .inr (.inl fun _ => 0))), ((u_15 10), .inl (cA 0, 64, .inl fun _ => 0))]) (w1 := [(q_16, .inr (3, [.int 1, .int 0, .ref (u_17 1)])), ((u_17 1), .inl (cA 0, 25, .inl fun _ => 0))]) hP hD [62] [0, 1, 2, 3, 4, 5, 6, 7, 8, 9, 10, 11, 12, 13, 14, 15, 16, 17, 18, 19, 20, 21, 22, 23, 24, 25, 26, 27, 28, 29, 30, 31, 32, 33, 34, 35, 36, 37, 38, 39, 40, 41, 42, 43, 44, 45, 46, 47, 48, 49, 50, 51, 52, 53, 54, 55, 56, 57, 58, 59, 60, 61] rfl rfl (by decide) (by decide) hk1 hFc hP1 hD1
  generalize H1 = H at hP hS ⊢
  have hP : va_P D vwCl [(h0, .inr (7, [.ref q_1, .ref q_3, .ref q_5, .ref q_14, .null, .null, .null, .null, .int 0, .null, .null])), (q_1, .inr (0, [.int 0, .ref (u_2 1), .long 0, .long 0])), ((u_2 1), .inr (3, [.int 1, .int 0, .ref (u_2 2)])), ((u_2 2), .inl (cA 0, 25, .inl fun _ => 0)), (q_3, .inr (6, [.ref q_1, .int 0, .int 0, .ref (u_4 1)])), ((u_4 1), .inl (cA 0, 64, .inl fun _ => 0)), (q_5, .inl (cA 2, 4, .inr (.inr (.inr (.inr (va_up (va_up (va_up (va_up (fun _ => none) 0 (some q_6)) 1 (some q_8)) 2 (some q_10)) 3 (some q_12))))))), (q_6, .inr (1, [.ref (u_7 1), .ref (u_7 6)])), ((u_7 1), .inr (2, [.int 0, .ref (u_7 2), .ref (u_7 3), .ref (u_7 4), .ref (u_7 5)])), ((u_7 2), .inl (cA 0, 64, .inl fun _ => 0)), ((u_7 3), .inl (cA 1, 64, .inr (.inl fun _ => 0))), ((u_7 4), .inl (cA 1, 64, .inr (.inl fun _ => 0))), ((u_7 5), .inl (cA 0, 64, .inl fun _ => 0)), ((u_7 6), .inr (2, [.int 0, .ref (u_7 7), .ref (u_7 8), .ref (u_7 9), .ref (u_7 10)])), ((u_7 7), .inl (cA 0, 64, .inl fun _ => 0)), ((u_7 8), .inl (cA 1, 64, .inr (.inl fun _ => 0))), ((u_7 9), .inl (cA 1, 64, .inr (.inl fun _ => 0))), ((u_7 10), .inl (cA 0, 64, .inl fun _ => 0)), (q_8, .inr (1, [.ref (u_9 1), .ref (u_9 6)])), ((u_9 1), .inr (2, [.int 0, .ref (u_9 2), .ref (u_9 3), .ref (u_9 4), .ref (u_9 5)])), ((u_9 2), .inl (cA 0, 64, .inl fun _ => 0)), ((u_9 3), .inl (cA 1, 64, .inr (.inl fun _ => 0))), ((u_9 4), .inl (cA 1, 64, .inr (.inl fun _ => 0))), ((u_9 5), .inl (cA 0, 64, .inl fun _ => 0)), ((u_9 6), .inr (2, [.int 0, .ref (u_9 7), .ref (u_9 8), .ref (u_9 9), .ref (u_9 10)])), ((u_9 7), .inl (cA 0, 64, .inl fun _ => 0)), ((u_9 8), .inl (cA 1, 64, .inr (.inl fun _ => 0))), ((u_9 9), .inl (cA 1, 64, .inr (.inl fun _ => 0))), ((u_9 10), .inl (cA 0, 64, .inl fun _ => 0)), (q_10, .inr (1, [.ref (u_11 1), .ref (u_11 6)])), ((u_11 1), .inr (2, [.int 0, .ref (u_11 2), .ref (u_11 3), .ref (u_11 4), .ref (u_11 5)])), ((u_11 2), .inl (cA 0, 64, .inl fun _ => 0)), ((u_11 3), .inl (cA 1, 64, .inr (.inl fun _ => 0))), ((u_11 4), .inl (cA 1, 64, .inr (.inl fun _ => 0))), ((u_11 5), .inl (cA 0, 64, .inl fun _ => 0)), ((u_11 6), .inr (2, [.int 0, .ref (u_11 7), .ref (u_11 8), .ref (u_11 9), .ref (u_11 10)])), ((u_11 7), .inl (cA 0, 64, .inl fun _ => 0)), ((u_11 8), .inl (cA 1, 64, .inr (.inl fun _ => 0))), ((u_11 9), .inl (cA 1, 64, .inr (.inl fun _ => 0))), ((u_11 10), .inl (cA 0, 64, .inl fun _ => 0)), (q_12, .inr (1, [.ref (u_13 1), .ref (u_13 6)])), ((u_13 1), .inr (2, [.int 0, .ref (u_13 2), .ref (u_13 3), .ref (u_13 4), .ref (u_13 5)])), ((u_13 2), .inl (cA 0, 64, .inl fun _ => 0)), ((u_13 3), .inl (cA 1, 64, .inr (.inl fun _ => 0))), ((u_13 4), .inl (cA 1, 64, .inr (.inl fun _ => 0))), ((u_13 5), .inl (cA 0, 64, .inl fun _ => 0)), ((u_13 6), .inr (2, [.int 0, .ref (u_13 7), .ref (u_13 8), .ref (u_13 9), .ref (u_13 10)])), ((u_13 7), .inl (cA 0, 64, .inl fun _ => 0)), ((u_13 8), .inl (cA 1, 64, .inr (.inl fun _ => 0))), ((u_13 9), .inl (cA 1, 64, .inr (.inl fun _ => 0))), ((u_13 10), .inl (cA 0, 64, .inl fun _ => 0)), (q_14, .inr (1, [.ref (u_15 1), .ref (u_15 6)])), ((u_15 1), .inr (2, [.int 0, .ref (u_15 2), .ref (u_15 3), .ref (u_15 4), .ref (u_15 5)])), ((u_15 2), .inl (cA 0, 64, .inl fun _ => 0)), ((u_15 3), .inl (cA 1, 64, .inr (.inl fun _ => 0))), ((u_15 4), .inl (cA 1, 64, .inr (.inl fun _ => 0))), ((u_15 5), .inl (cA 0, 64, .inl fun _ => 0)), ((u_15 6), .inr (2, [.int 0, .ref (u_15 7), .ref (u_15 8), .ref (u_15 9), .ref (u_15 10)])), ((u_15 7), .inl (cA 0, 64, .inl fun _ => 0)), ((u_15 8), .inl (cA 1, 64, .inr (.inl fun _ => 0))), ((u_15 9), .inl (cA 1, 64, .inr (.inl fun _ => 0))), ((u_15 10), .inl (cA 0, 64, .inl fun _ => 0)), (q_16, .inr (3, [.int 1, .int 0, .ref (u_17 1)])), ((u_17 1), .inl (cA 0, 25, .inl fun _ => 0))] H := hP
  have hD : va_D A [(h0, .inr (7, [.ref q_1, .ref q_3, .ref q_5, .ref q_14, .null, .null, .null, .null, .int 0, .null, .null])), (q_1, .inr (0, [.int 0, .ref (u_2 1), .long 0, .long 0])), ((u_2 1), .inr (3, [.int 1, .int 0, .ref (u_2 2)])), ((u_2 2), .inl (cA 0, 25, .inl fun _ => 0)), (q_3, .inr (6, [.ref q_1, .int 0, .int 0, .ref (u_4 1)])), ((u_4 1), .inl (cA 0, 64, .inl fun _ => 0)), (q_5, .inl (cA 2, 4, .inr (.inr (.inr (.inr (va_up (va_up (va_up (va_up (fun _ => none) 0 (some q_6)) 1 (some q_8)) 2 (some q_10)) 3 (some q_12))))))), (q_6, .inr (1, [.ref (u_7 1), .ref (u_7 6)])), ((u_7 1), .inr (2, [.int 0, .ref (u_7 2), .ref (u_7 3), .ref (u_7 4), .ref (u_7 5)])), ((u_7 2), .inl (cA 0, 64, .inl fun _ => 0)), ((u_7 3), .inl (cA 1, 64, .inr (.inl fun _ => 0))), ((u_7 4), .inl (cA 1, 64, .inr (.inl fun _ => 0))), ((u_7 5), .inl (cA 0, 64, .inl fun _ => 0)), ((u_7 6), .inr (2, [.int 0, .ref (u_7 7), .ref (u_7 8), .ref (u_7 9), .ref (u_7 10)])), ((u_7 7), .inl (cA 0, 64, .inl fun _ => 0)), ((u_7 8), .inl (cA 1, 64, .inr (.inl fun _ => 0))), ((u_7 9), .inl (cA 1, 64, .inr (.inl fun _ => 0))), ((u_7 10), .inl (cA 0, 64, .inl fun _ => 0)), (q_8, .inr (1, [.ref (u_9 1), .ref (u_9 6)])), ((u_9 1), .inr (2, [.int 0, .ref (u_9 2), .ref (u_9 3), .ref (u_9 4), .ref (u_9 5)])), ((u_9 2), .inl (cA 0, 64, .inl fun _ => 0)), ((u_9 3), .inl (cA 1, 64, .inr (.inl fun _ => 0))), ((u_9 4), .inl (cA 1, 64, .inr (.inl fun _ => 0))), ((u_9 5), .inl (cA 0, 64, .inl fun _ => 0)), ((u_9 6), .inr (2, [.int 0, .ref (u_9 7), .ref (u_9 8), .ref (u_9 9), .ref (u_9 10)])), ((u_9 7), .inl (cA 0, 64, .inl fun _ => 0)), ((u_9 8), .inl (cA 1, 64, .inr (.inl fun _ => 0))), ((u_9 9), .inl (cA 1, 64, .inr (.inl fun _ => 0))), ((u_9 10), .inl (cA 0, 64, .inl fun _ => 0)), (q_10, .inr (1, [.ref (u_11 1), .ref (u_11 6)])), ((u_11 1), .inr (2, [.int 0, .ref (u_11 2), .ref (u_11 3), .ref (u_11 4), .ref (u_11 5)])), ((u_11 2), .inl (cA 0, 64, .inl fun _ => 0)), ((u_11 3), .inl (cA 1, 64, .inr (.inl fun _ => 0))), ((u_11 4), .inl (cA 1, 64, .inr (.inl fun _ => 0))), ((u_11 5), .inl (cA 0, 64, .inl fun _ => 0)), ((u_11 6), .inr (2, [.int 0, .ref (u_11 7), .ref (u_11 8), .ref (u_11 9), .ref (u_11 10)])), ((u_11 7), .inl (cA 0, 64, .inl fun _ => 0)), ((u_11 8), .inl (cA 1, 64, .inr (.inl fun _ => 0))), ((u_11 9), .inl (cA 1, 64, .inr (.inl fun _ => 0))), ((u_11 10), .inl (cA 0, 64, .inl fun _ => 0)), (q_12, .inr (1, [.ref (u_13 1), .ref (u_13 6)])), ((u_13 1), .inr (2, [.int 0, .ref (u_13 2), .ref (u_13 3), .ref (u_13 4), .ref (u_13 5)])), ((u_13 2), .inl (cA 0, 64, .inl fun _ => 0)), ((u_13 3), .inl (cA 1, 64, .inr (.inl fun _ => 0))), ((u_13 4), .inl (cA 1, 64, .inr (.inl fun _ => 0))), ((u_13 5), .inl (cA 0, 64, .inl fun _ => 0)), ((u_13 6), .inr (2, [.int 0, .ref (u_13 7), .ref (u_13 8), .ref (u_13 9), .ref (u_13 10)])), ((u_13 7), .inl (cA 0, 64, .inl fun _ => 0)), ((u_13 8), .inl (cA 1, 64, .inr (.inl fun _ => 0))), ((u_13 9), .inl (cA 1, 64, .inr (.inl fun _ => 0))), ((u_13 10), .inl (cA 0, 64, .inl fun _ => 0)), (q_14, .inr (1, [.ref (u_15 1), .ref (u_15 6)])), ((u_15 1), .inr (2, [.int 0, .ref (u_15 2), .ref (u_15 3), .ref (u_15 4), .ref (u_15 5)])), ((u_15 2), .inl (cA 0, 64, .inl fun _ => 0)), ((u_15 3), .inl (cA 1, 64, .inr (.inl fun _ => 0))), ((u_15 4), .inl (cA 1, 64, .inr (.inl fun _ => 0))), ((u_15 5), .inl (cA 0, 64, .inl fun _ => 0)), ((u_15 6), .inr (2, [.int 0, .ref (u_15 7), .ref (u_15 8), .ref (u_15 9), .ref (u_15 10)])), ((u_15 7), .inl (cA 0, 64, .inl fun _ => 0)), ((u_15 8), .inl (cA 1, 64, .inr (.inl fun _ => 0))), ((u_15 9), .inl (cA 1, 64, .inr (.inl fun _ => 0))), ((u_15 10), .inl (cA 0, 64, .inl fun _ => 0)), (q_16, .inr (3, [.int 1, .int 0, .ref (u_17 1)])), ((u_17 1), .inl (cA 0, 25, .inl fun _ => 0))] := hD
  refine W.widen (k := 63) (n := 2752) (Nat.le_of_ble_eq_true rfl) (Nat.le_of_ble_eq_true rfl) ?_
  refine va_putF (D := D) (ci := 7) (v := .ref q_16) (ty := .object "EndSums$Table") (C := RX7) (T := TX7) (N := 11) hx hb hts kz7.2.1 tyX7 tyX7_ok nmX7 hown hK hP hD hS 0 rfl rfl 4 (by decide) (hts _ wkc_188) (fun _ h9 => h9) rfl hin rfl (by decide +kernel) rfl rfl (Nat.le_of_ble_eq_true rfl) (zd DX7_init 43 rfl) (fun H locs hP hD hS => ?_)
  have hP : va_P D vwCl [(h0, .inr (7, [.ref q_1, .ref q_3, .ref q_5, .ref q_14, .ref q_16, .null, .null, .null, .int 0, .null, .null])), (q_1, .inr (0, [.int 0, .ref (u_2 1), .long 0, .long 0])), ((u_2 1), .inr (3, [.int 1, .int 0, .ref (u_2 2)])), ((u_2 2), .inl (cA 0, 25, .inl fun _ => 0)), (q_3, .inr (6, [.ref q_1, .int 0, .int 0, .ref (u_4 1)])), ((u_4 1), .inl (cA 0, 64, .inl fun _ => 0)), (q_5, .inl (cA 2, 4, .inr (.inr (.inr (.inr (va_up (va_up (va_up (va_up (fun _ => none) 0 (some q_6)) 1 (some q_8)) 2 (some q_10)) 3 (some q_12))))))), (q_6, .inr (1, [.ref (u_7 1), .ref (u_7 6)])), ((u_7 1), .inr (2, [.int 0, .ref (u_7 2), .ref (u_7 3), .ref (u_7 4), .ref (u_7 5)])), ((u_7 2), .inl (cA 0, 64, .inl fun _ => 0)), ((u_7 3), .inl (cA 1, 64, .inr (.inl fun _ => 0))), ((u_7 4), .inl (cA 1, 64, .inr (.inl fun _ => 0))), ((u_7 5), .inl (cA 0, 64, .inl fun _ => 0)), ((u_7 6), .inr (2, [.int 0, .ref (u_7 7), .ref (u_7 8), .ref (u_7 9), .ref (u_7 10)])), ((u_7 7), .inl (cA 0, 64, .inl fun _ => 0)), ((u_7 8), .inl (cA 1, 64, .inr (.inl fun _ => 0))), ((u_7 9), .inl (cA 1, 64, .inr (.inl fun _ => 0))), ((u_7 10), .inl (cA 0, 64, .inl fun _ => 0)), (q_8, .inr (1, [.ref (u_9 1), .ref (u_9 6)])), ((u_9 1), .inr (2, [.int 0, .ref (u_9 2), .ref (u_9 3), .ref (u_9 4), .ref (u_9 5)])), ((u_9 2), .inl (cA 0, 64, .inl fun _ => 0)), ((u_9 3), .inl (cA 1, 64, .inr (.inl fun _ => 0))), ((u_9 4), .inl (cA 1, 64, .inr (.inl fun _ => 0))), ((u_9 5), .inl (cA 0, 64, .inl fun _ => 0)), ((u_9 6), .inr (2, [.int 0, .ref (u_9 7), .ref (u_9 8), .ref (u_9 9), .ref (u_9 10)])), ((u_9 7), .inl (cA 0, 64, .inl fun _ => 0)), ((u_9 8), .inl (cA 1, 64, .inr (.inl fun _ => 0))), ((u_9 9), .inl (cA 1, 64, .inr (.inl fun _ => 0))), ((u_9 10), .inl (cA 0, 64, .inl fun _ => 0)), (q_10, .inr (1, [.ref (u_11 1), .ref (u_11 6)])), ((u_11 1), .inr (2, [.int 0, .ref (u_11 2), .ref (u_11 3), .ref (u_11 4), .ref (u_11 5)])), ((u_11 2), .inl (cA 0, 64, .inl fun _ => 0)), ((u_11 3), .inl (cA 1, 64, .inr (.inl fun _ => 0))), ((u_11 4), .inl (cA 1, 64, .inr (.inl fun _ => 0))), ((u_11 5), .inl (cA 0, 64, .inl fun _ => 0)), ((u_11 6), .inr (2, [.int 0, .ref (u_11 7), .ref (u_11 8), .ref (u_11 9), .ref (u_11 10)])), ((u_11 7), .inl (cA 0, 64, .inl fun _ => 0)), ((u_11 8), .inl (cA 1, 64, .inr (.inl fun _ => 0))), ((u_11 9), .inl (cA 1, 64, .inr (.inl fun _ => 0))), ((u_11 10), .inl (cA 0, 64, .inl fun _ => 0)), (q_12, .inr (1, [.ref (u_13 1), .ref (u_13 6)])), ((u_13 1), .inr (2, [.int 0, .ref (u_13 2), .ref (u_13 3), .ref (u_13 4), .ref (u_13 5)])), ((u_13 2), .inl (cA 0, 64, .inl fun _ => 0)), ((u_13 3), .inl (cA 1, 64, .inr (.inl fun _ => 0))), ((u_13 4), .inl (cA 1, 64, .inr (.inl fun _ => 0))), ((u_13 5), .inl (cA 0, 64, .inl fun _ => 0)), ((u_13 6), .inr (2, [.int 0, .ref (u_13 7), .ref (u_13 8), .ref (u_13 9), .ref (u_13 10)])), ((u_13 7), .inl (cA 0, 64, .inl fun _ => 0)), ((u_13 8), .inl (cA 1, 64, .inr (.inl fun _ => 0))), ((u_13 9), .inl (cA 1, 64, .inr (.inl fun _ => 0))), ((u_13 10), .inl (cA 0, 64, .inl fun _ => 0)), (q_14, .inr (1, [.ref (u_15 1), .ref (u_15 6)])), ((u_15 1), .inr (2, [.int 0, .ref (u_15 2), .ref (u_15 3), .ref (u_15 4), .ref (u_15 5)])), ((u_15 2), .inl (cA 0, 64, .inl fun _ => 0)), ((u_15 3), .inl (cA 1, 64, .inr (.inl fun _ => 0))), ((u_15 4), .inl (cA 1, 64, .inr (.inl fun _ => 0))), ((u_15 5), .inl (cA 0, 64, .inl fun _ => 0)), ((u_15 6), .inr (2, [.int 0, .ref (u_15 7), .ref (u_15 8), .ref (u_15 9), .ref (u_15 10)])), ((u_15 7), .inl (cA 0, 64, .inl fun _ => 0)), ((u_15 8), .inl (cA 1, 64, .inr (.inl fun _ => 0))), ((u_15 9), .inl (cA 1, 64, .inr (.inl fun _ => 0))), ((u_15 10), .inl (cA 0, 64, .inl fun _ => 0)), (q_16, .inr (3, [.int 1, .int 0, .ref (u_17 1)])), ((u_17 1), .inl (cA 0, 25, .inl fun _ => 0))] H := hP
  have hD : va_D A [(h0, .inr (7, [.ref q_1, .ref q_3, .ref q_5, .ref q_14, .ref q_16, .null, .null, .null, .int 0, .null, .null])), (q_1, .inr (0, [.int 0, .ref (u_2 1), .long 0, .long 0])), ((u_2 1), .inr (3, [.int 1, .int 0, .ref (u_2 2)])), ((u_2 2), .inl (cA 0, 25, .inl fun _ => 0)), (q_3, .inr (6, [.ref q_1, .int 0, .int 0, .ref (u_4 1)])), ((u_4 1), .inl (cA 0, 64, .inl fun _ => 0)), (q_5, .inl (cA 2, 4, .inr (.inr (.inr (.inr (va_up (va_up (va_up (va_up (fun _ => none) 0 (some q_6)) 1 (some q_8)) 2 (some q_10)) 3 (some q_12))))))), (q_6, .inr (1, [.ref (u_7 1), .ref (u_7 6)])), ((u_7 1), .inr (2, [.int 0, .ref (u_7 2), .ref (u_7 3), .ref (u_7 4), .ref (u_7 5)])), ((u_7 2), .inl (cA 0, 64, .inl fun _ => 0)), ((u_7 3), .inl (cA 1, 64, .inr (.inl fun _ => 0))), ((u_7 4), .inl (cA 1, 64, .inr (.inl fun _ => 0))), ((u_7 5), .inl (cA 0, 64, .inl fun _ => 0)), ((u_7 6), .inr (2, [.int 0, .ref (u_7 7), .ref (u_7 8), .ref (u_7 9), .ref (u_7 10)])), ((u_7 7), .inl (cA 0, 64, .inl fun _ => 0)), ((u_7 8), .inl (cA 1, 64, .inr (.inl fun _ => 0))), ((u_7 9), .inl (cA 1, 64, .inr (.inl fun _ => 0))), ((u_7 10), .inl (cA 0, 64, .inl fun _ => 0)), (q_8, .inr (1, [.ref (u_9 1), .ref (u_9 6)])), ((u_9 1), .inr (2, [.int 0, .ref (u_9 2), .ref (u_9 3), .ref (u_9 4), .ref (u_9 5)])), ((u_9 2), .inl (cA 0, 64, .inl fun _ => 0)), ((u_9 3), .inl (cA 1, 64, .inr (.inl fun _ => 0))), ((u_9 4), .inl (cA 1, 64, .inr (.inl fun _ => 0))), ((u_9 5), .inl (cA 0, 64, .inl fun _ => 0)), ((u_9 6), .inr (2, [.int 0, .ref (u_9 7), .ref (u_9 8), .ref (u_9 9), .ref (u_9 10)])), ((u_9 7), .inl (cA 0, 64, .inl fun _ => 0)), ((u_9 8), .inl (cA 1, 64, .inr (.inl fun _ => 0))), ((u_9 9), .inl (cA 1, 64, .inr (.inl fun _ => 0))), ((u_9 10), .inl (cA 0, 64, .inl fun _ => 0)), (q_10, .inr (1, [.ref (u_11 1), .ref (u_11 6)])), ((u_11 1), .inr (2, [.int 0, .ref (u_11 2), .ref (u_11 3), .ref (u_11 4), .ref (u_11 5)])), ((u_11 2), .inl (cA 0, 64, .inl fun _ => 0)), ((u_11 3), .inl (cA 1, 64, .inr (.inl fun _ => 0))), ((u_11 4), .inl (cA 1, 64, .inr (.inl fun _ => 0))), ((u_11 5), .inl (cA 0, 64, .inl fun _ => 0)), ((u_11 6), .inr (2, [.int 0, .ref (u_11 7), .ref (u_11 8), .ref (u_11 9), .ref (u_11 10)])), ((u_11 7), .inl (cA 0, 64, .inl fun _ => 0)), ((u_11 8), .inl (cA 1, 64, .inr (.inl fun _ => 0))), ((u_11 9), .inl (cA 1, 64, .inr (.inl fun _ => 0))), ((u_11 10), .inl (cA 0, 64, .inl fun _ => 0)), (q_12, .inr (1, [.ref (u_13 1), .ref (u_13 6)])), ((u_13 1), .inr (2, [.int 0, .ref (u_13 2), .ref (u_13 3), .ref (u_13 4), .ref (u_13 5)])), ((u_13 2), .inl (cA 0, 64, .inl fun _ => 0)), ((u_13 3), .inl (cA 1, 64, .inr (.inl fun _ => 0))), ((u_13 4), .inl (cA 1, 64, .inr (.inl fun _ => 0))), ((u_13 5), .inl (cA 0, 64, .inl fun _ => 0)), ((u_13 6), .inr (2, [.int 0, .ref (u_13 7), .ref (u_13 8), .ref (u_13 9), .ref (u_13 10)])), ((u_13 7), .inl (cA 0, 64, .inl fun _ => 0)), ((u_13 8), .inl (cA 1, 64, .inr (.inl fun _ => 0))), ((u_13 9), .inl (cA 1, 64, .inr (.inl fun _ => 0))), ((u_13 10), .inl (cA 0, 64, .inl fun _ => 0)), (q_14, .inr (1, [.ref (u_15 1), .ref (u_15 6)])), ((u_15 1), .inr (2, [.int 0, .ref (u_15 2), .ref (u_15 3), .ref (u_15 4), .ref (u_15 5)])), ((u_15 2), .inl (cA 0, 64, .inl fun _ => 0)), ((u_15 3), .inl (cA 1, 64, .inr (.inl fun _ => 0))), ((u_15 4), .inl (cA 1, 64, .inr (.inl fun _ => 0))), ((u_15 5), .inl (cA 0, 64, .inl fun _ => 0)), ((u_15 6), .inr (2, [.int 0, .ref (u_15 7), .ref (u_15 8), .ref (u_15 9), .ref (u_15 10)])), ((u_15 7), .inl (cA 0, 64, .inl fun _ => 0)), ((u_15 8), .inl (cA 1, 64, .inr (.inl fun _ => 0))), ((u_15 9), .inl (cA 1, 64, .inr (.inl fun _ => 0))), ((u_15 10), .inl (cA 0, 64, .inl fun _ => 0)), (q_16, .inr (3, [.int 1, .int 0, .ref (u_17 1)])), ((u_17 1), .inl (cA 0, 25, .inl fun _ => 0))] := hD
  refine lv_aload_n hx hb (zd DX7_init 44 rfl) rfl (lv_at hl 1 rfl) ?_
  refine va_new (ci := 5) (fs := [.int 0, .null]) (C := RX5) (T := TX5) (N := 2) hx hb hts kz5.2.1 tyX5 tyX5_ok hown (hts _ wkc_143) (hts _ wkc_144) (hts _ wkc_7) hK hP hD hS hA rfl (by decide +kernel) (Nat.le_of_ble_eq_true rfl) (Nat.le_of_ble_eq_true rfl) (zd DX7_init 45 rfl) (fun q_18 H hP hD hS => ?_)
  have hP : va_P D vwCl [(h0, .inr (7, [.ref q_1, .ref q_3, .ref q_5, .ref q_14, .ref q_16, .null, .null, .null, .int 0, .null, .null])), (q_1, .inr (0, [.int 0, .ref (u_2 1), .long 0, .long 0])), ((u_2 1), .inr (3, [.int 1, .int 0, .ref (u_2 2)])), ((u_2 2), .inl (cA 0, 25, .inl fun _ => 0)), (q_3, .inr (6, [.ref q_1, .int 0, .int 0, .ref (u_4 1)])), ((u_4 1), .inl (cA 0, 64, .inl fun _ => 0)), (q_5, .inl (cA 2, 4, .inr (.inr (.inr (.inr (va_up (va_up (va_up (va_up (fun _ => none) 0 (some q_6)) 1 (some q_8)) 2 (some q_10)) 3 (some q_12))))))), (q_6, .inr (1, [.ref (u_7 1), .ref (u_7 6)])), ((u_7 1), .inr (2, [.int 0, .ref (u_7 2), .ref (u_7 3), .ref (u_7 4), .ref (u_7 5)])), ((u_7 2), .inl (cA 0, 64, .inl fun _ => 0)), ((u_7 3), .inl (cA 1, 64, .inr (.inl fun _ => 0))), ((u_7 4), .inl (cA 1, 64, .inr (.inl fun _ => 0))), ((u_7 5), .inl (cA 0, 64, .inl fun _ => 0)), ((u_7 6), .inr (2, [.int 0, .ref (u_7 7), .ref (u_7 8), .ref (u_7 9), .ref (u_7 10)])), ((u_7 7), .inl (cA 0, 64, .inl fun _ => 0)), ((u_7 8), .inl (cA 1, 64, .inr (.inl fun _ => 0))), ((u_7 9), .inl (cA 1, 64, .inr (.inl fun _ => 0))), ((u_7 10), .inl (cA 0, 64, .inl fun _ => 0)), (q_8, .inr (1, [.ref (u_9 1), .ref (u_9 6)])), ((u_9 1), .inr (2, [.int 0, .ref (u_9 2), .ref (u_9 3), .ref (u_9 4), .ref (u_9 5)])), ((u_9 2), .inl (cA 0, 64, .inl fun _ => 0)), ((u_9 3), .inl (cA 1, 64, .inr (.inl fun _ => 0))), ((u_9 4), .inl (cA 1, 64, .inr (.inl fun _ => 0))), ((u_9 5), .inl (cA 0, 64, .inl fun _ => 0)), ((u_9 6), .inr (2, [.int 0, .ref (u_9 7), .ref (u_9 8), .ref (u_9 9), .ref (u_9 10)])), ((u_9 7), .inl (cA 0, 64, .inl fun _ => 0)), ((u_9 8), .inl (cA 1, 64, .inr (.inl fun _ => 0))), ((u_9 9), .inl (cA 1, 64, .inr (.inl fun _ => 0))), ((u_9 10), .inl (cA 0, 64, .inl fun _ => 0)), (q_10, .inr (1, [.ref (u_11 1), .ref (u_11 6)])), ((u_11 1), .inr (2, [.int 0, .ref (u_11 2), .ref (u_11 3), .ref (u_11 4), .ref (u_11 5)])), ((u_11 2), .inl (cA 0, 64, .inl fun _ => 0)), ((u_11 3), .inl (cA 1, 64, .inr (.inl fun _ => 0))), ((u_11 4), .inl (cA 1, 64, .inr (.inl fun _ => 0))), ((u_11 5), .inl (cA 0, 64, .inl fun _ => 0)), ((u_11 6), .inr (2, [.int 0, .ref (u_11 7), .ref (u_11 8), .ref (u_11 9), .ref (u_11 10)])), ((u_11 7), .inl (cA 0, 64, .inl fun _ => 0)), ((u_11 8), .inl (cA 1, 64, .inr (.inl fun _ => 0))), ((u_11 9), .inl (cA 1, 64, .inr (.inl fun _ => 0))), ((u_11 10), .inl (cA 0, 64, .inl fun _ => 0)), (q_12, .inr (1, [.ref (u_13 1), .ref (u_13 6)])), ((u_13 1), .inr (2, [.int 0, .ref (u_13 2), .ref (u_13 3), .ref (u_13 4), .ref (u_13 5)])), ((u_13 2), .inl (cA 0, 64, .inl fun _ => 0)), ((u_13 3), .inl (cA 1, 64, .inr (.inl fun _ => 0))), ((u_13 4), .inl (cA 1, 64, .inr (.inl fun _ => 0))), ((u_13 5), .inl (cA 0, 64, .inl fun _ => 0)), ((u_13 6), .inr (2, [.int 0, .ref (u_13 7), .ref (u_13 8), .ref (u_13 9), .ref (u_13 10)])), ((u_13 7), .inl (cA 0, 64, .inl fun _ => 0)), ((u_13 8), .inl (cA 1, 64, .inr (.inl fun _ => 0))), ((u_13 9), .inl (cA 1, 64, .inr (.inl fun _ => 0))), ((u_13 10), .inl (cA 0, 64, .inl fun _ => 0)), (q_14, .inr (1, [.ref (u_15 1), .ref (u_15 6)])), ((u_15 1), .inr (2, [.int 0, .ref (u_15 2), .ref (u_15 3), .ref (u_15 4), .ref (u_15 5)])), ((u_15 2), .inl (cA 0, 64, .inl fun _ => 0)), ((u_15 3), .inl (cA 1, 64, .inr (.inl fun _ => 0))), ((u_15 4), .inl (cA 1, 64, .inr (.inl fun _ => 0))), ((u_15 5), .inl (cA 0, 64, .inl fun _ => 0)), ((u_15 6), .inr (2, [.int 0, .ref (u_15 7), .ref (u_15 8), .ref (u_15 9), .ref (u_15 10)])), ((u_15 7), .inl (cA 0, 64, .inl fun _ => 0)), ((u_15 8), .inl (cA 1, 64, .inr (.inl fun _ => 0))), ((u_15 9), .inl (cA 1, 64, .inr (.inl fun _ => 0))), ((u_15 10), .inl (cA 0, 64, .inl fun _ => 0)), (q_16, .inr (3, [.int 1, .int 0, .ref (u_17 1)])), ((u_17 1), .inl (cA 0, 25, .inl fun _ => 0)), (q_18, .inr (5, [.int 0, .null]))] H := hP
  have hD : va_D A [(h0, .inr (7, [.ref q_1, .ref q_3, .ref q_5, .ref q_14, .ref q_16, .null, .null, .null, .int 0, .null, .null])), (q_1, .inr (0, [.int 0, .ref (u_2 1), .long 0, .long 0])), ((u_2 1), .inr (3, [.int 1, .int 0, .ref (u_2 2)])), ((u_2 2), .inl (cA 0, 25, .inl fun _ => 0)), (q_3, .inr (6, [.ref q_1, .int 0, .int 0, .ref (u_4 1)])), ((u_4 1), .inl (cA 0, 64, .inl fun _ => 0)), (q_5, .inl (cA 2, 4, .inr (.inr (.inr (.inr (va_up (va_up (va_up (va_up (fun _ => none) 0 (some q_6)) 1 (some q_8)) 2 (some q_10)) 3 (some q_12))))))), (q_6, .inr (1, [.ref (u_7 1), .ref (u_7 6)])), ((u_7 1), .inr (2, [.int 0, .ref (u_7 2), .ref (u_7 3), .ref (u_7 4), .ref (u_7 5)])), ((u_7 2), .inl (cA 0, 64, .inl fun _ => 0)), ((u_7 3), .inl (cA 1, 64, .inr (.inl fun _ => 0))), ((u_7 4), .inl (cA 1, 64, .inr (.inl fun _ => 0))), ((u_7 5), .inl (cA 0, 64, .inl fun _ => 0)), ((u_7 6), .inr (2, [.int 0, .ref (u_7 7), .ref (u_7 8), .ref (u_7 9), .ref (u_7 10)])), ((u_7 7), .inl (cA 0, 64, .inl fun _ => 0)), ((u_7 8), .inl (cA 1, 64, .inr (.inl fun _ => 0))), ((u_7 9), .inl (cA 1, 64, .inr (.inl fun _ => 0))), ((u_7 10), .inl (cA 0, 64, .inl fun _ => 0)), (q_8, .inr (1, [.ref (u_9 1), .ref (u_9 6)])), ((u_9 1), .inr (2, [.int 0, .ref (u_9 2), .ref (u_9 3), .ref (u_9 4), .ref (u_9 5)])), ((u_9 2), .inl (cA 0, 64, .inl fun _ => 0)), ((u_9 3), .inl (cA 1, 64, .inr (.inl fun _ => 0))), ((u_9 4), .inl (cA 1, 64, .inr (.inl fun _ => 0))), ((u_9 5), .inl (cA 0, 64, .inl fun _ => 0)), ((u_9 6), .inr (2, [.int 0, .ref (u_9 7), .ref (u_9 8), .ref (u_9 9), .ref (u_9 10)])), ((u_9 7), .inl (cA 0, 64, .inl fun _ => 0)), ((u_9 8), .inl (cA 1, 64, .inr (.inl fun _ => 0))), ((u_9 9), .inl (cA 1, 64, .inr (.inl fun _ => 0))), ((u_9 10), .inl (cA 0, 64, .inl fun _ => 0)), (q_10, .inr (1, [.ref (u_11 1), .ref (u_11 6)])), ((u_11 1), .inr (2, [.int 0, .ref (u_11 2), .ref (u_11 3), .ref (u_11 4), .ref (u_11 5)])), ((u_11 2), .inl (cA 0, 64, .inl fun _ => 0)), ((u_11 3), .inl (cA 1, 64, .inr (.inl fun _ => 0))), ((u_11 4), .inl (cA 1, 64, .inr (.inl fun _ => 0))), ((u_11 5), .inl (cA 0, 64, .inl fun _ => 0)), ((u_11 6), .inr (2, [.int 0, .ref (u_11 7), .ref (u_11 8), .ref (u_11 9), .ref (u_11 10)])), ((u_11 7), .inl (cA 0, 64, .inl fun _ => 0)), ((u_11 8), .inl (cA 1, 64, .inr (.inl fun _ => 0))), ((u_11 9), .inl (cA 1, 64, .inr (.inl fun _ => 0))), ((u_11 10), .inl (cA 0, 64, .inl fun _ => 0)), (q_12, .inr (1, [.ref (u_13 1), .ref (u_13 6)])), ((u_13 1), .inr (2, [.int 0, .ref (u_13 2), .ref (u_13 3), .ref (u_13 4), .ref (u_13 5)])), ((u_13 2), .inl (cA 0, 64, .inl fun _ => 0)), ((u_13 3), .inl (cA 1, 64, .inr (.inl fun _ => 0))), ((u_13 4), .inl (cA 1, 64, .inr (.inl fun _ => 0))), ((u_13 5), .inl (cA 0, 64, .inl fun _ => 0)), ((u_13 6), .inr (2, [.int 0, .ref (u_13 7), .ref (u_13 8), .ref (u_13 9), .ref (u_13 10)])), ((u_13 7), .inl (cA 0, 64, .inl fun _ => 0)), ((u_13 8), .inl (cA 1, 64, .inr (.inl fun _ => 0))), ((u_13 9), .inl (cA 1, 64, .inr (.inl fun _ => 0))), ((u_13 10), .inl (cA 0, 64, .inl fun _ => 0)), (q_14, .inr (1, [.ref (u_15 1), .ref (u_15 6)])), ((u_15 1), .inr (2, [.int 0, .ref (u_15 2), .ref (u_15 3), .ref (u_15 4), .ref (u_15 5)])), ((u_15 2), .inl (cA 0, 64, .inl fun _ => 0)), ((u_15 3), .inl (cA 1, 64, .inr (.inl fun _ => 0))), ((u_15 4), .inl (cA 1, 64, .inr (.inl fun _ => 0))), ((u_15 5), .inl (cA 0, 64, .inl fun _ => 0)), ((u_15 6), .inr (2, [.int 0, .ref (u_15 7), .ref (u_15 8), .ref (u_15 9), .ref (u_15 10)])), ((u_15 7), .inl (cA 0, 64, .inl fun _ => 0)), ((u_15 8), .inl (cA 1, 64, .inr (.inl fun _ => 0))), ((u_15 9), .inl (cA 1, 64, .inr (.inl fun _ => 0))), ((u_15 10), .inl (cA 0, 64, .inl fun _ => 0)), (q_16, .inr (3, [.int 1, .int 0, .ref (u_17 1)])), ((u_17 1), .inl (cA 0, 25, .inl fun _ => 0)), (q_18, .inr (5, [.int 0, .null]))] := hD
  refine W.widen (k := 64) (n := 2754) (Nat.le_of_ble_eq_true rfl) (Nat.le_of_ble_eq_true rfl) ?_
  refine lv_dup hx hb (zd DX7_init 46 rfl) rfl ?_
  have hPc := hP.sub (ws' := [(q_18, .inr (5, [.int 0, .null]))]) [64] rfl
  have hDc := hD.sub (ws' := [(q_18, .inr (5, [.int 0, .null]))]) [64] (by decide) rfl
  have hFc := va_free (wc := [(q_18, .inr (5, [.int 0, .null]))]) hD hS hA [64] rfl
  refine va_callv (va_runIN (host := "EndSums") (As := []) (rest := [.ref q_18, .ref h0]) ⟨hx, hb, hml, hown, hts⟩ (nX5_init l D cA q_18 H.size) ⟨va_cnB 0 hts (zTb_goodIn fun w hw => (List.mem_cons.mp hw).elim (fun z => z ▸ wkc_147) id) rfl rfl rfl (hNs _ wnc_145 rfl) (hts _ wkc_7) ⟨by decide, by decide, by decide +kernel⟩ ⟨Nat.le_of_ble_eq_true rfl, Nat.le_of_ble_eq_true rfl⟩, rfl, (hts _ wkc_146)⟩ ⟨zCp_blind, fun U hU hW => ⟨rfl, by rw [hU], by rw [hU]; exact hPc, va_K.moved hW.alike hK, hDc.weaken (fun _ _ _ _ => trivial), zNs_warm hW hNs, va_AO.moved hW.alike hAO⟩⟩ rfl rfl hl.1 rfl (lv_room (Nat.le_of_ble_eq_true rfl)) (zd DX7_init 47 rfl) ⟨Nat.le_of_ble_eq_true rfl, Nat.le_of_ble_eq_true rfl⟩) hS (fun q _ h => hFc q h) hFc (fun u_19 t H1 locs ht hvm hw hB hz1 hk1 hS => ?_)
  obtain ⟨hP1, hD1⟩ := hB
  rw [ht] at hP1
  obtain ⟨hP, hD⟩ := va_join (wr := [(h0, .inr (7, [.ref q_1, .ref q_3, .ref q_5, .ref q_14, .ref q_16, .null, .null, .null, .int 0, .null, .null])), (q_1, .inr (0, [.int 0, .ref (u_2 1), .long 0, .long 0])), ((u_2 1), .inr (3, [.int 1, .int 0, .ref (u_2 2)])), ((u_2 2), .inl (cA 0, 25, .inl fun _ => 0)), (q_3, .inr (6, [.ref q_1, .int 0, .int 0, .ref (u_4 1)])), ((u_4 1), .inl (cA 0, 64, .inl fun _ => 0)), (q_5, .inl (cA 2, 4, .inr (.inr (.inr (.inr (va_up (va_up (va_up (va_up (fun _ => none) 0 (some q_6)) 1 (some q_8)) 2 (some q_10)) 3 (some q_12))))))), (q_6, .inr (1, [.ref (u_7 1), .ref (u_7 6)])), ((u_7 1), .inr (2, [.int 0, .ref (u_7 2), .ref (u_7 3), .ref (u_7 4), .ref (u_7 5)])), ((u_7 2), .inl (cA 0, 64, .inl fun _ => 0)), ((u_7 3), .inl (cA 1, 64, .inr (.inl fun _ => 0))), ((u_7 4), .inl (cA 1, 64, .inr (.inl fun _ => 0))), ((u_7 5), .inl (cA 0, 64, .inl fun _ => 0)), ((u_7 6), .inr (2, [.int 0, .ref (u_7 7), .ref (u_7 8), .ref (u_7 9), .ref (u_7 10)])), ((u_7 7), .inl (cA 0, 64, .inl fun _ => 0)), ((u_7 8), .inl (cA 1, 64, .inr (.inl fun _ => 0))), ((u_7 9), .inl (cA 1, 64, .inr (.inl fun _ => 0))), ((u_7 10), .inl (cA 0, 64, .inl fun _ => 0)), (q_8, .inr (1, [.ref (u_9 1), .ref (u_9 6)])), ((u_9 1), .inr (2, [.int 0, .ref (u_9 2), .ref (u_9 3), .ref (u_9 4), .ref (u_9 5)])), ((u_9 2), .inl (cA 0, 64, .inl fun _ => 0)), ((u_9 3), .inl (cA 1, 64, .inr (.inl fun _ => 0))), ((u_9 4), .inl (cA 1, 64, .inr (.inl fun _ => 0))), ((u_9 5), .inl (cA 0, 64, .inl fun _ => 0)), ((u_9 6), .inr (2, [.int 0, .ref (u_9 7), .ref (u_9 8), .ref (u_9 9), .ref (u_9 10)])), ((u_9 7), .inl (cA 0, 64, .inl fun _ => 0)), ((u_9 8), .inl (cA 1, 64, .inr (.inl fun _ => 0))), ((u_9 9), .inl (cA 1, 64, .inr (.inl fun _ => 0))), ((u_9 10), .inl (cA 0, 64, .inl fun _ => 0)), (q_10, .inr (1, [.ref (u_11 1), .ref (u_11 6)])), ((u_11 1), .inr (2, [.int 0, .ref (u_11 2), .ref (u_11 3), .ref (u_11 4), .ref (u_11 5)])), ((u_11 2), .inl (cA 0, 64, .inl fun _ => 0)), ((u_11 3), .inl (cA 1, 64, .inr (.inl fun _ => 0))), ((u_11 4), .inl (cA 1, 64, .inr (.inl fun _ => 0))), ((u_11 5), .inl (cA 0, 64, .inl fun _ => 0)), ((u_11 6), .inr (2, [.int 0, .ref (u_11 7), .ref (u_11 8), .ref (u_11 9), .ref (u_11 10)])), ((u_11 7), .inl (cA 0, 64, .inl fun _ => 0)), ((u_11 8), .inl (cA 1, 64, .inr (.inl fun _ => 0))), ((u_11 9), .inl (cA 1, 64, .inr (.inl fun _ => 0))), ((u_11 10), .inl (cA 0, 64, .inl fun _ => 0)), (q_12, .inr (1, [.ref (u_13 1), .ref (u_13 6)])), ((u_13 1), .inr (2, [.int 0, .ref (u_13 2), .ref (u_13 3), .ref (u_13 4), .ref (u_13 5)])), ((u_13 2), .inl (cA 0, 64, .inl fun _ => 0)), ((u_13 3), .inl (cA 1, 64, .inr (.inl fun _ => 0))), ((u_13 4), .inl (cA 1, 64, .inr (.inl fun _ => 0))), ((u_13 5), .inl (cA 0, 64, .inl fun _ => 0)), ((u_13 6), .inr (2, [.int 0, .ref (u_13 7), .ref (u_13 8), .ref (u_13 9), .ref (u_13 10)])), ((u_13 7), .inl (cA 0, 64, .inl fun _ => 0)), ((u_13 8), .inl (cA 1, 64, .inr (.inl fun _ => 0))), ((u_13 9), .inl (cA 1, 64, .inr (.inl fun _ => 0))), ((u_13 10), .inl (cA 0, 64, .inl fun _ => 0)), (q_14, .inr (1, [.ref (u_15 1), .ref (u_15 6)])), ((u_15 1), .inr (2, [.int 0, .ref (u_15 2), .ref (u_15 3), .ref (u_15 4), .ref (u_15 5)])), ((u_15 2), .inl (cA 0, 64, .inl fun _ => 0)), ((u_15 3), .inl (cA 1, 64, .inr (.inl fun _ => 0))), ((u_15 4), .inl (cA 1, 64, .inr (.inl fun _ => 0))), ((u_15 5), .inl (cA 0, 64, .inl fun _ => 0)), ((u_15 6), .inr (2, [.int 0, .ref (u_15 7), .ref (u_15 8), .ref (u_15 9), .ref (u_15 10)])), ((u_15 7), .inl (cA 0, 64, .inl fun _ => 0)), ((u_15 8), .inl (cA 1, 64, .inr (.inl fun _ => 0))), ((u_15 9), .inl (cA 1, 64, .inr (.inl fun _ => 0))), ((u_15 10), .inl (cA 0, 64, .inl fun _ => 0)), (q_16, .inr (3, [.int 1, .int 0, .ref (u_17 1)])), ((u_17 1), .inl (cA 0, 25, .inl fun _ => 0))]) (w1 := [(q_18, .inr (5, [.int 0, .ref (u_19 1)])), ((u_19 1), .inl (cA 0, 100, .inl fun _ => 0))]) hP hD [64] [0, 1, 2, 3, 4, 5, 6, 7, 8, 9, 10, 11, 12, 13, 14, 15, 16, 17, 18, 19, 20, 21, 22, 23, 24, 25, 26, 27, 28, 29, 30, 31, 32, 33, 34, 35, 36, 37, 38, 39, 40, 41, 42, 43, 44, 45, 46, 47, 48, 49, 50, 51, 52, 53, 54, 55, 56, 57, 58, 59, 60, 61, 62, 63] rfl rfl (by decide) (by decide) hk1 hFc hP1 hD1
  generalize H1 = H at hP hS ⊢
  have hP : va_P D vwCl [(h0, .inr (7, [.ref q_1, .ref q_3, .ref q_5, .ref q_14, .ref q_16, .null, .null, .null, .int 0, .null, .null])), (q_1, .inr (0, [.int 0, .ref (u_2 1), .long 0, .long 0])), ((u_2 1), .inr (3, [.int 1, .int 0, .ref (u_2 2)])), ((u_2 2), .inl (cA 0, 25, .inl fun _ => 0)), (q_3, .inr (6, [.ref q_1, .int 0, .int 0, .ref (u_4 1)])), ((u_4 1), .inl (cA 0, 64, .inl fun _ => 0)), (q_5, .inl (cA 2, 4, .inr (.inr (.inr (.inr (va_up (va_up (va_up (va_up (fun _ => none) 0 (some q_6)) 1 (some q_8)) 2 (some q_10)) 3 (some q_12))))))), (q_6, .inr (1, [.ref (u_7 1), .ref (u_7 6)])), ((u_7 1), .inr (2, [.int 0, .ref (u_7 2), .ref (u_7 3), .ref (u_7 4), .ref (u_7 5)])), ((u_7 2), .inl (cA 0, 64, .inl fun _ => 0)), ((u_7 3), .inl (cA 1, 64, .inr (.inl fun _ => 0))), ((u_7 4), .inl (cA 1, 64, .inr (.inl fun _ => 0))), ((u_7 5), .inl (cA 0, 64, .inl fun _ => 0)), ((u_7 6), .inr (2, [.int 0, .ref (u_7 7), .ref (u_7 8), .ref (u_7 9), .ref (u_7 10)])), ((u_7 7), .inl (cA 0, 64, .inl fun _ => 0)), ((u_7 8), .inl (cA 1, 64, .inr (.inl fun _ => 0))), ((u_7 9), .inl (cA 1, 64, .inr (.inl fun _ => 0))), ((u_7 10), .inl (cA 0, 64, .inl fun _ => 0)), (q_8, .inr (1, [.ref (u_9 1), .ref (u_9 6)])), ((u_9 1), .inr (2, [.int 0, .ref (u_9 2), .ref (u_9 3), .ref (u_9 4), .ref (u_9 5)])), ((u_9 2), .inl (cA 0, 64, .inl fun _ => 0)), ((u_9 3), .inl (cA 1, 64, .inr (.inl fun _ => 0))), ((u_9 4), .inl (cA 1, 64, .inr (.inl fun _ => 0))), ((u_9 5), .inl (cA 0, 64, .inl fun _ => 0)), ((u_9 6), .inr (2, [.int 0, .ref (u_9 7), .ref (u_9 8), .ref (u_9 9), .ref (u_9 10)])), ((u_9 7), .inl (cA 0, 64, .inl fun _ => 0)), ((u_9 8), .inl (cA 1, 64, .inr (.inl fun _ => 0))), ((u_9 9), .inl (cA 1, 64, .inr (.inl fun _ => 0))), ((u_9 10), .inl (cA 0, 64, .inl fun _ => 0)), (q_10, .inr (1, [.ref (u_11 1), .ref (u_11 6)])), ((u_11 1), .inr (2, [.int 0, .ref (u_11 2), .ref (u_11 3), .ref (u_11 4), .ref (u_11 5)])), ((u_11 2), .inl (cA 0, 64, .inl fun _ => 0)), ((u_11 3), .inl (cA 1, 64, .inr (.inl fun _ => 0))), ((u_11 4), .inl (cA 1, 64, .inr (.inl fun _ => 0))), ((u_11 5), .inl (cA 0, 64, .inl fun _ => 0)), ((u_11 6), .inr (2, [.int 0, .ref (u_11 7), .ref (u_11 8), .ref (u_11 9), .ref (u_11 10)])), ((u_11 7), .inl (cA 0, 64, .inl fun _ => 0)), ((u_11 8), .inl (cA 1, 64, .inr (.inl fun _ => 0))), ((u_11 9), .inl (cA 1, 64, .inr (.inl fun _ => 0))), ((u_11 10), .inl (cA 0, 64, .inl fun _ => 0)), (q_12, .inr (1, [.ref (u_13 1), .ref (u_13 6)])), ((u_13 1), .inr (2, [.int 0, .ref (u_13 2), .ref (u_13 3), .ref (u_13 4), .ref (u_13 5)])), ((u_13 2), .inl (cA 0, 64, .inl fun _ => 0)), ((u_13 3), .inl (cA 1, 64, .inr (.inl fun _ => 0))), ((u_13 4), .inl (cA 1, 64, .inr (.inl fun _ => 0))), ((u_13 5), .inl (cA 0, 64, .inl fun _ => 0)), ((u_13 6), .inr (2, [.int 0, .ref (u_13 7), .ref (u_13 8), .ref (u_13 9), .ref (u_13 10)])), ((u_13 7), .inl (cA 0, 64, .inl fun _ => 0)), ((u_13 8), .inl (cA 1, 64, .inr (.inl fun _ => 0))), ((u_13 9), .inl (cA 1, 64, .inr (.inl fun _ => 0))), ((u_13 10), .inl (cA 0, 64, .inl fun _ => 0)), (q_14, .inr (1, [.ref (u_15 1), .ref (u_15 6)])), ((u_15 1), .inr (2, [.int 0, .ref (u_15 2), .ref (u_15 3), .ref (u_15 4), .ref (u_15 5)])), ((u_15 2), .inl (cA 0, 64, .inl fun _ => 0)), ((u_15 3), .inl (cA 1, 64, .inr (.inl fun _ => 0))), ((u_15 4), .inl (cA 1, 64, .inr (.inl fun _ => 0))), ((u_15 5), .inl (cA 0, 64, .inl fun _ => 0)), ((u_15 6), .inr (2, [.int 0, .ref (u_15 7), .ref (u_15 8), .ref (u_15 9), .ref (u_15 10)])), ((u_15 7), .inl (cA 0, 64, .inl fun _ => 0)), ((u_15 8), .inl (cA 1, 64, .inr (.inl fun _ => 0))), ((u_15 9), .inl (cA 1, 64, .inr (.inl fun _ => 0))), ((u_15 10), .inl (cA 0, 64, .inl fun _ => 0)), (q_16, .inr (3, [.int 1, .int 0, .ref (u_17 1)])), ((u_17 1), .inl (cA 0, 25, .inl fun _ => 0)), (q_18, .inr (5, [.int 0, .ref (u_19 1)])), ((u_19 1), .inl (cA 0, 100, .inl fun _ => 0))] H := hP
  have hD : va_D A [(h0, .inr (7, [.ref q_1, .ref q_3, .ref q_5, .ref q_14, .ref q_16, .null, .null, .null, .int 0, .null, .null])), (q_1, .inr (0, [.int 0, .ref (u_2 1), .long 0, .long 0])), ((u_2 1), .inr (3, [.int 1, .int 0, .ref (u_2 2)])), ((u_2 2), .inl (cA 0, 25, .inl fun _ => 0)), (q_3, .inr (6, [.ref q_1, .int 0, .int 0, .ref (u_4 1)])), ((u_4 1), .inl (cA 0, 64, .inl fun _ => 0)), (q_5, .inl (cA 2, 4, .inr (.inr (.inr (.inr (va_up (va_up (va_up (va_up (fun _ => none) 0 (some q_6)) 1 (some q_8)) 2 (some q_10)) 3 (some q_12))))))), (q_6, .inr (1, [.ref (u_7 1), .ref (u_7 6)])), ((u_7 1), .inr (2, [.int 0, .ref (u_7 2), .ref (u_7 3), .ref (u_7 4), .ref (u_7 5)])), ((u_7 2), .inl (cA 0, 64, .inl fun _ => 0)), ((u_7 3), .inl (cA 1, 64, .inr (.inl fun _ => 0))), ((u_7 4), .inl (cA 1, 64, .inr (.inl fun _ => 0))), ((u_7 5), .inl (cA 0, 64, .inl fun _ => 0)), ((u_7 6), .inr (2, [.int 0, .ref (u_7 7), .ref (u_7 8), .ref (u_7 9), .ref (u_7 10)])), ((u_7 7), .inl (cA 0, 64, .inl fun _ => 0)), ((u_7 8), .inl (cA 1, 64, .inr (.inl fun _ => 0))), ((u_7 9), .inl (cA 1, 64, .inr (.inl fun _ => 0))), ((u_7 10), .inl (cA 0, 64, .inl fun _ => 0)), (q_8, .inr (1, [.ref (u_9 1), .ref (u_9 6)])), ((u_9 1), .inr (2, [.int 0, .ref (u_9 2), .ref (u_9 3), .ref (u_9 4), .ref (u_9 5)])), ((u_9 2), .inl (cA 0, 64, .inl fun _ => 0)), ((u_9 3), .inl (cA 1, 64, .inr (.inl fun _ => 0))), ((u_9 4), .inl (cA 1, 64, .inr (.inl fun _ => 0))), ((u_9 5), .inl (cA 0, 64, .inl fun _ => 0)), ((u_9 6), .inr (2, [.int 0, .ref (u_9 7), .ref (u_9 8), .ref (u_9 9), .ref (u_9 10)])), ((u_9 7), .inl (cA 0, 64, .inl fun _ => 0)), ((u_9 8), .inl (cA 1, 64, .inr (.inl fun _ => 0))), ((u_9 9), .inl (cA 1, 64, .inr (.inl fun _ => 0))), ((u_9 10), .inl (cA 0, 64, .inl fun _ => 0)), (q_10, .inr (1, [.ref (u_11 1), .ref (u_11 6)])), ((u_11 1), .inr (2, [.int 0, .ref (u_11 2), .ref (u_11 3), .ref (u_11 4), .ref (u_11 5)])), ((u_11 2), .inl (cA 0, 64, .inl fun _ => 0)), ((u_11 3), .inl (cA 1, 64, .inr (.inl fun _ => 0))), ((u_11 4), .inl (cA 1, 64, .inr (.inl fun _ => 0))), ((u_11 5), .inl (cA 0, 64, .inl fun _ => 0)), ((u_11 6), .inr (2, [.int 0, .ref (u_11 7), .ref (u_11 8), .ref (u_11 9), .ref (u_11 10)])), ((u_11 7), .inl (cA 0, 64, .inl fun _ => 0)), ((u_11 8), .inl (cA 1, 64, .inr (.inl fun _ => 0))), ((u_11 9), .inl (cA 1, 64, .inr (.inl fun _ => 0))), ((u_11 10), .inl (cA 0, 64, .inl fun _ => 0)), (q_12, .inr (1, [.ref (u_13 1), .ref (u_13 6)])), ((u_13 1), .inr (2, [.int 0, .ref (u_13 2), .ref (u_13 3), .ref (u_13 4), .ref (u_13 5)])), ((u_13 2), .inl (cA 0, 64, .inl fun _ => 0)), ((u_13 3), .inl (cA 1, 64, .inr (.inl fun _ => 0))), ((u_13 4), .inl (cA 1, 64, .inr (.inl fun _ => 0))), ((u_13 5), .inl (cA 0, 64, .inl fun _ => 0)), ((u_13 6), .inr (2, [.int 0, .ref (u_13 7), .ref (u_13 8), .ref (u_13 9), .ref (u_13 10)])), ((u_13 7), .inl (cA 0, 64, .inl fun _ => 0)), ((u_13 8), .inl (cA 1, 64, .inr (.inl fun _ => 0))), ((u_13 9), .inl (cA 1, 64, .inr (.inl fun _ => 0))), ((u_13 10), .inl (cA 0, 64, .inl fun _ => 0)), (q_14, .inr (1, [.ref (u_15 1), .ref (u_15 6)])), ((u_15 1), .inr (2, [.int 0, .ref (u_15 2), .ref (u_15 3), .ref (u_15 4), .ref (u_15 5)])), ((u_15 2), .inl (cA 0, 64, .inl fun _ => 0)), ((u_15 3), .inl (cA 1, 64, .inr (.inl fun _ => 0))), ((u_15 4), .inl (cA 1, 64, .inr (.inl fun _ => 0))), ((u_15 5), .inl (cA 0, 64, .inl fun _ => 0)), ((u_15 6), .inr (2, [.int 0, .ref (u_15 7), .ref (u_15 8), .ref (u_15 9), .ref (u_15 10)])), ((u_15 7), .inl (cA 0, 64, .inl fun _ => 0)), ((u_15 8), .inl (cA 1, 64, .inr (.inl fun _ => 0))), ((u_15 9), .inl (cA 1, 64, .inr (.inl fun _ => 0))), ((u_15 10), .inl (cA 0, 64, .inl fun _ => 0)), (q_16, .inr (3, [.int 1, .int 0, .ref (u_17 1)])), ((u_17 1), .inl (cA 0, 25, .inl fun _ => 0)), (q_18, .inr (5, [.int 0, .ref (u_19 1)])), ((u_19 1), .inl (cA 0, 100, .inl fun _ => 0))] := hD
  refine W.widen (k := 65) (n := 2854) (Nat.le_of_ble_eq_true rfl) (Nat.le_of_ble_eq_true rfl) ?_
  refine va_putF (D := D) (ci := 7) (v := .ref q_18) (ty := .object "EndSums$Text") (C := RX7) (T := TX7) (N := 11) hx hb hts kz7.2.1 tyX7 tyX7_ok nmX7 hown hK hP hD hS 0 rfl rfl 5 (by decide) (hts _ wkc_189) (fun _ h9 => h9) rfl hin rfl (by decide +kernel) rfl rfl (Nat.le_of_ble_eq_true rfl) (zd DX7_init 48 rfl) (fun H locs hP hD hS => ?_)
  have hP : va_P D vwCl [(h0, .inr (7, [.ref q_1, .ref q_3, .ref q_5, .ref q_14, .ref q_16, .ref q_18, .null, .null, .int 0, .null, .null])), (q_1, .inr (0, [.int 0, .ref (u_2 1), .long 0, .long 0])), ((u_2 1), .inr (3, [.int 1, .int 0, .ref (u_2 2)])), ((u_2 2), .inl (cA 0, 25, .inl fun _ => 0)), (q_3, .inr (6, [.ref q_1, .int 0, .int 0, .ref (u_4 1)])), ((u_4 1), .inl (cA 0, 64, .inl fun _ => 0)), (q_5, .inl (cA 2, 4, .inr (.inr (.inr (.inr (va_up (va_up (va_up (va_up (fun _ => none) 0 (some q_6)) 1 (some q_8)) 2 (some q_10)) 3 (some q_12))))))), (q_6, .inr (1, [.ref (u_7 1), .ref (u_7 6)])), ((u_7 1), .inr (2, [.int 0, .ref (u_7 2), .ref (u_7 3), .ref (u_7 4), .ref (u_7 5)])), ((u_7 2), .inl (cA 0, 64, .inl fun _ => 0)), ((u_7 3), .inl (cA 1, 64, .inr (.inl fun _ => 0))), ((u_7 4), .inl (cA 1, 64, .inr (.inl fun _ => 0))), ((u_7 5), .inl (cA 0, 64, .inl fun _ => 0)), ((u_7 6), .inr (2, [.int 0, .ref (u_7 7), .ref (u_7 8), .ref (u_7 9), .ref (u_7 10)])), ((u_7 7), .inl (cA 0, 64, .inl fun _ => 0)), ((u_7 8), .inl (cA 1, 64, .inr (.inl fun _ => 0))), ((u_7 9), .inl (cA 1, 64, .inr (.inl fun _ => 0))), ((u_7 10), .inl (cA 0, 64, .inl fun _ => 0)), (q_8, .inr (1, [.ref (u_9 1), .ref (u_9 6)])), ((u_9 1), .inr (2, [.int 0, .ref (u_9 2), .ref (u_9 3), .ref (u_9 4), .ref (u_9 5)])), ((u_9 2), .inl (cA 0, 64, .inl fun _ => 0)), ((u_9 3), .inl (cA 1, 64, .inr (.inl fun _ => 0))), ((u_9 4), .inl (cA 1, 64, .inr (.inl fun _ => 0))), ((u_9 5), .inl (cA 0, 64, .inl fun _ => 0)), ((u_9 6), .inr (2, [.int 0, .ref (u_9 7), .ref (u_9 8), .ref (u_9 9), .ref (u_9 10)])), ((u_9 7), .inl (cA 0, 64, .inl fun _ => 0)), ((u_9 8), .inl (cA 1, 64, .inr (.inl fun _ => 0))), ((u_9 9), .inl (cA 1, 64, .inr (.inl fun _ => 0))), ((u_9 10), .inl (cA 0, 64, .inl fun _ => 0)), (q_10, .inr (1, [.ref (u_11 1), .ref (u_11 6)])), ((u_11 1), .inr (2, [.int 0, .ref (u_11 2), .ref (u_11 3), .ref (u_11 4), .ref (u_11 5)])), ((u_11 2), .inl (cA 0, 64, .inl fun _ => 0)), ((u_11 3), .inl (cA 1, 64, .inr (.inl fun _ => 0))), ((u_11 4), .inl (cA 1, 64, .inr (.inl fun _ => 0))), ((u_11 5), .inl (cA 0, 64, .inl fun _ => 0)), ((u_11 6), .inr (2, [.int 0, .ref (u_11 7), .ref (u_11 8), .ref (u_11 9), .ref (u_11 10)])), ((u_11 7), .inl (cA 0, 64, .inl fun _ => 0)), ((u_11 8), .inl (cA 1, 64, .inr (.inl fun _ => 0))), ((u_11 9), .inl (cA 1, 64, .inr (.inl fun _ => 0))), ((u_11 10), .inl (cA 0, 64, .inl fun _ => 0)), (q_12, .inr (1, [.ref (u_13 1), .ref (u_13 6)])), ((u_13 1), .inr (2, [.int 0, .ref (u_13 2), .ref (u_13 3), .ref (u_13 4), .ref (u_13 5)])), ((u_13 2), .inl (cA 0, 64, .inl fun _ => 0)), ((u_13 3), .inl (cA 1, 64, .inr (.inl fun _ => 0))), ((u_13 4), .inl (cA 1, 64, .inr (.inl fun _ => 0))), ((u_13 5), .inl (cA 0, 64, .inl fun _ => 0)), ((u_13 6), .inr (2, [.int 0, .ref (u_13 7), .ref (u_13 8), .ref (u_13 9), .ref (u_13 10)])), ((u_13 7), .inl (cA 0, 64, .inl fun _ => 0)), ((u_13 8), .inl (cA 1, 64, .inr (.inl fun _ => 0))), ((u_13 9), .inl (cA 1, 64, .inr (.inl fun _ => 0))), ((u_13 10), .inl (cA 0, 64, .inl fun _ => 0)), (q_14, .inr (1, [.ref (u_15 1), .ref (u_15 6)])), ((u_15 1), .inr (2, [.int 0, .ref (u_15 2), .ref (u_15 3), .ref (u_15 4), .ref (u_15 5)])), ((u_15 2), .inl (cA 0, 64, .inl fun _ => 0)), ((u_15 3), .inl (cA 1, 64, .inr (.inl fun _ => 0))), ((u_15 4), .inl (cA 1, 64, .inr (.inl fun _ => 0))), ((u_15 5), .inl (cA 0, 64, .inl fun _ => 0)), ((u_15 6), .inr (2, [.int 0, .ref (u_15 7), .ref (u_15 8), .ref (u_15 9), .ref (u_15 10)])), ((u_15 7), .inl (cA 0, 64, .inl fun _ => 0)), ((u_15 8), .inl (cA 1, 64, .inr (.inl fun _ => 0))), ((u_15 9), .inl (cA 1, 64, .inr (.inl fun _ => 0))), ((u_15 10), .inl (cA 0, 64, .inl fun _ => 0)), (q_16, .inr (3, [.int 1, .int 0, .ref (u_17 1)])), ((u_17 1), .inl (cA 0, 25, .inl fun _ => 0)), (q_18, .inr (5, [.int 0, .ref (u_19 1)])), ((u_19 1), .inl (cA 0, 100, .inl fun _ => 0))] H := hP
  have hD : va_D A [(h0, .inr (7, [.ref q_1, .ref q_3, .ref q_5, .ref q_14, .ref q_16, .ref q_18, .null, .null, .int 0, .null, .null])), (q_1, .inr (0, [.int 0, .ref (u_2 1), .long 0, .long 0])), ((u_2 1), .inr (3, [.int 1, .int 0, .ref (u_2 2)])), ((u_2 2), .inl (cA 0, 25, .inl fun _ => 0)), (q_3, .inr (6, [.ref q_1, .int 0, .int 0, .ref (u_4 1)])), ((u_4 1), .inl (cA 0, 64, .inl fun _ => 0)), (q_5, .inl (cA 2, 4, .inr (.inr (.inr (.inr (va_up (va_up (va_up (va_up (fun _ => none) 0 (some q_6)) 1 (some q_8)) 2 (some q_10)) 3 (some q_12))))))), (q_6, .inr (1, [.ref (u_7 1), .ref (u_7 6)])), ((u_7 1), .inr (2, [.int 0, .ref (u_7 2), .ref (u_7 3), .ref (u_7 4), .ref (u_7 5)])), ((u_7 2), .inl (cA 0, 64, .inl fun _ => 0)), ((u_7 3), .inl (cA 1, 64, .inr (.inl fun _ => 0))), ((u_7 4), .inl (cA 1, 64, .inr (.inl fun _ => 0))), ((u_7 5), .inl (cA 0, 64, .inl fun _ => 0)), ((u_7 6), .inr (2, [.int 0, .ref (u_7 7), .ref (u_7 8), .ref (u_7 9), .ref (u_7 10)])), ((u_7 7), .inl (cA 0, 64, .inl fun _ => 0)), ((u_7 8), .inl (cA 1, 64, .inr (.inl fun _ => 0))), ((u_7 9), .inl (cA 1, 64, .inr (.inl fun _ => 0))), ((u_7 10), .inl (cA 0, 64, .inl fun _ => 0)), (q_8, .inr (1, [.ref (u_9 1), .ref (u_9 6)])), ((u_9 1), .inr (2, [.int 0, .ref (u_9 2), .ref (u_9 3), .ref (u_9 4), .ref (u_9 5)])), ((u_9 2), .inl (cA 0, 64, .inl fun _ => 0)), ((u_9 3), .inl (cA 1, 64, .inr (.inl fun _ => 0))), ((u_9 4), .inl (cA 1, 64, .inr (.inl fun _ => 0))), ((u_9 5), .inl (cA 0, 64, .inl fun _ => 0)), ((u_9 6), .inr (2, [.int 0, .ref (u_9 7), .ref (u_9 8), .ref (u_9 9), .ref (u_9 10)])), ((u_9 7), .inl (cA 0, 64, .inl fun _ => 0)), ((u_9 8), .inl (cA 1, 64, .inr (.inl fun _ => 0))), ((u_9 9), .inl (cA 1, 64, .inr (.inl fun _ => 0))), ((u_9 10), .inl (cA 0, 64, .inl fun _ => 0)), (q_10, .inr (1, [.ref (u_11 1), .ref (u_11 6)])), ((u_11 1), .inr (2, [.int 0, .ref (u_11 2), .ref (u_11 3), .ref (u_11 4), .ref (u_11 5)])), ((u_11 2), .inl (cA 0, 64, .inl fun _ => 0)), ((u_11 3), .inl (cA 1, 64, .inr (.inl fun _ => 0))), ((u_11 4), .inl (cA 1, 64, .inr (.inl fun _ => 0))), ((u_11 5), .inl (cA 0, 64, .inl fun _ => 0)), ((u_11 6), .inr (2, [.int 0, .ref (u_11 7), .ref (u_11 8), .ref (u_11 9), .ref (u_11 10)])), ((u_11 7), .inl (cA 0, 64, .inl fun _ => 0)), ((u_11 8), .inl (cA 1, 64, .inr (.inl fun _ => 0))), ((u_11 9), .inl (cA 1, 64, .inr (.inl fun _ => 0))), ((u_11 10), .inl (cA 0, 64, .inl fun _ => 0)), (q_12, .inr (1, [.ref (u_13 1), .ref (u_13 6)])), ((u_13 1), .inr (2, [.int 0, .ref (u_13 2), .ref (u_13 3), .ref (u_13 4), .ref (u_13 5)])), ((u_13 2), .inl (cA 0, 64, .inl fun _ => 0)), ((u_13 3), .inl (cA 1, 64, .inr (.inl fun _ => 0))), ((u_13 4), .inl (cA 1, 64, .inr (.inl fun _ => 0))), ((u_13 5), .inl (cA 0, 64, .inl fun _ => 0)), ((u_13 6), .inr (2, [.int 0, .ref (u_13 7), .ref (u_13 8), .ref (u_13 9), .ref (u_13 10)])), ((u_13 7), .inl (cA 0, 64, .inl fun _ => 0)), ((u_13 8), .inl (cA 1, 64, .inr (.inl fun _ => 0))), ((u_13 9), .inl (cA 1, 64, .inr (.inl fun _ => 0))), ((u_13 10), .inl (cA 0, 64, .inl fun _ => 0)), (q_14, .inr (1, [.ref (u_15 1), .ref (u_15 6)])), ((u_15 1), .inr (2, [.int 0, .ref (u_15 2), .ref (u_15 3), .ref (u_15 4), .ref (u_15 5)])), ((u_15 2), .inl (cA 0, 64, .inl fun _ => 0)), ((u_15 3), .inl (cA 1, 64, .inr (.inl fun _ => 0))), ((u_15 4), .inl (cA 1, 64, .inr (.inl fun _ => 0))), ((u_15 5), .inl (cA 0, 64, .inl fun _ => 0)), ((u_15 6), .inr (2, [.int 0, .ref (u_15 7), .ref (u_15 8), .ref (u_15 9), .ref (u_15 10)])), ((u_15 7), .inl (cA 0, 64, .inl fun _ => 0)), ((u_15 8), .inl (cA 1, 64, .inr (.inl fun _ => 0))), ((u_15 9), .inl (cA 1, 64, .inr (.inl fun _ => 0))), ((u_15 10), .inl (cA 0, 64, .inl fun _ => 0)), (q_16, .inr (3, [.int 1, .int 0, .ref (u_17 1)])), ((u_17 1), .inl (cA 0, 25, .inl fun _ => 0)), (q_18, .inr (5, [.int 0, .ref (u_19 1)])), ((u_19 1), .inl (cA 0, 100, .inl fun _ => 0))] := hD
  refine lv_aload_n hx hb (zd DX7_init 49 rfl) rfl (lv_at hl 1 rfl) ?_
  refine va_new (ci := 4) (fs := [.null, .null, .null, .null, .int 0, .int 0]) (C := RX4) (T := TX4) (N := 6) hx hb hts kz4.2.1 tyX4 tyX4_ok hown (hts _ wkc_157) (hts _ wkc_158) (hts _ wkc_8) hK hP hD hS hA rfl (by decide +kernel) (Nat.le_of_ble_eq_true rfl) (Nat.le_of_ble_eq_true rfl) (zd DX7_init 50 rfl) (fun q_20 H hP hD hS => ?_)
  have hP : va_P D vwCl [(h0, .inr (7, [.ref q_1, .ref q_3, .ref q_5, .ref q_14, .ref q_16, .ref q_18, .null, .null, .int 0, .null, .null])), (q_1, .inr (0, [.int 0, .ref (u_2 1), .long 0, .long 0])), ((u_2 1), .inr (3, [.int 1, .int 0, .ref (u_2 2)])), ((u_2 2), .inl (cA 0, 25, .inl fun _ => 0)), (q_3, .inr (6, [.ref q_1, .int 0, .int 0, .ref (u_4 1)])), ((u_4 1), .inl (cA 0, 64, .inl fun _ => 0)), (q_5, .inl (cA 2, 4, .inr (.inr (.inr (.inr (va_up (va_up (va_up (va_up (fun _ => none) 0 (some q_6)) 1 (some q_8)) 2 (some q_10)) 3 (some q_12))))))), (q_6, .inr (1, [.ref (u_7 1), .ref (u_7 6)])), ((u_7 1), .inr (2, [.int 0, .ref (u_7 2), .ref (u_7 3), .ref (u_7 4), .ref (u_7 5)])), ((u_7 2), .inl (cA 0, 64, .inl fun _ => 0)), ((u_7 3), .inl (cA 1, 64, .inr (.inl fun _ => 0))), ((u_7 4), .inl (cA 1, 64, .inr (.inl fun _ => 0))), ((u_7 5), .inl (cA 0, 64, .inl fun _ => 0)), ((u_7 6), .inr (2, [.int 0, .ref (u_7 7), .ref (u_7 8), .ref (u_7 9), .ref (u_7 10)])), ((u_7 7), .inl (cA 0, 64, .inl fun _ => 0)), ((u_7 8), .inl (cA 1, 64, .inr (.inl fun _ => 0))), ((u_7 9), .inl (cA 1, 64, .inr (.inl fun _ => 0))), ((u_7 10), .inl (cA 0, 64, .inl fun _ => 0)), (q_8, .inr (1, [.ref (u_9 1), .ref (u_9 6)])), ((u_9 1), .inr (2, [.int 0, .ref (u_9 2), .ref (u_9 3), .ref (u_9 4), .ref (u_9 5)])), ((u_9 2), .inl (cA 0, 64, .inl fun _ => 0)), ((u_9 3), .inl (cA 1, 64, .inr (.inl fun _ => 0))), ((u_9 4), .inl (cA 1, 64, .inr (.inl fun _ => 0))), ((u_9 5), .inl (cA 0, 64, .inl fun _ => 0)), ((u_9 6), .inr (2, [.int 0, .ref (u_9 7), .ref (u_9 8), .ref (u_9 9), .ref (u_9 10)])), ((u_9 7), .inl (cA 0, 64, .inl fun _ => 0)), ((u_9 8), .inl (cA 1, 64, .inr (.inl fun _ => 0))), ((u_9 9), .inl (cA 1, 64, .inr (.inl fun _ => 0))), ((u_9 10), .inl (cA 0, 64, .inl fun _ => 0)), (q_10, .inr (1, [.ref (u_11 1), .ref (u_11 6)])), ((u_11 1), .inr (2, [.int 0, .ref (u_11 2), .ref (u_11 3), .ref (u_11 4), .ref (u_11 5)])), ((u_11 2), .inl (cA 0, 64, .inl fun _ => 0)), ((u_11 3), .inl (cA 1, 64, .inr (.inl fun _ => 0))), ((u_11 4), .inl (cA 1, 64, .inr (.inl fun _ => 0))), ((u_11 5), .inl (cA 0, 64, .inl fun _ => 0)), ((u_11 6), .inr (2, [.int 0, .ref (u_11 7), .ref (u_11 8), .ref (u_11 9), .ref (u_11 10)])), ((u_11 7), .inl (cA 0, 64, .inl fun _ => 0)), ((u_11 8), .inl (cA 1, 64, .inr (.inl fun _ => 0))), ((u_11 9), .inl (cA 1, 64, .inr (.inl fun _ => 0))), ((u_11 10), .inl (cA 0, 64, .inl fun _ => 0)), (q_12, .inr (1, [.ref (u_13 1), .ref (u_13 6)])), ((u_13 1), .inr (2, [.int 0, .ref (u_13 2), .ref (u_13 3), .ref (u_13 4), .ref (u_13 5)])), ((u_13 2), .inl (cA 0, 64, .inl fun _ => 0)), ((u_13 3), .inl (cA 1, 64, .inr (.inl fun _ => 0))), ((u_13 4), .inl (cA 1, 64, .inr (.inl fun _ => 0))), ((u_13 5), .inl (cA 0, 64, .inl fun _ => 0)), ((u_13 6), .inr (2, [.int 0, .ref (u_13 7), .ref (u_13 8), .ref (u_13 9), .ref (u_13 10)])), ((u_13 7), .inl (cA 0, 64, .inl fun _ => 0)), ((u_13 8), .inl (cA 1, 64, .inr (.inl fun _ => 0))), ((u_13 9), .inl (cA 1, 64, .inr (.inl fun _ => 0))), ((u_13 10), .inl (cA 0, 64, .inl fun _ => 0)), (q_14, .inr (1, [.ref (u_15 1), .ref (u_15 6)])), ((u_15 1), .inr (2, [.int 0, .ref (u_15 2), .ref (u_15 3), .ref (u_15 4), .ref (u_15 5)])), ((u_15 2), .inl (cA 0, 64, .inl fun _ => 0)), ((u_15 3), .inl (cA 1, 64, .inr (.inl fun _ => 0))), ((u_15 4), .inl (cA 1, 64, .inr (.inl fun _ => 0))), ((u_15 5), .inl (cA 0, 64, .inl fun _ => 0)), ((u_15 6), .inr (2, [.int 0, .ref (u_15 7), .ref (u_15 8), .ref (u_15 9), .ref (u_15 10)])), ((u_15 7), .inl (cA 0, 64, .inl fun _ => 0)), ((u_15 8), .inl (cA 1, 64, .inr (.inl fun _ => 0))), ((u_15 9), .inl (cA 1, 64, .inr (.inl fun _ => 0))), ((u_15 10), .inl (cA 0, 64, .inl fun _ => 0)), (q_16, .inr (3, [.int 1, .int 0, .ref (u_17 1)])), ((u_17 1), .inl (cA 0, 25, .inl fun _ => 0)), (q_18, .inr (5, [.int 0, .ref (u_19 1)])), ((u_19 1), .inl (cA 0, 100, .inl fun _ => 0)), (q_20, .inr (4, [.null, .null, .null, .null, .int 0, .int 0]))] H := hP
  have hD : va_D A [(h0, .inr (7, [.ref q_1, .ref q_3, .ref q_5, .ref q_14, .ref q_16, .ref q_18, .null, .null, .int 0, .null, .null])), (q_1, .inr (0, [.int 0, .ref (u_2 1), .long 0, .long 0])), ((u_2 1), .inr (3, [.int 1, .int 0, .ref (u_2 2)])), ((u_2 2), .inl (cA 0, 25, .inl fun _ => 0)), (q_3, .inr (6, [.ref q_1, .int 0, .int 0, .ref (u_4 1)])), ((u_4 1), .inl (cA 0, 64, .inl fun _ => 0)), (q_5, .inl (cA 2, 4, .inr (.inr (.inr (.inr (va_up (va_up (va_up (va_up (fun _ => none) 0 (some q_6)) 1 (some q_8)) 2 (some q_10)) 3 (some q_12))))))), (q_6, .inr (1, [.ref (u_7 1), .ref (u_7 6)])), ((u_7 1), .inr (2, [.int 0, .ref (u_7 2), .ref (u_7 3), .ref (u_7 4), .ref (u_7 5)])), ((u_7 2), .inl (cA 0, 64, .inl fun _ => 0)), ((u_7 3), .inl (cA 1, 64, .inr (.inl fun _ => 0))), ((u_7 4), .inl (cA 1, 64, .inr (.inl fun _ => 0))), ((u_7 5), .inl (cA 0, 64, .inl fun _ => 0)), ((u_7 6), .inr (2, [.int 0, .ref (u_7 7), .ref (u_7 8), .ref (u_7 9), .ref (u_7 10)])), ((u_7 7), .inl (cA 0, 64, .inl fun _ => 0)), ((u_7 8), .inl (cA 1, 64, .inr (.inl fun _ => 0))), ((u_7 9), .inl (cA 1, 64, .inr (.inl fun _ => 0))), ((u_7 10), .inl (cA 0, 64, .inl fun _ => 0)), (q_8, .inr (1, [.ref (u_9 1), .ref (u_9 6)])), ((u_9 1), .inr (2, [.int 0, .ref (u_9 2), .ref (u_9 3), .ref (u_9 4), .ref (u_9 5)])), ((u_9 2), .inl (cA 0, 64, .inl fun _ => 0)), ((u_9 3), .inl (cA 1, 64, .inr (.inl fun _ => 0))), ((u_9 4), .inl (cA 1, 64, .inr (.inl fun _ => 0))), ((u_9 5), .inl (cA 0, 64, .inl fun _ => 0)), ((u_9 6), .inr (2, [.int 0, .ref (u_9 7), .ref (u_9 8), .ref (u_9 9), .ref (u_9 10)])), ((u_9 7), .inl (cA 0, 64, .inl fun _ => 0)), ((u_9 8), .inl (cA 1, 64, .inr (.inl fun _ => 0))), ((u_9 9), .inl (cA 1, 64, .inr (.inl fun _ => 0))), ((u_9 10), .inl (cA 0, 64, .inl fun _ => 0)), (q_10, .inr (1, [.ref (u_11 1), .ref (u_11 6)])), ((u_11 1), .inr (2, [.int 0, .ref (u_11 2), .ref (u_11 3), .ref (u_11 4), .ref (u_11 5)])), ((u_11 2), .inl (cA 0, 64, .inl fun _ => 0)), ((u_11 3), .inl (cA 1, 64, .inr (.inl fun _ => 0))), ((u_11 4), .inl (cA 1, 64, .inr (.inl fun _ => 0))), ((u_11 5), .inl (cA 0, 64, .inl fun _ => 0)), ((u_11 6), .inr (2, [.int 0, .ref (u_11 7), .ref (u_11 8), .ref (u_11 9), .ref (u_11 10)])), ((u_11 7), .inl (cA 0, 64, .inl fun _ => 0)), ((u_11 8), .inl (cA 1, 64, .inr (.inl fun _ => 0))), ((u_11 9), .inl (cA 1, 64, .inr (.inl fun _ => 0))), ((u_11 10), .inl (cA 0, 64, .inl fun _ => 0)), (q_12, .inr (1, [.ref (u_13 1), .ref (u_13 6)])), ((u_13 1), .inr (2, [.int 0, .ref (u_13 2), .ref (u_13 3), .ref (u_13 4), .ref (u_13 5)])), ((u_13 2), .inl (cA 0, 64, .inl fun _ => 0)), ((u_13 3), .inl (cA 1, 64, .inr (.inl fun _ => 0))), ((u_13 4), .inl (cA 1, 64, .inr (.inl fun _ => 0))), ((u_13 5), .inl (cA 0, 64, .inl fun _ => 0)), ((u_13 6), .inr (2, [.int 0, .ref (u_13 7), .ref (u_13 8), .ref (u_13 9), .ref (u_13 10)])), ((u_13 7), .inl (cA 0, 64, .inl fun _ => 0)), ((u_13 8), .inl (cA 1, 64, .inr (.inl fun _ => 0))), ((u_13 9), .inl (cA 1, 64, .inr (.inl fun _ => 0))), ((u_13 10), .inl (cA 0, 64, .inl fun _ => 0)), (q_14, .inr (1, [.ref (u_15 1), .ref (u_15 6)])), ((u_15 1), .inr (2, [.int 0, .ref (u_15 2), .ref (u_15 3), .ref (u_15 4), .ref (u_15 5)])), ((u_15 2), .inl (cA 0, 64, .inl fun _ => 0)), ((u_15 3), .inl (cA 1, 64, .inr (.inl fun _ => 0))), ((u_15 4), .inl (cA 1, 64, .inr (.inl fun _ => 0))), ((u_15 5), .inl (cA 0, 64, .inl fun _ => 0)), ((u_15 6), .inr (2, [.int 0, .ref (u_15 7), .ref (u_15 8), .ref (u_15 9), .ref (u_15 10)])), ((u_15 7), .inl (cA 0, 64, .inl fun _ => 0)), ((u_15 8), .inl (cA 1, 64, .inr (.inl fun _ => 0))), ((u_15 9), .inl (cA 1, 64, .inr (.inl fun _ => 0))), ((u_15 10), .inl (cA 0, 64, .inl fun _ => 0)), (q_16, .inr (3, [.int 1, .int 0, .ref (u_17 1)])), ((u_17 1), .inl (cA 0, 25, .inl fun _ => 0)), (q_18, .inr (5, [.int 0, .ref (u_19 1)])), ((u_19 1), .inl (cA 0, 100, .inl fun _ => 0)), (q_20, .inr (4, [.null, .null, .null, .null, .int 0, .int 0]))] := hD
  refine W.widen (k := 66) (n := 2860) (Nat.le_of_ble_eq_true rfl) (Nat.le_of_ble_eq_true rfl) ?_
  refine lv_dup hx hb (zd DX7_init 51 rfl) rfl ?_
  have hPc := hP.sub (ws' := [(q_20, .inr (4, [.null, .null, .null, .null, .int 0, .int 0]))]) [66] rfl
  have hDc := hD.sub (ws' := [(q_20, .inr (4, [.null, .null, .null, .null, .int 0, .int 0]))]) [66] (by decide) rfl
  have hFc := va_free (wc := [(q_20, .inr (4, [.null, .null, .null, .null, .int 0, .int 0]))]) hD hS hA [66] rfl
  refine va_callv (va_runIN (host := "EndSums") (As := []) (rest := [.ref q_20, .ref h0]) ⟨hx, hb, hml, hown, hts⟩ (nX4_init l D cA q_20 H.size) ⟨va_cnB 0 hts (zTb_goodIn fun w hw => (List.mem_cons.mp hw).elim (fun z => z ▸ wkc_161) id) rfl rfl rfl (hNs _ wnc_159 rfl) (hts _ wkc_8) ⟨by decide, by decide, by decide +kernel⟩ ⟨Nat.le_of_ble_eq_true rfl, Nat.le_of_ble_eq_true rfl⟩, rfl, (hts _ wkc_160)⟩ ⟨zCp_blind, fun U hU hW => ⟨rfl, by rw [hU], by rw [hU]; exact hPc, va_K.moved hW.alike hK, hDc.weaken (fun _ _ _ _ => trivial), zNs_warm hW hNs, va_AO.moved hW.alike hAO⟩⟩ rfl rfl hl.1 rfl (lv_room (Nat.le_of_ble_eq_true rfl)) (zd DX7_init 52 rfl) ⟨Nat.le_of_ble_eq_true rfl, Nat.le_of_ble_eq_true rfl⟩) hS (fun q _ h => hFc q h) hFc (fun u_21 t H1 locs ht hvm hw hB hz1 hk1 hS => ?_)
  obtain ⟨hP1, hD1⟩ := hB
  rw [ht] at hP1
  obtain ⟨hP, hD⟩ := va_join (wr := [(h0, .inr (7, [.ref q_1, .ref q_3, .ref q_5, .ref q_14, .ref q_16, .ref q_18, .null, .null, .int 0, .null, .null])), (q_1, .inr (0, [.int 0, .ref (u_2 1), .long 0, .long 0])), ((u_2 1), .inr (3, [.int 1, .int 0, .ref (u_2 2)])), ((u_2 2), .inl (cA 0, 25, .inl fun _ => 0)), (q_3, .inr (6, [.ref q_1, .int 0, .int 0, .ref (u_4 1)])), ((u_4 1), .inl (cA 0, 64, .inl fun _ => 0)), (q_5, .inl (cA 2, 4, .inr (.inr (.inr (.inr (va_up (va_up (va_up (va_up (fun _ => none) 0 (some q_6)) 1 (some q_8)) 2 (some q_10)) 3 (some q_12))))))), (q_6, .inr (1, [.ref (u_7 1), .ref (u_7 6)])), ((u_7 1), .inr (2, [.int 0, .ref (u_7 2), .ref (u_7 3), .ref (u_7 4), .ref (u_7 5)])), ((u_7 2), .inl (cA 0, 64, .inl fun _ => 0)), ((u_7 3), .inl (cA 1, 64, .inr (.inl fun _ => 0))), ((u_7 4), .inl (cA 1, 64, .inr (.inl fun _ => 0))), ((u_7 5), .inl (cA 0, 64, .inl fun _ => 0)), ((u_7 6), .inr (2, [.int 0, .ref (u_7 7), .ref (u_7 8), .ref (u_7 9), .ref (u_7 10)])), ((u_7 7), .inl (cA 0, 64, .inl fun _ => 0)), ((u_7 8), .inl (cA 1, 64, .inr (.inl fun _ => 0))), ((u_7 9), .inl (cA 1, 64, .inr (.inl fun _ => 0))), ((u_7 10), .inl (cA 0, 64, .inl fun _ => 0)), (q_8, .inr (1, [.ref (u_9 1), .ref (u_9 6)])), ((u_9 1), .inr (2, [.int 0, .ref (u_9 2), .ref (u_9 3), .ref (u_9 4), .ref (u_9 5)])), ((u_9 2), .inl (cA 0, 64, .inl fun _ => 0)), ((u_9 3), .inl (cA 1, 64, .inr (.inl fun _ => 0))), ((u_9 4), .inl (cA 1, 64, .inr (.inl fun _ => 0))), ((u_9 5), .inl (cA 0, 64, .inl fun _ => 0)), ((u_9 6), .inr (2, [.int 0, .ref (u_9 7), .ref (u_9 8), .ref (u_9 9), .ref (u_9 10)])), ((u_9 7), .inl (cA 0, 64, .inl fun _ => 0)), ((u_9 8), .inl (cA 1, 64, .inr (.inl fun _ => 0))), ((u_9 9), .inl (cA 1, 64, .inr (.inl fun _ => 0))), ((u_9 10), .inl (cA 0, 64, .inl fun _ => 0)), (q_10, .inr (1, [.ref (u_11 1), .ref (u_11 6)])), ((u_11 1), .inr (2, [.int 0, .ref (u_11 2), .ref (u_11 3), .ref (u_11 4), .ref (u_11 5)])), ((u_11 2), .inl (cA 0, 64, .inl fun _ => 0)), ((u_11 3), .inl (cA 1, 64, .inr (.inl fun _ => 0))), ((u_11 4), .inl (cA 1, 64, .inr (.inl fun _ => 0))), ((u_11 5), .inl (cA 0, 64, .inl fun _ => 0)), ((u_11 6), .inr (2, [.int 0, .ref (u_11 7), .ref (u_11 8), .ref (u_11 9), .ref (u_11 10)])), ((u_11 7), .inl (cA 0, 64, .inl fun _ => 0)), ((u_11 8), .inl (cA 1, 64, .inr (.inl fun _ => 0))), ((u_11 9), .inl (cA 1, 64, .inr (.inl fun _ => 0))), ((u_11 10), .inl (cA 0, 64, .inl fun _ => 0)), (q_12, .inr (1, [.ref (u_13 1), .ref (u_13 6)])), ((u_13 1), .inr (2, [.int 0, .ref (u_13 2), .ref (u_13 3), .ref (u_13 4), .ref (u_13 5)])), ((u_13 2), .inl (cA 0, 64, .inl fun _ => 0)), ((u_13 3), .inl (cA 1, 64, .inr (.inl fun _ => 0))), ((u_13 4), .inl (cA 1, 64, .inr (.inl fun _ => 0))), ((u_13 5), .inl (cA 0, 64, .inl fun _ => 0)), ((u_13 6), .inr (2, [.int 0, .ref (u_13 7), .ref (u_13 8), .ref (u_13 9), .ref (u_13 10)])), ((u_13 7), .inl (cA 0, 64, .inl fun _ => 0)), ((u_13 8), .inl (cA 1, 64, .inr (.inl fun _ => 0))), ((u_13 9), .inl (cA 1, 64, .inr (.inl fun _ => 0))), ((u_13 10), .inl (cA 0, 64, .inl fun _ => 0)), (q_14, .inr (1, [.ref (u_15 1), .ref (u_15 6)])), ((u_15 1), .inr (2, [.int 0, .ref (u_15 2), .ref (u_15 3), .ref (u_15 4), .ref (u_15 5)])), ((u_15 2), .inl (cA 0, 64, .inl fun _ => 0)), ((u_15 3), .inl (cA 1, 64, .inr (.inl fun _ => 0))), ((u_15 4), .inl (cA 1, 64, .inr (.inl fun _ => 0))), ((u_15 5), .inl (cA 0, 64, .inl fun _ => 0)), ((u_15 6), .inr (2, [.int 0, .ref (u_15 7), .ref (u_15 8), .ref (u_15 9), .ref (u_15 10)])), ((u_15 7), .inl (cA 0, 64, .inl fun _ => 0)), ((u_15 8), .inl (cA 1, 64, .inr (.inl fun _ => 0))), ((u_15 9), .inl (cA 1, 64, .inr (.inl fun _ => 0))), ((u_15 10), .inl (cA 0, 64, .inl fun _ => 0)), (q_16, .inr (3, [.int 1, .int 0, .ref (u_17 1)])), ((u_17 1), .inl (cA 0, 25, .inl fun _ => 0)), (q_18, .inr (5, [.int 0, .ref (u_19 1)])), ((u_19 1), .inl (cA 0, 100, .inl fun _ => 0))]) (w1 := [(q_20, .inr (4, [.ref (u_21 1), .ref (u_21 2), .ref (u_21 3), .ref (u_21 4), .int 0, .int 0])), ((u_21 1), .inl (cA 0, 65, .inl fun _ => 0)), ((u_21 2), .inl (cA 0, 65, .inl fun _ => 0)), ((u_21 3), .inl (cA 0, 65, .inl fun _ => 0)), ((u_21 4), .inl (cA 0, 65, .inl fun _ => 0))]) hP hD [66] [0, 1, 2, 3, 4, 5, 6, 7, 8, 9, 10, 11, 12, 13, 14, 15, 16, 17, 18, 19, 20, 21, 22, 23, 24, 25, 26, 27, 28, 29, 30, 31, 32, 33, 34, 35, 36, 37, 38, 39, 40, 41, 42, 43, 44, 45, 46, 47, 48, 49, 50, 51, 52, 53, 54, 55, 56, 57, 58, 59, 60, 61, 62, 63, 64, 65] rfl rfl (by decide) (by decide) hk1 hFc hP1 hD1
  generalize H1 = H at hP hS ⊢
  have hP : va_P D vwCl [(h0, .inr (7, [.ref q_1, .ref q_3, .ref q_5, .ref q_14, .ref q_16, .ref q_18, .null, .null, .int 0, .null, .null])), (q_1, .inr (0, [.int 0, .ref (u_2 1), .long 0, .long 0])), ((u_2 1), .inr (3, [.int 1, .int 0, .ref (u_2 2)])), ((u_2 2), .inl (cA 0, 25, .inl fun _ => 0)), (q_3, .inr (6, [.ref q_1, .int 0, .int 0, .ref (u_4 1)])), ((u_4 1), .inl (cA 0, 64, .inl fun _ => 0)), (q_5, .inl (cA 2, 4, .inr (.inr (.inr (.inr (va_up (va_up (va_up (va_up (fun _ => none) 0 (some q_6)) 1 (some q_8)) 2 (some q_10)) 3 (some q_12))))))), (q_6, .inr (1, [.ref (u_7 1), .ref (u_7 6)])), ((u_7 1), .inr (2, [.int 0, .ref (u_7 2), .ref (u_7 3), .ref (u_7 4), .ref (u_7 5)])), ((u_7 2), .inl (cA 0, 64, .inl fun _ => 0)), ((u_7 3), .inl (cA 1, 64, .inr (.inl fun _ => 0))), ((u_7 4), .inl (cA 1, 64, .inr (.inl fun _ => 0))), ((u_7 5), .inl (cA 0, 64, .inl fun _ => 0)), ((u_7 6), .inr (2, [.int 0, .ref (u_7 7), .ref (u_7 8), .ref (u_7 9), .ref (u_7 10)])), ((u_7 7), .inl (cA 0, 64, .inl fun _ => 0)), ((u_7 8), .inl (cA 1, 64, .inr (.inl fun _ => 0))), ((u_7 9), .inl (cA 1, 64, .inr (.inl fun _ => 0))), ((u_7 10), .inl (cA 0, 64, .inl fun _ => 0)), (q_8, .inr (1, [.ref (u_9 1), .ref (u_9 6)])), ((u_9 1), .inr (2, [.int 0, .ref (u_9 2), .ref (u_9 3), .ref (u_9 4), .ref (u_9 5)])), ((u_9 2), .inl (cA 0, 64, .inl fun _ => 0)), ((u_9 3), .inl (cA 1, 64, .inr (.inl fun _ => 0))), ((u_9 4), .inl (cA 1, 64, .inr (.inl fun _ => 0))), ((u_9 5), .inl (cA 0, 64, .inl fun _ => 0)), ((u_9 6), .inr (2, [.int 0, .ref (u_9 7), .ref (u_9 8), .ref (u_9 9), .ref (u_9 10)])), ((u_9 7), .inl (cA 0, 64, .inl fun _ => 0)), ((u_9 8), .inl (cA 1, 64, .inr (.inl fun _ => 0))), ((u_9 9), .inl (cA 1, 64, .inr (.inl fun _ => 0))), ((u_9 10), .inl (cA 0, 64, .inl fun _ => 0)), (q_10, .inr (1, [.ref (u_11 1), .ref (u_11 6)])), ((u_11 1), .inr (2, [.int 0, .ref (u_11 2), .ref (u_11 3), .ref (u_11 4), .ref (u_11 5)])), ((u_11 2), .inl (cA 0, 64, .inl fun _ => 0)), ((u_11 3), .inl (cA 1, 64, .inr (.inl fun _ => 0))), ((u_11 4), .inl (cA 1, 64, .inr (.inl fun _ => 0))), ((u_11 5), .inl (cA 0, 64, .inl fun _ => 0)), ((u_11 6), .inr (2, [.int 0, .ref (u_11 7), .ref (u_11 8), .ref (u_11 9), .ref (u_11 10)])), ((u_11 7), .inl (cA 0, 64, .inl fun _ => 0)), ((u_11 8), .inl (cA 1, 64, .inr (.inl fun _ => 0))), ((u_11 9), .inl (cA 1, 64, .inr (.inl fun _ => 0))), ((u_11 10), .inl (cA 0, 64, .inl fun _ => 0)), (q_12, .inr (1, [.ref (u_13 1), .ref (u_13 6)])), ((u_13 1), .inr (2, [.int 0, .ref (u_13 2), .ref (u_13 3), .ref (u_13 4), .ref (u_13 5)])), ((u_13 2), .inl (cA 0, 64, .inl fun _ => 0)), ((u_13 3), .inl (cA 1, 64, .inr (.inl fun _ => 0))), ((u_13 4), .inl (cA 1, 64, .inr (.inl fun _ => 0))), ((u_13 5), .inl (cA 0, 64, .inl fun _ => 0)), ((u_13 6), .inr (2, [.int 0, .ref (u_13 7), .ref (u_13 8), .ref (u_13 9), .ref (u_13 10)])), ((u_13 7), .inl (cA 0, 64, .inl fun _ => 0)), ((u_13 8), .inl (cA 1, 64, .inr (.inl fun _ => 0))), ((u_13 9), .inl (cA 1, 64, .inr (.inl fun _ => 0))), ((u_13 10), .inl (cA 0, 64, .inl fun _ => 0)), (q_14, .inr (1, [.ref (u_15 1), .ref (u_15 6)])), ((u_15 1), .inr (2, [.int 0, .ref (u_15 2), .ref (u_15 3), .ref (u_15 4), .ref (u_15 5)])), ((u_15 2), .inl (cA 0, 64, .inl fun _ => 0)), ((u_15 3), .inl (cA 1, 64, .inr (.inl fun _ => 0))), ((u_15 4), .inl (cA 1, 64, .inr (.inl fun _ => 0))), ((u_15 5), .inl (cA 0, 64, .inl fun _ => 0)), ((u_15 6), .inr (2, [.int 0, .ref (u_15 7), .ref (u_15 8), .ref (u_15 9), .ref (u_15 10)])), ((u_15 7), .inl (cA 0, 64, .inl fun _ => 0)), ((u_15 8), .inl (cA 1, 64, .inr (.inl fun _ => 0))), ((u_15 9), .inl (cA 1, 64, .inr (.inl fun _ => 0))), ((u_15 10), .inl (cA 0, 64, .inl fun _ => 0)), (q_16, .inr (3, [.int 1, .int 0, .ref (u_17 1)])), ((u_17 1), .inl (cA 0, 25, .inl fun _ => 0)), (q_18, .inr (5, [.int 0, .ref (u_19 1)])), ((u_19 1), .inl (cA 0, 100, .inl fun _ => 0)), (q_20, .inr (4, [.ref (u_21 1), .ref (u_21 2), .ref (u_21 3), .ref (u_21 4), .int 0, .int 0])), ((u_21 1), .inl (cA 0, 65, .inl fun _ => 0)), ((u_21 2), .inl (cA 0, 65, .inl fun _ => 0)), ((u_21 3), .inl (cA 0, 65, .inl fun _ => 0)), ((u_21 4), .inl (cA 0, 65, .inl fun _ => 0))] H := hP
  have hD : va_D A [(h0, .inr (7, [.ref q_1, .ref q_3, .ref q_5, .ref q_14, .ref q_16, .ref q_18, .null, .null, .int 0, .null, .null])), (q_1, .inr (0, [.int 0, .ref (u_2 1), .long 0, .long 0])), ((u_2 1), .inr (3, [.int 1, .int 0, .ref (u_2 2)])), ((u_2 2), .inl (cA 0, 25, .inl fun _ => 0)), (q_3, .inr (6, [.ref q_1, .int 0, .int 0, .ref (u_4 1)])), ((u_4 1), .inl (cA 0, 64, .inl fun _ => 0)), (q_5, .inl (cA 2, 4, .inr (.inr (.inr (.inr (va_up (va_up (va_up (va_up (fun _ => none) 0 (some q_6)) 1 (some q_8)) 2 (some q_10)) 3 (some q_12))))))), (q_6, .inr (1, [.ref (u_7 1), .ref (u_7 6)])), ((u_7 1), .inr (2, [.int 0, .ref (u_7 2), .ref (u_7 3), .ref (u_7 4), .ref (u_7 5)])), ((u_7 2), .inl (cA 0, 64, .inl fun _ => 0)), ((u_7 3), .inl (cA 1, 64, .inr (.inl fun _ => 0))), ((u_7 4), .inl (cA 1, 64, .inr (.inl fun _ => 0))), ((u_7 5), .inl (cA 0, 64, .inl fun _ => 0)), ((u_7 6), .inr (2, [.int 0, .ref (u_7 7), .ref (u_7 8), .ref (u_7 9), .ref (u_7 10)])), ((u_7 7), .inl (cA 0, 64, .inl fun _ => 0)), ((u_7 8), .inl (cA 1, 64, .inr (.inl fun _ => 0))), ((u_7 9), .inl (cA 1, 64, .inr (.inl fun _ => 0))), ((u_7 10), .inl (cA 0, 64, .inl fun _ => 0)), (q_8, .inr (1, [.ref (u_9 1), .ref (u_9 6)])), ((u_9 1), .inr (2, [.int 0, .ref (u_9 2), .ref (u_9 3), .ref (u_9 4), .ref (u_9 5)])), ((u_9 2), .inl (cA 0, 64, .inl fun _ => 0)), ((u_9 3), .inl (cA 1, 64, .inr (.inl fun _ => 0))), ((u_9 4), .inl (cA 1, 64, .inr (.inl fun _ => 0))), ((u_9 5), .inl (cA 0, 64, .inl fun _ => 0)), ((u_9 6), .inr (2, [.int 0, .ref (u_9 7), .ref (u_9 8), .ref (u_9 9), .ref (u_9 10)])), ((u_9 7), .inl (cA 0, 64, .inl fun _ => 0)), ((u_9 8), .inl (cA 1, 64, .inr (.inl fun _ => 0))), ((u_9 9), .inl (cA 1, 64, .inr (.inl fun _ => 0))), ((u_9 10), .inl (cA 0, 64, .inl fun _ => 0)), (q_10, .inr (1, [.ref (u_11 1), .ref (u_11 6)])), ((u_11 1), .inr (2, [.int 0, .ref (u_11 2), .ref (u_11 3), .ref (u_11 4), .ref (u_11 5)])), ((u_11 2), .inl (cA 0, 64, .inl fun _ => 0)), ((u_11 3), .inl (cA 1, 64, .inr (.inl fun _ => 0))), ((u_11 4), .inl (cA 1, 64, .inr (.inl fun _ => 0))), ((u_11 5), .inl (cA 0, 64, .inl fun _ => 0)), ((u_11 6), .inr (2, [.int 0, .ref (u_11 7), .ref (u_11 8), .ref (u_11 9), .ref (u_11 10)])), ((u_11 7), .inl (cA 0, 64, .inl fun _ => 0)), ((u_11 8), .inl (cA 1, 64, .inr (.inl fun _ => 0))), ((u_11 9), .inl (cA 1, 64, .inr (.inl fun _ => 0))), ((u_11 10), .inl (cA 0, 64, .inl fun _ => 0)), (q_12, .inr (1, [.ref (u_13 1), .ref (u_13 6)])), ((u_13 1), .inr (2, [.int 0, .ref (u_13 2), .ref (u_13 3), .ref (u_13 4), .ref (u_13 5)])), ((u_13 2), .inl (cA 0, 64, .inl fun _ => 0)), ((u_13 3), .inl (cA 1, 64, .inr (.inl fun _ => 0))), ((u_13 4), .inl (cA 1, 64, .inr (.inl fun _ => 0))), ((u_13 5), .inl (cA 0, 64, .inl fun _ => 0)), ((u_13 6), .inr (2, [.int 0, .ref (u_13 7), .ref (u_13 8), .ref (u_13 9), .ref (u_13 10)])), ((u_13 7), .inl (cA 0, 64, .inl fun _ => 0)), ((u_13 8), .inl (cA 1, 64, .inr (.inl fun _ => 0))), ((u_13 9), .inl (cA 1, 64, .inr (.inl fun _ => 0))), ((u_13 10), .inl (cA 0, 64, .inl fun _ => 0)), (q_14, .inr (1, [.ref (u_15 1), .ref (u_15 6)])), ((u_15 1), .inr (2, [.int 0, .ref (u_15 2), .ref (u_15 3), .ref (u_15 4), .ref (u_15 5)])), ((u_15 2), .inl (cA 0, 64, .inl fun _ => 0)), ((u_15 3), .inl (cA 1, 64, .inr (.inl fun _ => 0))), ((u_15 4), .inl (cA 1, 64, .inr (.inl fun _ => 0))), ((u_15 5), .inl (cA 0, 64, .inl fun _ => 0)), ((u_15 6), .inr (2, [.int 0, .ref (u_15 7), .ref (u_15 8), .ref (u_15 9), .ref (u_15 10)])), ((u_15 7), .inl (cA 0, 64, .inl fun _ => 0)), ((u_15 8), .inl (cA 1, 64, .inr (.inl fun _ => 0))), ((u_15 9), .inl (cA 1, 64, .inr (.inl fun _ => 0))), ((u_15 10), .inl (cA 0, 64, .inl fun _ => 0)), (q_16, .inr (3, [.int 1, .int 0, .ref (u_17 1)])), ((u_17 1), .inl (cA 0, 25, .inl fun _ => 0)), (q_18, .inr (5, [.int 0, .ref (u_19 1)])), ((u_19 1), .inl (cA 0, 100, .inl fun _ => 0)), (q_20, .inr (4, [.ref (u_21 1), .ref (u_21 2), .ref (u_21 3), .ref (u_21 4), .int 0, .int 0])), ((u_21 1), .inl (cA 0, 65, .inl fun _ => 0)), ((u_21 2), .inl (cA 0, 65, .inl fun _ => 0)), ((u_21 3), .inl (cA 0, 65, .inl fun _ => 0)), ((u_21 4), .inl (cA 0, 65, .inl fun _ => 0))] := hD
  refine W.widen (k := 70) (n := 3120) (Nat.le_of_ble_eq_true rfl) (Nat.le_of_ble_eq_true rfl) ?_
  refine va_putF (D := D) (ci := 7) (v := .ref q_20) (ty := .object "EndSums$Takings") (C := RX7) (T := TX7) (N := 11) hx hb hts kz7.2.1 tyX7 tyX7_ok nmX7 hown hK hP hD hS 0 rfl rfl 6 (by decide) (hts _ wkc_190) (fun _ h9 => h9) rfl hin rfl (by decide +kernel) rfl rfl (Nat.le_of_ble_eq_true rfl) (zd DX7_init 53 rfl) (fun H locs hP hD hS => ?_)
  have hP : va_P D vwCl [(h0, .inr (7, [.ref q_1, .ref q_3, .ref q_5, .ref q_14, .ref q_16, .ref q_18, .ref q_20, .null, .int 0, .null, .null])), (q_1, .inr (0, [.int 0, .ref (u_2 1), .long 0, .long 0])), ((u_2 1), .inr (3, [.int 1, .int 0, .ref (u_2 2)])), ((u_2 2), .inl (cA 0, 25, .inl fun _ => 0)), (q_3, .inr (6, [.ref q_1, .int 0, .int 0, .ref (u_4 1)])), ((u_4 1), .inl (cA 0, 64, .inl fun _ => 0)), (q_5, .inl (cA 2, 4, .inr (.inr (.inr (.inr (va_up (va_up (va_up (va_up (fun _ => none) 0 (some q_6)) 1 (some q_8)) 2 (some q_10)) 3 (some q_12))))))), (q_6, .inr (1, [.ref (u_7 1), .ref (u_7 6)])), ((u_7 1), .inr (2, [.int 0, .ref (u_7 2), .ref (u_7 3), .ref (u_7 4), .ref (u_7 5)])), ((u_7 2), .inl (cA 0, 64, .inl fun _ => 0)), ((u_7 3), .inl (cA 1, 64, .inr (.inl fun _ => 0))), ((u_7 4), .inl (cA 1, 64, .inr (.inl fun _ => 0))), ((u_7 5), .inl (cA 0, 64, .inl fun _ => 0)), ((u_7 6), .inr (2, [.int 0, .ref (u_7 7), .ref (u_7 8), .ref (u_7 9), .ref (u_7 10)])), ((u_7 7), .inl (cA 0, 64, .inl fun _ => 0)), ((u_7 8), .inl (cA 1, 64, .inr (.inl fun _ => 0))), ((u_7 9), .inl (cA 1, 64, .inr (.inl fun _ => 0))), ((u_7 10), .inl (cA 0, 64, .inl fun _ => 0)), (q_8, .inr (1, [.ref (u_9 1), .ref (u_9 6)])), ((u_9 1), .inr (2, [.int 0, .ref (u_9 2), .ref (u_9 3), .ref (u_9 4), .ref (u_9 5)])), ((u_9 2), .inl (cA 0, 64, .inl fun _ => 0)), ((u_9 3), .inl (cA 1, 64, .inr (.inl fun _ => 0))), ((u_9 4), .inl (cA 1, 64, .inr (.inl fun _ => 0))), ((u_9 5), .inl (cA 0, 64, .inl fun _ => 0)), ((u_9 6), .inr (2, [.int 0, .ref (u_9 7), .ref (u_9 8), .ref (u_9 9), .ref (u_9 10)])), ((u_9 7), .inl (cA 0, 64, .inl fun _ => 0)), ((u_9 8), .inl (cA 1, 64, .inr (.inl fun _ => 0))), ((u_9 9), .inl (cA 1, 64, .inr (.inl fun _ => 0))), ((u_9 10), .inl (cA 0, 64, .inl fun _ => 0)), (q_10, .inr (1, [.ref (u_11 1), .ref (u_11 6)])), ((u_11 1), .inr (2, [.int 0, .ref (u_11 2), .ref (u_11 3), .ref (u_11 4), .ref (u_11 5)])), ((u_11 2), .inl (cA 0, 64, .inl fun _ => 0)), ((u_11 3), .inl (cA 1, 64, .inr (.inl fun _ => 0))), ((u_11 4), .inl (cA 1, 64, .inr (.inl fun _ => 0))), ((u_11 5), .inl (cA 0, 64, .inl fun _ => 0)), ((u_11 6), .inr (2, [.int 0, .ref (u_11 7), .ref (u_11 8), .ref (u_11 9), .ref (u_11 10)])), ((u_11 7), .inl (cA 0, 64, .inl fun _ => 0)), ((u_11 8), .inl (cA 1, 64, .inr (.inl fun _ => 0))), ((u_11 9), .inl (cA 1, 64, .inr (.inl fun _ => 0))), ((u_11 10), .inl (cA 0, 64, .inl fun _ => 0)), (q_12, .inr (1, [.ref (u_13 1), .ref (u_13 6)])), ((u_13 1), .inr (2, [.int 0, .ref (u_13 2), .ref (u_13 3), .ref (u_13 4), .ref (u_13 5)])), ((u_13 2), .inl (cA 0, 64, .inl fun _ => 0)), ((u_13 3), .inl (cA 1, 64, .inr (.inl fun _ => 0))), ((u_13 4), .inl (cA 1, 64, .inr (.inl fun _ => 0))), ((u_13 5), .inl (cA 0, 64, .inl fun _ => 0)), ((u_13 6), .inr (2, [.int 0, .ref (u_13 7), .ref (u_13 8), .ref (u_13 9), .ref (u_13 10)])), ((u_13 7), .inl (cA 0, 64, .inl fun _ => 0)), ((u_13 8), .inl (cA 1, 64, .inr (.inl fun _ => 0))), ((u_13 9), .inl (cA 1, 64, .inr (.inl fun _ => 0))), ((u_13 10), .inl (cA 0, 64, .inl fun _ => 0)), (q_14, .inr (1, [.ref (u_15 1), .ref (u_15 6)])), ((u_15 1), .inr (2, [.int 0, .ref (u_15 2), .ref (u_15 3), .ref (u_15 4), .ref (u_15 5)])), ((u_15 2), .inl (cA 0, 64, .inl fun _ => 0)), ((u_15 3), .inl (cA 1, 64, .inr (.inl fun _ => 0))), ((u_15 4), .inl (cA 1, 64, .inr (.inl fun _ => 0))), ((u_15 5), .inl (cA 0, 64, .inl fun _ => 0)), ((u_15 6), .inr (2, [.int 0, .ref (u_15 7), .ref (u_15 8), .ref (u_15 9), .ref (u_15 10)])), ((u_15 7), .inl (cA 0, 64, .inl fun _ => 0)), ((u_15 8), .inl (cA 1, 64, .inr (.inl fun _ => 0))), ((u_15 9), .inl (cA 1, 64, .inr (.inl fun _ => 0))), ((u_15 10), .inl (cA 0, 64, .inl fun _ => 0)), (q_16, .inr (3, [.int 1, .int 0, .ref (u_17 1)])), ((u_17 1), .inl (cA 0, 25, .inl fun _ => 0)), (q_18, .inr (5, [.int 0, .ref (u_19 1)])), ((u_19 1), .inl (cA 0, 100, .inl fun _ => 0)), (q_20, .inr (4, [.ref (u_21 1), .ref (u_21 2), .ref (u_21 3), .ref (u_21 4), .int 0, .int 0])), ((u_21 1), .inl (cA 0, 65, .inl fun _ => 0)), ((u_21 2), .inl (cA 0, 65, .inl fun _ => 0)), ((u_21 3), .inl (cA 0, 65, .inl fun _ => 0)), ((u_21 4), .inl (cA 0, 65, .inl fun _ => 0))] H := hP
  have hD : va_D A [(h0, .inr (7, [.ref q_1, .ref q_3, .ref q_5, .ref q_14, .ref q_16, .ref q_18, .ref q_20, .null, .int 0, .null, .null])), (q_1, .inr (0, [.int 0, .ref (u_2 1), .long 0, .long 0])), ((u_2 1), .inr (3, [.int 1, .int 0, .ref (u_2 2)])), ((u_2 2), .inl (cA 0, 25, .inl fun _ => 0)), (q_3, .inr (6, [.ref q_1, .int 0, .int 0, .ref (u_4 1)])), ((u_4 1), .inl (cA 0, 64, .inl fun _ => 0)), (q_5, .inl (cA 2, 4, .inr (.inr (.inr (.inr (va_up (va_up (va_up (va_up (fun _ => none) 0 (some q_6)) 1 (some q_8)) 2 (some q_10)) 3 (some q_12))))))), (q_6, .inr (1, [.ref (u_7 1), .ref (u_7 6)])), ((u_7 1), .inr (2, [.int 0, .ref (u_7 2), .ref (u_7 3), .ref (u_7 4), .ref (u_7 5)])), ((u_7 2), .inl (cA 0, 64, .inl fun _ => 0)), ((u_7 3), .inl (cA 1, 64, .inr (.inl fun _ => 0))), ((u_7 4), .inl (cA 1, 64, .inr (.inl fun _ => 0))), ((u_7 5), .inl (cA 0, 64, .inl fun _ => 0)), ((u_7 6), .inr (2, [.int 0, .ref (u_7 7), .ref (u_7 8), .ref (u_7 9), .ref (u_7 10)])), ((u_7 7), .inl (cA 0, 64, .inl fun _ => 0)), ((u_7 8), .inl (cA 1, 64, .inr (.inl fun _ => 0))), ((u_7 9), .inl (cA 1, 64, .inr (.inl fun _ => 0))), ((u_7 10), .inl (cA 0, 64, .inl fun _ => 0)), (q_8, .inr (1, [.ref (u_9 1), .ref (u_9 6)])), ((u_9 1), .inr (2, [.int 0, .ref (u_9 2), .ref (u_9 3), .ref (u_9 4), .ref (u_9 5)])), ((u_9 2), .inl (cA 0, 64, .inl fun _ => 0)), ((u_9 3), .inl (cA 1, 64, .inr (.inl fun _ => 0))), ((u_9 4), .inl (cA 1, 64, .inr (.inl fun _ => 0))), ((u_9 5), .inl (cA 0, 64, .inl fun _ => 0)), ((u_9 6), .inr (2, [.int 0, .ref (u_9 7), .ref (u_9 8), .ref (u_9 9), .ref (u_9 10)])), ((u_9 7), .inl (cA 0, 64, .inl fun _ => 0)), ((u_9 8), .inl (cA 1, 64, .inr (.inl fun _ => 0))), ((u_9 9), .inl (cA 1, 64, .inr (.inl fun _ => 0))), ((u_9 10), .inl (cA 0, 64, .inl fun _ => 0)), (q_10, .inr (1, [.ref (u_11 1), .ref (u_11 6)])), ((u_11 1), .inr (2, [.int 0, .ref (u_11 2), .ref (u_11 3), .ref (u_11 4), .ref (u_11 5)])), ((u_11 2), .inl (cA 0, 64, .inl fun _ => 0)), ((u_11 3), .inl (cA 1, 64, .inr (.inl fun _ => 0))), ((u_11 4), .inl (cA 1, 64, .inr (.inl fun _ => 0))), ((u_11 5), .inl (cA 0, 64, .inl fun _ => 0)), ((u_11 6), .inr (2, [.int 0, .ref (u_11 7), .ref (u_11 8), .ref (u_11 9), .ref (u_11 10)])), ((u_11 7), .inl (cA 0, 64, .inl fun _ => 0)), ((u_11 8), .inl (cA 1, 64, .inr (.inl fun _ => 0))), ((u_11 9), .inl (cA 1, 64, .inr (.inl fun _ => 0))), ((u_11 10), .inl (cA 0, 64, .inl fun _ => 0)), (q_12, .inr (1, [.ref (u_13 1), .ref (u_13 6)])), ((u_13 1), .inr (2, [.int 0, .ref (u_13 2), .ref (u_13 3), .ref (u_13 4), .ref (u_13 5)])), ((u_13 2), .inl (cA 0, 64, .inl fun _ => 0)), ((u_13 3), .inl (cA 1, 64, .inr (.inl fun _ => 0))), ((u_13 4), .inl (cA 1, 64, .inr (.inl fun _ => 0))), ((u_13 5), .inl (cA 0, 64, .inl fun _ => 0)), ((u_13 6), .inr (2, [.int 0, .ref (u_13 7), .ref (u_13 8), .ref (u_13 9), .ref (u_13 10)])), ((u_13 7), .inl (cA 0, 64, .inl fun _ => 0)), ((u_13 8), .inl (cA 1, 64, .inr (.inl fun _ => 0))), ((u_13 9), .inl (cA 1, 64, .inr (.inl fun _ => 0))), ((u_13 10), .inl (cA 0, 64, .inl fun _ => 0)), (q_14, .inr (1, [.ref (u_15 1), .ref (u_15 6)])), ((u_15 1), .inr (2, [.int 0, .ref (u_15 2), .ref (u_15 3), .ref (u_15 4), .ref (u_15 5)])), ((u_15 2), .inl (cA 0, 64, .inl fun _ => 0)), ((u_15 3), .inl (cA 1, 64, .inr (.inl fun _ => 0))), ((u_15 4), .inl (cA 1, 64, .inr (.inl fun _ => 0))), ((u_15 5), .inl (cA 0, 64, .inl fun _ => 0)), ((u_15 6), .inr (2, [.int 0, .ref (u_15 7), .ref (u_15 8), .ref (u_15 9), .ref (u_15 10)])), ((u_15 7), .inl (cA 0, 64, .inl fun _ => 0)), ((u_15 8), .inl (cA 1, 64, .inr (.inl fun _ => 0))), ((u_15 9), .inl (cA 1, 64, .inr (.inl fun _ => 0))), ((u_15 10), .inl (cA 0, 64, .inl fun _ => 0)), (q_16, .inr (3, [.int 1, .int 0, .ref (u_17 1)])), ((u_17 1), .inl (cA 0, 25, .inl fun _ => 0)), (q_18, .inr (5, [.int 0, .ref (u_19 1)])), ((u_19 1), .inl (cA 0, 100, .inl fun _ => 0)), (q_20, .inr (4, [.ref (u_21 1), .ref (u_21 2), .ref (u_21 3), .ref (u_21 4), .int 0, .int 0])), ((u_21 1), .inl (cA 0, 65, .inl fun _ => 0)), ((u_21 2), .inl (cA 0, 65, .inl fun _ => 0)), ((u_21 3), .inl (cA 0, 65, .inl fun _ => 0)), ((u_21 4), .inl (cA 0, 65, .inl fun _ => 0))] := hD
  refine lv_aload_n hx hb (zd DX7_init 54 rfl) rfl (lv_at hl 1 rfl) ?_
  refine lv_sipush (v := 128) hx hb (zd DX7_init 55 rfl) (by decide) ?_
  refine z_newaJ (N' := 128) hx hb (hts _ wkc_129) hK hP hD hS hA (by decide) (by decide) (by decide) (Nat.le_of_ble_eq_true rfl) (Nat.le_of_ble_eq_true rfl) (zd DX7_init 56 rfl) (fun q_22 H hP hD hS => ?_)
  have hP : va_P D vwCl [(h0, .inr (7, [.ref q_1, .ref q_3, .ref q_5, .ref q_14, .ref q_16, .ref q_18, .ref q_20, .null, .int 0, .null, .null])), (q_1, .inr (0, [.int 0, .ref (u_2 1), .long 0, .long 0])), ((u_2 1), .inr (3, [.int 1, .int 0, .ref (u_2 2)])), ((u_2 2), .inl (cA 0, 25, .inl fun _ => 0)), (q_3, .inr (6, [.ref q_1, .int 0, .int 0, .ref (u_4 1)])), ((u_4 1), .inl (cA 0, 64, .inl fun _ => 0)), (q_5, .inl (cA 2, 4, .inr (.inr (.inr (.inr (va_up (va_up (va_up (va_up (fun _ => none) 0 (some q_6)) 1 (some q_8)) 2 (some q_10)) 3 (some q_12))))))), (q_6, .inr (1, [.ref (u_7 1), .ref (u_7 6)])), ((u_7 1), .inr (2, [.int 0, .ref (u_7 2), .ref (u_7 3), .ref (u_7 4), .ref (u_7 5)])), ((u_7 2), .inl (cA 0, 64, .inl fun _ => 0)), ((u_7 3), .inl (cA 1, 64, .inr (.inl fun _ => 0))), ((u_7 4), .inl (cA 1, 64, .inr (.inl fun _ => 0))), ((u_7 5), .inl (cA 0, 64, .inl fun _ => 0)), ((u_7 6), .inr (2, [.int 0, .ref (u_7 7), .ref (u_7 8), .ref (u_7 9), .ref (u_7 10)])), ((u_7 7), .inl (cA 0, 64, .inl fun _ => 0)), ((u_7 8), .inl (cA 1, 64, .inr (.inl fun _ => 0))), ((u_7 9), .inl (cA 1, 64, .inr (.inl fun _ => 0))), ((u_7 10), .inl (cA 0, 64, .inl fun _ => 0)), (q_8, .inr (1, [.ref (u_9 1), .ref (u_9 6)])), ((u_9 1), .inr (2, [.int 0, .ref (u_9 2), .ref (u_9 3), .ref (u_9 4), .ref (u_9 5)])), ((u_9 2), .inl (cA 0, 64, .inl fun _ => 0)), ((u_9 3), .inl (cA 1, 64, .inr (.inl fun _ => 0))), ((u_9 4), .inl (cA 1, 64, .inr (.inl fun _ => 0))), ((u_9 5), .inl (cA 0, 64, .inl fun _ => 0)), ((u_9 6), .inr (2, [.int 0, .ref (u_9 7), .ref (u_9 8), .ref (u_9 9), .ref (u_9 10)])), ((u_9 7), .inl (cA 0, 64, .inl fun _ => 0)), ((u_9 8), .inl (cA 1, 64, .inr (.inl fun _ => 0))), ((u_9 9), .inl (cA 1, 64, .inr (.inl fun _ => 0))), ((u_9 10), .inl (cA 0, 64, .inl fun _ => 0)), (q_10, .inr (1, [.ref (u_11 1), .ref (u_11 6)])), ((u_11 1), .inr (2, [.int 0, .ref (u_11 2), .ref (u_11 3), .ref (u_11 4), .ref (u_11 5)])), ((u_11 2), .inl (cA 0, 64, .inl fun _ => 0)), ((u_11 3), .inl (cA 1, 64, .inr (.inl fun _ => 0))), ((u_11 4), .inl (cA 1, 64, .inr (.inl fun _ => 0))), ((u_11 5), .inl (cA 0, 64, .inl fun _ => 0)), ((u_11 6), .inr (2, [.int 0, .ref (u_11 7), .ref (u_11 8), .ref (u_11 9), .ref (u_11 10)])), ((u_11 7), .inl (cA 0, 64, .inl fun _ => 0)), ((u_11 8), .inl (cA 1, 64, .inr (.inl fun _ => 0))), ((u_11 9), .inl (cA 1, 64, .inr (.inl fun _ => 0))), ((u_11 10), .inl (cA 0, 64, .inl fun _ => 0)), (q_12, .inr (1, [.ref (u_13 1), .ref (u_13 6)])), ((u_13 1), .inr (2, [.int 0, .ref (u_13 2), .ref (u_13 3), .ref (u_13 4), .ref (u_13 5)])), ((u_13 2), .inl (cA 0, 64, .inl fun _ => 0)), ((u_13 3), .inl (cA 1, 64, .inr (.inl fun _ => 0))), ((u_13 4), .inl (cA 1, 64, .inr (.inl fun _ => 0))), ((u_13 5), .inl (cA 0, 64, .inl fun _ => 0)), ((u_13 6), .inr (2, [.int 0, .ref (u_13 7), .ref (u_13 8), .ref (u_13 9), .ref (u_13 10)])), ((u_13 7), .inl (cA 0, 64, .inl fun _ => 0)), ((u_13 8), .inl (cA 1, 64, .inr (.inl fun _ => 0))), ((u_13 9), .inl (cA 1, 64, .inr (.inl fun _ => 0))), ((u_13 10), .inl (cA 0, 64, .inl fun _ => 0)), (q_14, .inr (1, [.ref (u_15 1), .ref (u_15 6)])), ((u_15 1), .inr (2, [.int 0, .ref (u_15 2), .ref (u_15 3), .ref (u_15 4), .ref (u_15 5)])), ((u_15 2), .inl (cA 0, 64, .inl fun _ => 0)), ((u_15 3), .inl (cA 1, 64, .inr (.inl fun _ => 0))), ((u_15 4), .inl (cA 1, 64, .inr (.inl fun _ => 0))), ((u_15 5), .inl (cA 0, 64, .inl fun _ => 0)), ((u_15 6), .inr (2, [.int 0, .ref (u_15 7), .ref (u_15 8), .ref (u_15 9), .ref (u_15 10)])), ((u_15 7), .inl (cA 0, 64, .inl fun _ => 0)), ((u_15 8), .inl (cA 1, 64, .inr (.inl fun _ => 0))), ((u_15 9), .inl (cA 1, 64, .inr (.inl fun _ => 0))), ((u_15 10), .inl (cA 0, 64, .inl fun _ => 0)), (q_16, .inr (3, [.int 1, .int 0, .ref (u_17 1)])), ((u_17 1), .inl (cA 0, 25, .inl fun _ => 0)), (q_18, .inr (5, [.int 0, .ref (u_19 1)])), ((u_19 1), .inl (cA 0, 100, .inl fun _ => 0)), (q_20, .inr (4, [.ref (u_21 1), .ref (u_21 2), .ref (u_21 3), .ref (u_21 4), .int 0, .int 0])), ((u_21 1), .inl (cA 0, 65, .inl fun _ => 0)), ((u_21 2), .inl (cA 0, 65, .inl fun _ => 0)), ((u_21 3), .inl (cA 0, 65, .inl fun _ => 0)), ((u_21 4), .inl (cA 0, 65, .inl fun _ => 0)), (q_22, .inl (cA 1, 128, .inr (.inl fun _ => 0)))] H := hP
  have hD : va_D A [(h0, .inr (7, [.ref q_1, .ref q_3, .ref q_5, .ref q_14, .ref q_16, .ref q_18, .ref q_20, .null, .int 0, .null, .null])), (q_1, .inr (0, [.int 0, .ref (u_2 1), .long 0, .long 0])), ((u_2 1), .inr (3, [.int 1, .int 0, .ref (u_2 2)])), ((u_2 2), .inl (cA 0, 25, .inl fun _ => 0)), (q_3, .inr (6, [.ref q_1, .int 0, .int 0, .ref (u_4 1)])), ((u_4 1), .inl (cA 0, 64, .inl fun _ => 0)), (q_5, .inl (cA 2, 4, .inr (.inr (.inr (.inr (va_up (va_up (va_up (va_up (fun _ => none) 0 (some q_6)) 1 (some q_8)) 2 (some q_10)) 3 (some q_12))))))), (q_6, .inr (1, [.ref (u_7 1), .ref (u_7 6)])), ((u_7 1), .inr (2, [.int 0, .ref (u_7 2), .ref (u_7 3), .ref (u_7 4), .ref (u_7 5)])), ((u_7 2), .inl (cA 0, 64, .inl fun _ => 0)), ((u_7 3), .inl (cA 1, 64, .inr (.inl fun _ => 0))), ((u_7 4), .inl (cA 1, 64, .inr (.inl fun _ => 0))), ((u_7 5), .inl (cA 0, 64, .inl fun _ => 0)), ((u_7 6), .inr (2, [.int 0, .ref (u_7 7), .ref (u_7 8), .ref (u_7 9), .ref (u_7 10)])), ((u_7 7), .inl (cA 0, 64, .inl fun _ => 0)), ((u_7 8), .inl (cA 1, 64, .inr (.inl fun _ => 0))), ((u_7 9), .inl (cA 1, 64, .inr (.inl fun _ => 0))), ((u_7 10), .inl (cA 0, 64, .inl fun _ => 0)), (q_8, .inr (1, [.ref (u_9 1), .ref (u_9 6)])), ((u_9 1), .inr (2, [.int 0, .ref (u_9 2), .ref (u_9 3), .ref (u_9 4), .ref (u_9 5)])), ((u_9 2), .inl (cA 0, 64, .inl fun _ => 0)), ((u_9 3), .inl (cA 1, 64, .inr (.inl fun _ => 0))), ((u_9 4), .inl (cA 1, 64, .inr (.inl fun _ => 0))), ((u_9 5), .inl (cA 0, 64, .inl fun _ => 0)), ((u_9 6), .inr (2, [.int 0, .ref (u_9 7), .ref (u_9 8), .ref (u_9 9), .ref (u_9 10)])), ((u_9 7), .inl (cA 0, 64, .inl fun _ => 0)), ((u_9 8), .inl (cA 1, 64, .inr (.inl fun _ => 0))), ((u_9 9), .inl (cA 1, 64, .inr (.inl fun _ => 0))), ((u_9 10), .inl (cA 0, 64, .inl fun _ => 0)), (q_10, .inr (1, [.ref (u_11 1), .ref (u_11 6)])), ((u_11 1), .inr (2, [.int 0, .ref (u_11 2), .ref (u_11 3), .ref (u_11 4), .ref (u_11 5)])), ((u_11 2), .inl (cA 0, 64, .inl fun _ => 0)), ((u_11 3), .inl (cA 1, 64, .inr (.inl fun _ => 0))), ((u_11 4), .inl (cA 1, 64, .inr (.inl fun _ => 0))), ((u_11 5), .inl (cA 0, 64, .inl fun _ => 0)), ((u_11 6), .inr (2, [.int 0, .ref (u_11 7), .ref (u_11 8), .ref (u_11 9), .ref (u_11 10)])), ((u_11 7), .inl (cA 0, 64, .inl fun _ => 0)), ((u_11 8), .inl (cA 1, 64, .inr (.inl fun _ => 0))), ((u_11 9), .inl (cA 1, 64, .inr (.inl fun _ => 0))), ((u_11 10), .inl (cA 0, 64, .inl fun _ => 0)), (q_12, .inr (1, [.ref (u_13 1), .ref (u_13 6)])), ((u_13 1), .inr (2, [.int 0, .ref (u_13 2), .ref (u_13 3), .ref (u_13 4), .ref (u_13 5)])), ((u_13 2), .inl (cA 0, 64, .inl fun _ => 0)), ((u_13 3), .inl (cA 1, 64, .inr (.inl fun _ => 0))), ((u_13 4), .inl (cA 1, 64, .inr (.inl fun _ => 0))), ((u_13 5), .inl (cA 0, 64, .inl fun _ => 0)), ((u_13 6), .inr (2, [.int 0, .ref (u_13 7), .ref (u_13 8), .ref (u_13 9), .ref (u_13 10)])), ((u_13 7), .inl (cA 0, 64, .inl fun _ => 0)), ((u_13 8), .inl (cA 1, 64, .inr (.inl fun _ => 0))), ((u_13 9), .inl (cA 1, 64, .inr (.inl fun _ => 0))), ((u_13 10), .inl (cA 0, 64, .inl fun _ => 0)), (q_14, .inr (1, [.ref (u_15 1), .ref (u_15 6)])), ((u_15 1), .inr (2, [.int 0, .ref (u_15 2), .ref (u_15 3), .ref (u_15 4), .ref (u_15 5)])), ((u_15 2), .inl (cA 0, 64, .inl fun _ => 0)), ((u_15 3), .inl (cA 1, 64, .inr (.inl fun _ => 0))), ((u_15 4), .inl (cA 1, 64, .inr (.inl fun _ => 0))), ((u_15 5), .inl (cA 0, 64, .inl fun _ => 0)), ((u_15 6), .inr (2, [.int 0, .ref (u_15 7), .ref (u_15 8), .ref (u_15 9), .ref (u_15 10)])), ((u_15 7), .inl (cA 0, 64, .inl fun _ => 0)), ((u_15 8), .inl (cA 1, 64, .inr (.inl fun _ => 0))), ((u_15 9), .inl (cA 1, 64, .inr (.inl fun _ => 0))), ((u_15 10), .inl (cA 0, 64, .inl fun _ => 0)), (q_16, .inr (3, [.int 1, .int 0, .ref (u_17 1)])), ((u_17 1), .inl (cA 0, 25, .inl fun _ => 0)), (q_18, .inr (5, [.int 0, .ref (u_19 1)])), ((u_19 1), .inl (cA 0, 100, .inl fun _ => 0)), (q_20, .inr (4, [.ref (u_21 1), .ref (u_21 2), .ref (u_21 3), .ref (u_21 4), .int 0, .int 0])), ((u_21 1), .inl (cA 0, 65, .inl fun _ => 0)), ((u_21 2), .inl (cA 0, 65, .inl fun _ => 0)), ((u_21 3), .inl (cA 0, 65, .inl fun _ => 0)), ((u_21 4), .inl (cA 0, 65, .inl fun _ => 0)), (q_22, .inl (cA 1, 128, .inr (.inl fun _ => 0)))] := hD
  refine W.widen (k := 71) (n := 3248) (Nat.le_of_ble_eq_true rfl) (Nat.le_of_ble_eq_true rfl) ?_
  refine va_putF (D := D) (ci := 7) (v := .ref q_22) (ty := .array .long) (C := RX7) (T := TX7) (N := 11) hx hb hts kz7.2.1 tyX7 tyX7_ok nmX7 hown hK hP hD hS 0 rfl rfl 7 (by decide) (hts _ wkc_191) (fun _ h9 => h9) rfl hin rfl (by decide +kernel) rfl rfl (Nat.le_of_ble_eq_true rfl) (zd DX7_init 57 rfl) (fun H locs hP hD hS => ?_)
  have hP : va_P D vwCl [(h0, .inr (7, [.ref q_1, .ref q_3, .ref q_5, .ref q_14, .ref q_16, .ref q_18, .ref q_20, .ref q_22, .int 0, .null, .null])), (q_1, .inr (0, [.int 0, .ref (u_2 1), .long 0, .long 0])), ((u_2 1), .inr (3, [.int 1, .int 0, .ref (u_2 2)])), ((u_2 2), .inl (cA 0, 25, .inl fun _ => 0)), (q_3, .inr (6, [.ref q_1, .int 0, .int 0, .ref (u_4 1)])), ((u_4 1), .inl (cA 0, 64, .inl fun _ => 0)), (q_5, .inl (cA 2, 4, .inr (.inr (.inr (.inr (va_up (va_up (va_up (va_up (fun _ => none) 0 (some q_6)) 1 (some q_8)) 2 (some q_10)) 3 (some q_12))))))), (q_6, .inr (1, [.ref (u_7 1), .ref (u_7 6)])), ((u_7 1), .inr (2, [.int 0, .ref (u_7 2), .ref (u_7 3), .ref (u_7 4), .ref (u_7 5)])), ((u_7 2), .inl (cA 0, 64, .inl fun _ => 0)), ((u_7 3), .inl (cA 1, 64, .inr (.inl fun _ => 0))), ((u_7 4), .inl (cA 1, 64, .inr (.inl fun _ => 0))), ((u_7 5), .inl (cA 0, 64, .inl fun _ => 0)), ((u_7 6), .inr (2, [.int 0, .ref (u_7 7), .ref (u_7 8), .ref (u_7 9), .ref (u_7 10)])), ((u_7 7), .inl (cA 0, 64, .inl fun _ => 0)), ((u_7 8), .inl (cA 1, 64, .inr (.inl fun _ => 0))), ((u_7 9), .inl (cA 1, 64, .inr (.inl fun _ => 0))), ((u_7 10), .inl (cA 0, 64, .inl fun _ => 0)), (q_8, .inr (1, [.ref (u_9 1), .ref (u_9 6)])), ((u_9 1), .inr (2, [.int 0, .ref (u_9 2), .ref (u_9 3), .ref (u_9 4), .ref (u_9 5)])), ((u_9 2), .inl (cA 0, 64, .inl fun _ => 0)), ((u_9 3), .inl (cA 1, 64, .inr (.inl fun _ => 0))), ((u_9 4), .inl (cA 1, 64, .inr (.inl fun _ => 0))), ((u_9 5), .inl (cA 0, 64, .inl fun _ => 0)), ((u_9 6), .inr (2, [.int 0, .ref (u_9 7), .ref (u_9 8), .ref (u_9 9), .ref (u_9 10)])), ((u_9 7), .inl (cA 0, 64, .inl fun _ => 0)), ((u_9 8), .inl (cA 1, 64, .inr (.inl fun _ => 0))), ((u_9 9), .inl (cA 1, 64, .inr (.inl fun _ => 0))), ((u_9 10), .inl (cA 0, 64, .inl fun _ => 0)), (q_10, .inr (1, [.ref (u_11 1), .ref (u_11 6)])), ((u_11 1), .inr (2, [.int 0, .ref (u_11 2), .ref (u_11 3), .ref (u_11 4), .ref (u_11 5)])), ((u_11 2), .inl (cA 0, 64, .inl fun _ => 0)), ((u_11 3), .inl (cA 1, 64, .inr (.inl fun _ => 0))), ((u_11 4), .inl (cA 1, 64, .inr (.inl fun _ => 0))), ((u_11 5), .inl (cA 0, 64, .inl fun _ => 0)), ((u_11 6), .inr (2, [.int 0, .ref (u_11 7), .ref (u_11 8), .ref (u_11 9), .ref (u_11 10)])), ((u_11 7), .inl (cA 0, 64, .inl fun _ => 0)), ((u_11 8), .inl (cA 1, 64, .inr (.inl fun _ => 0))), ((u_11 9), .inl (cA 1, 64, .inr (.inl fun _ => 0))), ((u_11 10), .inl (cA 0, 64, .inl fun _ => 0)), (q_12, .inr (1, [.ref (u_13 1), .ref (u_13 6)])), ((u_13 1), .inr (2, [.int 0, .ref (u_13 2), .ref (u_13 3), .ref (u_13 4), .ref (u_13 5)])), ((u_13 2), .inl (cA 0, 64, .inl fun _ => 0)), ((u_13 3), .inl (cA 1, 64, .inr (.inl fun _ => 0))), ((u_13 4), .inl (cA 1, 64, .inr (.inl fun _ => 0))), ((u_13 5), .inl (cA 0, 64, .inl fun _ => 0)), ((u_13 6), .inr (2, [.int 0, .ref (u_13 7), .ref (u_13 8), .ref (u_13 9), .ref (u_13 10)])), ((u_13 7), .inl (cA 0, 64, .inl fun _ => 0)), ((u_13 8), .inl (cA 1, 64, .inr (.inl fun _ => 0))), ((u_13 9), .inl (cA 1, 64, .inr (.inl fun _ => 0))), ((u_13 10), .inl (cA 0, 64, .inl fun _ => 0)), (q_14, .inr (1, [.ref (u_15 1), .ref (u_15 6)])), ((u_15 1), .inr (2, [.int 0, .ref (u_15 2), .ref (u_15 3), .ref (u_15 4), .ref (u_15 5)])), ((u_15 2), .inl (cA 0, 64, .inl fun _ => 0)), ((u_15 3), .inl (cA 1, 64, .inr (.inl fun _ => 0))), ((u_15 4), .inl (cA 1, 64, .inr (.inl fun _ => 0))), ((u_15 5), .inl (cA 0, 64, .inl fun _ => 0)), ((u_15 6), .inr (2, [.int 0, .ref (u_15 7), .ref (u_15 8), .ref (u_15 9), .ref (u_15 10)])), ((u_15 7), .inl (cA 0, 64, .inl fun _ => 0)), ((u_15 8), .inl (cA 1, 64, .inr (.inl fun _ => 0))), ((u_15 9), .inl (cA 1, 64, .inr (.inl fun _ => 0))), ((u_15 10), .inl (cA 0, 64, .inl fun _ => 0)), (q_16, .inr (3, [.int 1, .int 0, .ref (u_17 1)])), ((u_17 1), .inl (cA 0, 25, .inl fun _ => 0)), (q_18, .inr (5, [.int 0, .ref (u_19 1)])), ((u_19 1), .inl (cA 0, 100, .inl fun _ => 0)), (q_20, .inr (4, [.ref (u_21 1), .ref (u_21 2), .ref (u_21 3), .ref (u_21 4), .int 0, .int 0])), ((u_21 1), .inl (cA 0, 65, .inl fun _ => 0)), ((u_21 2), .inl (cA 0, 65, .inl fun _ => 0)), ((u_21 3), .inl (cA 0, 65, .inl fun _ => 0)), ((u_21 4), .inl (cA 0, 65, .inl fun _ => 0)), (q_22, .inl (cA 1, 128, .inr (.inl fun _ => 0)))] H := hP
  have hD : va_D A [(h0, .inr (7, [.ref q_1, .ref q_3, .ref q_5, .ref q_14, .ref q_16, .ref q_18, .ref q_20, .ref q_22, .int 0, .null, .null])), (q_1, .inr (0, [.int 0, .ref (u_2 1), .long 0, .long 0])), ((u_2 1), .inr (3, [.int 1, .int 0, .ref (u_2 2)])), ((u_2 2), .inl (cA 0, 25, .inl fun _ => 0)), (q_3, .inr (6, [.ref q_1, .int 0, .int 0, .ref (u_4 1)])), ((u_4 1), .inl (cA 0, 64, .inl fun _ => 0)), (q_5, .inl (cA 2, 4, .inr (.inr (.inr (.inr (va_up (va_up (va_up (va_up (fun _ => none) 0 (some q_6)) 1 (some q_8)) 2 (some q_10)) 3 (some q_12))))))), (q_6, .inr (1, [.ref (u_7 1), .ref (u_7 6)])), ((u_7 1), .inr (2, [.int 0, .ref (u_7 2), .ref (u_7 3), .ref (u_7 4), .ref (u_7 5)])), ((u_7 2), .inl (cA 0, 64, .inl fun _ => 0)), ((u_7 3), .inl (cA 1, 64, .inr (.inl fun _ => 0))), ((u_7 4), .inl (cA 1, 64, .inr (.inl fun _ => 0))), ((u_7 5), .inl (cA 0, 64, .inl fun _ => 0)), ((u_7 6), .inr (2, [.int 0, .ref (u_7 7), .ref (u_7 8), .ref (u_7 9), .ref (u_7 10)])), ((u_7 7), .inl (cA 0, 64, .inl fun _ => 0)), ((u_7 8), .inl (cA 1, 64, .inr (.inl fun _ => 0))), ((u_7 9), .inl (cA 1, 64, .inr (.inl fun _ => 0))), ((u_7 10), .inl (cA 0, 64, .inl fun _ => 0)), (q_8, .inr (1, [.ref (u_9 1), .ref (u_9 6)])), ((u_9 1), .inr (2, [.int 0, .ref (u_9 2), .ref (u_9 3), .ref (u_9 4), .ref (u_9 5)])), ((u_9 2), .inl (cA 0, 64, .inl fun _ => 0)), ((u_9 3), .inl (cA 1, 64, .inr (.inl fun _ => 0))), ((u_9 4), .inl (cA 1, 64, .inr (.inl fun _ => 0))), ((u_9 5), .inl (cA 0, 64, .inl fun _ => 0)), ((u_9 6), .inr (2, [.int 0, .ref (u_9 7), .ref (u_9 8), .ref (u_9 9), .ref (u_9 10)])), ((u_9 7), .inl (cA 0, 64, .inl fun _ => 0)), ((u_9 8), .inl (cA 1, 64, .inr (.inl fun _ => 0))), ((u_9 9), .inl (cA 1, 64, .inr (.inl fun _ => 0))), ((u_9 10), .inl (cA 0, 64, .inl fun _ => 0)), (q_10, .inr (1, [.ref (u_11 1), .ref (u_11 6)])), ((u_11 1), .inr (2, [.int 0, .ref (u_11 2), .ref (u_11 3), .ref (u_11 4), .ref (u_11 5)])), ((u_11 2), .inl (cA 0, 64, .inl fun _ => 0)), ((u_11 3), .inl (cA 1, 64, .inr (.inl fun _ => 0))), ((u_11 4), .inl (cA 1, 64, .inr (.inl fun _ => 0))), ((u_11 5), .inl (cA 0, 64, .inl fun _ => 0)), ((u_11 6), .inr (2, [.int 0, .ref (u_11 7), .ref (u_11 8), .ref (u_11 9), .ref (u_11 10)])), ((u_11 7), .inl (cA 0, 64, .inl fun _ => 0)), ((u_11 8), .inl (cA 1, 64, .inr (.inl fun _ => 0))), ((u_11 9), .inl (cA 1, 64, .inr (.inl fun _ => 0))), ((u_11 10), .inl (cA 0, 64, .inl fun _ => 0)), (q_12, .inr (1, [.ref (u_13 1), .ref (u_13 6)])), ((u_13 1), .inr (2, [.int 0, .ref (u_13 2), .ref (u_13 3), .ref (u_13 4), .ref (u_13 5)])), ((u_13 2), .inl (cA 0, 64, .inl fun _ => 0)), ((u_13 3), .inl (cA 1, 64, .inr (.inl fun _ => 0))), ((u_13 4), .inl (cA 1, 64, .inr (.inl fun _ => 0))), ((u_13 5), .inl (cA 0, 64, .inl fun _ => 0)), ((u_13 6), .inr (2, [.int 0, .ref (u_13 7), .ref (u_13 8), .ref (u_13 9), .ref (u_13 10)])), ((u_13 7), .inl (cA 0, 64, .inl fun _ => 0)), ((u_13 8), .inl (cA 1, 64, .inr (.inl fun _ => 0))), ((u_13 9), .inl (cA 1, 64, .inr (.inl fun _ => 0))), ((u_13 10), .inl (cA 0, 64, .inl fun _ => 0)), (q_14, .inr (1, [.ref (u_15 1), .ref (u_15 6)])), ((u_15 1), .inr (2, [.int 0, .ref (u_15 2), .ref (u_15 3), .ref (u_15 4), .ref (u_15 5)])), ((u_15 2), .inl (cA 0, 64, .inl fun _ => 0)), ((u_15 3), .inl (cA 1, 64, .inr (.inl fun _ => 0))), ((u_15 4), .inl (cA 1, 64, .inr (.inl fun _ => 0))), ((u_15 5), .inl (cA 0, 64, .inl fun _ => 0)), ((u_15 6), .inr (2, [.int 0, .ref (u_15 7), .ref (u_15 8), .ref (u_15 9), .ref (u_15 10)])), ((u_15 7), .inl (cA 0, 64, .inl fun _ => 0)), ((u_15 8), .inl (cA 1, 64, .inr (.inl fun _ => 0))), ((u_15 9), .inl (cA 1, 64, .inr (.inl fun _ => 0))), ((u_15 10), .inl (cA 0, 64, .inl fun _ => 0)), (q_16, .inr (3, [.int 1, .int 0, .ref (u_17 1)])), ((u_17 1), .inl (cA 0, 25, .inl fun _ => 0)), (q_18, .inr (5, [.int 0, .ref (u_19 1)])), ((u_19 1), .inl (cA 0, 100, .inl fun _ => 0)), (q_20, .inr (4, [.ref (u_21 1), .ref (u_21 2), .ref (u_21 3), .ref (u_21 4), .int 0, .int 0])), ((u_21 1), .inl (cA 0, 65, .inl fun _ => 0)), ((u_21 2), .inl (cA 0, 65, .inl fun _ => 0)), ((u_21 3), .inl (cA 0, 65, .inl fun _ => 0)), ((u_21 4), .inl (cA 0, 65, .inl fun _ => 0)), (q_22, .inl (cA 1, 128, .inr (.inl fun _ => 0)))] := hD
  refine lv_aload_n hx hb (zd DX7_init 58 rfl) rfl (lv_at hl 1 rfl) ?_
  refine lv_sipush (v := 129) hx hb (zd DX7_init 59 rfl) (by decide) ?_
  refine z_newaJ (N' := 129) hx hb (hts _ wkc_129) hK hP hD hS hA (by decide) (by decide) (by decide) (Nat.le_of_ble_eq_true rfl) (Nat.le_of_ble_eq_true rfl) (zd DX7_init 60 rfl) (fun q_23 H hP hD hS => ?_)
  have hP : va_P D vwCl [(h0, .inr (7, [.ref q_1, .ref q_3, .ref q_5, .ref q_14, .ref q_16, .ref q_18, .ref q_20, .ref q_22, .int 0, .null, .null])), (q_1, .inr (0, [.int 0, .ref (u_2 1), .long 0, .long 0])), ((u_2 1), .inr (3, [.int 1, .int 0, .ref (u_2 2)])), ((u_2 2), .inl (cA 0, 25, .inl fun _ => 0)), (q_3, .inr (6, [.ref q_1, .int 0, .int 0, .ref (u_4 1)])), ((u_4 1), .inl (cA 0, 64, .inl fun _ => 0)), (q_5, .inl (cA 2, 4, .inr (.inr (.inr (.inr (va_up (va_up (va_up (va_up (fun _ => none) 0 (some q_6)) 1 (some q_8)) 2 (some q_10)) 3 (some q_12))))))), (q_6, .inr (1, [.ref (u_7 1), .ref (u_7 6)])), ((u_7 1), .inr (2, [.int 0, .ref (u_7 2), .ref (u_7 3), .ref (u_7 4), .ref (u_7 5)])), ((u_7 2), .inl (cA 0, 64, .inl fun _ => 0)), ((u_7 3), .inl (cA 1, 64, .inr (.inl fun _ => 0))), ((u_7 4), .inl (cA 1, 64, .inr (.inl fun _ => 0))), ((u_7 5), .inl (cA 0, 64, .inl fun _ => 0)), ((u_7 6), .inr (2, [.int 0, .ref (u_7 7), .ref (u_7 8), .ref (u_7 9), .ref (u_7 10)])), ((u_7 7), .inl (cA 0, 64, .inl fun _ => 0)), ((u_7 8), .inl (cA 1, 64, .inr (.inl fun _ => 0))), ((u_7 9), .inl (cA 1, 64, .inr (.inl fun _ => 0))), ((u_7 10), .inl (cA 0, 64, .inl fun _ => 0)), (q_8, .inr (1, [.ref (u_9 1), .ref (u_9 6)])), ((u_9 1), .inr (2, [.int 0, .ref (u_9 2), .ref (u_9 3), .ref (u_9 4), .ref (u_9 5)])), ((u_9 2), .inl (cA 0, 64, .inl fun _ => 0)), ((u_9 3), .inl (cA 1, 64, .inr (.inl fun _ => 0))), ((u_9 4), .inl (cA 1, 64, .inr (.inl fun _ => 0))), ((u_9 5), .inl (cA 0, 64, .inl fun _ => 0)), ((u_9 6), .inr (2, [.int 0, .ref (u_9 7), .ref (u_9 8), .ref (u_9 9), .ref (u_9 10)])), ((u_9 7), .inl (cA 0, 64, .inl fun _ => 0)), ((u_9 8), .inl (cA 1, 64, .inr (.inl fun _ => 0))), ((u_9 9), .inl (cA 1, 64, .inr (.inl fun _ => 0))), ((u_9 10), .inl (cA 0, 64, .inl fun _ => 0)), (q_10, .inr (1, [.ref (u_11 1), .ref (u_11 6)])), ((u_11 1), .inr (2, [.int 0, .ref (u_11 2), .ref (u_11 3), .ref (u_11 4), .ref (u_11 5)])), ((u_11 2), .inl (cA 0, 64, .inl fun _ => 0)), ((u_11 3), .inl (cA 1, 64, .inr (.inl fun _ => 0))), ((u_11 4), .inl (cA 1, 64, .inr (.inl fun _ => 0))), ((u_11 5), .inl (cA 0, 64, .inl fun _ => 0)), ((u_11 6), .inr (2, [.int 0, .ref (u_11 7), .ref (u_11 8), .ref (u_11 9), .ref (u_11 10)])), ((u_11 7), .inl (cA 0, 64, .inl fun _ => 0)), ((u_11 8), .inl (cA 1, 64, .inr (.inl fun _ => 0))), ((u_11 9), .inl (cA 1, 64, .inr (.inl fun _ => 0))), ((u_11 10), .inl (cA 0, 64, .inl fun _ => 0)), (q_12, .inr (1, [.ref (u_13 1), .ref (u_13 6)])), ((u_13 1), .inr (2, [.int 0, .ref (u_13 2), .ref (u_13 3), .ref (u_13 4), .ref (u_13 5)])), ((u_13 2), .inl (cA 0, 64, .inl fun _ => 0)), ((u_13 3), .inl (cA 1, 64, .inr (.inl fun _ => 0))), ((u_13 4), .inl (cA 1, 64, .inr (.inl fun _ => 0))), ((u_13 5), .inl (cA 0, 64, .inl fun _ => 0)), ((u_13 6), .inr (2, [.int 0, .ref (u_13 7), .ref (u_13 8), .ref (u_13 9), .ref (u_13 10)])), ((u_13 7), .inl (cA 0, 64, .inl fun _ => 0)), ((u_13 8), .inl (cA 1, 64, .inr (.inl fun _ => 0))), ((u_13 9), .inl (cA 1, 64, .inr (.inl fun _ => 0))), ((u_13 10), .inl (cA 0, 64, .inl fun _ => 0)), (q_14, .inr (1, [.ref (u_15 1), .ref (u_15 6)])), ((u_15 1), .inr (2, [.int 0, .ref (u_15 2), .ref (u_15 3), .ref (u_15 4), .ref (u_15 5)])), ((u_15 2), .inl (cA 0, 64, .inl fun _ => 0)), ((u_15 3), .inl (cA 1, 64, .inr (.inl fun _ => 0))), ((u_15 4), .inl (cA 1, 64, .inr (.inl fun _ => 0))), ((u_15 5), .inl (cA 0, 64, .inl fun _ => 0)), ((u_15 6), .inr (2, [.int 0, .ref (u_15 7), .ref (u_15 8), .ref (u_15 9), .ref (u_15 10)])), ((u_15 7), .inl (cA 0, 64, .inl fun _ => 0)), ((u_15 8), .inl (cA 1, 64, .inr (.inl fun _ => 0))), ((u_15 9), .inl (cA 1, 64, .inr (.inl fun _ => 0))), ((u_15 10), .inl (cA 0, 64, .inl fun _ => 0)), (q_16, .inr (3, [.int 1, .int 0, .ref (u_17 1)])), ((u_17 1), .inl (cA 0, 25, .inl fun _ => 0)), (q_18, .inr (5, [.int 0, .ref (u_19 1)])), ((u_19 1), .inl (cA 0, 100, .inl fun _ => 0)), (q_20, .inr (4, [.ref (u_21 1), .ref (u_21 2), .ref (u_21 3), .ref (u_21 4), .int 0, .int 0])), ((u_21 1), .inl (cA 0, 65, .inl fun _ => 0)), ((u_21 2), .inl (cA 0, 65, .inl fun _ => 0)), ((u_21 3), .inl (cA 0, 65, .inl fun _ => 0)), ((u_21 4), .inl (cA 0, 65, .inl fun _ => 0)), (q_22, .inl (cA 1, 128, .inr (.inl fun _ => 0))), (q_23, .inl (cA 1, 129, .inr (.inl fun _ => 0)))] H := hP
  have hD : va_D A [(h0, .inr (7, [.ref q_1, .ref q_3, .ref q_5, .ref q_14, .ref q_16, .ref q_18, .ref q_20, .ref q_22, .int 0, .null, .null])), (q_1, .inr (0, [.int 0, .ref (u_2 1), .long 0, .long 0])), ((u_2 1), .inr (3, [.int 1, .int 0, .ref (u_2 2)])), ((u_2 2), .inl (cA 0, 25, .inl fun _ => 0)), (q_3, .inr (6, [.ref q_1, .int 0, .int 0, .ref (u_4 1)])), ((u_4 1), .inl (cA 0, 64, .inl fun _ => 0)), (q_5, .inl (cA 2, 4, .inr (.inr (.inr (.inr (va_up (va_up (va_up (va_up (fun _ => none) 0 (some q_6)) 1 (some q_8)) 2 (some q_10)) 3 (some q_12))))))), (q_6, .inr (1, [.ref (u_7 1), .ref (u_7 6)])), ((u_7 1), .inr (2, [.int 0, .ref (u_7 2), .ref (u_7 3), .ref (u_7 4), .ref (u_7 5)])), ((u_7 2), .inl (cA 0, 64, .inl fun _ => 0)), ((u_7 3), .inl (cA 1, 64, .inr (.inl fun _ => 0))), ((u_7 4), .inl (cA 1, 64, .inr (.inl fun _ => 0))), ((u_7 5), .inl (cA 0, 64, .inl fun _ => 0)), ((u_7 6), .inr (2, [.int 0, .ref (u_7 7), .ref (u_7 8), .ref (u_7 9), .ref (u_7 10)])), ((u_7 7), .inl (cA 0, 64, .inl fun _ => 0)), ((u_7 8), .inl (cA 1, 64, .inr (.inl fun _ => 0))), ((u_7 9), .inl (cA 1, 64, .inr (.inl fun _ => 0))), ((u_7 10), .inl (cA 0, 64, .inl fun _ => 0)), (q_8, .inr (1, [.ref (u_9 1), .ref (u_9 6)])), ((u_9 1), .inr (2, [.int 0, .ref (u_9 2), .ref (u_9 3), .ref (u_9 4), .ref (u_9 5)])), ((u_9 2), .inl (cA 0, 64, .inl fun _ => 0)), ((u_9 3), .inl (cA 1, 64, .inr (.inl fun _ => 0))), ((u_9 4), .inl (cA 1, 64, .inr (.inl fun _ => 0))), ((u_9 5), .inl (cA 0, 64, .inl fun _ => 0)), ((u_9 6), .inr (2, [.int 0, .ref (u_9 7), .ref (u_9 8), .ref (u_9 9), .ref (u_9 10)])), ((u_9 7), .inl (cA 0, 64, .inl fun _ => 0)), ((u_9 8), .inl (cA 1, 64, .inr (.inl fun _ => 0))), ((u_9 9), .inl (cA 1, 64, .inr (.inl fun _ => 0))), ((u_9 10), .inl (cA 0, 64, .inl fun _ => 0)), (q_10, .inr (1, [.ref (u_11 1), .ref (u_11 6)])), ((u_11 1), .inr (2, [.int 0, .ref (u_11 2), .ref (u_11 3), .ref (u_11 4), .ref (u_11 5)])), ((u_11 2), .inl (cA 0, 64, .inl fun _ => 0)), ((u_11 3), .inl (cA 1, 64, .inr (.inl fun _ => 0))), ((u_11 4), .inl (cA 1, 64, .inr (.inl fun _ => 0))), ((u_11 5), .inl (cA 0, 64, .inl fun _ => 0)), ((u_11 6), .inr (2, [.int 0, .ref (u_11 7), .ref (u_11 8), .ref (u_11 9), .ref (u_11 10)])), ((u_11 7), .inl (cA 0, 64, .inl fun _ => 0)), ((u_11 8), .inl (cA 1, 64, .inr (.inl fun _ => 0))), ((u_11 9), .inl (cA 1, 64, .inr (.inl fun _ => 0))), ((u_11 10), .inl (cA 0, 64, .inl fun _ => 0)), (q_12, .inr (1, [.ref (u_13 1), .ref (u_13 6)])), ((u_13 1), .inr (2, [.int 0, .ref (u_13 2), .ref (u_13 3), .ref (u_13 4), .ref (u_13 5)])), ((u_13 2), .inl (cA 0, 64, .inl fun _ => 0)), ((u_13 3), .inl (cA 1, 64, .inr (.inl fun _ => 0))), ((u_13 4), .inl (cA 1, 64, .inr (.inl fun _ => 0))), ((u_13 5), .inl (cA 0, 64, .inl fun _ => 0)), ((u_13 6), .inr (2, [.int 0, .ref (u_13 7), .ref (u_13 8), .ref (u_13 9), .ref (u_13 10)])), ((u_13 7), .inl (cA 0, 64, .inl fun _ => 0)), ((u_13 8), .inl (cA 1, 64, .inr (.inl fun _ => 0))), ((u_13 9), .inl (cA 1, 64, .inr (.inl fun _ => 0))), ((u_13 10), .inl (cA 0, 64, .inl fun _ => 0)), (q_14, .inr (1, [.ref (u_15 1), .ref (u_15 6)])), ((u_15 1), .inr (2, [.int 0, .ref (u_15 2), .ref (u_15 3), .ref (u_15 4), .ref (u_15 5)])), ((u_15 2), .inl (cA 0, 64, .inl fun _ => 0)), ((u_15 3), .inl (cA 1, 64, .inr (.inl fun _ => 0))), ((u_15 4), .inl (cA 1, 64, .inr (.inl fun _ => 0))), ((u_15 5), .inl (cA 0, 64, .inl fun _ => 0)), ((u_15 6), .inr (2, [.int 0, .ref (u_15 7), .ref (u_15 8), .ref (u_15 9), .ref (u_15 10)])), ((u_15 7), .inl (cA 0, 64, .inl fun _ => 0)), ((u_15 8), .inl (cA 1, 64, .inr (.inl fun _ => 0))), ((u_15 9), .inl (cA 1, 64, .inr (.inl fun _ => 0))), ((u_15 10), .inl (cA 0, 64, .inl fun _ => 0)), (q_16, .inr (3, [.int 1, .int 0, .ref (u_17 1)])), ((u_17 1), .inl (cA 0, 25, .inl fun _ => 0)), (q_18, .inr (5, [.int 0, .ref (u_19 1)])), ((u_19 1), .inl (cA 0, 100, .inl fun _ => 0)), (q_20, .inr (4, [.ref (u_21 1), .ref (u_21 2), .ref (u_21 3), .ref (u_21 4), .int 0, .int 0])), ((u_21 1), .inl (cA 0, 65, .inl fun _ => 0)), ((u_21 2), .inl (cA 0, 65, .inl fun _ => 0)), ((u_21 3), .inl (cA 0, 65, .inl fun _ => 0)), ((u_21 4), .inl (cA 0, 65, .inl fun _ => 0)), (q_22, .inl (cA 1, 128, .inr (.inl fun _ => 0))), (q_23, .inl (cA 1, 129, .inr (.inl fun _ => 0)))] := hD
  refine W.widen (k := 72) (n := 3377) (Nat.le_of_ble_eq_true rfl) (Nat.le_of_ble_eq_true rfl) ?_
  refine va_putF (D := D) (ci := 7) (v := .ref q_23) (ty := .array .long) (C := RX7) (T := TX7) (N := 11) hx hb hts kz7.2.1 tyX7 tyX7_ok nmX7 hown hK hP hD hS 0 rfl rfl 9 (by decide) (hts _ wkc_193) (fun _ h9 => h9) rfl hin rfl (by decide +kernel) rfl rfl (Nat.le_of_ble_eq_true rfl) (zd DX7_init 61 rfl) (fun H locs hP hD hS => ?_)
  have hP : va_P D vwCl [(h0, .inr (7, [.ref q_1, .ref q_3, .ref q_5, .ref q_14, .ref q_16, .ref q_18, .ref q_20, .ref q_22, .int 0, .ref q_23, .null])), (q_1, .inr (0, [.int 0, .ref (u_2 1), .long 0, .long 0])), ((u_2 1), .inr (3, [.int 1, .int 0, .ref (u_2 2)])), ((u_2 2), .inl (cA 0, 25, .inl fun _ => 0)), (q_3, .inr (6, [.ref q_1, .int 0, .int 0, .ref (u_4 1)])), ((u_4 1), .inl (cA 0, 64, .inl fun _ => 0)), (q_5, .inl (cA 2, 4, .inr (.inr (.inr (.inr (va_up (va_up (va_up (va_up (fun _ => none) 0 (some q_6)) 1 (some q_8)) 2 (some q_10)) 3 (some q_12))))))), (q_6, .inr (1, [.ref (u_7 1), .ref (u_7 6)])), ((u_7 1), .inr (2, [.int 0, .ref (u_7 2), .ref (u_7 3), .ref (u_7 4), .ref (u_7 5)])), ((u_7 2), .inl (cA 0, 64, .inl fun _ => 0)), ((u_7 3), .inl (cA 1, 64, .inr (.inl fun _ => 0))), ((u_7 4), .inl (cA 1, 64, .inr (.inl fun _ => 0))), ((u_7 5), .inl (cA 0, 64, .inl fun _ => 0)), ((u_7 6), .inr (2, [.int 0, .ref (u_7 7), .ref (u_7 8), .ref (u_7 9), .ref (u_7 10)])), ((u_7 7), .inl (cA 0, 64, .inl fun _ => 0)), ((u_7 8), .inl (cA 1, 64, .inr (.inl fun _ => 0))), ((u_7 9), .inl (cA 1, 64, .inr (.inl fun _ => 0))), ((u_7 10), .inl (cA 0, 64, .inl fun _ => 0)), (q_8, .inr (1, [.ref (u_9 1), .ref (u_9 6)])), ((u_9 1), .inr (2, [.int 0, .ref (u_9 2), .ref (u_9 3), .ref (u_9 4), .ref (u_9 5)])), ((u_9 2), .inl (cA 0, 64, .inl fun _ => 0)), ((u_9 3), .inl (cA 1, 64, .inr (.inl fun _ => 0))), ((u_9 4), .inl (cA 1, 64, .inr (.inl fun _ => 0))), ((u_9 5), .inl (cA 0, 64, .inl fun _ => 0)), ((u_9 6), .inr (2, [.int 0, .ref (u_9 7), .ref (u_9 8), .ref (u_9 9), .ref (u_9 10)])), ((u_9 7), .inl (cA 0, 64, .inl fun _ => 0)), ((u_9 8), .inl (cA 1, 64, .inr (.inl fun _ => 0))), ((u_9 9), .inl (cA 1, 64, .inr (.inl fun _ => 0))), ((u_9 10), .inl (cA 0, 64, .inl fun _ => 0)), (q_10, .inr (1, [.ref (u_11 1), .ref (u_11 6)])), ((u_11 1), .inr (2, [.int 0, .ref (u_11 2), .ref (u_11 3), .ref (u_11 4), .ref (u_11 5)])), ((u_11 2), .inl (cA 0, 64, .inl fun _ => 0)), ((u_11 3), .inl (cA 1, 64, .inr (.inl fun _ => 0))), ((u_11 4), .inl (cA 1, 64, .inr (.inl fun _ => 0))), ((u_11 5), .inl (cA 0, 64, .inl fun _ => 0)), ((u_11 6), .inr (2, [.int 0, .ref (u_11 7), .ref (u_11 8), .ref (u_11 9), .ref (u_11 10)])), ((u_11 7), .inl (cA 0, 64, .inl fun _ => 0)), ((u_11 8), .inl (cA 1, 64, .inr (.inl fun _ => 0))), ((u_11 9), .inl (cA 1, 64, .inr (.inl fun _ => 0))), ((u_11 10), .inl (cA 0, 64, .inl fun _ => 0)), (q_12, .inr (1, [.ref (u_13 1), .ref (u_13 6)])), ((u_13 1), .inr (2, [.int 0, .ref (u_13 2), .ref (u_13 3), .ref (u_13 4), .ref (u_13 5)])), ((u_13 2), .inl (cA 0, 64, .inl fun _ => 0)), ((u_13 3), .inl (cA 1, 64, .inr (.inl fun _ => 0))), ((u_13 4), .inl (cA 1, 64, .inr (.inl fun _ => 0))), ((u_13 5), .inl (cA 0, 64, .inl fun _ => 0)), ((u_13 6), .inr (2, [.int 0, .ref (u_13 7), .ref (u_13 8), .ref (u_13 9), .ref (u_13 10)])), ((u_13 7), .inl (cA 0, 64, .inl fun _ => 0)), ((u_13 8), .inl (cA 1, 64, .inr (.inl fun _ => 0))), ((u_13 9), .inl (cA 1, 64, .inr (.inl fun _ => 0))), ((u_13 10), .inl (cA 0, 64, .inl fun _ => 0)), (q_14, .inr (1, [.ref (u_15 1), .ref (u_15 6)])), ((u_15 1), .inr (2, [.int 0, .ref (u_15 2), .ref (u_15 3), .ref (u_15 4), .ref (u_15 5)])), ((u_15 2), .inl (cA 0, 64, .inl fun _ => 0)), ((u_15 3), .inl (cA 1, 64, .inr (.inl fun _ => 0))), ((u_15 4), .inl (cA 1, 64, .inr (.inl fun _ => 0))), ((u_15 5), .inl (cA 0, 64, .inl fun _ => 0)), ((u_15 6), .inr (2, [.int 0, .ref (u_15 7), .ref (u_15 8), .ref (u_15 9), .ref (u_15 10)])), ((u_15 7), .inl (cA 0, 64, .inl fun _ => 0)), ((u_15 8), .inl (cA 1, 64, .inr (.inl fun _ => 0))), ((u_15 9), .inl (cA 1, 64, .inr (.inl fun _ => 0))), ((u_15 10), .inl (cA 0, 64, .inl fun _ => 0)), (q_16, .inr (3, [.int 1, .int 0, .ref (u_17 1)])), ((u_17 1), .inl (cA 0, 25, .inl fun _ => 0)), (q_18, .inr (5, [.int 0, .ref (u_19 1)])), ((u_19 1), .inl (cA 0, 100, .inl fun _ => 0)), (q_20, .inr (4, [.ref (u_21 1), .ref (u_21 2), .ref (u_21 3), .ref (u_21 4), .int 0, .int 0])), ((u_21 1), .inl (cA 0, 65, .inl fun _ => 0)), ((u_21 2), .inl (cA 0, 65, .inl fun _ => 0)), ((u_21 3), .inl (cA 0, 65, .inl fun _ => 0)), ((u_21 4), .inl (cA 0, 65, .inl fun _ => 0)), (q_22, .inl (cA 1, 128, .inr (.inl fun _ => 0))), (q_23, .inl (cA 1, 129, .inr (.inl fun _ => 0)))] H := hP
  have hD : va_D A [(h0, .inr (7, [.ref q_1, .ref q_3, .ref q_5, .ref q_14, .ref q_16, .ref q_18, .ref q_20, .ref q_22, .int 0, .ref q_23, .null])), (q_1, .inr (0, [.int 0, .ref (u_2 1), .long 0, .long 0])), ((u_2 1), .inr (3, [.int 1, .int 0, .ref (u_2 2)])), ((u_2 2), .inl (cA 0, 25, .inl fun _ => 0)), (q_3, .inr (6, [.ref q_1, .int 0, .int 0, .ref (u_4 1)])), ((u_4 1), .inl (cA 0, 64, .inl fun _ => 0)), (q_5, .inl (cA 2, 4, .inr (.inr (.inr (.inr (va_up (va_up (va_up (va_up (fun _ => none) 0 (some q_6)) 1 (some q_8)) 2 (some q_10)) 3 (some q_12))))))), (q_6, .inr (1, [.ref (u_7 1), .ref (u_7 6)])), ((u_7 1), .inr (2, [.int 0, .ref (u_7 2), .ref (u_7 3), .ref (u_7 4), .ref (u_7 5)])), ((u_7 2), .inl (cA 0, 64, .inl fun _ => 0)), ((u_7 3), .inl (cA 1, 64, .inr (.inl fun _ => 0))), ((u_7 4), .inl (cA 1, 64, .inr (.inl fun _ => 0))), ((u_7 5), .inl (cA 0, 64, .inl fun _ => 0)), ((u_7 6), .inr (2, [.int 0, .ref (u_7 7), .ref (u_7 8), .ref (u_7 9), .ref (u_7 10)])), ((u_7 7), .inl (cA 0, 64, .inl fun _ => 0)), ((u_7 8), .inl (cA 1, 64, .inr (.inl fun _ => 0))), ((u_7 9), .inl (cA 1, 64, .inr (.inl fun _ => 0))), ((u_7 10), .inl (cA 0, 64, .inl fun _ => 0)), (q_8, .inr (1, [.ref (u_9 1), .ref (u_9 6)])), ((u_9 1), .inr (2, [.int 0, .ref (u_9 2), .ref (u_9 3), .ref (u_9 4), .ref (u_9 5)])), ((u_9 2), .inl (cA 0, 64, .inl fun _ => 0)), ((u_9 3), .inl (cA 1, 64, .inr (.inl fun _ => 0))), ((u_9 4), .inl (cA 1, 64, .inr (.inl fun _ => 0))), ((u_9 5), .inl (cA 0, 64, .inl fun _ => 0)), ((u_9 6), .inr (2, [.int 0, .ref (u_9 7), .ref (u_9 8), .ref (u_9 9), .ref (u_9 10)])), ((u_9 7), .inl (cA 0, 64, .inl fun _ => 0)), ((u_9 8), .inl (cA 1, 64, .inr (.inl fun _ => 0))), ((u_9 9), .inl (cA 1, 64, .inr (.inl fun _ => 0))), ((u_9 10), .inl (cA 0, 64, .inl fun _ => 0)), (q_10, .inr (1, [.ref (u_11 1), .ref (u_11 6)])), ((u_11 1), .inr (2, [.int 0, .ref (u_11 2), .ref (u_11 3), .ref (u_11 4), .ref (u_11 5)])), ((u_11 2), .inl (cA 0, 64, .inl fun _ => 0)), ((u_11 3), .inl (cA 1, 64, .inr (.inl fun _ => 0))), ((u_11 4), .inl (cA 1, 64, .inr (.inl fun _ => 0))), ((u_11 5), .inl (cA 0, 64, .inl fun _ => 0)), ((u_11 6), .inr (2, [.int 0, .ref (u_11 7), .ref (u_11 8), .ref (u_11 9), .ref (u_11 10)])), ((u_11 7), .inl (cA 0, 64, .inl fun _ => 0)), ((u_11 8), .inl (cA 1, 64, .inr (.inl fun _ => 0))), ((u_11 9), .inl (cA 1, 64, .inr (.inl fun _ => 0))), ((u_11 10), .inl (cA 0, 64, .inl fun _ => 0)), (q_12, .inr (1, [.ref (u_13 1), .ref (u_13 6)])), ((u_13 1), .inr (2, [.int 0, .ref (u_13 2), .ref (u_13 3), .ref (u_13 4), .ref (u_13 5)])), ((u_13 2), .inl (cA 0, 64, .inl fun _ => 0)), ((u_13 3), .inl (cA 1, 64, .inr (.inl fun _ => 0))), ((u_13 4), .inl (cA 1, 64, .inr (.inl fun _ => 0))), ((u_13 5), .inl (cA 0, 64, .inl fun _ => 0)), ((u_13 6), .inr (2, [.int 0, .ref (u_13 7), .ref (u_13 8), .ref (u_13 9), .ref (u_13 10)])), ((u_13 7), .inl (cA 0, 64, .inl fun _ => 0)), ((u_13 8), .inl (cA 1, 64, .inr (.inl fun _ => 0))), ((u_13 9), .inl (cA 1, 64, .inr (.inl fun _ => 0))), ((u_13 10), .inl (cA 0, 64, .inl fun _ => 0)), (q_14, .inr (1, [.ref (u_15 1), .ref (u_15 6)])), ((u_15 1), .inr (2, [.int 0, .ref (u_15 2), .ref (u_15 3), .ref (u_15 4), .ref (u_15 5)])), ((u_15 2), .inl (cA 0, 64, .inl fun _ => 0)), ((u_15 3), .inl (cA 1, 64, .inr (.inl fun _ => 0))), ((u_15 4), .inl (cA 1, 64, .inr (.inl fun _ => 0))), ((u_15 5), .inl (cA 0, 64, .inl fun _ => 0)), ((u_15 6), .inr (2, [.int 0, .ref (u_15 7), .ref (u_15 8), .ref (u_15 9), .ref (u_15 10)])), ((u_15 7), .inl (cA 0, 64, .inl fun _ => 0)), ((u_15 8), .inl (cA 1, 64, .inr (.inl fun _ => 0))), ((u_15 9), .inl (cA 1, 64, .inr (.inl fun _ => 0))), ((u_15 10), .inl (cA 0, 64, .inl fun _ => 0)), (q_16, .inr (3, [.int 1, .int 0, .ref (u_17 1)])), ((u_17 1), .inl (cA 0, 25, .inl fun _ => 0)), (q_18, .inr (5, [.int 0, .ref (u_19 1)])), ((u_19 1), .inl (cA 0, 100, .inl fun _ => 0)), (q_20, .inr (4, [.ref (u_21 1), .ref (u_21 2), .ref (u_21 3), .ref (u_21 4), .int 0, .int 0])), ((u_21 1), .inl (cA 0, 65, .inl fun _ => 0)), ((u_21 2), .inl (cA 0, 65, .inl fun _ => 0)), ((u_21 3), .inl (cA 0, 65, .inl fun _ => 0)), ((u_21 4), .inl (cA 0, 65, .inl fun _ => 0)), (q_22, .inl (cA 1, 128, .inr (.inl fun _ => 0))), (q_23, .inl (cA 1, 129, .inr (.inl fun _ => 0)))] := hD
  refine lv_aload_n hx hb (zd DX7_init 62 rfl) rfl (lv_at hl 1 rfl) ?_
  refine lv_sipush (v := 129) hx hb (zd DX7_init 63 rfl) (by decide) ?_
  refine z_newaJ (N' := 129) hx hb (hts _ wkc_129) hK hP hD hS hA (by decide) (by decide) (by decide) (Nat.le_of_ble_eq_true rfl) (Nat.le_of_ble_eq_true rfl) (zd DX7_init 64 rfl) (fun q_24 H hP hD hS => ?_)
  have hP : va_P D vwCl [(h0, .inr (7, [.ref q_1, .ref q_3, .ref q_5, .ref q_14, .ref q_16, .ref q_18, .ref q_20, .ref q_22, .int 0, .ref q_23, .null])), (q_1, .inr (0, [.int 0, .ref (u_2 1), .long 0, .long 0])), ((u_2 1), .inr (3, [.int 1, .int 0, .ref (u_2 2)])), ((u_2 2), .inl (cA 0, 25, .inl fun _ => 0)), (q_3, .inr (6, [.ref q_1, .int 0, .int 0, .ref (u_4 1)])), ((u_4 1), .inl (cA 0, 64, .inl fun _ => 0)), (q_5, .inl (cA 2, 4, .inr (.inr (.inr (.inr (va_up (va_up (va_up (va_up (fun _ => none) 0 (some q_6)) 1 (some q_8)) 2 (some q_10)) 3 (some q_12))))))), (q_6, .inr (1, [.ref (u_7 1), .ref (u_7 6)])), ((u_7 1), .inr (2, [.int 0, .ref (u_7 2), .ref (u_7 3), .ref (u_7 4), .ref (u_7 5)])), ((u_7 2), .inl (cA 0, 64, .inl fun _ => 0)), ((u_7 3), .inl (cA 1, 64, .inr (.inl fun _ => 0))), ((u_7 4), .inl (cA 1, 64, .inr (.inl fun _ => 0))), ((u_7 5), .inl (cA 0, 64, .inl fun _ => 0)), ((u_7 6), .inr (2, [.int 0, .ref (u_7 7), .ref (u_7 8), .ref (u_7 9), .ref (u_7 10)])), ((u_7 7), .inl (cA 0, 64, .inl fun _ => 0)), ((u_7 8), .inl (cA 1, 64, .inr (.inl fun _ => 0))), ((u_7 9), .inl (cA 1, 64, .inr (.inl fun _ => 0))), ((u_7 10), .inl (cA 0, 64, .inl fun _ => 0)), (q_8, .inr (1, [.ref (u_9 1), .ref (u_9 6)])), ((u_9 1), .inr (2, [.int 0, .ref (u_9 2), .ref (u_9 3), .ref (u_9 4), .ref (u_9 5)])), ((u_9 2), .inl (cA 0, 64, .inl fun _ => 0)), ((u_9 3), .inl (cA 1, 64, .inr (.inl fun _ => 0))), ((u_9 4), .inl (cA 1, 64, .inr (.inl fun _ => 0))), ((u_9 5), .inl (cA 0, 64, .inl fun _ => 0)), ((u_9 6), .inr (2, [.int 0, .ref (u_9 7), .ref (u_9 8), .ref (u_9 9), .ref (u_9 10)])), ((u_9 7), .inl (cA 0, 64, .inl fun _ => 0)), ((u_9 8), .inl (cA 1, 64, .inr (.inl fun _ => 0))), ((u_9 9), .inl (cA 1, 64, .inr (.inl fun _ => 0))), ((u_9 10), .inl (cA 0, 64, .inl fun _ => 0)), (q_10, .inr (1, [.ref (u_11 1), .ref (u_11 6)])), ((u_11 1), .inr (2, [.int 0, .ref (u_11 2), .ref (u_11 3), .ref (u_11 4), .ref (u_11 5)])), ((u_11 2), .inl (cA 0, 64, .inl fun _ => 0)), ((u_11 3), .inl (cA 1, 64, .inr (.inl fun _ => 0))), ((u_11 4), .inl (cA 1, 64, .inr (.inl fun _ => 0))), ((u_11 5), .inl (cA 0, 64, .inl fun _ => 0)), ((u_11 6), .inr (2, [.int 0, .ref (u_11 7), .ref (u_11 8), .ref (u_11 9), .ref (u_11 10)])), ((u_11 7), .inl (cA 0, 64, .inl fun _ => 0)), ((u_11 8), .inl (cA 1, 64, .inr (.inl fun _ => 0))), ((u_11 9), .inl (cA 1, 64, .inr (.inl fun _ => 0))), ((u_11 10), .inl (cA 0, 64, .inl fun _ => 0)), (q_12, .inr (1, [.ref (u_13 1), .ref (u_13 6)])), ((u_13 1), .inr (2, [.int 0, .ref (u_13 2), .ref (u_13 3), .ref (u_13 4), .ref (u_13 5)])), ((u_13 2), .inl (cA 0, 64, .inl fun _ => 0)), ((u_13 3), .inl (cA 1, 64, .inr (.inl fun _ => 0))), ((u_13 4), .inl (cA 1, 64, .inr (.inl fun _ => 0))), ((u_13 5), .inl (cA 0, 64, .inl fun _ => 0)), ((u_13 6), .inr (2, [.int 0, .ref (u_13 7), .ref (u_13 8), .ref (u_13 9), .ref (u_13 10)])), ((u_13 7), .inl (cA 0, 64, .inl fun _ => 0)), ((u_13 8), .inl (cA 1, 64, .inr (.inl fun _ => 0))), ((u_13 9), .inl (cA 1, 64, .inr (.inl fun _ => 0))), ((u_13 10), .inl (cA 0, 64, .inl fun _ => 0)), (q_14, .inr (1, [.ref (u_15 1), .ref (u_15 6)])), ((u_15 1), .inr (2, [.int 0, .ref (u_15 2), .ref (u_15 3), .ref (u_15 4), .ref (u_15 5)])), ((u_15 2), .inl (cA 0, 64, .inl fun _ => 0)), ((u_15 3), .inl (cA 1, 64, .inr (.inl fun _ => 0))), ((u_15 4), .inl (cA 1, 64, .inr (.inl fun _ => 0))), ((u_15 5), .inl (cA 0, 64, .inl fun _ => 0)), ((u_15 6), .inr (2, [.int 0, .ref (u_15 7), .ref (u_15 8), .ref (u_15 9), .ref (u_15 10)])), ((u_15 7), .inl (cA 0, 64, .inl fun _ => 0)), ((u_15 8), .inl (cA 1, 64, .inr (.inl fun _ => 0))), ((u_15 9), .inl (cA 1, 64, .inr (.inl fun _ => 0))), ((u_15 10), .inl (cA 0, 64, .inl fun _ => 0)), (q_16, .inr (3, [.int 1, .int 0, .ref (u_17 1)])), ((u_17 1), .inl (cA 0, 25, .inl fun _ => 0)), (q_18, .inr (5, [.int 0, .ref (u_19 1)])), ((u_19 1), .inl (cA 0, 100, .inl fun _ => 0)), (q_20, .inr (4, [.ref (u_21 1), .ref (u_21 2), .ref (u_21 3), .ref (u_21 4), .int 0, .int 0])), ((u_21 1), .inl (cA 0, 65, .inl fun _ => 0)), ((u_21 2), .inl (cA 0, 65, .inl fun _ => 0)), ((u_21 3), .inl (cA 0, 65, .inl fun _ => 0)), ((u_21 4), .inl (cA 0, 65, .inl fun _ => 0)), (q_22, .inl (cA 1, 128, .inr (.inl fun _ => 0))), (q_23, .inl (cA 1, 129, .inr (.inl fun _ => 0))), (q_24, .inl (cA 1, 129, .inr (.inl fun _ => 0)))] H := hP
  have hD : va_D A [(h0, .inr (7, [.ref q_1, .ref q_3, .ref q_5, .ref q_14, .ref q_16, .ref q_18, .ref q_20, .ref q_22, .int 0, .ref q_23, .null])), (q_1, .inr (0, [.int 0, .ref (u_2 1), .long 0, .long 0])), ((u_2 1), .inr (3, [.int 1, .int 0, .ref (u_2 2)])), ((u_2 2), .inl (cA 0, 25, .inl fun _ => 0)), (q_3, .inr (6, [.ref q_1, .int 0, .int 0, .ref (u_4 1)])), ((u_4 1), .inl (cA 0, 64, .inl fun _ => 0)), (q_5, .inl (cA 2, 4, .inr (.inr (.inr (.inr (va_up (va_up (va_up (va_up (fun _ => none) 0 (some q_6)) 1 (some q_8)) 2 (some q_10)) 3 (some q_12))))))), (q_6, .inr (1, [.ref (u_7 1), .ref (u_7 6)])), ((u_7 1), .inr (2, [.int 0, .ref (u_7 2), .ref (u_7 3), .ref (u_7 4), .ref (u_7 5)])), ((u_7 2), .inl (cA 0, 64, .inl fun _ => 0)), ((u_7 3), .inl (cA 1, 64, .inr (.inl fun _ => 0))), ((u_7 4), .inl (cA 1, 64, .inr (.inl fun _ => 0))), ((u_7 5), .inl (cA 0, 64, .inl fun _ => 0)), ((u_7 6), .inr (2, [.int 0, .ref (u_7 7), .ref (u_7 8), .ref (u_7 9), .ref (u_7 10)])), ((u_7 7), .inl (cA 0, 64, .inl fun _ => 0)), ((u_7 8), .inl (cA 1, 64, .inr (.inl fun _ => 0))), ((u_7 9), .inl (cA 1, 64, .inr (.inl fun _ => 0))), ((u_7 10), .inl (cA 0, 64, .inl fun _ => 0)), (q_8, .inr (1, [.ref (u_9 1), .ref (u_9 6)])), ((u_9 1), .inr (2, [.int 0, .ref (u_9 2), .ref (u_9 3), .ref (u_9 4), .ref (u_9 5)])), ((u_9 2), .inl (cA 0, 64, .inl fun _ => 0)), ((u_9 3), .inl (cA 1, 64, .inr (.inl fun _ => 0))), ((u_9 4), .inl (cA 1, 64, .inr (.inl fun _ => 0))), ((u_9 5), .inl (cA 0, 64, .inl fun _ => 0)), ((u_9 6), .inr (2, [.int 0, .ref (u_9 7), .ref (u_9 8), .ref (u_9 9), .ref (u_9 10)])), ((u_9 7), .inl (cA 0, 64, .inl fun _ => 0)), ((u_9 8), .inl (cA 1, 64, .inr (.inl fun _ => 0))), ((u_9 9), .inl (cA 1, 64, .inr (.inl fun _ => 0))), ((u_9 10), .inl (cA 0, 64, .inl fun _ => 0)), (q_10, .inr (1, [.ref (u_11 1), .ref (u_11 6)])), ((u_11 1), .inr (2, [.int 0, .ref (u_11 2), .ref (u_11 3), .ref (u_11 4), .ref (u_11 5)])), ((u_11 2), .inl (cA 0, 64, .inl fun _ => 0)), ((u_11 3), .inl (cA 1, 64, .inr (.inl fun _ => 0))), ((u_11 4), .inl (cA 1, 64, .inr (.inl fun _ => 0))), ((u_11 5), .inl (cA 0, 64, .inl fun _ => 0)), ((u_11 6), .inr (2, [.int 0, .ref (u_11 7), .ref (u_11 8), .ref (u_11 9), .ref (u_11 10)])), ((u_11 7), .inl (cA 0, 64, .inl fun _ => 0)), ((u_11 8), .inl (cA 1, 64, .inr (.inl fun _ => 0))), ((u_11 9), .inl (cA 1, 64, .inr (.inl fun _ => 0))), ((u_11 10), .inl (cA 0, 64, .inl fun _ => 0)), (q_12, .inr (1, [.ref (u_13 1), .ref (u_13 6)])), ((u_13 1), .inr (2, [.int 0, .ref (u_13 2), .ref (u_13 3), .ref (u_13 4), .ref (u_13 5)])), ((u_13 2), .inl (cA 0, 64, .inl fun _ => 0)), ((u_13 3), .inl (cA 1, 64, .inr (.inl fun _ => 0))), ((u_13 4), .inl (cA 1, 64, .inr (.inl fun _ => 0))), ((u_13 5), .inl (cA 0, 64, .inl fun _ => 0)), ((u_13 6), .inr (2, [.int 0, .ref (u_13 7), .ref (u_13 8), .ref (u_13 9), .ref (u_13 10)])), ((u_13 7), .inl (cA 0, 64, .inl fun _ => 0)), ((u_13 8), .inl (cA 1, 64, .inr (.inl fun _ => 0))), ((u_13 9), .inl (cA 1, 64, .inr (.inl fun _ => 0))), ((u_13 10), .inl (cA 0, 64, .inl fun _ => 0)), (q_14, .inr (1, [.ref (u_15 1), .ref (u_15 6)])), ((u_15 1), .inr (2, [.int 0, .ref (u_15 2), .ref (u_15 3), .ref (u_15 4), .ref (u_15 5)])), ((u_15 2), .inl (cA 0, 64, .inl fun _ => 0)), ((u_15 3), .inl (cA 1, 64, .inr (.inl fun _ => 0))), ((u_15 4), .inl (cA 1, 64, .inr (.inl fun _ => 0))), ((u_15 5), .inl (cA 0, 64, .inl fun _ => 0)), ((u_15 6), .inr (2, [.int 0, .ref (u_15 7), .ref (u_15 8), .ref (u_15 9), .ref (u_15 10)])), ((u_15 7), .inl (cA 0, 64, .inl fun _ => 0)), ((u_15 8), .inl (cA 1, 64, .inr (.inl fun _ => 0))), ((u_15 9), .inl (cA 1, 64, .inr (.inl fun _ => 0))), ((u_15 10), .inl (cA 0, 64, .inl fun _ => 0)), (q_16, .inr (3, [.int 1, .int 0, .ref (u_17 1)])), ((u_17 1), .inl (cA 0, 25, .inl fun _ => 0)), (q_18, .inr (5, [.int 0, .ref (u_19 1)])), ((u_19 1), .inl (cA 0, 100, .inl fun _ => 0)), (q_20, .inr (4, [.ref (u_21 1), .ref (u_21 2), .ref (u_21 3), .ref (u_21 4), .int 0, .int 0])), ((u_21 1), .inl (cA 0, 65, .inl fun _ => 0)), ((u_21 2), .inl (cA 0, 65, .inl fun _ => 0)), ((u_21 3), .inl (cA 0, 65, .inl fun _ => 0)), ((u_21 4), .inl (cA 0, 65, .inl fun _ => 0)), (q_22, .inl (cA 1, 128, .inr (.inl fun _ => 0))), (q_23, .inl (cA 1, 129, .inr (.inl fun _ => 0))), (q_24, .inl (cA 1, 129, .inr (.inl fun _ => 0)))] := hD
  refine W.widen (k := 73) (n := 3506) (Nat.le_of_ble_eq_true rfl) (Nat.le_of_ble_eq_true rfl) ?_
  refine va_putF (D := D) (ci := 7) (v := .ref q_24) (ty := .array .long) (C := RX7) (T := TX7) (N := 11) hx hb hts kz7.2.1 tyX7 tyX7_ok nmX7 hown hK hP hD hS 0 rfl rfl 10 (by decide) (hts _ wkc_194) (fun _ h9 => h9) rfl hin rfl (by decide +kernel) rfl rfl (Nat.le_of_ble_eq_true rfl) (zd DX7_init 65 rfl) (fun H locs hP hD hS => ?_)
  have hP : va_P D vwCl [(h0, .inr (7, [.ref q_1, .ref q_3, .ref q_5, .ref q_14, .ref q_16, .ref q_18, .ref q_20, .ref q_22, .int 0, .ref q_23, .ref q_24])), (q_1, .inr (0, [.int 0, .ref (u_2 1), .long 0, .long 0])), ((u_2 1), .inr (3, [.int 1, .int 0, .ref (u_2 2)])), ((u_2 2), .inl (cA 0, 25, .inl fun _ => 0)), (q_3, .inr (6, [.ref q_1, .int 0, .int 0, .ref (u_4 1)])), ((u_4 1), .inl (cA 0, 64, .inl fun _ => 0)), (q_5, .inl (cA 2, 4, .inr (.inr (.inr (.inr (va_up (va_up (va_up (va_up (fun _ => none) 0 (some q_6)) 1 (some q_8)) 2 (some q_10)) 3 (some q_12))))))), (q_6, .inr (1, [.ref (u_7 1), .ref (u_7 6)])), ((u_7 1), .inr (2, [.int 0, .ref (u_7 2), .ref (u_7 3), .ref (u_7 4), .ref (u_7 5)])), ((u_7 2), .inl (cA 0, 64, .inl fun _ => 0)), ((u_7 3), .inl (cA 1, 64, .inr (.inl fun _ => 0))), ((u_7 4), .inl (cA 1, 64, .inr (.inl fun _ => 0))), ((u_7 5), .inl (cA 0, 64, .inl fun _ => 0)), ((u_7 6), .inr (2, [.int 0, .ref (u_7 7), .ref (u_7 8), .ref (u_7 9), .ref (u_7 10)])), ((u_7 7), .inl (cA 0, 64, .inl fun _ => 0)), ((u_7 8), .inl (cA 1, 64, .inr (.inl fun _ => 0))), ((u_7 9), .inl (cA 1, 64, .inr (.inl fun _ => 0))), ((u_7 10), .inl (cA 0, 64, .inl fun _ => 0)), (q_8, .inr (1, [.ref (u_9 1), .ref (u_9 6)])), ((u_9 1), .inr (2, [.int 0, .ref (u_9 2), .ref (u_9 3), .ref (u_9 4), .ref (u_9 5)])), ((u_9 2), .inl (cA 0, 64, .inl fun _ => 0)), ((u_9 3), .inl (cA 1, 64, .inr (.inl fun _ => 0))), ((u_9 4), .inl (cA 1, 64, .inr (.inl fun _ => 0))), ((u_9 5), .inl (cA 0, 64, .inl fun _ => 0)), ((u_9 6), .inr (2, [.int 0, .ref (u_9 7), .ref (u_9 8), .ref (u_9 9), .ref (u_9 10)])), ((u_9 7), .inl (cA 0, 64, .inl fun _ => 0)), ((u_9 8), .inl (cA 1, 64, .inr (.inl fun _ => 0))), ((u_9 9), .inl (cA 1, 64, .inr (.inl fun _ => 0))), ((u_9 10), .inl (cA 0, 64, .inl fun _ => 0)), (q_10, .inr (1, [.ref (u_11 1), .ref (u_11 6)])), ((u_11 1), .inr (2, [.int 0, .ref (u_11 2), .ref (u_11 3), .ref (u_11 4), .ref (u_11 5)])), ((u_11 2), .inl (cA 0, 64, .inl fun _ => 0)), ((u_11 3), .inl (cA 1, 64, .inr (.inl fun _ => 0))), ((u_11 4), .inl (cA 1, 64, .inr (.inl fun _ => 0))), ((u_11 5), .inl (cA 0, 64, .inl fun _ => 0)), ((u_11 6), .inr (2, [.int 0, .ref (u_11 7), .ref (u_11 8), .ref (u_11 9), .ref (u_11 10)])), ((u_11 7), .inl (cA 0, 64, .inl fun _ => 0)), ((u_11 8), .inl (cA 1, 64, .inr (.inl fun _ => 0))), ((u_11 9), .inl (cA 1, 64, .inr (.inl fun _ => 0))), ((u_11 10), .inl (cA 0, 64, .inl fun _ => 0)), (q_12, .inr (1, [.ref (u_13 1), .ref (u_13 6)])), ((u_13 1), .inr (2, [.int 0, .ref (u_13 2), .ref (u_13 3), .ref (u_13 4), .ref (u_13 5)])), ((u_13 2), .inl (cA 0, 64, .inl fun _ => 0)), ((u_13 3), .inl (cA 1, 64, .inr (.inl fun _ => 0))), ((u_13 4), .inl (cA 1, 64, .inr (.inl fun _ => 0))), ((u_13 5), .inl (cA 0, 64, .inl fun _ => 0)), ((u_13 6), .inr (2, [.int 0, .ref (u_13 7), .ref (u_13 8), .ref (u_13 9), .ref (u_13 10)])), ((u_13 7), .inl (cA 0, 64, .inl fun _ => 0)), ((u_13 8), .inl (cA 1, 64, .inr (.inl fun _ => 0))), ((u_13 9), .inl (cA 1, 64, .inr (.inl fun _ => 0))), ((u_13 10), .inl (cA 0, 64, .inl fun _ => 0)), (q_14, .inr (1, [.ref (u_15 1), .ref (u_15 6)])), ((u_15 1), .inr (2, [.int 0, .ref (u_15 2), .ref (u_15 3), .ref (u_15 4), .ref (u_15 5)])), ((u_15 2), .inl (cA 0, 64, .inl fun _ => 0)), ((u_15 3), .inl (cA 1, 64, .inr (.inl fun _ => 0))), ((u_15 4), .inl (cA 1, 64, .inr (.inl fun _ => 0))), ((u_15 5), .inl (cA 0, 64, .inl fun _ => 0)), ((u_15 6), .inr (2, [.int 0, .ref (u_15 7), .ref (u_15 8), .ref (u_15 9), .ref (u_15 10)])), ((u_15 7), .inl (cA 0, 64, .inl fun _ => 0)), ((u_15 8), .inl (cA 1, 64, .inr (.inl fun _ => 0))), ((u_15 9), .inl (cA 1, 64, .inr (.inl fun _ => 0))), ((u_15 10), .inl (cA 0, 64, .inl fun _ => 0)), (q_16, .inr (3, [.int 1, .int 0, .ref (u_17 1)])), ((u_17 1), .inl (cA 0, 25, .inl fun _ => 0)), (q_18, .inr (5, [.int 0, .ref (u_19 1)])), ((u_19 1), .inl (cA 0, 100, .inl fun _ => 0)), (q_20, .inr (4, [.ref (u_21 1), .ref (u_21 2), .ref (u_21 3), .ref (u_21 4), .int 0, .int 0])), ((u_21 1), .inl (cA 0, 65, .inl fun _ => 0)), ((u_21 2), .inl (cA 0, 65, .inl fun _ => 0)), ((u_21 3), .inl (cA 0, 65, .inl fun _ => 0)), ((u_21 4), .inl (cA 0, 65, .inl fun _ => 0)), (q_22, .inl (cA 1, 128, .inr (.inl fun _ => 0))), (q_23, .inl (cA 1, 129, .inr (.inl fun _ => 0))), (q_24, .inl (cA 1, 129, .inr (.inl fun _ => 0)))] H := hP
  have hD : va_D A [(h0, .inr (7, [.ref q_1, .ref q_3, .ref q_5, .ref q_14, .ref q_16, .ref q_18, .ref q_20, .ref q_22, .int 0, .ref q_23, .ref q_24])), (q_1, .inr (0, [.int 0, .ref (u_2 1), .long 0, .long 0])), ((u_2 1), .inr (3, [.int 1, .int 0, .ref (u_2 2)])), ((u_2 2), .inl (cA 0, 25, .inl fun _ => 0)), (q_3, .inr (6, [.ref q_1, .int 0, .int 0, .ref (u_4 1)])), ((u_4 1), .inl (cA 0, 64, .inl fun _ => 0)), (q_5, .inl (cA 2, 4, .inr (.inr (.inr (.inr (va_up (va_up (va_up (va_up (fun _ => none) 0 (some q_6)) 1 (some q_8)) 2 (some q_10)) 3 (some q_12))))))), (q_6, .inr (1, [.ref (u_7 1), .ref (u_7 6)])), ((u_7 1), .inr (2, [.int 0, .ref (u_7 2), .ref (u_7 3), .ref (u_7 4), .ref (u_7 5)])), ((u_7 2), .inl (cA 0, 64, .inl fun _ => 0)), ((u_7 3), .inl (cA 1, 64, .inr (.inl fun _ => 0))), ((u_7 4), .inl (cA 1, 64, .inr (.inl fun _ => 0))), ((u_7 5), .inl (cA 0, 64, .inl fun _ => 0)), ((u_7 6), .inr (2, [.int 0, .ref (u_7 7), .ref (u_7 8), .ref (u_7 9), .ref (u_7 10)])), ((u_7 7), .inl (cA 0, 64, .inl fun _ => 0)), ((u_7 8), .inl (cA 1, 64, .inr (.inl fun _ => 0))), ((u_7 9), .inl (cA 1, 64, .inr (.inl fun _ => 0))), ((u_7 10), .inl (cA 0, 64, .inl fun _ => 0)), (q_8, .inr (1, [.ref (u_9 1), .ref (u_9 6)])), ((u_9 1), .inr (2, [.int 0, .ref (u_9 2), .ref (u_9 3), .ref (u_9 4), .ref (u_9 5)])), ((u_9 2), .inl (cA 0, 64, .inl fun _ => 0)), ((u_9 3), .inl (cA 1, 64, .inr (.inl fun _ => 0))), ((u_9 4), .inl (cA 1, 64, .inr (.inl fun _ => 0))), ((u_9 5), .inl (cA 0, 64, .inl fun _ => 0)), ((u_9 6), .inr (2, [.int 0, .ref (u_9 7), .ref (u_9 8), .ref (u_9 9), .ref (u_9 10)])), ((u_9 7), .inl (cA 0, 64, .inl fun _ => 0)), ((u_9 8), .inl (cA 1, 64, .inr (.inl fun _ => 0))), ((u_9 9), .inl (cA 1, 64, .inr (.inl fun _ => 0))), ((u_9 10), .inl (cA 0, 64, .inl fun _ => 0)), (q_10, .inr (1, [.ref (u_11 1), .ref (u_11 6)])), ((u_11 1), .inr (2, [.int 0, .ref (u_11 2), .ref (u_11 3), .ref (u_11 4), .ref (u_11 5)])), ((u_11 2), .inl (cA 0, 64, .inl fun _ => 0)), ((u_11 3), .inl (cA 1, 64, .inr (.inl fun _ => 0))), ((u_11 4), .inl (cA 1, 64, .inr (.inl fun _ => 0))), ((u_11 5), .inl (cA 0, 64, .inl fun _ => 0)), ((u_11 6), .inr (2, [.int 0, .ref (u_11 7), .ref (u_11 8), .ref (u_11 9), .ref (u_11 10)])), ((u_11 7), .inl (cA 0, 64, .inl fun _ => 0)), ((u_11 8), .inl (cA 1, 64, .inr (.inl fun _ => 0))), ((u_11 9), .inl (cA 1, 64, .inr (.inl fun _ => 0))), ((u_11 10), .inl (cA 0, 64, .inl fun _ => 0)), (q_12, .inr (1, [.ref (u_13 1), .ref (u_13 6)])), ((u_13 1), .inr (2, [.int 0, .ref (u_13 2), .ref (u_13 3), .ref (u_13 4), .ref (u_13 5)])), ((u_13 2), .inl (cA 0, 64, .inl fun _ => 0)), ((u_13 3), .inl (cA 1, 64, .inr (.inl fun _ => 0))), ((u_13 4), .inl (cA 1, 64, .inr (.inl fun _ => 0))), ((u_13 5), .inl (cA 0, 64, .inl fun _ => 0)), ((u_13 6), .inr (2, [.int 0, .ref (u_13 7), .ref (u_13 8), .ref (u_13 9), .ref (u_13 10)])), ((u_13 7), .inl (cA 0, 64, .inl fun _ => 0)), ((u_13 8), .inl (cA 1, 64, .inr (.inl fun _ => 0))), ((u_13 9), .inl (cA 1, 64, .inr (.inl fun _ => 0))), ((u_13 10), .inl (cA 0, 64, .inl fun _ => 0)), (q_14, .inr (1, [.ref (u_15 1), .ref (u_15 6)])), ((u_15 1), .inr (2, [.int 0, .ref (u_15 2), .ref (u_15 3), .ref (u_15 4), .ref (u_15 5)])), ((u_15 2), .inl (cA 0, 64, .inl fun _ => 0)), ((u_15 3), .inl (cA 1, 64, .inr (.inl fun _ => 0))), ((u_15 4), .inl (cA 1, 64, .inr (.inl fun _ => 0))), ((u_15 5), .inl (cA 0, 64, .inl fun _ => 0)), ((u_15 6), .inr (2, [.int 0, .ref (u_15 7), .ref (u_15 8), .ref (u_15 9), .ref (u_15 10)])), ((u_15 7), .inl (cA 0, 64, .inl fun _ => 0)), ((u_15 8), .inl (cA 1, 64, .inr (.inl fun _ => 0))), ((u_15 9), .inl (cA 1, 64, .inr (.inl fun _ => 0))), ((u_15 10), .inl (cA 0, 64, .inl fun _ => 0)), (q_16, .inr (3, [.int 1, .int 0, .ref (u_17 1)])), ((u_17 1), .inl (cA 0, 25, .inl fun _ => 0)), (q_18, .inr (5, [.int 0, .ref (u_19 1)])), ((u_19 1), .inl (cA 0, 100, .inl fun _ => 0)), (q_20, .inr (4, [.ref (u_21 1), .ref (u_21 2), .ref (u_21 3), .ref (u_21 4), .int 0, .int 0])), ((u_21 1), .inl (cA 0, 65, .inl fun _ => 0)), ((u_21 2), .inl (cA 0, 65, .inl fun _ => 0)), ((u_21 3), .inl (cA 0, 65, .inl fun _ => 0)), ((u_21 4), .inl (cA 0, 65, .inl fun _ => 0)), (q_22, .inl (cA 1, 128, .inr (.inl fun _ => 0))), (q_23, .inl (cA 1, 129, .inr (.inl fun _ => 0))), (q_24, .inl (cA 1, 129, .inr (.inl fun _ => 0)))] := hD
  have hP9 := hP.sub (ws' := k7 cA h0 (fun j => [h0, q_1, (u_2 1), (u_2 2), q_3, (u_4 1), q_5, q_6, (u_7 1), (u_7 2), (u_7 3), (u_7 4), (u_7 5), (u_7 6), (u_7 7), (u_7 8), (u_7 9), (u_7 10), q_8, (u_9 1), (u_9 2), (u_9 3), (u_9 4), (u_9 5), (u_9 6), (u_9 7), (u_9 8), (u_9 9), (u_9 10), q_10, (u_11 1), (u_11 2), (u_11 3), (u_11 4), (u_11 5), (u_11 6), (u_11 7), (u_11 8), (u_11 9), (u_11 10), q_12, (u_13 1), (u_13 2), (u_13 3), (u_13 4), (u_13 5), (u_13 6), (u_13 7), (u_13 8), (u_13 9), (u_13 10), q_14, (u_15 1), (u_15 2), (u_15 3), (u_15 4), (u_15 5), (u_15 6), (u_15 7), (u_15 8), (u_15 9), (u_15 10), q_16, (u_17 1), q_18, (u_19 1), q_20, (u_21 1), (u_21 2), (u_21 3), (u_21 4), q_22, q_23, q_24].getD j 0)) [0, 1, 2, 3, 4, 5, 6, 7, 8, 9, 10, 11, 12, 13, 14, 15, 16, 17, 18, 19, 20, 21, 22, 23, 24, 25, 26, 27, 28, 29, 30, 31, 32, 33, 34, 35, 36, 37, 38, 39, 40, 41, 42, 43, 44, 45, 46, 47, 48, 49, 50, 51, 52, 53, 54, 55, 56, 57, 58, 59, 60, 61, 62, 63, 64, 65, 66, 67, 68, 69, 70, 71, 72, 73] rfl
  have hD9 := hD.sub (ws' := k7 cA h0 (fun j => [h0, q_1, (u_2 1), (u_2 2), q_3, (u_4 1), q_5, q_6, (u_7 1), (u_7 2), (u_7 3), (u_7 4), (u_7 5), (u_7 6), (u_7 7), (u_7 8), (u_7 9), (u_7 10), q_8, (u_9 1), (u_9 2), (u_9 3), (u_9 4), (u_9 5), (u_9 6), (u_9 7), (u_9 8), (u_9 9), (u_9 10), q_10, (u_11 1), (u_11 2), (u_11 3), (u_11 4), (u_11 5), (u_11 6), (u_11 7), (u_11 8), (u_11 9), (u_11 10), q_12, (u_13 1), (u_13 2), (u_13 3), (u_13 4), (u_13 5), (u_13 6), (u_13 7), (u_13 8), (u_13 9), (u_13 10), q_14, (u_15 1), (u_15 2), (u_15 3), (u_15 4), (u_15 5), (u_15 6), (u_15 7), (u_15 8), (u_15 9), (u_15 10), q_16, (u_17 1), q_18, (u_19 1), q_20, (u_21 1), (u_21 2), (u_21 3), (u_21 4), q_22, q_23, q_24].getD j 0)) [0, 1, 2, 3, 4, 5, 6, 7, 8, 9, 10, 11, 12, 13, 14, 15, 16, 17, 18, 19, 20, 21, 22, 23, 24, 25, 26, 27, 28, 29, 30, 31, 32, 33, 34, 35, 36, 37, 38, 39, 40, 41, 42, 43, 44, 45, 46, 47, 48, 49, 50, 51, 52, 53, 54, 55, 56, 57, 58, 59, 60, 61, 62, 63, 64, 65, 66, 67, 68, 69, 70, 71, 72, 73] (by decide) rfl
  exact W.vret hx hb hr (fun t ht hW => ⟨⟨(fun j => [h0, q_1, (u_2 1), (u_2 2), q_3, (u_4 1), q_5, q_6, (u_7 1), (u_7 2), (u_7 3), (u_7 4), (u_7 5), (u_7 6), (u_7 7), (u_7 8), (u_7 9), (u_7 10), q_8, (u_9 1), (u_9 2), (u_9 3), (u_9 4), (u_9 5), (u_9 6), (u_9 7), (u_9 8), (u_9 9), (u_9 10), q_10, (u_11 1), (u_11 2), (u_11 3), (u_11 4), (u_11 5), (u_11 6), (u_11 7), (u_11 8), (u_11 9), (u_11 10), q_12, (u_13 1), (u_13 2), (u_13 3), (u_13 4), (u_13 5), (u_13 6), (u_13 7), (u_13 8), (u_13 9), (u_13 10), q_14, (u_15 1), (u_15 2), (u_15 3), (u_15 4), (u_15 5), (u_15 6), (u_15 7), (u_15 8), (u_15 9), (u_15 10), q_16, (u_17 1), q_18, (u_19 1), q_20, (u_21 1), (u_21 2), (u_21 3), (u_21 4), q_22, q_23, q_24].getD j 0), rfl, trivial, by rw [ht]; exact hP9, hD9⟩, hS.F ht⟩) hS.2.2 (zd DX7_init 66 rfl)
def QX8_init : List (Nat × Instr × Nat) := [(0, .aload_n 0, 1), (1, .invokespecial 39, 3), (4, .aload_n 0, 1), (5, .sipush 160, 3), (8, .newarray .long, 2), (10, .putfield 7, 3), (13, .aload_n 0, 1), (14, .bipush 100, 2), (16, .newarray .int, 2), (18, .putfield 17, 3), (21, .aload_n 0, 1), (22, .iconst 1, 1), (23, .putfield 45, 3), (26, .aload_n 0, 1), (27, .bipush 25, 2), (29, .newarray .int, 2), (31, .putfield 48, 3), (34, .aload_n 0, 1), (35, .iconst 4, 1), (36, .newarray .int, 2), (38, .putfield 51, 3), (41, .aload_n 0, 1), (42, .iconst 4, 1), (43, .newarray .int, 2), (45, .putfield 54, 3), (48, .aload_n 0, 1), (49, .iconst 4, 1), (50, .newarray .int, 2), (52, .putfield 57, 3), (55, .aload_n 0, 1), (56, .sipush 129, 3), (59, .newarray .long, 2), (61, .putfield 60, 3), (64, .aload_n 0, 1), (65, .sipush 129, 3), (68, .newarray .long, 2), (70, .putfield 63, 3), (73, .aload_n 0, 1), (74, .bipush 10, 2), (76, .newarray .int, 2), (78, .putfield 66, 3), (81, .aload_n 0, 1), (82, .sipush 640, 3), (85, .newarray .int, 2), (87, .putfield 69, 3), (90, .aload_n 0, 1), (91, .sipush 640, 3), (94, .newarray .int, 2), (96, .putfield 72, 3), (99, .aload_n 0, 1), (100, .sipush 640, 3), (103, .newarray .long, 2), (105, .putfield 75, 3), (108, .aload_n 0, 1), (109, .sipush 640, 3), (112, .newarray .long, 2), (114, .putfield 78, 3), (117, .aload_n 0, 1), (118, .bipush 65, 2), (120, .newarray .int, 2), (122, .putfield 81, 3), (125, .aload_n 0, 1), (126, .bipush 25, 2), (128, .newarray .int, 2), (130, .putfield 84, 3), (133, .aload_n 0, 1), (134, .bipush 100, 2), (136, .newarray .int, 2), (138, .putfield 87, 3), (141, .aload_n 0, 1), (142, .bipush 100, 2), (144, .newarray .int, 2), (146, .putfield 90, 3), (149, .aload_n 0, 1), (150, .iconst 0, 1), (151, .putfield 93, 3), (154, .return_, 1)]
set_option maxRecDepth 100000 in
theorem DX8_init : ∀ q ∈ QX8_init, decode cX8_init q.1 = .ok (q.2.1, q.2.2) := by decide +kernel
abbrev k8 (cA : Nat → ClassId) (h0 : Nat) (f : Nat → Nat) : va_W := [(h0, .inr (8, [.int 0, .int 0, .ref (f 1), .ref (f 2), .int 0, .int 0, .int 0, .int 0, .int 1, .int 0, .ref (f 3), .long 0, .long 0, .ref (f 4), .ref (f 5), .ref (f 6), .ref (f 7), .ref (f 8), .ref (f 9), .ref (f 10), .ref (f 11), .ref (f 12), .ref (f 13), .int 0, .int 0, .ref (f 14), .ref (f 15), .int 0, .ref (f 16), .ref (f 17), .int 0, .int 0])), ((f 1), .inl (cA 1, 160, .inr (.inl fun _ => 0))), ((f 2), .inl (cA 0, 100, .inl fun _ => 0)), ((f 3), .inl (cA 0, 25, .inl fun _ => 0)), ((f 4), .inl (cA 0, 4, .inl fun _ => 0)), ((f 5), .inl (cA 0, 4, .inl fun _ => 0)), ((f 6), .inl (cA 0, 4, .inl fun _ => 0)), ((f 7), .inl (cA 1, 129, .inr (.inl fun _ => 0))), ((f 8), .inl (cA 1, 129, .inr (.inl fun _ => 0))), ((f 9), .inl (cA 0, 10, .inl fun _ => 0)), ((f 10), .inl (cA 0, 640, .inl fun _ => 0)), ((f 11), .inl (cA 0, 640, .inl fun _ => 0)), ((f 12), .inl (cA 1, 640, .inr (.inl fun _ => 0))), ((f 13), .inl (cA 1, 640, .inr (.inl fun _ => 0))), ((f 14), .inl (cA 0, 65, .inl fun _ => 0)), ((f 15), .inl (cA 0, 25, .inl fun _ => 0)), ((f 16), .inl (cA 0, 100, .inl fun _ => 0)), ((f 17), .inl (cA 0, 100, .inl fun _ => 0))]
set_option maxHeartbeats 8000000 in
set_option maxRecDepth 100000 in
theorem nX8_init (l : Launch) (D : va_G) (cA : Nat → ClassId) (h0 : Nat) (sz : Nat) : Met l yX8_init (.code yX8_init cX8_init 1 none :: zTb) ({ frames := 1, cells := 17, slots := 3415, locals := 12 }) (va_Pc [.ref h0] (zCp D cA [(h0, .inr (8, [.int 0, .int 0, .null, .null, .int 0, .int 0, .int 0, .int 0, .int 0, .int 0, .null, .long 0, .long 0, .null, .null, .null, .null, .null, .null, .null, .null, .null, .null, .int 0, .int 0, .null, .null, .int 0, .null, .null, .int 0, .int 0]))] sz)) (va_Qv (fun _ : Nat → Nat => True) (fun f t => va_P D vwCl (k8 cA h0 f) t.heap ∧ va_D (va_A [(h0, .inr (8, [.int 0, .int 0, .null, .null, .int 0, .int 0, .int 0, .int 0, .int 0, .int 0, .null, .long 0, .long 0, .null, .null, .null, .null, .null, .null, .null, .null, .null, .null, .int 0, .int 0, .null, .null, .int 0, .null, .null, .int 0, .int 0]))] sz) (k8 cA h0 f)) (va_A [(h0, .inr (8, [.int 0, .int 0, .null, .null, .int 0, .int 0, .int 0, .int 0, .int 0, .int 0, .null, .long 0, .long 0, .null, .null, .null, .null, .null, .null, .null, .null, .null, .null, .int 0, .int 0, .null, .null, .int 0, .null, .null, .int 0, .int 0]))] sz)) 17 3415 (va_A [(h0, .inr (8, [.int 0, .int 0, .null, .null, .int 0, .int 0, .int 0, .int 0, .int 0, .int 0, .null, .long 0, .long 0, .null, .null, .null, .null, .null, .null, .null, .null, .null, .null, .int 0, .int 0, .null, .null, .int 0, .null, .null, .int 0, .int 0]))] sz) := by
  refine Met.ofW (cc := cX8_init) (maxL := 1) (ret := none) (by decide) rfl ?_
  intro p e s m args below meth c s₁ B hml hv
  obtain ⟨rfl, hsz, hP, hK, hD0, hNs, hAO⟩ := hv
  have hx := B.exec
  have hb := B.bytes
  have hr := B.returns
  have hts : ∀ w ∈ zTb, w.before _ s = true := fun w hw => atoms_spec (ws := .code yX8_init cX8_init 1 none :: zTb) B.pre w (List.mem_cons_of_mem _ hw)
  have hown : s.vm.findClass RX8 = some m.cls := findClass_of_methodNamed B.named
  have hlocks := B.notSynchronized
  have hin : meth.name = "<init>" := (name_of_methodNamed B.named B.method).1
  subst hsz
  have hD := hD0.self (sz := s.heap.size)
  generalize hAe : va_A [(h0, .inr (8, [.int 0, .int 0, .null, .null, .int 0, .int 0, .int 0, .int 0, .int 0, .int 0, .null, .long 0, .long 0, .null, .null, .null, .null, .null, .null, .null, .null, .null, .null, .int 0, .int 0, .null, .null, .int 0, .null, .null, .int 0, .int 0]))] s.heap.size = A at hD ⊢
  have hA : ∀ q : Nat, s.heap.size ≤ q → A q := fun q h => by rw [← hAe]; exact Or.inr h
  have hS : va_S A s.heap s.heap [] := va_S.rf
  have hl := lv_entry ([.ref h0]) (n := 1) (Nat.le_of_ble_eq_true rfl)
  rw [lg_entry_eq]
  generalize (lg_sl ([.ref h0]) ++ List.replicate (1 - (lg_sl ([.ref h0])).length) Slot.unset).toArray = ls at hl ⊢
  have hl : lv_has ls 1 [(0, .ref h0)] := hl
  have hP : va_P D vwCl [(h0, .inr (8, [.int 0, .int 0, .null, .null, .int 0, .int 0, .int 0, .int 0, .int 0, .int 0, .null, .long 0, .long 0, .null, .null, .null, .null, .null, .null, .null, .null, .null, .null, .int 0, .int 0, .null, .null, .int 0, .null, .null, .int 0, .int 0]))] s.heap := hP
  refine lv_aload_n hx hb (zd DX8_init 0 rfl) rfl (lv_at hl 0 rfl) ?_
  refine W.objInit hx hb hown (hts _ wkc_860) (hts _ wkc_21) (hts _ wkc_22) rfl (by rw [hml]; exact hl.1) rfl (zd DX8_init 1 rfl) (Nat.le_of_ble_eq_true rfl) (Nat.le_of_ble_eq_true rfl) ?_
  refine W.eq (g2 := F0 m 4 ls []) rfl ?_
  refine lv_aload_n hx hb (zd DX8_init 2 rfl) rfl (lv_at hl 0 rfl) ?_
  refine lv_sipush (v := 160) hx hb (zd DX8_init 3 rfl) (by decide) ?_
  refine z_newaJ (N' := 160) hx hb (hts _ wkc_129) hK hP hD hS hA (by decide) (by decide) (by decide) (Nat.le_of_ble_eq_true rfl) (Nat.le_of_ble_eq_true rfl) (zd DX8_init 4 rfl) (fun q_1 H hP hD hS => ?_)
  have hP : va_P D vwCl [(h0, .inr (8, [.int 0, .int 0, .null, .null, .int 0, .int 0, .int 0, .int 0, .int 0, .int 0, .null, .long 0, .long 0, .null, .null, .null, .null, .null, .null, .null, .null, .null, .null, .int 0, .int 0, .null, .null, .int 0, .null, .null, .int 0, .int 0])), (q_1, .inl (cA 1, 160, .inr (.inl fun _ => 0)))] H := hP
  have hD : va_D A [(h0, .inr (8, [.int 0, .int 0, .null, .null, .int 0, .int 0, .int 0, .int 0, .int 0, .int 0, .null, .long 0, .long 0, .null, .null, .null, .null, .null, .null, .null, .null, .null, .null, .int 0, .int 0, .null, .null, .int 0, .null, .null, .int 0, .int 0])), (q_1, .inl (cA 1, 160, .inr (.inl fun _ => 0)))] := hD
  refine W.widen (k := 1) (n := 160) (Nat.le_of_ble_eq_true rfl) (Nat.le_of_ble_eq_true rfl) ?_
  refine va_putF (D := D) (ci := 8) (v := .ref q_1) (ty := .array .long) (C := RX8) (T := TX8) (N := 32) hx hb hts kz8.2.1 tyX8 tyX8_ok nmX8 hown hK hP hD hS 0 rfl rfl 2 (by decide) (hts _ wkc_863) (fun _ h9 => h9) rfl hin rfl (by decide +kernel) rfl rfl (Nat.le_of_ble_eq_true rfl) (zd DX8_init 5 rfl) (fun H locs hP hD hS => ?_)
  have hP : va_P D vwCl [(h0, .inr (8, [.int 0, .int 0, .ref q_1, .null, .int 0, .int 0, .int 0, .int 0, .int 0, .int 0, .null, .long 0, .long 0, .null, .null, .null, .null, .null, .null, .null, .null, .null, .null, .int 0, .int 0, .null, .null, .int 0, .null, .null, .int 0, .int 0])), (q_1, .inl (cA 1, 160, .inr (.inl fun _ => 0)))] H := hP
  have hD : va_D A [(h0, .inr (8, [.int 0, .int 0, .ref q_1, .null, .int 0, .int 0, .int 0, .int 0, .int 0, .int 0, .null, .long 0, .long 0, .null, .null, .null, .null, .null, .null, .null, .null, .null, .null, .int 0, .int 0, .null, .null, .int 0, .null, .null, .int 0, .int 0])), (q_1, .inl (cA 1, 160, .inr (.inl fun _ => 0)))] := hD
  refine lv_aload_n hx hb (zd DX8_init 6 rfl) rfl (lv_at hl 0 rfl) ?_
  refine lv_bipush (v := 100) hx hb (zd DX8_init 7 rfl) (by decide) ?_
  refine z_newaI (N' := 100) hx hb (hts _ wkc_49) hK hP hD hS hA (by decide) (by decide) (by decide) (Nat.le_of_ble_eq_true rfl) (Nat.le_of_ble_eq_true rfl) (zd DX8_init 8 rfl) (fun q_2 H hP hD hS => ?_)
  have hP : va_P D vwCl [(h0, .inr (8, [.int 0, .int 0, .ref q_1, .null, .int 0, .int 0, .int 0, .int 0, .int 0, .int 0, .null, .long 0, .long 0, .null, .null, .null, .null, .null, .null, .null, .null, .null, .null, .int 0, .int 0, .null, .null, .int 0, .null, .null, .int 0, .int 0])), (q_1, .inl (cA 1, 160, .inr (.inl fun _ => 0))), (q_2, .inl (cA 0, 100, .inl fun _ => 0))] H := hP
  have hD : va_D A [(h0, .inr (8, [.int 0, .int 0, .ref q_1, .null, .int 0, .int 0, .int 0, .int 0, .int 0, .int 0, .null, .long 0, .long 0, .null, .null, .null, .null, .null, .null, .null, .null, .null, .null, .int 0, .int 0, .null, .null, .int 0, .null, .null, .int 0, .int 0])), (q_1, .inl (cA 1, 160, .inr (.inl fun _ => 0))), (q_2, .inl (cA 0, 100, .inl fun _ => 0))] := hD
  refine W.widen (k := 2) (n := 260) (Nat.le_of_ble_eq_true rfl) (Nat.le_of_ble_eq_true rfl) ?_
  refine va_putF (D := D) (ci := 8) (v := .ref q_2) (ty := .array .int) (C := RX8) (T := TX8) (N := 32) hx hb hts kz8.2.1 tyX8 tyX8_ok nmX8 hown hK hP hD hS 0 rfl rfl 3 (by decide) (hts _ wkc_864) (fun _ h9 => h9) rfl hin rfl (by decide +kernel) rfl rfl (Nat.le_of_ble_eq_true rfl) (zd DX8_init 9 rfl) (fun H locs hP hD hS => ?_)
  have hP : va_P D vwCl [(h0, .inr (8, [.int 0, .int 0, .ref q_1, .ref q_2, .int 0, .int 0, .int 0, .int 0, .int 0, .int 0, .null, .long 0, .long 0, .null, .null, .null, .null, .null, .null, .null, .null, .null, .null, .int 0, .int 0, .null, .null, .int 0, .null, .null, .int 0, .int 0])), (q_1, .inl (cA 1, 160, .inr (.inl fun _ => 0))), (q_2, .inl (cA 0, 100, .inl fun _ => 0))] H := hP
  have hD : va_D A [(h0, .inr (8, [.int 0, .int 0, .ref q_1, .ref q_2, .int 0, .int 0, .int 0, .int 0, .int 0, .int 0, .null, .long 0, .long 0, .null, .null, .null, .null, .null, .null, .null, .null, .null, .null, .int 0, .int 0, .null, .null, .int 0, .null, .null, .int 0, .int 0])), (q_1, .inl (cA 1, 160, .inr (.inl fun _ => 0))), (q_2, .inl (cA 0, 100, .inl fun _ => 0))] := hD
  refine lv_aload_n hx hb (zd DX8_init 10 rfl) rfl (lv_at hl 0 rfl) ?_
  refine lv_iconst (v := 1) hx hb (zd DX8_init 11 rfl) (by decide) ?_
  refine va_put (D := D) (ci := 8) (v := .int 1) (ty := .int) (C := RX8) (T := TX8) (N := 32) hx hb hts kz8.2.1 tyX8 tyX8_ok nmX8 hown hK hP hD hS 0 rfl rfl 8 (by decide) (hts _ wkc_869) (fun _ h9 => h9) rfl (by decide +kernel) rfl rfl (Nat.le_of_ble_eq_true rfl) (zd DX8_init 12 rfl) (fun H locs hP hD hS => ?_)
  have hP : va_P D vwCl [(h0, .inr (8, [.int 0, .int 0, .ref q_1, .ref q_2, .int 0, .int 0, .int 0, .int 0, .int 1, .int 0, .null, .long 0, .long 0, .null, .null, .null, .null, .null, .null, .null, .null, .null, .null, .int 0, .int 0, .null, .null, .int 0, .null, .null, .int 0, .int 0])), (q_1, .inl (cA 1, 160, .inr (.inl fun _ => 0))), (q_2, .inl (cA 0, 100, .inl fun _ => 0))] H := hP
  have hD : va_D A [(h0, .inr (8, [.int 0, .int 0, .ref q_1, .ref q_2, .int 0, .int 0, .int 0, .int 0, .int 1, .int 0, .null, .long 0, .long 0, .null, .null, .null, .null, .null, .null, .null, .null, .null, .null, .int 0, .int 0, .null, .null, .int 0, .null, .null, .int 0, .int 0])), (q_1, .inl (cA 1, 160, .inr (.inl fun _ => 0))), (q_2, .inl (cA 0, 100, .inl fun _ => 0))] := hD
  refine lv_aload_n hx hb (zd DX8_init 13 rfl) rfl (lv_at hl 0 rfl) ?_
  refine lv_bipush (v := 25) hx hb (zd DX8_init 14 rfl) (by decide) ?_
  refine z_newaI (N' := 25) hx hb (hts _ wkc_49) hK hP hD hS hA (by decide) (by decide) (by decide) (Nat.le_of_ble_eq_true rfl) (Nat.le_of_ble_eq_true rfl) (zd DX8_init 15 rfl) (fun q_3 H hP hD hS => ?_)
  have hP : va_P D vwCl [(h0, .inr (8, [.int 0, .int 0, .ref q_1, .ref q_2, .int 0, .int 0, .int 0, .int 0, .int 1, .int 0, .null, .long 0, .long 0, .null, .null, .null, .null, .null, .null, .null, .null, .null, .null, .int 0, .int 0, .null, .null, .int 0, .null, .null, .int 0, .int 0])), (q_1, .inl (cA 1, 160, .inr (.inl fun _ => 0))), (q_2, .inl (cA 0, 100, .inl fun _ => 0)), (q_3, .inl (cA 0, 25, .inl fun _ => 0))] H := hP
  have hD : va_D A [(h0, .inr (8, [.int 0, .int 0, .ref q_1, .ref q_2, .int 0, .int 0, .int 0, .int 0, .int 1, .int 0, .null, .long 0, .long 0, .null, .null, .null, .null, .null, .null, .null, .null, .null, .null, .int 0, .int 0, .null, .null, .int 0, .null, .null, .int 0, .int 0])), (q_1, .inl (cA 1, 160, .inr (.inl fun _ => 0))), (q_2, .inl (cA 0, 100, .inl fun _ => 0)), (q_3, .inl (cA 0, 25, .inl fun _ => 0))] := hD
  refine W.widen (k := 3) (n := 285) (Nat.le_of_ble_eq_true rfl) (Nat.le_of_ble_eq_true rfl) ?_
  refine va_putF (D := D) (ci := 8) (v := .ref q_3) (ty := .array .int) (C := RX8) (T := TX8) (N := 32) hx hb hts kz8.2.1 tyX8 tyX8_ok nmX8 hown hK hP hD hS 0 rfl rfl 10 (by decide) (hts _ wkc_871) (fun _ h9 => h9) rfl hin rfl (by decide +kernel) rfl rfl (Nat.le_of_ble_eq_true rfl) (zd DX8_init 16 rfl) (fun H locs hP hD hS => ?_)
  have hP : va_P D vwCl [(h0, .inr (8, [.int 0, .int 0, .ref q_1, .ref q_2, .int 0, .int 0, .int 0, .int 0, .int 1, .int 0, .ref q_3, .long 0, .long 0, .null, .null, .null, .null, .null, .null, .null, .null, .null, .null, .int 0, .int 0, .null, .null, .int 0, .null, .null, .int 0, .int 0])), (q_1, .inl (cA 1, 160, .inr (.inl fun _ => 0))), (q_2, .inl (cA 0, 100, .inl fun _ => 0)), (q_3, .inl (cA 0, 25, .inl fun _ => 0))] H := hP
  have hD : va_D A [(h0, .inr (8, [.int 0, .int 0, .ref q_1, .ref q_2, .int 0, .int 0, .int 0, .int 0, .int 1, .int 0, .ref q_3, .long 0, .long 0, .null, .null, .null, .null, .null, .null, .null, .null, .null, .null, .int 0, .int 0, .null, .null, .int 0, .null, .null, .int 0, .int 0])), (q_1, .inl (cA 1, 160, .inr (.inl fun _ => 0))), (q_2, .inl (cA 0, 100, .inl fun _ => 0)), (q_3, .inl (cA 0, 25, .inl fun _ => 0))] := hD
  refine lv_aload_n hx hb (zd DX8_init 17 rfl) rfl (lv_at hl 0 rfl) ?_
  refine lv_iconst (v := 4) hx hb (zd DX8_init 18 rfl) (by decide) ?_
  refine z_newaI (N' := 4) hx hb (hts _ wkc_49) hK hP hD hS hA (by decide) (by decide) (by decide) (Nat.le_of_ble_eq_true rfl) (Nat.le_of_ble_eq_true rfl) (zd DX8_init 19 rfl) (fun q_4 H hP hD hS => ?_)
  have hP : va_P D vwCl [(h0, .inr (8, [.int 0, .int 0, .ref q_1, .ref q_2, .int 0, .int 0, .int 0, .int 0, .int 1, .int 0, .ref q_3, .long 0, .long 0, .null, .null, .null, .null, .null, .null, .null, .null, .null, .null, .int 0, .int 0, .null, .null, .int 0, .null, .null, .int 0, .int 0])), (q_1, .inl (cA 1, 160, .inr (.inl fun _ => 0))), (q_2, .inl (cA 0, 100, .inl fun _ => 0)), (q_3, .inl (cA 0, 25, .inl fun _ => 0)), (q_4, .inl (cA 0, 4, .inl fun _ => 0))] H := hP
  have hD : va_D A [(h0, .inr (8, [.int 0, .int 0, .ref q_1, .ref q_2, .int 0, .int 0, .int 0, .int 0, .int 1, .int 0, .ref q_3, .long 0, .long 0, .null, .null, .null, .null, .null, .null, .null, .null, .null, .null, .int 0, .int 0, .null, .null, .int 0, .null, .null, .int 0, .int 0])), (q_1, .inl (cA 1, 160, .inr (.inl fun _ => 0))), (q_2, .inl (cA 0, 100, .inl fun _ => 0)), (q_3, .inl (cA 0, 25, .inl fun _ => 0)), (q_4, .inl (cA 0, 4, .inl fun _ => 0))] := hD
  refine W.widen (k := 4) (n := 289) (Nat.le_of_ble_eq_true rfl) (Nat.le_of_ble_eq_true rfl) ?_
  refine va_putF (D := D) (ci := 8) (v := .ref q_4) (ty := .array .int) (C := RX8) (T := TX8) (N := 32) hx hb hts kz8.2.1 tyX8 tyX8_ok nmX8 hown hK hP hD hS 0 rfl rfl 13 (by decide) (hts _ wkc_874) (fun _ h9 => h9) rfl hin rfl (by decide +kernel) rfl rfl (Nat.le_of_ble_eq_true rfl) (zd DX8_init 20 rfl) (fun H locs hP hD hS => ?_)
  have hP : va_P D vwCl [(h0, .inr (8, [.int 0, .int 0, .ref q_1, .ref q_2, .int 0, .int 0, .int 0, .int 0, .int 1, .int 0, .ref q_3, .long 0, .long 0, .ref q_4, .null, .null, .null, .null, .null, .null, .null, .null, .null, .int 0, .int 0, .null, .null, .int 0, .null, .null, .int 0, .int 0])), (q_1, .inl (cA 1, 160, .inr (.inl fun _ => 0))), (q_2, .inl (cA 0, 100, .inl fun _ => 0)), (q_3, .inl (cA 0, 25, .inl fun _ => 0)), (q_4, .inl (cA 0, 4, .inl fun _ => 0))] H := hP
  have hD : va_D A [(h0, .inr (8, [.int 0, .int 0, .ref q_1, .ref q_2, .int 0, .int 0, .int 0, .int 0, .int 1, .int 0, .ref q_3, .long 0, .long 0, .ref q_4, .null, .null, .null, .null, .null, .null, .null, .null, .null, .int 0, .int 0, .null, .null, .int 0, .null, .null, .int 0, .int 0])), (q_1, .inl (cA 1, 160, .inr (.inl fun _ => 0))), (q_2, .inl (cA 0, 100, .inl fun _ => 0)), (q_3, .inl (cA 0, 25, .inl fun _ => 0)), (q_4, .inl (cA 0, 4, .inl fun _ => 0))] := hD
  refine lv_aload_n hx hb (zd DX8_init 21 rfl) rfl (lv_at hl 0 rfl) ?_
  refine lv_iconst (v := 4) hx hb (zd DX8_init 22 rfl) (by decide) ?_
  refine z_newaI (N' := 4) hx hb (hts _ wkc_49) hK hP hD hS hA (by decide) (by decide) (by decide) (Nat.le_of_ble_eq_true rfl) (Nat.le_of_ble_eq_true rfl) (zd DX8_init 23 rfl) (fun q_5 H hP hD hS => ?_)
  have hP : va_P D vwCl [(h0, .inr (8, [.int 0, .int 0, .ref q_1, .ref q_2, .int 0, .int 0, .int 0, .int 0, .int 1, .int 0, .ref q_3, .long 0, .long 0, .ref q_4, .null, .null, .null, .null, .null, .null, .null, .null, .null, .int 0, .int 0, .null, .null, .int 0, .null, .null, .int 0, .int 0])), (q_1, .inl (cA 1, 160, .inr (.inl fun _ => 0))), (q_2, .inl (cA 0, 100, .inl fun _ => 0)), (q_3, .inl (cA 0, 25, .inl fun _ => 0)), (q_4, .inl (cA 0, 4, .inl fun _ => 0)), (q_5, .inl (cA 0, 4, .inl fun _ => 0))] H := hP
  have hD : va_D A [(h0, .inr (8, [.int 0, .int 0, .ref q_1, .ref q_2, .int 0, .int 0, .int 0, .int 0, .int 1, .int 0, .ref q_3, .long 0, .long 0, .ref q_4, .null, .null, .null, .null, .null, .null, .null, .null, .null, .int 0, .int 0, .null, .null, .int 0, .null, .null, .int 0, .int 0])), (q_1, .inl (cA 1, 160, .inr (.inl fun _ => 0))), (q_2, .inl (cA 0, 100, .inl fun _ => 0)), (q_3, .inl (cA 0, 25, .inl fun _ => 0)), (q_4, .inl (cA 0, 4, .inl fun _ => 0)), (q_5, .inl (cA 0, 4, .inl fun _ => 0))] := hD
  refine W.widen (k := 5) (n := 293) (Nat.le_of_ble_eq_true rfl) (Nat.le_of_ble_eq_true rfl) ?_
  refine va_putF (D := D) (ci := 8) (v := .ref q_5) (ty := .array .int) (C := RX8) (T := TX8) (N := 32) hx hb hts kz8.2.1 tyX8 tyX8_ok nmX8 hown hK hP hD hS 0 rfl rfl 14 (by decide) (hts _ wkc_875) (fun _ h9 => h9) rfl hin rfl (by decide +kernel) rfl rfl (Nat.le_of_ble_eq_true rfl) (zd DX8_init 24 rfl) (fun H locs hP hD hS => ?_)
  have hP : va_P D vwCl [(h0, .inr (8, [.int 0, .int 0, .ref q_1, .ref q_2, .int 0, .int 0, .int 0, .int 0, .int 1, .int 0, .ref q_3, .long 0, .long 0, .ref q_4, .ref q_5, .null, .null, .null, .null, .null, .null, .null, .null, .int 0, .int 0, .null, .null, .int 0, .null, .null, .int 0, .int 0])), (q_1, .inl (cA 1, 160, .inr (.inl fun _ => 0))), (q_2, .inl (cA 0, 100, .inl fun _ => 0)), (q_3, .inl (cA 0, 25, .inl fun _ => 0)), (q_4, .inl (cA 0, 4, .inl fun _ => 0)), (q_5, .inl (cA 0, 4, .inl fun _ => 0))] H := hP
  have hD : va_D A [(h0, .inr (8, [.int 0, .int 0, .ref q_1, .ref q_2, .int 0, .int 0, .int 0, .int 0, .int 1, .int 0, .ref q_3, .long 0, .long 0, .ref q_4, .ref q_5, .null, .null, .null, .null, .null, .null, .null, .null, .int 0, .int 0, .null, .null, .int 0, .null, .null, .int 0, .int 0])), (q_1, .inl (cA 1, 160, .inr (.inl fun _ => 0))), (q_2, .inl (cA 0, 100, .inl fun _ => 0)), (q_3, .inl (cA 0, 25, .inl fun _ => 0)), (q_4, .inl (cA 0, 4, .inl fun _ => 0)), (q_5, .inl (cA 0, 4, .inl fun _ => 0))] := hD
  refine lv_aload_n hx hb (zd DX8_init 25 rfl) rfl (lv_at hl 0 rfl) ?_
  refine lv_iconst (v := 4) hx hb (zd DX8_init 26 rfl) (by decide) ?_
  refine z_newaI (N' := 4) hx hb (hts _ wkc_49) hK hP hD hS hA (by decide) (by decide) (by decide) (Nat.le_of_ble_eq_true rfl) (Nat.le_of_ble_eq_true rfl) (zd DX8_init 27 rfl) (fun q_6 H hP hD hS => ?_)
  have hP : va_P D vwCl [(h0, .inr (8, [.int 0, .int 0, .ref q_1, .ref q_2, .int 0, .int 0, .int 0, .int 0, .int 1, .int 0, .ref q_3, .long 0, .long 0, .ref q_4, .ref q_5, .null, .null, .null, .null, .null, .null, .null, .null, .int 0, .int 0, .null, .null, .int 0, .null, .null, .int 0, .int 0])), (q_1, .inl (cA 1, 160, .inr (.inl fun _ => 0))), (q_2, .inl (cA 0, 100, .inl fun _ => 0)), (q_3, .inl (cA 0, 25, .inl fun _ => 0)), (q_4, .inl (cA 0, 4, .inl fun _ => 0)), (q_5, .inl (cA 0, 4, .inl fun _ => 0)), (q_6, .inl (cA 0, 4, .inl fun _ => 0))] H := hP
  have hD : va_D A [(h0, .inr (8, [.int 0, .int 0, .ref q_1, .ref q_2, .int 0, .int 0, .int 0, .int 0, .int 1, .int 0, .ref q_3, .long 0, .long 0, .ref q_4, .ref q_5, .null, .null, .null, .null, .null, .null, .null, .null, .int 0, .int 0, .null, .null, .int 0, .null, .null, .int 0, .int 0])), (q_1, .inl (cA 1, 160, .inr (.inl fun _ => 0))), (q_2, .inl (cA 0, 100, .inl fun _ => 0)), (q_3, .inl (cA 0, 25, .inl fun _ => 0)), (q_4, .inl (cA 0, 4, .inl fun _ => 0)), (q_5, .inl (cA 0, 4, .inl fun _ => 0)), (q_6, .inl (cA 0, 4, .inl fun _ => 0))] := hD
  refine W.widen (k := 6) (n := 297) (Nat.le_of_ble_eq_true rfl) (Nat.le_of_ble_eq_true rfl) ?_
  refine va_putF (D := D) (ci := 8) (v := .ref q_6) (ty := .array .int) (C := RX8) (T := TX8) (N := 32) hx hb hts kz8.2.1 tyX8 tyX8_ok nmX8 hown hK hP hD hS 0 rfl rfl 15 (by decide) (hts _ wkc_876) (fun _ h9 => h9) rfl hin rfl (by decide +kernel) rfl rfl (Nat.le_of_ble_eq_true rfl) (zd DX8_init 28 rfl) (fun H locs hP hD hS => ?_)
  have hP : va_P D vwCl [(h0, .inr (8, [.int 0, .int 0, .ref q_1, .ref q_2, .int 0, .int 0, .int 0, .int 0, .int 1, .int 0, .ref q_3, .long 0, .long 0, .ref q_4, .ref q_5, .ref q_6, .null, .null, .null, .null, .null, .null, .null, .int 0, .int 0, .null, .null, .int 0, .null, .null, .int 0, .int 0])), (q_1, .inl (cA 1, 160, .inr (.inl fun _ => 0))), (q_2, .inl (cA 0, 100, .inl fun _ => 0)), (q_3, .inl (cA 0, 25, .inl fun _ => 0)), (q_4, .inl (cA 0, 4, .inl fun _ => 0)), (q_5, .inl (cA 0, 4, .inl fun _ => 0)), (q_6, .inl (cA 0, 4, .inl fun _ => 0))] H := hP
  have hD : va_D A [(h0, .inr (8, [.int 0, .int 0, .ref q_1, .ref q_2, .int 0, .int 0, .int 0, .int 0, .int 1, .int 0, .ref q_3, .long 0, .long 0, .ref q_4, .ref q_5, .ref q_6, .null, .null, .null, .null, .null, .null, .null, .int 0, .int 0, .null, .null, .int 0, .null, .null, .int 0, .int 0])), (q_1, .inl (cA 1, 160, .inr (.inl fun _ => 0))), (q_2, .inl (cA 0, 100, .inl fun _ => 0)), (q_3, .inl (cA 0, 25, .inl fun _ => 0)), (q_4, .inl (cA 0, 4, .inl fun _ => 0)), (q_5, .inl (cA 0, 4, .inl fun _ => 0)), (q_6, .inl (cA 0, 4, .inl fun _ => 0))] := hD
  refine lv_aload_n hx hb (zd DX8_init 29 rfl) rfl (lv_at hl 0 rfl) ?_
  refine lv_sipush (v := 129) hx hb (zd DX8_init 30 rfl) (by decide) ?_
  refine z_newaJ (N' := 129) hx hb (hts _ wkc_129) hK hP hD hS hA (by decide) (by decide) (by decide) (Nat.le_of_ble_eq_true rfl) (Nat.le_of_ble_eq_true rfl) (zd DX8_init 31 rfl) (fun q_7 H hP hD hS => ?_)
  have hP : va_P D vwCl [(h0, .inr (8, [.int 0, .int 0, .ref q_1, .ref q_2, .int 0, .int 0, .int 0, .int 0, .int 1, .int 0, .ref q_3, .long 0, .long 0, .ref q_4, .ref q_5, .ref q_6, .null, .null, .null, .null, .null, .null, .null, .int 0, .int 0, .null, .null, .int 0, .null, .null, .int 0, .int 0])), (q_1, .inl (cA 1, 160, .inr (.inl fun _ => 0))), (q_2, .inl (cA 0, 100, .inl fun _ => 0)), (q_3, .inl (cA 0, 25, .inl fun _ => 0)), (q_4, .inl (cA 0, 4, .inl fun _ => 0)), (q_5, .inl (cA 0, 4, .inl fun _ => 0)), (q_6, .inl (cA 0, 4, .inl fun _ => 0)), (q_7, .inl (cA 1, 129, .inr (.inl fun _ => 0)))] H := hP
  have hD : va_D A [(h0, .inr (8, [.int 0, .int 0, .ref q_1, .ref q_2, .int 0, .int 0, .int 0, .int 0, .int 1, .int 0, .ref q_3, .long 0, .long 0, .ref q_4, .ref q_5, .ref q_6, .null, .null, .null, .null, .null, .null, .null, .int 0, .int 0, .null, .null, .int 0, .null, .null, .int 0, .int 0])), (q_1, .inl (cA 1, 160, .inr (.inl fun _ => 0))), (q_2, .inl (cA 0, 100, .inl fun _ => 0)), (q_3, .inl (cA 0, 25, .inl fun _ => 0)), (q_4, .inl (cA 0, 4, .inl fun _ => 0)), (q_5, .inl (cA 0, 4, .inl fun _ => 0)), (q_6, .inl (cA 0, 4, .inl fun _ => 0)), (q_7, .inl (cA 1, 129, .inr (.inl fun _ => 0)))] := hD
  refine W.widen (k := 7) (n := 426) (Nat.le_of_ble_eq_true rfl) (Nat.le_of_ble_eq_true rfl) ?_
  refine va_putF (D := D) (ci := 8) (v := .ref q_7) (ty := .array .long) (C := RX8) (T := TX8) (N := 32) hx hb hts kz8.2.1 tyX8 tyX8_ok nmX8 hown hK hP hD hS 0 rfl rfl 16 (by decide) (hts _ wkc_877) (fun _ h9 => h9) rfl hin rfl (by decide +kernel) rfl rfl (Nat.le_of_ble_eq_true rfl) (zd DX8_init 32 rfl) (fun H locs hP hD hS => ?_)
  have hP : va_P D vwCl [(h0, .inr (8, [.int 0, .int 0, .ref q_1, .ref q_2, .int 0, .int 0, .int 0, .int 0, .int 1, .int 0, .ref q_3, .long 0, .long 0, .ref q_4, .ref q_5, .ref q_6, .ref q_7, .null, .null, .null, .null, .null, .null, .int 0, .int 0, .null, .null, .int 0, .null, .null, .int 0, .int 0])), (q_1, .inl (cA 1, 160, .inr (.inl fun _ => 0))), (q_2, .inl (cA 0, 100, .inl fun _ => 0)), (q_3, .inl (cA 0, 25, .inl fun _ => 0)), (q_4, .inl (cA 0, 4, .inl fun _ => 0)), (q_5, .inl (cA 0, 4, .inl fun _ => 0)), (q_6, .inl (cA 0, 4, .inl fun _ => 0)), (q_7, .inl (cA 1, 129, .inr (.inl fun _ => 0)))] H := hP
  have hD : va_D A [(h0, .inr (8, [.int 0, .int 0, .ref q_1, .ref q_2, .int 0, .int 0, .int 0, .int 0, .int 1, .int 0, .ref q_3, .long 0, .long 0, .ref q_4, .ref q_5, .ref q_6, .ref q_7, .null, .null, .null, .null, .null, .null, .int 0, .int 0, .null, .null, .int 0, .null, .null, .int 0, .int 0])), (q_1, .inl (cA 1, 160, .inr (.inl fun _ => 0))), (q_2, .inl (cA 0, 100, .inl fun _ => 0)), (q_3, .inl (cA 0, 25, .inl fun _ => 0)), (q_4, .inl (cA 0, 4, .inl fun _ => 0)), (q_5, .inl (cA 0, 4, .inl fun _ => 0)), (q_6, .inl (cA 0, 4, .inl fun _ => 0)), (q_7, .inl (cA 1, 129, .inr (.inl fun _ => 0)))] := hD
  refine lv_aload_n hx hb (zd DX8_init 33 rfl) rfl (lv_at hl 0 rfl) ?_
  refine lv_sipush (v := 129) hx hb (zd DX8_init 34 rfl) (by decide) ?_
  refine z_newaJ (N' := 129) hx hb (hts _ wkc_129) hK hP hD hS hA (by decide) (by decide) (by decide) (Nat.le_of_ble_eq_true rfl) (Nat.le_of_ble_eq_true rfl) (zd DX8_init 35 rfl) (fun q_8 H hP hD hS => ?_)
  have hP : va_P D vwCl [(h0, .inr (8, [.int 0, .int 0, .ref q_1, .ref q_2, .int 0, .int 0, .int 0, .int 0, .int 1, .int 0, .ref q_3, .long 0, .long 0, .ref q_4, .ref q_5, .ref q_6, .ref q_7, .null, .null, .null, .null, .null, .null, .int 0, .int 0, .null, .null, .int 0, .null, .null, .int 0, .int 0])), (q_1, .inl (cA 1, 160, .inr (.inl fun _ => 0))), (q_2, .inl (cA 0, 100, .inl fun _ => 0)), (q_3, .inl (cA 0, 25, .inl fun _ => 0)), (q_4, .inl (cA 0, 4, .inl fun _ => 0)), (q_5, .inl (cA 0, 4, .inl fun _ => 0)), (q_6, .inl (cA 0, 4, .inl fun _ => 0)), (q_7, .inl (cA 1, 129, .inr (.inl fun _ => 0))), (q_8, .inl (cA 1, 129, .inr (.inl fun _ => 0)))] H := hP
  have hD : va_D A [(h0, .inr (8, [.int 0, .int 0, .ref q_1, .ref q_2, .int 0, .int 0, .int 0, .int 0, .int 1, .int 0, .ref q_3, .long 0, .long 0, .ref q_4, .ref q_5, .ref q_6, .ref q_7, .null, .null, .null, .null, .null, .null, .int 0, .int 0, .null, .null, .int 0, .null, .null, .int 0, .int 0])), (q_1, .inl (cA 1, 160, .inr (.inl fun _ => 0))), (q_2, .inl (cA 0, 100, .inl fun _ => 0)), (q_3, .inl (cA 0, 25, .inl fun _ => 0)), (q_4, .inl (cA 0, 4, .inl fun _ => 0)), (q_5, .inl (cA 0, 4, .inl fun _ => 0)), (q_6, .inl (cA 0, 4, .inl fun _ => 0)), (q_7, .inl (cA 1, 129, .inr (.inl fun _ => 0))), (q_8, .inl (cA 1, 129, .inr (.inl fun _ => 0)))] := hD
  refine W.widen (k := 8) (n := 555) (Nat.le_of_ble_eq_true rfl) (Nat.le_of_ble_eq_true rfl) ?_
  refine va_putF (D := D) (ci := 8) (v := .ref q_8) (ty := .array .long) (C := RX8) (T := TX8) (N := 32) hx hb hts kz8.2.1 tyX8 tyX8_ok nmX8 hown hK hP hD hS 0 rfl rfl 17 (by decide) (hts _ wkc_878) (fun _ h9 => h9) rfl hin rfl (by decide +kernel) rfl rfl (Nat.le_of_ble_eq_true rfl) (zd DX8_init 36 rfl) (fun H locs hP hD hS => ?_)
  have hP : va_P D vwCl [(h0, .inr (8, [.int 0, .int 0, .ref q_1, .ref q_2, .int 0, .int 0, .int 0, .int 0, .int 1, .int 0, .ref q_3, .long 0, .long 0, .ref q_4, .ref q_5, .ref q_6, .ref q_7, .ref q_8, .null, .null, .null, .null, .null, .int 0, .int 0, .null, .null, .int 0, .null, .null, .int 0, .int 0])), (q_1, .inl (cA 1, 160, .inr (.inl fun _ => 0))), (q_2, .inl (cA 0, 100, .inl fun _ => 0)), (q_3, .inl (cA 0, 25, .inl fun _ => 0)), (q_4, .inl (cA 0, 4, .inl fun _ => 0)), (q_5, .inl (cA 0, 4, .inl fun _ => 0)), (q_6, .inl (cA 0, 4, .inl fun _ => 0)), (q_7, .inl (cA 1, 129, .inr (.inl fun _ => 0))), (q_8, .inl (cA 1, 129, .inr (.inl fun _ => 0)))] H := hP
  have hD : va_D A [(h0, .inr (8, [.int 0, .int 0, .ref q_1, .ref q_2, .int 0, .int 0, .int 0, .int 0, .int 1, .int 0, .ref q_3, .long 0, .long 0, .ref q_4, .ref q_5, .ref q_6, .ref q_7, .ref q_8, .null, .null, .null, .null, .null, .int 0, .int 0, .null, .null, .int 0, .null, .null, .int 0, .int 0])), (q_1, .inl (cA 1, 160, .inr (.inl fun _ => 0))), (q_2, .inl (cA 0, 100, .inl fun _ => 0)), (q_3, .inl (cA 0, 25, .inl fun _ => 0)), (q_4, .inl (cA 0, 4, .inl fun _ => 0)), (q_5, .inl (cA 0, 4, .inl fun _ => 0)), (q_6, .inl (cA 0, 4, .inl fun _ => 0)), (q_7, .inl (cA 1, 129, .inr (.inl fun _ => 0))), (q_8, .inl (cA 1, 129, .inr (.inl fun _ => 0)))] := hD
  refine lv_aload_n hx hb (zd DX8_init 37 rfl) rfl (lv_at hl 0 rfl) ?_
  refine lv_bipush (v := 10) hx hb (zd DX8_init 38 rfl) (by decide) ?_
  refine z_newaI (N' := 10) hx hb (hts _ wkc_49) hK hP hD hS hA (by decide) (by decide) (by decide) (Nat.le_of_ble_eq_true rfl) (Nat.le_of_ble_eq_true rfl) (zd DX8_init 39 rfl) (fun q_9 H hP hD hS => ?_)
  have hP : va_P D vwCl [(h0, .inr (8, [.int 0, .int 0, .ref q_1, .ref q_2, .int 0, .int 0, .int 0, .int 0, .int 1, .int 0, .ref q_3, .long 0, .long 0, .ref q_4, .ref q_5, .ref q_6, .ref q_7, .ref q_8, .null, .null, .null, .null, .null, .int 0, .int 0, .null, .null, .int 0, .null, .null, .int 0, .int 0])), (q_1, .inl (cA 1, 160, .inr (.inl fun _ => 0))), (q_2, .inl (cA 0, 100, .inl fun _ => 0)), (q_3, .inl (cA 0, 25, .inl fun _ => 0)), (q_4, .inl (cA 0, 4, .inl fun _ => 0)), (q_5, .inl (cA 0, 4, .inl fun _ => 0)), (q_6, .inl (cA 0, 4, .inl fun _ => 0)), (q_7, .inl (cA 1, 129, .inr (.inl fun _ => 0))), (q_8, .inl (cA 1, 129, .inr (.inl fun _ => 0))), (q_9, .inl (cA 0, 10, .inl fun _ => 0))] H := hP
  have hD : va_D A [(h0, .inr (8, [.int 0, .int 0, .ref q_1, .ref q_2, .int 0, .int 0, .int 0, .int 0, .int 1, .int 0, .ref q_3, .long 0, .long 0, .ref q_4, .ref q_5, .ref q_6, .ref q_7, .ref q_8, .null, .null, .null, .null, .null, .int 0, .int 0, .null, .null, .int 0, .null, .null, .int 0, .int 0])), (q_1, .inl (cA 1, 160, .inr (.inl fun _ => 0))), (q_2, .inl (cA 0, 100, .inl fun _ => 0)), (q_3, .inl (cA 0, 25, .inl fun _ => 0)), (q_4, .inl (cA 0, 4, .inl fun _ => 0)), (q_5, .inl (cA 0, 4, .inl fun _ => 0)), (q_6, .inl (cA 0, 4, .inl fun _ => 0)), (q_7, .inl (cA 1, 129, .inr (.inl fun _ => 0))), (q_8, .inl (cA 1, 129, .inr (.inl fun _ => 0))), (q_9, .inl (cA 0, 10, .inl fun _ => 0))] := hD
  refine W.widen (k := 9) (n := 565) (Nat.le_of_ble_eq_true rfl) (Nat.le_of_ble_eq_true rfl) ?_
  refine va_putF (D := D) (ci := 8) (v := .ref q_9) (ty := .array .int) (C := RX8) (T := TX8) (N := 32) hx hb hts kz8.2.1 tyX8 tyX8_ok nmX8 hown hK hP hD hS 0 rfl rfl 18 (by decide) (hts _ wkc_879) (fun _ h9 => h9) rfl hin rfl (by decide +kernel) rfl rfl (Nat.le_of_ble_eq_true rfl) (zd DX8_init 40 rfl) (fun H locs hP hD hS => ?_)
  have hP : va_P D vwCl [(h0, .inr (8, [.int 0, .int 0, .ref q_1, .ref q_2, .int 0, .int 0, .int 0, .int 0, .int 1, .int 0, .ref q_3, .long 0, .long 0, .ref q_4, .ref q_5, .ref q_6, .ref q_7, .ref q_8, .ref q_9, .null, .null, .null, .null, .int 0, .int 0, .null, .null, .int 0, .null, .null, .int 0, .int 0])), (q_1, .inl (cA 1, 160, .inr (.inl fun _ => 0))), (q_2, .inl (cA 0, 100, .inl fun _ => 0)), (q_3, .inl (cA 0, 25, .inl fun _ => 0)), (q_4, .inl (cA 0, 4, .inl fun _ => 0)), (q_5, .inl (cA 0, 4, .inl fun _ => 0)), (q_6, .inl (cA 0, 4, .inl fun _ => 0)), (q_7, .inl (cA 1, 129, .inr (.inl fun _ => 0))), (q_8, .inl (cA 1, 129, .inr (.inl fun _ => 0))), (q_9, .inl (cA 0, 10, .inl fun _ => 0))] H := hP
  have hD : va_D A [(h0, .inr (8, [.int 0, .int 0, .ref q_1, .ref q_2, .int 0, .int 0, .int 0, .int 0, .int 1, .int 0, .ref q_3, .long 0, .long 0, .ref q_4, .ref q_5, .ref q_6, .ref q_7, .ref q_8, .ref q_9, .null, .null, .null, .null, .int 0, .int 0, .null, .null, .int 0, .null, .null, .int 0, .int 0])), (q_1, .inl (cA 1, 160, .inr (.inl fun _ => 0))), (q_2, .inl (cA 0, 100, .inl fun _ => 0)), (q_3, .inl (cA 0, 25, .inl fun _ => 0)), (q_4, .inl (cA 0, 4, .inl fun _ => 0)), (q_5, .inl (cA 0, 4, .inl fun _ => 0)), (q_6, .inl (cA 0, 4, .inl fun _ => 0)), (q_7, .inl (cA 1, 129, .inr (.inl fun _ => 0))), (q_8, .inl (cA 1, 129, .inr (.inl fun _ => 0))), (q_9, .inl (cA 0, 10, .inl fun _ => 0))] := hD
  refine lv_aload_n hx hb (zd DX8_init 41 rfl) rfl (lv_at hl 0 rfl) ?_
  refine lv_sipush (v := 640) hx hb (zd DX8_init 42 rfl) (by decide) ?_
  refine z_newaI (N' := 640) hx hb (hts _ wkc_49) hK hP hD hS hA (by decide) (by decide) (by decide) (Nat.le_of_ble_eq_true rfl) (Nat.le_of_ble_eq_true rfl) (zd DX8_init 43 rfl) (fun q_10 H hP hD hS => ?_)
  have hP : va_P D vwCl [(h0, .inr (8, [.int 0, .int 0, .ref q_1, .ref q_2, .int 0, .int 0, .int 0, .int 0, .int 1, .int 0, .ref q_3, .long 0, .long 0, .ref q_4, .ref q_5, .ref q_6, .ref q_7, .ref q_8, .ref q_9, .null, .null, .null, .null, .int 0, .int 0, .null, .null, .int 0, .null, .null, .int 0, .int 0])), (q_1, .inl (cA 1, 160, .inr (.inl fun _ => 0))), (q_2, .inl (cA 0, 100, .inl fun _ => 0)), (q_3, .inl (cA 0, 25, .inl fun _ => 0)), (q_4, .inl (cA 0, 4, .inl fun _ => 0)), (q_5, .inl (cA 0, 4, .inl fun _ => 0)), (q_6, .inl (cA 0, 4, .inl fun _ => 0)), (q_7, .inl (cA 1, 129, .inr (.inl fun _ => 0))), (q_8, .inl (cA 1, 129, .inr (.inl fun _ => 0))), (q_9, .inl (cA 0, 10, .inl fun _ => 0)), (q_10, .inl (cA 0, 640, .inl fun _ => 0))] H := hP
  have hD : va_D A [(h0, .inr (8, [.int 0, .int 0, .ref q_1, .ref q_2, .int 0, .int 0, .int 0, .int 0, .int 1, .int 0, .ref q_3, .long 0, .long 0, .ref q_4, .ref q_5, .ref q_6, .ref q_7, .ref q_8, .ref q_9, .null, .null, .null, .null, .int 0, .int 0, .null, .null, .int 0, .null, .null, .int 0, .int 0])), (q_1, .inl (cA 1, 160, .inr (.inl fun _ => 0))), (q_2, .inl (cA 0, 100, .inl fun _ => 0)), (q_3, .inl (cA 0, 25, .inl fun _ => 0)), (q_4, .inl (cA 0, 4, .inl fun _ => 0)), (q_5, .inl (cA 0, 4, .inl fun _ => 0)), (q_6, .inl (cA 0, 4, .inl fun _ => 0)), (q_7, .inl (cA 1, 129, .inr (.inl fun _ => 0))), (q_8, .inl (cA 1, 129, .inr (.inl fun _ => 0))), (q_9, .inl (cA 0, 10, .inl fun _ => 0)), (q_10, .inl (cA 0, 640, .inl fun _ => 0))] := hD
  refine W.widen (k := 10) (n := 1205) (Nat.le_of_ble_eq_true rfl) (Nat.le_of_ble_eq_true rfl) ?_
  refine va_putF (D := D) (ci := 8) (v := .ref q_10) (ty := .array .int) (C := RX8) (T := TX8) (N := 32) hx hb hts kz8.2.1 tyX8 tyX8_ok nmX8 hown hK hP hD hS 0 rfl rfl 19 (by decide) (hts _ wkc_880) (fun _ h9 => h9) rfl hin rfl (by decide +kernel) rfl rfl (Nat.le_of_ble_eq_true rfl) (zd DX8_init 44 rfl) (fun H locs hP hD hS => ?_)
  have hP : va_P D vwCl [(h0, .inr (8, [.int 0, .int 0, .ref q_1, .ref q_2, .int 0, .int 0, .int 0, .int 0, .int 1, .int 0, .ref q_3, .long 0, .long 0, .ref q_4, .ref q_5, .ref q_6, .ref q_7, .ref q_8, .ref q_9, .ref q_10, .null, .null, .null, .int 0, .int 0, .null, .null, .int 0, .null, .null, .int 0, .int 0])), (q_1, .inl (cA 1, 160, .inr (.inl fun _ => 0))), (q_2, .inl (cA 0, 100, .inl fun _ => 0)), (q_3, .inl (cA 0, 25, .inl fun _ => 0)), (q_4, .inl (cA 0, 4, .inl fun _ => 0)), (q_5, .inl (cA 0, 4, .inl fun _ => 0)), (q_6, .inl (cA 0, 4, .inl fun _ => 0)), (q_7, .inl (cA 1, 129, .inr (.inl fun _ => 0))), (q_8, .inl (cA 1, 129, .inr (.inl fun _ => 0))), (q_9, .inl (cA 0, 10, .inl fun _ => 0)), (q_10, .inl (cA 0, 640, .inl fun _ => 0))] H := hP
  have hD : va_D A [(h0, .inr (8, [.int 0, .int 0, .ref q_1, .ref q_2, .int 0, .int 0, .int 0, .int 0, .int 1, .int 0, .ref q_3, .long 0, .long 0, .ref q_4, .ref q_5, .ref q_6, .ref q_7, .ref q_8, .ref q_9, .ref q_10, .null, .null, .null, .int 0, .int 0, .null, .null, .int 0, .null, .null, .int 0, .int 0])), (q_1, .inl (cA 1, 160, .inr (.inl fun _ => 0))), (q_2, .inl (cA 0, 100, .inl fun _ => 0)), (q_3, .inl (cA 0, 25, .inl fun _ => 0)), (q_4, .inl (cA 0, 4, .inl fun _ => 0)), (q_5, .inl (cA 0, 4, .inl fun _ => 0)), (q_6, .inl (cA 0, 4, .inl fun _ => 0)), (q_7, .inl (cA 1, 129, .inr (.inl fun _ => 0))), (q_8, .inl (cA 1, 129, .inr (.inl fun _ => 0))), (q_9, .inl (cA 0, 10, .inl fun _ => 0)), (q_10, .inl (cA 0, 640, .inl fun _ => 0))] := hD
  refine lv_aload_n hx hb (zd DX8_init 45 rfl) rfl (lv_at hl 0 rfl) ?_
  refine lv_sipush (v := 640) hx hb (zd DX8_init 46 rfl) (by decide) ?_
  refine z_newaI (N' := 640) hx hb (hts _ wkc_49) hK hP hD hS hA (by decide) (by decide) (by decide) (Nat.le_of_ble_eq_true rfl) (Nat.le_of_ble_eq_true rfl) (zd DX8_init 47 rfl) (fun q_11 H hP hD hS => ?_)
  have hP : va_P D vwCl [(h0, .inr (8, [.int 0, .int 0, .ref q_1, .ref q_2, .int 0, .int 0, .int 0, .int 0, .int 1, .int 0, .ref q_3, .long 0, .long 0, .ref q_4, .ref q_5, .ref q_6, .ref q_7, .ref q_8, .ref q_9, .ref q_10, .null, .null, .null, .int 0, .int 0, .null, .null, .int 0, .null, .null, .int 0, .int 0])), (q_1, .inl (cA 1, 160, .inr (.inl fun _ => 0))), (q_2, .inl (cA 0, 100, .inl fun _ => 0)), (q_3, .inl (cA 0, 25, .inl fun _ => 0)), (q_4, .inl (cA 0, 4, .inl fun _ => 0)), (q_5, .inl (cA 0, 4, .inl fun _ => 0)), (q_6, .inl (cA 0, 4, .inl fun _ => 0)), (q_7, .inl (cA 1, 129, .inr (.inl fun _ => 0))), (q_8, .inl (cA 1, 129, .inr (.inl fun _ => 0))), (q_9, .inl (cA 0, 10, .inl fun _ => 0)), (q_10, .inl (cA 0, 640, .inl fun _ => 0)), (q_11, .inl (cA 0, 640, .inl fun _ => 0))] H := hP
  have hD : va_D A [(h0, .inr (8, [.int 0, .int 0, .ref q_1, .ref q_2, .int 0, .int 0, .int 0, .int 0, .int 1, .int 0, .ref q_3, .long 0, .long 0, .ref q_4, .ref q_5, .ref q_6, .ref q_7, .ref q_8, .ref q_9, .ref q_10, .null, .null, .null, .int 0, .int 0, .null, .null, .int 0, .null, .null, .int 0, .int 0])), (q_1, .inl (cA 1, 160, .inr (.inl fun _ => 0))), (q_2, .inl (cA 0, 100, .inl fun _ => 0)), (q_3, .inl (cA 0, 25, .inl fun _ => 0)), (q_4, .inl (cA 0, 4, .inl fun _ => 0)), (q_5, .inl (cA 0, 4, .inl fun _ => 0)), (q_6, .inl (cA 0, 4, .inl fun _ => 0)), (q_7, .inl (cA 1, 129, .inr (.inl fun _ => 0))), (q_8, .inl (cA 1, 129, .inr (.inl fun _ => 0))), (q_9, .inl (cA 0, 10, .inl fun _ => 0)), (q_10, .inl (cA 0, 640, .inl fun _ => 0)), (q_11, .inl (cA 0, 640, .inl fun _ => 0))] := hD
  refine W.widen (k := 11) (n := 1845) (Nat.le_of_ble_eq_true rfl) (Nat.le_of_ble_eq_true rfl) ?_
  refine va_putF (D := D) (ci := 8) (v := .ref q_11) (ty := .array .int) (C := RX8) (T := TX8) (N := 32) hx hb hts kz8.2.1 tyX8 tyX8_ok nmX8 hown hK hP hD hS 0 rfl rfl 20 (by decide) (hts _ wkc_881) (fun _ h9 => h9) rfl hin rfl (by decide +kernel) rfl rfl (Nat.le_of_ble_eq_true rfl) (zd DX8_init 48 rfl) (fun H locs hP hD hS => ?_)
  have hP : va_P D vwCl [(h0, .inr (8, [.int 0, .int 0, .ref q_1, .ref q_2, .int 0, .int 0, .int 0, .int 0, .int 1, .int 0, .ref q_3, .long 0, .long 0, .ref q_4, .ref q_5, .ref q_6, .ref q_7, .ref q_8, .ref q_9, .ref q_10, .ref q_11, .null, .null, .int 0, .int 0, .null, .null, .int 0, .null, .null, .int 0, .int 0])), (q_1, .inl (cA 1, 160, .inr (.inl fun _ => 0))), (q_2, .inl (cA 0, 100, .inl fun _ => 0)), (q_3, .inl (cA 0, 25, .inl fun _ => 0)), (q_4, .inl (cA 0, 4, .inl fun _ => 0)), (q_5, .inl (cA 0, 4, .inl fun _ => 0)), (q_6, .inl (cA 0, 4, .inl fun _ => 0)), (q_7, .inl (cA 1, 129, .inr (.inl fun _ => 0))), (q_8, .inl (cA 1, 129, .inr (.inl fun _ => 0))), (q_9, .inl (cA 0, 10, .inl fun _ => 0)), (q_10, .inl (cA 0, 640, .inl fun _ => 0)), (q_11, .inl (cA 0, 640, .inl fun _ => 0))] H := hP
  have hD : va_D A [(h0, .inr (8, [.int 0, .int 0, .ref q_1, .ref q_2, .int 0, .int 0, .int 0, .int 0, .int 1, .int 0, .ref q_3, .long 0, .long 0, .ref q_4, .ref q_5, .ref q_6, .ref q_7, .ref q_8, .ref q_9, .ref q_10, .ref q_11, .null, .null, .int 0, .int 0, .null, .null, .int 0, .null, .null, .int 0, .int 0])), (q_1, .inl (cA 1, 160, .inr (.inl fun _ => 0))), (q_2, .inl (cA 0, 100, .inl fun _ => 0)), (q_3, .inl (cA 0, 25, .inl fun _ => 0)), (q_4, .inl (cA 0, 4, .inl fun _ => 0)), (q_5, .inl (cA 0, 4, .inl fun _ => 0)), (q_6, .inl (cA 0, 4, .inl fun _ => 0)), (q_7, .inl (cA 1, 129, .inr (.inl fun _ => 0))), (q_8, .inl (cA 1, 129, .inr (.inl fun _ => 0))), (q_9, .inl (cA 0, 10, .inl fun _ => 0)), (q_10, .inl (cA 0, 640, .inl fun _ => 0)), (q_11, .inl (cA 0, 640, .inl fun _ => 0))] := hD
  refine lv_aload_n hx hb (zd DX8_init 49 rfl) rfl (lv_at hl 0 rfl) ?_
  refine lv_sipush (v := 640) hx hb (zd DX8_init 50 rfl) (by decide) ?_
  refine z_newaJ (N' := 640) hx hb (hts _ wkc_129) hK hP hD hS hA (by decide) (by decide) (by decide) (Nat.le_of_ble_eq_true rfl) (Nat.le_of_ble_eq_true rfl) (zd DX8_init 51 rfl) (fun q_12 H hP hD hS => ?_)
  have hP : va_P D vwCl [(h0, .inr (8, [.int 0, .int 0, .ref q_1, .ref q_2, .int 0, .int 0, .int 0, .int 0, .int 1, .int 0, .ref q_3, .long 0, .long 0, .ref q_4, .ref q_5, .ref q_6, .ref q_7, .ref q_8, .ref q_9, .ref q_10, .ref q_11, .null, .null, .int 0, .int 0, .null, .null, .int 0, .null, .null, .int 0, .int 0])), (q_1, .inl (cA 1, 160, .inr (.inl fun _ => 0))), (q_2, .inl (cA 0, 100, .inl fun _ => 0)), (q_3, .inl (cA 0, 25, .inl fun _ => 0)), (q_4, .inl (cA 0, 4, .inl fun _ => 0)), (q_5, .inl (cA 0, 4, .inl fun _ => 0)), (q_6, .inl (cA 0, 4, .inl fun _ => 0)), (q_7, .inl (cA 1, 129, .inr (.inl fun _ => 0))), (q_8, .inl (cA 1, 129, .inr (.inl fun _ => 0))), (q_9, .inl (cA 0, 10, .inl fun _ => 0)), (q_10, .inl (cA 0, 640, .inl fun _ => 0)), (q_11, .inl (cA 0, 640, .inl fun _ => 0)), (q_12, .inl (cA 1, 640, .inr (.inl fun _ => 0)))] H := hP
  have hD : va_D A [(h0, .inr (8, [.int 0, .int 0, .ref q_1, .ref q_2, .int 0, .int 0, .int 0, .int 0, .int 1, .int 0, .ref q_3, .long 0, .long 0, .ref q_4, .ref q_5, .ref q_6, .ref q_7, .ref q_8, .ref q_9, .ref q_10, .ref q_11, .null, .null, .int 0, .int 0, .null, .null, .int 0, .null, .null, .int 0, .int 0])), (q_1, .inl (cA 1, 160, .inr (.inl fun _ => 0))), (q_2, .inl (cA 0, 100, .inl fun _ => 0)), (q_3, .inl (cA 0, 25, .inl fun _ => 0)), (q_4, .inl (cA 0, 4, .inl fun _ => 0)), (q_5, .inl (cA 0, 4, .inl fun _ => 0)), (q_6, .inl (cA 0, 4, .inl fun _ => 0)), (q_7, .inl (cA 1, 129, .inr (.inl fun _ => 0))), (q_8, .inl (cA 1, 129, .inr (.inl fun _ => 0))), (q_9, .inl (cA 0, 10, .inl fun _ => 0)), (q_10, .inl (cA 0, 640, .inl fun _ => 0)), (q_11, .inl (cA 0, 640, .inl fun _ => 0)), (q_12, .inl (cA 1, 640, .inr (.inl fun _ => 0)))] := hD
  refine W.widen (k := 12) (n := 2485) (Nat.le_of_ble_eq_true rfl) (Nat.le_of_ble_eq_true rfl) ?_
  refine va_putF (D := D) (ci := 8) (v := .ref q_12) (ty := .array .long) (C := RX8) (T := TX8) (N := 32) hx hb hts kz8.2.1 tyX8 tyX8_ok nmX8 hown hK hP hD hS 0 rfl rfl 21 (by decide) (hts _ wkc_882) (fun _ h9 => h9) rfl hin rfl (by decide +kernel) rfl rfl (Nat.le_of_ble_eq_true rfl) (zd DX8_init 52 rfl) (fun H locs hP hD hS => ?_)
  have hP : va_P D vwCl [(h0, .inr (8, [.int 0, .int 0, .ref q_1, .ref q_2, .int 0, .int 0, .int 0, .int 0, .int 1, .int 0, .ref q_3, .long 0, .long 0, .ref q_4, .ref q_5, .ref q_6, .ref q_7, .ref q_8, .ref q_9, .ref q_10, .ref q_11, .ref q_12, .null, .int 0, .int 0, .null, .null, .int 0, .null, .null, .int 0, .int 0])), (q_1, .inl (cA 1, 160, .inr (.inl fun _ => 0))), (q_2, .inl (cA 0, 100, .inl fun _ => 0)), (q_3, .inl (cA 0, 25, .inl fun _ => 0)), (q_4, .inl (cA 0, 4, .inl fun _ => 0)), (q_5, .inl (cA 0, 4, .inl fun _ => 0)), (q_6, .inl (cA 0, 4, .inl fun _ => 0)), (q_7, .inl (cA 1, 129, .inr (.inl fun _ => 0))), (q_8, .inl (cA 1, 129, .inr (.inl fun _ => 0))), (q_9, .inl (cA 0, 10, .inl fun _ => 0)), (q_10, .inl (cA 0, 640, .inl fun _ => 0)), (q_11, .inl (cA 0, 640, .inl fun _ => 0)), (q_12, .inl (cA 1, 640, .inr (.inl fun _ => 0)))] H := hP
  have hD : va_D A [(h0, .inr (8, [.int 0, .int 0, .ref q_1, .ref q_2, .int 0, .int 0, .int 0, .int 0, .int 1, .int 0, .ref q_3, .long 0, .long 0, .ref q_4, .ref q_5, .ref q_6, .ref q_7, .ref q_8, .ref q_9, .ref q_10, .ref q_11, .ref q_12, .null, .int 0, .int 0, .null, .null, .int 0, .null, .null, .int 0, .int 0])), (q_1, .inl (cA 1, 160, .inr (.inl fun _ => 0))), (q_2, .inl (cA 0, 100, .inl fun _ => 0)), (q_3, .inl (cA 0, 25, .inl fun _ => 0)), (q_4, .inl (cA 0, 4, .inl fun _ => 0)), (q_5, .inl (cA 0, 4, .inl fun _ => 0)), (q_6, .inl (cA 0, 4, .inl fun _ => 0)), (q_7, .inl (cA 1, 129, .inr (.inl fun _ => 0))), (q_8, .inl (cA 1, 129, .inr (.inl fun _ => 0))), (q_9, .inl (cA 0, 10, .inl fun _ => 0)), (q_10, .inl (cA 0, 640, .inl fun _ => 0)), (q_11, .inl (cA 0, 640, .inl fun _ => 0)), (q_12, .inl (cA 1, 640, .inr (.inl fun _ => 0)))] := hD
  refine lv_aload_n hx hb (zd DX8_init 53 rfl) rfl (lv_at hl 0 rfl) ?_
  refine lv_sipush (v := 640) hx hb (zd DX8_init 54 rfl) (by decide) ?_
  refine z_newaJ (N' := 640) hx hb (hts _ wkc_129) hK hP hD hS hA (by decide) (by decide) (by decide) (Nat.le_of_ble_eq_true rfl) (Nat.le_of_ble_eq_true rfl) (zd DX8_init 55 rfl) (fun q_13 H hP hD hS => ?_)
  have hP : va_P D vwCl [(h0, .inr (8, [.int 0, .int 0, .ref q_1, .ref q_2, .int 0, .int 0, .int 0, .int 0, .int 1, .int 0, .ref q_3, .long 0, .long 0, .ref q_4, .ref q_5, .ref q_6, .ref q_7, .ref q_8, .ref q_9, .ref q_10, .ref q_11, .ref q_12, .null, .int 0, .int 0, .null, .null, .int 0, .null, .null, .int 0, .int 0])), (q_1, .inl (cA 1, 160, .inr (.inl fun _ => 0))), (q_2, .inl (cA 0, 100, .inl fun _ => 0)), (q_3, .inl (cA 0, 25, .inl fun _ => 0)), (q_4, .inl (cA 0, 4, .inl fun _ => 0)), (q_5, .inl (cA 0, 4, .inl fun _ => 0)), (q_6, .inl (cA 0, 4, .inl fun _ => 0)), (q_7, .inl (cA 1, 129, .inr (.inl fun _ => 0))), (q_8, .inl (cA 1, 129, .inr (.inl fun _ => 0))), (q_9, .inl (cA 0, 10, .inl fun _ => 0)), (q_10, .inl (cA 0, 640, .inl fun _ => 0)), (q_11, .inl (cA 0, 640, .inl fun _ => 0)), (q_12, .inl (cA 1, 640, .inr (.inl fun _ => 0))), (q_13, .inl (cA 1, 640, .inr (.inl fun _ => 0)))] H := hP
  have hD : va_D A [(h0, .inr (8, [.int 0, .int 0, .ref q_1, .ref q_2, .int 0, .int 0, .int 0, .int 0, .int 1, .int 0, .ref q_3, .long 0, .long 0, .ref q_4, .ref q_5, .ref q_6, .ref q_7, .ref q_8, .ref q_9, .ref q_10, .ref q_11, .ref q_12, .null, .int 0, .int 0, .null, .null, .int 0, .null, .null, .int 0, .int 0])), (q_1, .inl (cA 1, 160, .inr (.inl fun _ => 0))), (q_2, .inl (cA 0, 100, .inl fun _ => 0)), (q_3, .inl (cA 0, 25, .inl fun _ => 0)), (q_4, .inl (cA 0, 4, .inl fun _ => 0)), (q_5, .inl (cA 0, 4, .inl fun _ => 0)), (q_6, .inl (cA 0, 4, .inl fun _ => 0)), (q_7, .inl (cA 1, 129, .inr (.inl fun _ => 0))), (q_8, .inl (cA 1, 129, .inr (.inl fun _ => 0))), (q_9, .inl (cA 0, 10, .inl fun _ => 0)), (q_10, .inl (cA 0, 640, .inl fun _ => 0)), (q_11, .inl (cA 0, 640, .inl fun _ => 0)), (q_12, .inl (cA 1, 640, .inr (.inl fun _ => 0))), (q_13, .inl (cA 1, 640, .inr (.inl fun _ => 0)))] := hD
  refine W.widen (k := 13) (n := 3125) (Nat.le_of_ble_eq_true rfl) (Nat.le_of_ble_eq_true rfl) ?_
  refine va_putF (D := D) (ci := 8) (v := .ref q_13) (ty := .array .long) (C := RX8) (T := TX8) (N := 32) hx hb hts kz8.2.1 tyX8 tyX8_ok nmX8 hown hK hP hD hS 0 rfl rfl 22 (by decide) (hts _ wkc_883) (fun _ h9 => h9) rfl hin rfl (by decide +kernel) rfl rfl (Nat.le_of_ble_eq_true rfl) (zd DX8_init 56 rfl) (fun H locs hP hD hS => ?_)
  have hP : va_P D vwCl [(h0, .inr (8, [.int 0, .int 0, .ref q_1, .ref q_2, .int 0, .int 0, .int 0, .int 0, .int 1, .int 0, .ref q_3, .long 0, .long 0, .ref q_4, .ref q_5, .ref q_6, .ref q_7, .ref q_8, .ref q_9, .ref q_10, .ref q_11, .ref q_12, .ref q_13, .int 0, .int 0, .null, .null, .int 0, .null, .null, .int 0, .int 0])), (q_1, .inl (cA 1, 160, .inr (.inl fun _ => 0))), (q_2, .inl (cA 0, 100, .inl fun _ => 0)), (q_3, .inl (cA 0, 25, .inl fun _ => 0)), (q_4, .inl (cA 0, 4, .inl fun _ => 0)), (q_5, .inl (cA 0, 4, .inl fun _ => 0)), (q_6, .inl (cA 0, 4, .inl fun _ => 0)), (q_7, .inl (cA 1, 129, .inr (.inl fun _ => 0))), (q_8, .inl (cA 1, 129, .inr (.inl fun _ => 0))), (q_9, .inl (cA 0, 10, .inl fun _ => 0)), (q_10, .inl (cA 0, 640, .inl fun _ => 0)), (q_11, .inl (cA 0, 640, .inl fun _ => 0)), (q_12, .inl (cA 1, 640, .inr (.inl fun _ => 0))), (q_13, .inl (cA 1, 640, .inr (.inl fun _ => 0)))] H := hP
  have hD : va_D A [(h0, .inr (8, [.int 0, .int 0, .ref q_1, .ref q_2, .int 0, .int 0, .int 0, .int 0, .int 1, .int 0, .ref q_3, .long 0, .long 0, .ref q_4, .ref q_5, .ref q_6, .ref q_7, .ref q_8, .ref q_9, .ref q_10, .ref q_11, .ref q_12, .ref q_13, .int 0, .int 0, .null, .null, .int 0, .null, .null, .int 0, .int 0])), (q_1, .inl (cA 1, 160, .inr (.inl fun _ => 0))), (q_2, .inl (cA 0, 100, .inl fun _ => 0)), (q_3, .inl (cA 0, 25, .inl fun _ => 0)), (q_4, .inl (cA 0, 4, .inl fun _ => 0)), (q_5, .inl (cA 0, 4, .inl fun _ => 0)), (q_6, .inl (cA 0, 4, .inl fun _ => 0)), (q_7, .inl (cA 1, 129, .inr (.inl fun _ => 0))), (q_8, .inl (cA 1, 129, .inr (.inl fun _ => 0))), (q_9, .inl (cA 0, 10, .inl fun _ => 0)), (q_10, .inl (cA 0, 640, .inl fun _ => 0)), (q_11, .inl (cA 0, 640, .inl fun _ => 0)), (q_12, .inl (cA 1, 640, .inr (.inl fun _ => 0))), (q_13, .inl (cA 1, 640, .inr (.inl fun _ => 0)))] := hD
  refine lv_aload_n hx hb (zd DX8_init 57 rfl) rfl (lv_at hl 0 rfl) ?_
  refine lv_bipush (v := 65) hx hb (zd DX8_init 58 rfl) (by decide) ?_
  refine z_newaI (N' := 65) hx hb (hts _ wkc_49) hK hP hD hS hA (by decide) (by decide) (by decide) (Nat.le_of_ble_eq_true rfl) (Nat.le_of_ble_eq_true rfl) (zd DX8_init 59 rfl) (fun q_14 H hP hD hS => ?_)
  have hP : va_P D vwCl [(h0, .inr (8, [.int 0, .int 0, .ref q_1, .ref q_2, .int 0, .int 0, .int 0, .int 0, .int 1, .int 0, .ref q_3, .long 0, .long 0, .ref q_4, .ref q_5, .ref q_6, .ref q_7, .ref q_8, .ref q_9, .ref q_10, .ref q_11, .ref q_12, .ref q_13, .int 0, .int 0, .null, .null, .int 0, .null, .null, .int 0, .int 0])), (q_1, .inl (cA 1, 160, .inr (.inl fun _ => 0))), (q_2, .inl (cA 0, 100, .inl fun _ => 0)), (q_3, .inl (cA 0, 25, .inl fun _ => 0)), (q_4, .inl (cA 0, 4, .inl fun _ => 0)), (q_5, .inl (cA 0, 4, .inl fun _ => 0)), (q_6, .inl (cA 0, 4, .inl fun _ => 0)), (q_7, .inl (cA 1, 129, .inr (.inl fun _ => 0))), (q_8, .inl (cA 1, 129, .inr (.inl fun _ => 0))), (q_9, .inl (cA 0, 10, .inl fun _ => 0)), (q_10, .inl (cA 0, 640, .inl fun _ => 0)), (q_11, .inl (cA 0, 640, .inl fun _ => 0)), (q_12, .inl (cA 1, 640, .inr (.inl fun _ => 0))), (q_13, .inl (cA 1, 640, .inr (.inl fun _ => 0))), (q_14, .inl (cA 0, 65, .inl fun _ => 0))] H := hP
  have hD : va_D A [(h0, .inr (8, [.int 0, .int 0, .ref q_1, .ref q_2, .int 0, .int 0, .int 0, .int 0, .int 1, .int 0, .ref q_3, .long 0, .long 0, .ref q_4, .ref q_5, .ref q_6, .ref q_7, .ref q_8, .ref q_9, .ref q_10, .ref q_11, .ref q_12, .ref q_13, .int 0, .int 0, .null, .null, .int 0, .null, .null, .int 0, .int 0])), (q_1, .inl (cA 1, 160, .inr (.inl fun _ => 0))), (q_2, .inl (cA 0, 100, .inl fun _ => 0)), (q_3, .inl (cA 0, 25, .inl fun _ => 0)), (q_4, .inl (cA 0, 4, .inl fun _ => 0)), (q_5, .inl (cA 0, 4, .inl fun _ => 0)), (q_6, .inl (cA 0, 4, .inl fun _ => 0)), (q_7, .inl (cA 1, 129, .inr (.inl fun _ => 0))), (q_8, .inl (cA 1, 129, .inr (.inl fun _ => 0))), (q_9, .inl (cA 0, 10, .inl fun _ => 0)), (q_10, .inl (cA 0, 640, .inl fun _ => 0)), (q_11, .inl (cA 0, 640, .inl fun _ => 0)), (q_12, .inl (cA 1, 640, .inr (.inl fun _ => 0))), (q_13, .inl (cA 1, 640, .inr (.inl fun _ => 0))), (q_14, .inl (cA 0, 65, .inl fun _ => 0))] := hD
  refine W.widen (k := 14) (n := 3190) (Nat.le_of_ble_eq_true rfl) (Nat.le_of_ble_eq_true rfl) ?_
  refine va_putF (D := D) (ci := 8) (v := .ref q_14) (ty := .array .int) (C := RX8) (T := TX8) (N := 32) hx hb hts kz8.2.1 tyX8 tyX8_ok nmX8 hown hK hP hD hS 0 rfl rfl 25 (by decide) (hts _ wkc_886) (fun _ h9 => h9) rfl hin rfl (by decide +kernel) rfl rfl (Nat.le_of_ble_eq_true rfl) (zd DX8_init 60 rfl) (fun H locs hP hD hS => ?_)
  have hP : va_P D vwCl [(h0, .inr (8, [.int 0, .int 0, .ref q_1, .ref q_2, .int 0, .int 0, .int 0, .int 0, .int 1, .int 0, .ref q_3, .long 0, .long 0, .ref q_4, .ref q_5, .ref q_6, .ref q_7, .ref q_8, .ref q_9, .ref q_10, .ref q_11, .ref q_12, .ref q_13, .int 0, .int 0, .ref q_14, .null, .int 0, .null, .null, .int 0, .int 0])), (q_1, .inl (cA 1, 160, .inr (.inl fun _ => 0))), (q_2, .inl (cA 0, 100, .inl fun _ => 0)), (q_3, .inl (cA 0, 25, .inl fun _ => 0)), (q_4, .inl (cA 0, 4, .inl fun _ => 0)), (q_5, .inl (cA 0, 4, .inl fun _ => 0)), (q_6, .inl (cA 0, 4, .inl fun _ => 0)), (q_7, .inl (cA 1, 129, .inr (.inl fun _ => 0))), (q_8, .inl (cA 1, 129, .inr (.inl fun _ => 0))), (q_9, .inl (cA 0, 10, .inl fun _ => 0)), (q_10, .inl (cA 0, 640, .inl fun _ => 0)), (q_11, .inl (cA 0, 640, .inl fun _ => 0)), (q_12, .inl (cA 1, 640, .inr (.inl fun _ => 0))), (q_13, .inl (cA 1, 640, .inr (.inl fun _ => 0))), (q_14, .inl (cA 0, 65, .inl fun _ => 0))] H := hP
  have hD : va_D A [(h0, .inr (8, [.int 0, .int 0, .ref q_1, .ref q_2, .int 0, .int 0, .int 0, .int 0, .int 1, .int 0, .ref q_3, .long 0, .long 0, .ref q_4, .ref q_5, .ref q_6, .ref q_7, .ref q_8, .ref q_9, .ref q_10, .ref q_11, .ref q_12, .ref q_13, .int 0, .int 0, .ref q_14, .null, .int 0, .null, .null, .int 0, .int 0])), (q_1, .inl (cA 1, 160, .inr (.inl fun _ => 0))), (q_2, .inl (cA 0, 100, .inl fun _ => 0)), (q_3, .inl (cA 0, 25, .inl fun _ => 0)), (q_4, .inl (cA 0, 4, .inl fun _ => 0)), (q_5, .inl (cA 0, 4, .inl fun _ => 0)), (q_6, .inl (cA 0, 4, .inl fun _ => 0)), (q_7, .inl (cA 1, 129, .inr (.inl fun _ => 0))), (q_8, .inl (cA 1, 129, .inr (.inl fun _ => 0))), (q_9, .inl (cA 0, 10, .inl fun _ => 0)), (q_10, .inl (cA 0, 640, .inl fun _ => 0)), (q_11, .inl (cA 0, 640, .inl fun _ => 0)), (q_12, .inl (cA 1, 640, .inr (.inl fun _ => 0))), (q_13, .inl (cA 1, 640, .inr (.inl fun _ => 0))), (q_14, .inl (cA 0, 65, .inl fun _ => 0))] := hD
  refine lv_aload_n hx hb (zd DX8_init 61 rfl) rfl (lv_at hl 0 rfl) ?_
  refine lv_bipush (v := 25) hx hb (zd DX8_init 62 rfl) (by decide) ?_
  refine z_newaI (N' := 25) hx hb (hts _ wkc_49) hK hP hD hS hA (by decide) (by decide) (by decide) (Nat.le_of_ble_eq_true rfl) (Nat.le_of_ble_eq_true rfl) (zd DX8_init 63 rfl) (fun q_15 H hP hD hS => ?_)
  have hP : va_P D vwCl [(h0, .inr (8, [.int 0, .int 0, .ref q_1, .ref q_2, .int 0, .int 0, .int 0, .int 0, .int 1, .int 0, .ref q_3, .long 0, .long 0, .ref q_4, .ref q_5, .ref q_6, .ref q_7, .ref q_8, .ref q_9, .ref q_10, .ref q_11, .ref q_12, .ref q_13, .int 0, .int 0, .ref q_14, .null, .int 0, .null, .null, .int 0, .int 0])), (q_1, .inl (cA 1, 160, .inr (.inl fun _ => 0))), (q_2, .inl (cA 0, 100, .inl fun _ => 0)), (q_3, .inl (cA 0, 25, .inl fun _ => 0)), (q_4, .inl (cA 0, 4, .inl fun _ => 0)), (q_5, .inl (cA 0, 4, .inl fun _ => 0)), (q_6, .inl (cA 0, 4, .inl fun _ => 0)), (q_7, .inl (cA 1, 129, .inr (.inl fun _ => 0))), (q_8, .inl (cA 1, 129, .inr (.inl fun _ => 0))), (q_9, .inl (cA 0, 10, .inl fun _ => 0)), (q_10, .inl (cA 0, 640, .inl fun _ => 0)), (q_11, .inl (cA 0, 640, .inl fun _ => 0)), (q_12, .inl (cA 1, 640, .inr (.inl fun _ => 0))), (q_13, .inl (cA 1, 640, .inr (.inl fun _ => 0))), (q_14, .inl (cA 0, 65, .inl fun _ => 0)), (q_15, .inl (cA 0, 25, .inl fun _ => 0))] H := hP
  have hD : va_D A [(h0, .inr (8, [.int 0, .int 0, .ref q_1, .ref q_2, .int 0, .int 0, .int 0, .int 0, .int 1, .int 0, .ref q_3, .long 0, .long 0, .ref q_4, .ref q_5, .ref q_6, .ref q_7, .ref q_8, .ref q_9, .ref q_10, .ref q_11, .ref q_12, .ref q_13, .int 0, .int 0, .ref q_14, .null, .int 0, .null, .null, .int 0, .int 0])), (q_1, .inl (cA 1, 160, .inr (.inl fun _ => 0))), (q_2, .inl (cA 0, 100, .inl fun _ => 0)), (q_3, .inl (cA 0, 25, .inl fun _ => 0)), (q_4, .inl (cA 0, 4, .inl fun _ => 0)), (q_5, .inl (cA 0, 4, .inl fun _ => 0)), (q_6, .inl (cA 0, 4, .inl fun _ => 0)), (q_7, .inl (cA 1, 129, .inr (.inl fun _ => 0))), (q_8, .inl (cA 1, 129, .inr (.inl fun _ => 0))), (q_9, .inl (cA 0, 10, .inl fun _ => 0)), (q_10, .inl (cA 0, 640, .inl fun _ => 0)), (q_11, .inl (cA 0, 640, .inl fun _ => 0)), (q_12, .inl (cA 1, 640, .inr (.inl fun _ => 0))), (q_13, .inl (cA 1, 640, .inr (.inl fun _ => 0))), (q_14, .inl (cA 0, 65, .inl fun _ => 0)), (q_15, .inl (cA 0, 25, .inl fun _ => 0))] := hD
  refine W.widen (k := 15) (n := 3215) (Nat.le_of_ble_eq_true rfl) (Nat.le_of_ble_eq_true rfl) ?_
  refine va_putF (D := D) (ci := 8) (v := .ref q_15) (ty := .array .int) (C := RX8) (T := TX8) (N := 32) hx hb hts kz8.2.1 tyX8 tyX8_ok nmX8 hown hK hP hD hS 0 rfl rfl 26 (by decide) (hts _ wkc_887) (fun _ h9 => h9) rfl hin rfl (by decide +kernel) rfl rfl (Nat.le_of_ble_eq_true rfl) (zd DX8_init 64 rfl) (fun H locs hP hD hS => ?_)
  have hP : va_P D vwCl [(h0, .inr (8, [.int 0, .int 0, .ref q_1, .ref q_2, .int 0, .int 0, .int 0, .int 0, .int 1, .int 0, .ref q_3, .long 0, .long 0, .ref q_4, .ref q_5, .ref q_6, .ref q_7, .ref q_8, .ref q_9, .ref q_10, .ref q_11, .ref q_12, .ref q_13, .int 0, .int 0, .ref q_14, .ref q_15, .int 0, .null, .null, .int 0, .int 0])), (q_1, .inl (cA 1, 160, .inr (.inl fun _ => 0))), (q_2, .inl (cA 0, 100, .inl fun _ => 0)), (q_3, .inl (cA 0, 25, .inl fun _ => 0)), (q_4, .inl (cA 0, 4, .inl fun _ => 0)), (q_5, .inl (cA 0, 4, .inl fun _ => 0)), (q_6, .inl (cA 0, 4, .inl fun _ => 0)), (q_7, .inl (cA 1, 129, .inr (.inl fun _ => 0))), (q_8, .inl (cA 1, 129, .inr (.inl fun _ => 0))), (q_9, .inl (cA 0, 10, .inl fun _ => 0)), (q_10, .inl (cA 0, 640, .inl fun _ => 0)), (q_11, .inl (cA 0, 640, .inl fun _ => 0)), (q_12, .inl (cA 1, 640, .inr (.inl fun _ => 0))), (q_13, .inl (cA 1, 640, .inr (.inl fun _ => 0))), (q_14, .inl (cA 0, 65, .inl fun _ => 0)), (q_15, .inl (cA 0, 25, .inl fun _ => 0))] H := hP
  have hD : va_D A [(h0, .inr (8, [.int 0, .int 0, .ref q_1, .ref q_2, .int 0, .int 0, .int 0, .int 0, .int 1, .int 0, .ref q_3, .long 0, .long 0, .ref q_4, .ref q_5, .ref q_6, .ref q_7, .ref q_8, .ref q_9, .ref q_10, .ref q_11, .ref q_12, .ref q_13, .int 0, .int 0, .ref q_14, .ref q_15, .int 0, .null, .null, .int 0, .int 0])), (q_1, .inl (cA 1, 160, .inr (.inl fun _ => 0))), (q_2, .inl (cA 0, 100, .inl fun _ => 0)), (q_3, .inl (cA 0, 25, .inl fun _ => 0)), (q_4, .inl (cA 0, 4, .inl fun _ => 0)), (q_5, .inl (cA 0, 4, .inl fun _ => 0)), (q_6, .inl (cA 0, 4, .inl fun _ => 0)), (q_7, .inl (cA 1, 129, .inr (.inl fun _ => 0))), (q_8, .inl (cA 1, 129, .inr (.inl fun _ => 0))), (q_9, .inl (cA 0, 10, .inl fun _ => 0)), (q_10, .inl (cA 0, 640, .inl fun _ => 0)), (q_11, .inl (cA 0, 640, .inl fun _ => 0)), (q_12, .inl (cA 1, 640, .inr (.inl fun _ => 0))), (q_13, .inl (cA 1, 640, .inr (.inl fun _ => 0))), (q_14, .inl (cA 0, 65, .inl fun _ => 0)), (q_15, .inl (cA 0, 25, .inl fun _ => 0))] := hD
  refine lv_aload_n hx hb (zd DX8_init 65 rfl) rfl (lv_at hl 0 rfl) ?_
  refine lv_bipush (v := 100) hx hb (zd DX8_init 66 rfl) (by decide) ?_
  refine z_newaI (N' := 100) hx hb (hts _ wkc_49) hK hP hD hS hA (by decide) (by decide) (by decide) (Nat.le_of_ble_eq_true rfl) (Nat.le_of_ble_eq_true rfl) (zd DX8_init 67 rfl) (fun q_16 H hP hD hS => ?_)
  have hP : va_P D vwCl [(h0, .inr (8, [.int 0, .int 0, .ref q_1, .ref q_2, .int 0, .int 0, .int 0, .int 0, .int 1, .int 0, .ref q_3, .long 0, .long 0, .ref q_4, .ref q_5, .ref q_6, .ref q_7, .ref q_8, .ref q_9, .ref q_10, .ref q_11, .ref q_12, .ref q_13, .int 0, .int 0, .ref q_14, .ref q_15, .int 0, .null, .null, .int 0, .int 0])), (q_1, .inl (cA 1, 160, .inr (.inl fun _ => 0))), (q_2, .inl (cA 0, 100, .inl fun _ => 0)), (q_3, .inl (cA 0, 25, .inl fun _ => 0)), (q_4, .inl (cA 0, 4, .inl fun _ => 0)), (q_5, .inl (cA 0, 4, .inl fun _ => 0)), (q_6, .inl (cA 0, 4, .inl fun _ => 0)), (q_7, .inl (cA 1, 129, .inr (.inl fun _ => 0))), (q_8, .inl (cA 1, 129, .inr (.inl fun _ => 0))), (q_9, .inl (cA 0, 10, .inl fun _ => 0)), (q_10, .inl (cA 0, 640, .inl fun _ => 0)), (q_11, .inl (cA 0, 640, .inl fun _ => 0)), (q_12, .inl (cA 1, 640, .inr (.inl fun _ => 0))), (q_13, .inl (cA 1, 640, .inr (.inl fun _ => 0))), (q_14, .inl (cA 0, 65, .inl fun _ => 0)), (q_15, .inl (cA 0, 25, .inl fun _ => 0)), (q_16, .inl (cA 0, 100, .inl fun _ => 0))] H := hP
  have hD : va_D A [(h0, .inr (8, [.int 0, .int 0, .ref q_1, .ref q_2, .int 0, .int 0, .int 0, .int 0, .int 1, .int 0, .ref q_3, .long 0, .long 0, .ref q_4, .ref q_5, .ref q_6, .ref q_7, .ref q_8, .ref q_9, .ref q_10, .ref q_11, .ref q_12, .ref q_13, .int 0, .int 0, .ref q_14, .ref q_15, .int 0, .null, .null, .int 0, .int 0])), (q_1, .inl (cA 1, 160, .inr (.inl fun _ => 0))), (q_2, .inl (cA 0, 100, .inl fun _ => 0)), (q_3, .inl (cA 0, 25, .inl fun _ => 0)), (q_4, .inl (cA 0, 4, .inl fun _ => 0)), (q_5, .inl (cA 0, 4, .inl fun _ => 0)), (q_6, .inl (cA 0, 4, .inl fun _ => 0)), (q_7, .inl (cA 1, 129, .inr (.inl fun _ => 0))), (q_8, .inl (cA 1, 129, .inr (.inl fun _ => 0))), (q_9, .inl (cA 0, 10, .inl fun _ => 0)), (q_10, .inl (cA 0, 640, .inl fun _ => 0)), (q_11, .inl (cA 0, 640, .inl fun _ => 0)), (q_12, .inl (cA 1, 640, .inr (.inl fun _ => 0))), (q_13, .inl (cA 1, 640, .inr (.inl fun _ => 0))), (q_14, .inl (cA 0, 65, .inl fun _ => 0)), (q_15, .inl (cA 0, 25, .inl fun _ => 0)), (q_16, .inl (cA 0, 100, .inl fun _ => 0))] := hD
  refine W.widen (k := 16) (n := 3315) (Nat.le_of_ble_eq_true rfl) (Nat.le_of_ble_eq_true rfl) ?_
  refine va_putF (D := D) (ci := 8) (v := .ref q_16) (ty := .array .int) (C := RX8) (T := TX8) (N := 32) hx hb hts kz8.2.1 tyX8 tyX8_ok nmX8 hown hK hP hD hS 0 rfl rfl 28 (by decide) (hts _ wkc_889) (fun _ h9 => h9) rfl hin rfl (by decide +kernel) rfl rfl (Nat.le_of_ble_eq_true rfl) (zd DX8_init 68 rfl) (fun H locs hP hD hS => ?_)
  have hP : va_P D vwCl [(h0, .inr (8, [.int 0, .int 0, .ref q_1, .ref q_2, .int 0, .int 0, .int 0, .int 0, .int 1, .int 0, .ref q_3, .long 0, .long 0, .ref q_4, .ref q_5, .ref q_6, .ref q_7, .ref q_8, .ref q_9, .ref q_10, .ref q_11, .ref q_12, .ref q_13, .int 0, .int 0, .ref q_14, .ref q_15, .int 0, .ref q_16, .null, .int 0, .int 0])), (q_1, .inl (cA 1, 160, .inr (.inl fun _ => 0))), (q_2, .inl (cA 0, 100, .inl fun _ => 0)), (q_3, .inl (cA 0, 25, .inl fun _ => 0)), (q_4, .inl (cA 0, 4, .inl fun _ => 0)), (q_5, .inl (cA 0, 4, .inl fun _ => 0)), (q_6, .inl (cA 0, 4, .inl fun _ => 0)), (q_7, .inl (cA 1, 129, .inr (.inl fun _ => 0))), (q_8, .inl (cA 1, 129, .inr (.inl fun _ => 0))), (q_9, .inl (cA 0, 10, .inl fun _ => 0)), (q_10, .inl (cA 0, 640, .inl fun _ => 0)), (q_11, .inl (cA 0, 640, .inl fun _ => 0)), (q_12, .inl (cA 1, 640, .inr (.inl fun _ => 0))), (q_13, .inl (cA 1, 640, .inr (.inl fun _ => 0))), (q_14, .inl (cA 0, 65, .inl fun _ => 0)), (q_15, .inl (cA 0, 25, .inl fun _ => 0)), (q_16, .inl (cA 0, 100, .inl fun _ => 0))] H := hP
  have hD : va_D A [(h0, .inr (8, [.int 0, .int 0, .ref q_1, .ref q_2, .int 0, .int 0, .int 0, .int 0, .int 1, .int 0, .ref q_3, .long 0, .long 0, .ref q_4, .ref q_5, .ref q_6, .ref q_7, .ref q_8, .ref q_9, .ref q_10, .ref q_11, .ref q_12, .ref q_13, .int 0, .int 0, .ref q_14, .ref q_15, .int 0, .ref q_16, .null, .int 0, .int 0])), (q_1, .inl (cA 1, 160, .inr (.inl fun _ => 0))), (q_2, .inl (cA 0, 100, .inl fun _ => 0)), (q_3, .inl (cA 0, 25, .inl fun _ => 0)), (q_4, .inl (cA 0, 4, .inl fun _ => 0)), (q_5, .inl (cA 0, 4, .inl fun _ => 0)), (q_6, .inl (cA 0, 4, .inl fun _ => 0)), (q_7, .inl (cA 1, 129, .inr (.inl fun _ => 0))), (q_8, .inl (cA 1, 129, .inr (.inl fun _ => 0))), (q_9, .inl (cA 0, 10, .inl fun _ => 0)), (q_10, .inl (cA 0, 640, .inl fun _ => 0)), (q_11, .inl (cA 0, 640, .inl fun _ => 0)), (q_12, .inl (cA 1, 640, .inr (.inl fun _ => 0))), (q_13, .inl (cA 1, 640, .inr (.inl fun _ => 0))), (q_14, .inl (cA 0, 65, .inl fun _ => 0)), (q_15, .inl (cA 0, 25, .inl fun _ => 0)), (q_16, .inl (cA 0, 100, .inl fun _ => 0))] := hD
  refine lv_aload_n hx hb (zd DX8_init 69 rfl) rfl (lv_at hl 0 rfl) ?_
  refine lv_bipush (v := 100) hx hb (zd DX8_init 70 rfl) (by decide) ?_
  refine z_newaI (N' := 100) hx hb (hts _ wkc_49) hK hP hD hS hA (by decide) (by decide) (by decide) (Nat.le_of_ble_eq_true rfl) (Nat.le_of_ble_eq_true rfl) (zd DX8_init 71 rfl) (fun q_17 H hP hD hS => ?_)
  have hP : va_P D vwCl [(h0, .inr (8, [.int 0, .int 0, .ref q_1, .ref q_2, .int 0, .int 0, .int 0, .int 0, .int 1, .int 0, .ref q_3, .long 0, .long 0, .ref q_4, .ref q_5, .ref q_6, .ref q_7, .ref q_8, .ref q_9, .ref q_10, .ref q_11, .ref q_12, .ref q_13, .int 0, .int 0, .ref q_14, .ref q_15, .int 0, .ref q_16, .null, .int 0, .int 0])), (q_1, .inl (cA 1, 160, .inr (.inl fun _ => 0))), (q_2, .inl (cA 0, 100, .inl fun _ => 0)), (q_3, .inl (cA 0, 25, .inl fun _ => 0)), (q_4, .inl (cA 0, 4, .inl fun _ => 0)), (q_5, .inl (cA 0, 4, .inl fun _ => 0)), (q_6, .inl (cA 0, 4, .inl fun _ => 0)), (q_7, .inl (cA 1, 129, .inr (.inl fun _ => 0))), (q_8, .inl (cA 1, 129, .inr (.inl fun _ => 0))), (q_9, .inl (cA 0, 10, .inl fun _ => 0)), (q_10, .inl (cA 0, 640, .inl fun _ => 0)), (q_11, .inl (cA 0, 640, .inl fun _ => 0)), (q_12, .inl (cA 1, 640, .inr (.inl fun _ => 0))), (q_13, .inl (cA 1, 640, .inr (.inl fun _ => 0))), (q_14, .inl (cA 0, 65, .inl fun _ => 0)), (q_15, .inl (cA 0, 25, .inl fun _ => 0)), (q_16, .inl (cA 0, 100, .inl fun _ => 0)), (q_17, .inl (cA 0, 100, .inl fun _ => 0))] H := hP
  have hD : va_D A [(h0, .inr (8, [.int 0, .int 0, .ref q_1, .ref q_2, .int 0, .int 0, .int 0, .int 0, .int 1, .int 0, .ref q_3, .long 0, .long 0, .ref q_4, .ref q_5, .ref q_6, .ref q_7, .ref q_8, .ref q_9, .ref q_10, .ref q_11, .ref q_12, .ref q_13, .int 0, .int 0, .ref q_14, .ref q_15, .int 0, .ref q_16, .null, .int 0, .int 0])), (q_1, .inl (cA 1, 160, .inr (.inl fun _ => 0))), (q_2, .inl (cA 0, 100, .inl fun _ => 0)), (q_3, .inl (cA 0, 25, .inl fun _ => 0)), (q_4, .inl (cA 0, 4, .inl fun _ => 0)), (q_5, .inl (cA 0, 4, .inl fun _ => 0)), (q_6, .inl (cA 0, 4, .inl fun _ => 0)), (q_7, .inl (cA 1, 129, .inr (.inl fun _ => 0))), (q_8, .inl (cA 1, 129, .inr (.inl fun _ => 0))), (q_9, .inl (cA 0, 10, .inl fun _ => 0)), (q_10, .inl (cA 0, 640, .inl fun _ => 0)), (q_11, .inl (cA 0, 640, .inl fun _ => 0)), (q_12, .inl (cA 1, 640, .inr (.inl fun _ => 0))), (q_13, .inl (cA 1, 640, .inr (.inl fun _ => 0))), (q_14, .inl (cA 0, 65, .inl fun _ => 0)), (q_15, .inl (cA 0, 25, .inl fun _ => 0)), (q_16, .inl (cA 0, 100, .inl fun _ => 0)), (q_17, .inl (cA 0, 100, .inl fun _ => 0))] := hD
  refine W.widen (k := 17) (n := 3415) (Nat.le_of_ble_eq_true rfl) (Nat.le_of_ble_eq_true rfl) ?_
  refine va_putF (D := D) (ci := 8) (v := .ref q_17) (ty := .array .int) (C := RX8) (T := TX8) (N := 32) hx hb hts kz8.2.1 tyX8 tyX8_ok nmX8 hown hK hP hD hS 0 rfl rfl 29 (by decide) (hts _ wkc_890) (fun _ h9 => h9) rfl hin rfl (by decide +kernel) rfl rfl (Nat.le_of_ble_eq_true rfl) (zd DX8_init 72 rfl) (fun H locs hP hD hS => ?_)
  have hP : va_P D vwCl [(h0, .inr (8, [.int 0, .int 0, .ref q_1, .ref q_2, .int 0, .int 0, .int 0, .int 0, .int 1, .int 0, .ref q_3, .long 0, .long 0, .ref q_4, .ref q_5, .ref q_6, .ref q_7, .ref q_8, .ref q_9, .ref q_10, .ref q_11, .ref q_12, .ref q_13, .int 0, .int 0, .ref q_14, .ref q_15, .int 0, .ref q_16, .ref q_17, .int 0, .int 0])), (q_1, .inl (cA 1, 160, .inr (.inl fun _ => 0))), (q_2, .inl (cA 0, 100, .inl fun _ => 0)), (q_3, .inl (cA 0, 25, .inl fun _ => 0)), (q_4, .inl (cA 0, 4, .inl fun _ => 0)), (q_5, .inl (cA 0, 4, .inl fun _ => 0)), (q_6, .inl (cA 0, 4, .inl fun _ => 0)), (q_7, .inl (cA 1, 129, .inr (.inl fun _ => 0))), (q_8, .inl (cA 1, 129, .inr (.inl fun _ => 0))), (q_9, .inl (cA 0, 10, .inl fun _ => 0)), (q_10, .inl (cA 0, 640, .inl fun _ => 0)), (q_11, .inl (cA 0, 640, .inl fun _ => 0)), (q_12, .inl (cA 1, 640, .inr (.inl fun _ => 0))), (q_13, .inl (cA 1, 640, .inr (.inl fun _ => 0))), (q_14, .inl (cA 0, 65, .inl fun _ => 0)), (q_15, .inl (cA 0, 25, .inl fun _ => 0)), (q_16, .inl (cA 0, 100, .inl fun _ => 0)), (q_17, .inl (cA 0, 100, .inl fun _ => 0))] H := hP
  have hD : va_D A [(h0, .inr (8, [.int 0, .int 0, .ref q_1, .ref q_2, .int 0, .int 0, .int 0, .int 0, .int 1, .int 0, .ref q_3, .long 0, .long 0, .ref q_4, .ref q_5, .ref q_6, .ref q_7, .ref q_8, .ref q_9, .ref q_10, .ref q_11, .ref q_12, .ref q_13, .int 0, .int 0, .ref q_14, .ref q_15, .int 0, .ref q_16, .ref q_17, .int 0, .int 0])), (q_1, .inl (cA 1, 160, .inr (.inl fun _ => 0))), (q_2, .inl (cA 0, 100, .inl fun _ => 0)), (q_3, .inl (cA 0, 25, .inl fun _ => 0)), (q_4, .inl (cA 0, 4, .inl fun _ => 0)), (q_5, .inl (cA 0, 4, .inl fun _ => 0)), (q_6, .inl (cA 0, 4, .inl fun _ => 0)), (q_7, .inl (cA 1, 129, .inr (.inl fun _ => 0))), (q_8, .inl (cA 1, 129, .inr (.inl fun _ => 0))), (q_9, .inl (cA 0, 10, .inl fun _ => 0)), (q_10, .inl (cA 0, 640, .inl fun _ => 0)), (q_11, .inl (cA 0, 640, .inl fun _ => 0)), (q_12, .inl (cA 1, 640, .inr (.inl fun _ => 0))), (q_13, .inl (cA 1, 640, .inr (.inl fun _ => 0))), (q_14, .inl (cA 0, 65, .inl fun _ => 0)), (q_15, .inl (cA 0, 25, .inl fun _ => 0)), (q_16, .inl (cA 0, 100, .inl fun _ => 0)), (q_17, .inl (cA 0, 100, .inl fun _ => 0))] := hD
  refine lv_aload_n hx hb (zd DX8_init 73 rfl) rfl (lv_at hl 0 rfl) ?_
  refine lv_iconst (v := 0) hx hb (zd DX8_init 74 rfl) (by decide) ?_
  refine va_put (D := D) (ci := 8) (v := .int 0) (ty := .int) (C := RX8) (T := TX8) (N := 32) hx hb hts kz8.2.1 tyX8 tyX8_ok nmX8 hown hK hP hD hS 0 rfl rfl 7 (by decide) (hts _ wkc_868) (fun _ h9 => h9) rfl (by decide +kernel) rfl rfl (Nat.le_of_ble_eq_true rfl) (zd DX8_init 75 rfl) (fun H locs hP hD hS => ?_)
  have hP : va_P D vwCl [(h0, .inr (8, [.int 0, .int 0, .ref q_1, .ref q_2, .int 0, .int 0, .int 0, .int 0, .int 1, .int 0, .ref q_3, .long 0, .long 0, .ref q_4, .ref q_5, .ref q_6, .ref q_7, .ref q_8, .ref q_9, .ref q_10, .ref q_11, .ref q_12, .ref q_13, .int 0, .int 0, .ref q_14, .ref q_15, .int 0, .ref q_16, .ref q_17, .int 0, .int 0])), (q_1, .inl (cA 1, 160, .inr (.inl fun _ => 0))), (q_2, .inl (cA 0, 100, .inl fun _ => 0)), (q_3, .inl (cA 0, 25, .inl fun _ => 0)), (q_4, .inl (cA 0, 4, .inl fun _ => 0)), (q_5, .inl (cA 0, 4, .inl fun _ => 0)), (q_6, .inl (cA 0, 4, .inl fun _ => 0)), (q_7, .inl (cA 1, 129, .inr (.inl fun _ => 0))), (q_8, .inl (cA 1, 129, .inr (.inl fun _ => 0))), (q_9, .inl (cA 0, 10, .inl fun _ => 0)), (q_10, .inl (cA 0, 640, .inl fun _ => 0)), (q_11, .inl (cA 0, 640, .inl fun _ => 0)), (q_12, .inl (cA 1, 640, .inr (.inl fun _ => 0))), (q_13, .inl (cA 1, 640, .inr (.inl fun _ => 0))), (q_14, .inl (cA 0, 65, .inl fun _ => 0)), (q_15, .inl (cA 0, 25, .inl fun _ => 0)), (q_16, .inl (cA 0, 100, .inl fun _ => 0)), (q_17, .inl (cA 0, 100, .inl fun _ => 0))] H := hP
  have hD : va_D A [(h0, .inr (8, [.int 0, .int 0, .ref q_1, .ref q_2, .int 0, .int 0, .int 0, .int 0, .int 1, .int 0, .ref q_3, .long 0, .long 0, .ref q_4, .ref q_5, .ref q_6, .ref q_7, .ref q_8, .ref q_9, .ref q_10, .ref q_11, .ref q_12, .ref q_13, .int 0, .int 0, .ref q_14, .ref q_15, .int 0, .ref q_16, .ref q_17, .int 0, .int 0])), (q_1, .inl (cA 1, 160, .inr (.inl fun _ => 0))), (q_2, .inl (cA 0, 100, .inl fun _ => 0)), (q_3, .inl (cA 0, 25, .inl fun _ => 0)), (q_4, .inl (cA 0, 4, .inl fun _ => 0)), (q_5, .inl (cA 0, 4, .inl fun _ => 0)), (q_6, .inl (cA 0, 4, .inl fun _ => 0)), (q_7, .inl (cA 1, 129, .inr (.inl fun _ => 0))), (q_8, .inl (cA 1, 129, .inr (.inl fun _ => 0))), (q_9, .inl (cA 0, 10, .inl fun _ => 0)), (q_10, .inl (cA 0, 640, .inl fun _ => 0)), (q_11, .inl (cA 0, 640, .inl fun _ => 0)), (q_12, .inl (cA 1, 640, .inr (.inl fun _ => 0))), (q_13, .inl (cA 1, 640, .inr (.inl fun _ => 0))), (q_14, .inl (cA 0, 65, .inl fun _ => 0)), (q_15, .inl (cA 0, 25, .inl fun _ => 0)), (q_16, .inl (cA 0, 100, .inl fun _ => 0)), (q_17, .inl (cA 0, 100, .inl fun _ => 0))] := hD
  have hP9 := hP.sub (ws' := k8 cA h0 (fun j => [h0, q_1, q_2, q_3, q_4, q_5, q_6, q_7, q_8, q_9, q_10, q_11, q_12, q_13, q_14, q_15, q_16, q_17].getD j 0)) [0, 1, 2, 3, 4, 5, 6, 7, 8, 9, 10, 11, 12, 13, 14, 15, 16, 17] rfl
  have hD9 := hD.sub (ws' := k8 cA h0 (fun j => [h0, q_1, q_2, q_3, q_4, q_5, q_6, q_7, q_8, q_9, q_10, q_11, q_12, q_13, q_14, q_15, q_16, q_17].getD j 0)) [0, 1, 2, 3, 4, 5, 6, 7, 8, 9, 10, 11, 12, 13, 14, 15, 16, 17] (by decide) rfl
  exact W.vret hx hb hr (fun t ht hW => ⟨⟨(fun j => [h0, q_1, q_2, q_3, q_4, q_5, q_6, q_7, q_8, q_9, q_10, q_11, q_12, q_13, q_14, q_15, q_16, q_17].getD j 0), rfl, trivial, by rw [ht]; exact hP9, hD9⟩, hS.F ht⟩) hS.2.2 (zd DX8_init 76 rfl)
end
