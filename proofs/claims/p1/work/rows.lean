section
-- ===== PART A: goes FIRST, ahead of the names: the tables' words, and 'selects' of the private methods out of them =====
/-- a private method of a class that the tables say can be made, by its rows of tables_1 -/
def lw_okq (q : MethodName × Nat) : Prop := (q.1.cls ≠ "java/lang/invoke/MethodHandle" ∧ q.1.cls ≠ "java/lang/invoke/VarHandle") ∧ Cond.instantiable q.1.cls q.2 ∈ tables_1 ∧ Cond.privateMethod q.1 ∈ tables_1 ∧ Cond.instanceMethod q.1 ∈ tables_1
theorem lw_p0 : lw_okq (⟨"EndSums", "layAllAnew", "()V"⟩, 11) := ⟨⟨by decide +kernel, by decide +kernel⟩, List.mem_of_getElem? (i := 16) (by decide +kernel), List.mem_of_getElem? (i := 223) (by decide +kernel), List.mem_of_getElem? (i := 224) (by decide +kernel)⟩
theorem lw_p1 : lw_okq (⟨"EndSums", "lineAt", "(I)LEndSums$Line;"⟩, 11) := ⟨⟨by decide +kernel, by decide +kernel⟩, List.mem_of_getElem? (i := 16) (by decide +kernel), List.mem_of_getElem? (i := 227) (by decide +kernel), List.mem_of_getElem? (i := 228) (by decide +kernel)⟩
theorem lw_p2 : lw_okq (⟨"EndSums$Works", "layAsItLies", "(LEndSums$Line;)V"⟩, 4) := ⟨⟨by decide +kernel, by decide +kernel⟩, List.mem_of_getElem? (i := 70) (by decide +kernel), List.mem_of_getElem? (i := 231) (by decide +kernel), List.mem_of_getElem? (i := 232) (by decide +kernel)⟩
theorem lw_p3 : lw_okq (⟨"EndSums$Works", "hold", "(LEndSums$Line;)V"⟩, 4) := ⟨⟨by decide +kernel, by decide +kernel⟩, List.mem_of_getElem? (i := 70) (by decide +kernel), List.mem_of_getElem? (i := 235) (by decide +kernel), List.mem_of_getElem? (i := 236) (by decide +kernel)⟩
theorem lw_p4 : lw_okq (⟨"EndSums$Line", "size", "()I"⟩, 2) := ⟨⟨by decide +kernel, by decide +kernel⟩, List.mem_of_getElem? (i := 92) (by decide +kernel), List.mem_of_getElem? (i := 239) (by decide +kernel), List.mem_of_getElem? (i := 240) (by decide +kernel)⟩
theorem lw_p5 : lw_okq (⟨"EndSums$Line", "itemAt", "(I)I"⟩, 2) := ⟨⟨by decide +kernel, by decide +kernel⟩, List.mem_of_getElem? (i := 92) (by decide +kernel), List.mem_of_getElem? (i := 243) (by decide +kernel), List.mem_of_getElem? (i := 244) (by decide +kernel)⟩
theorem lw_p6 : lw_okq (⟨"EndSums$Line", "endOf", "(I)I"⟩, 2) := ⟨⟨by decide +kernel, by decide +kernel⟩, List.mem_of_getElem? (i := 92) (by decide +kernel), List.mem_of_getElem? (i := 247) (by decide +kernel), List.mem_of_getElem? (i := 248) (by decide +kernel)⟩
theorem lw_p7 : lw_okq (⟨"EndSums$Line", "pile", "(I)LEndSums$Pile;"⟩, 2) := ⟨⟨by decide +kernel, by decide +kernel⟩, List.mem_of_getElem? (i := 92) (by decide +kernel), List.mem_of_getElem? (i := 251) (by decide +kernel), List.mem_of_getElem? (i := 252) (by decide +kernel)⟩
theorem lw_p8 : lw_okq (⟨"EndSums$Line", "heightOf", "(I)I"⟩, 2) := ⟨⟨by decide +kernel, by decide +kernel⟩, List.mem_of_getElem? (i := 92) (by decide +kernel), List.mem_of_getElem? (i := 255) (by decide +kernel), List.mem_of_getElem? (i := 256) (by decide +kernel)⟩
theorem lw_p9 : lw_okq (⟨"EndSums$Works", "lay", "(LEndSums$Line;III)V"⟩, 4) := ⟨⟨by decide +kernel, by decide +kernel⟩, List.mem_of_getElem? (i := 70) (by decide +kernel), List.mem_of_getElem? (i := 265) (by decide +kernel), List.mem_of_getElem? (i := 266) (by decide +kernel)⟩
theorem lw_p10 : lw_okq (⟨"EndSums$Works", "make", "(LEndSums$Pile;II)V"⟩, 4) := ⟨⟨by decide +kernel, by decide +kernel⟩, List.mem_of_getElem? (i := 70) (by decide +kernel), List.mem_of_getElem? (i := 270) (by decide +kernel), List.mem_of_getElem? (i := 271) (by decide +kernel)⟩
theorem lw_p11 : lw_okq (⟨"EndSums$Joining", "emptyP", "()J"⟩, 4) := ⟨⟨by decide +kernel, by decide +kernel⟩, List.mem_of_getElem? (i := 24) (by decide +kernel), List.mem_of_getElem? (i := 274) (by decide +kernel), List.mem_of_getElem? (i := 275) (by decide +kernel)⟩
theorem lw_p12 : lw_okq (⟨"EndSums$Joining", "emptyQ", "()J"⟩, 4) := ⟨⟨by decide +kernel, by decide +kernel⟩, List.mem_of_getElem? (i := 24) (by decide +kernel), List.mem_of_getElem? (i := 283) (by decide +kernel), List.mem_of_getElem? (i := 284) (by decide +kernel)⟩
theorem lw_p13 : lw_okq (⟨"EndSums$Joining", "elementP", "(I)J"⟩, 4) := ⟨⟨by decide +kernel, by decide +kernel⟩, List.mem_of_getElem? (i := 24) (by decide +kernel), List.mem_of_getElem? (i := 287) (by decide +kernel), List.mem_of_getElem? (i := 288) (by decide +kernel)⟩
theorem lw_p14 : lw_okq (⟨"EndSums$Table", "kindOf", "(I)I"⟩, 3) := ⟨⟨by decide +kernel, by decide +kernel⟩, List.mem_of_getElem? (i := 30) (by decide +kernel), List.mem_of_getElem? (i := 291) (by decide +kernel), List.mem_of_getElem? (i := 292) (by decide +kernel)⟩
theorem lw_p15 : lw_okq (⟨"EndSums$Joining", "elementQ", "(I)J"⟩, 4) := ⟨⟨by decide +kernel, by decide +kernel⟩, List.mem_of_getElem? (i := 24) (by decide +kernel), List.mem_of_getElem? (i := 295) (by decide +kernel), List.mem_of_getElem? (i := 296) (by decide +kernel)⟩
def lw_privs_1 : List (MethodName × Nat) := [(⟨"EndSums", "layAllAnew", "()V"⟩, 11), (⟨"EndSums", "lineAt", "(I)LEndSums$Line;"⟩, 11), (⟨"EndSums$Works", "layAsItLies", "(LEndSums$Line;)V"⟩, 4), (⟨"EndSums$Works", "hold", "(LEndSums$Line;)V"⟩, 4), (⟨"EndSums$Line", "size", "()I"⟩, 2), (⟨"EndSums$Line", "itemAt", "(I)I"⟩, 2), (⟨"EndSums$Line", "endOf", "(I)I"⟩, 2), (⟨"EndSums$Line", "pile", "(I)LEndSums$Pile;"⟩, 2), (⟨"EndSums$Line", "heightOf", "(I)I"⟩, 2), (⟨"EndSums$Works", "lay", "(LEndSums$Line;III)V"⟩, 4), (⟨"EndSums$Works", "make", "(LEndSums$Pile;II)V"⟩, 4), (⟨"EndSums$Joining", "emptyP", "()J"⟩, 4), (⟨"EndSums$Joining", "emptyQ", "()J"⟩, 4), (⟨"EndSums$Joining", "elementP", "(I)J"⟩, 4), (⟨"EndSums$Table", "kindOf", "(I)I"⟩, 3), (⟨"EndSums$Joining", "elementQ", "(I)J"⟩, 4)]
theorem lw_r1 : ∀ q ∈ lw_privs_1, lw_okq q := List.forall_mem_cons.mpr ⟨lw_p0, List.forall_mem_cons.mpr ⟨lw_p1, List.forall_mem_cons.mpr ⟨lw_p2, List.forall_mem_cons.mpr ⟨lw_p3, List.forall_mem_cons.mpr ⟨lw_p4, List.forall_mem_cons.mpr ⟨lw_p5, List.forall_mem_cons.mpr ⟨lw_p6, List.forall_mem_cons.mpr ⟨lw_p7, List.forall_mem_cons.mpr ⟨lw_p8, List.forall_mem_cons.mpr ⟨lw_p9, List.forall_mem_cons.mpr ⟨lw_p10, List.forall_mem_cons.mpr ⟨lw_p11, List.forall_mem_cons.mpr ⟨lw_p12, List.forall_mem_cons.mpr ⟨lw_p13, List.forall_mem_cons.mpr ⟨lw_p14, List.forall_mem_cons.mpr ⟨lw_p15, fun _ h => absurd h List.not_mem_nil⟩⟩⟩⟩⟩⟩⟩⟩⟩⟩⟩⟩⟩⟩⟩⟩
theorem lw_p16 : lw_okq (⟨"EndSums$Joining", "join", "(JJJJ)V"⟩, 4) := ⟨⟨by decide +kernel, by decide +kernel⟩, List.mem_of_getElem? (i := 24) (by decide +kernel), List.mem_of_getElem? (i := 307) (by decide +kernel), List.mem_of_getElem? (i := 308) (by decide +kernel)⟩
theorem lw_p17 : lw_okq (⟨"EndSums$Joining", "startWith", "(JJ)V"⟩, 4) := ⟨⟨by decide +kernel, by decide +kernel⟩, List.mem_of_getElem? (i := 24) (by decide +kernel), List.mem_of_getElem? (i := 311) (by decide +kernel), List.mem_of_getElem? (i := 312) (by decide +kernel)⟩
theorem lw_p18 : lw_okq (⟨"EndSums$Table", "entry", "(II)I"⟩, 3) := ⟨⟨by decide +kernel, by decide +kernel⟩, List.mem_of_getElem? (i := 30) (by decide +kernel), List.mem_of_getElem? (i := 329) (by decide +kernel), List.mem_of_getElem? (i := 330) (by decide +kernel)⟩
theorem lw_p19 : lw_okq (⟨"EndSums$Pile", "grow", "(IJJI)V"⟩, 5) := ⟨⟨by decide +kernel, by decide +kernel⟩, List.mem_of_getElem? (i := 98) (by decide +kernel), List.mem_of_getElem? (i := 333) (by decide +kernel), List.mem_of_getElem? (i := 334) (by decide +kernel)⟩
theorem lw_p20 : lw_okq (⟨"EndSums$Text", "firstWrongInTable", "()I"⟩, 2) := ⟨⟨by decide +kernel, by decide +kernel⟩, List.mem_of_getElem? (i := 144) (by decide +kernel), List.mem_of_getElem? (i := 345) (by decide +kernel), List.mem_of_getElem? (i := 346) (by decide +kernel)⟩
theorem lw_p21 : lw_okq (⟨"EndSums$Text", "firstRow", "()I"⟩, 2) := ⟨⟨by decide +kernel, by decide +kernel⟩, List.mem_of_getElem? (i := 144) (by decide +kernel), List.mem_of_getElem? (i := 349) (by decide +kernel), List.mem_of_getElem? (i := 350) (by decide +kernel)⟩
theorem lw_p22 : lw_okq (⟨"EndSums$Text", "fitsTable", "(II)Z"⟩, 2) := ⟨⟨by decide +kernel, by decide +kernel⟩, List.mem_of_getElem? (i := 144) (by decide +kernel), List.mem_of_getElem? (i := 354) (by decide +kernel), List.mem_of_getElem? (i := 355) (by decide +kernel)⟩
theorem lw_p23 : lw_okq (⟨"EndSums$Text", "signOrBehind", "(I)I"⟩, 2) := ⟨⟨by decide +kernel, by decide +kernel⟩, List.mem_of_getElem? (i := 144) (by decide +kernel), List.mem_of_getElem? (i := 358) (by decide +kernel), List.mem_of_getElem? (i := 359) (by decide +kernel)⟩
theorem lw_p24 : lw_okq (⟨"EndSums$Table", "read", "(LEndSums$Text;)V"⟩, 3) := ⟨⟨by decide +kernel, by decide +kernel⟩, List.mem_of_getElem? (i := 30) (by decide +kernel), List.mem_of_getElem? (i := 365) (by decide +kernel), List.mem_of_getElem? (i := 366) (by decide +kernel)⟩
theorem lw_p25 : lw_okq (⟨"EndSums$Text", "signAt", "(I)I"⟩, 2) := ⟨⟨by decide +kernel, by decide +kernel⟩, List.mem_of_getElem? (i := 144) (by decide +kernel), List.mem_of_getElem? (i := 370) (by decide +kernel), List.mem_of_getElem? (i := 371) (by decide +kernel)⟩
theorem lw_p26 : lw_okq (⟨"EndSums$Table", "neutralOne", "()I"⟩, 3) := ⟨⟨by decide +kernel, by decide +kernel⟩, List.mem_of_getElem? (i := 30) (by decide +kernel), List.mem_of_getElem? (i := 375) (by decide +kernel), List.mem_of_getElem? (i := 376) (by decide +kernel)⟩
theorem lw_p27 : lw_okq (⟨"EndSums$Table", "firstNotAlike", "()I"⟩, 3) := ⟨⟨by decide +kernel, by decide +kernel⟩, List.mem_of_getElem? (i := 30) (by decide +kernel), List.mem_of_getElem? (i := 380) (by decide +kernel), List.mem_of_getElem? (i := 381) (by decide +kernel)⟩
theorem lw_p28 : lw_okq (⟨"EndSums", "tell", "(JJJ)V"⟩, 11) := ⟨⟨by decide +kernel, by decide +kernel⟩, List.mem_of_getElem? (i := 16) (by decide +kernel), List.mem_of_getElem? (i := 384) (by decide +kernel), List.mem_of_getElem? (i := 385) (by decide +kernel)⟩
theorem lw_p29 : lw_okq (⟨"EndSums", "tell", "(JJ)V"⟩, 11) := ⟨⟨by decide +kernel, by decide +kernel⟩, List.mem_of_getElem? (i := 16) (by decide +kernel), List.mem_of_getElem? (i := 388) (by decide +kernel), List.mem_of_getElem? (i := 389) (by decide +kernel)⟩
theorem lw_p30 : lw_okq (⟨"EndSums", "tell", "(J)V"⟩, 11) := ⟨⟨by decide +kernel, by decide +kernel⟩, List.mem_of_getElem? (i := 16) (by decide +kernel), List.mem_of_getElem? (i := 392) (by decide +kernel), List.mem_of_getElem? (i := 393) (by decide +kernel)⟩
theorem lw_p31 : lw_okq (⟨"EndSums", "tellMore", "(J)V"⟩, 11) := ⟨⟨by decide +kernel, by decide +kernel⟩, List.mem_of_getElem? (i := 16) (by decide +kernel), List.mem_of_getElem? (i := 396) (by decide +kernel), List.mem_of_getElem? (i := 397) (by decide +kernel)⟩
def lw_privs_2 : List (MethodName × Nat) := [(⟨"EndSums$Joining", "join", "(JJJJ)V"⟩, 4), (⟨"EndSums$Joining", "startWith", "(JJ)V"⟩, 4), (⟨"EndSums$Table", "entry", "(II)I"⟩, 3), (⟨"EndSums$Pile", "grow", "(IJJI)V"⟩, 5), (⟨"EndSums$Text", "firstWrongInTable", "()I"⟩, 2), (⟨"EndSums$Text", "firstRow", "()I"⟩, 2), (⟨"EndSums$Text", "fitsTable", "(II)Z"⟩, 2), (⟨"EndSums$Text", "signOrBehind", "(I)I"⟩, 2), (⟨"EndSums$Table", "read", "(LEndSums$Text;)V"⟩, 3), (⟨"EndSums$Text", "signAt", "(I)I"⟩, 2), (⟨"EndSums$Table", "neutralOne", "()I"⟩, 3), (⟨"EndSums$Table", "firstNotAlike", "()I"⟩, 3), (⟨"EndSums", "tell", "(JJJ)V"⟩, 11), (⟨"EndSums", "tell", "(JJ)V"⟩, 11), (⟨"EndSums", "tell", "(J)V"⟩, 11), (⟨"EndSums", "tellMore", "(J)V"⟩, 11)]
theorem lw_r2 : ∀ q ∈ lw_privs_2, lw_okq q := List.forall_mem_cons.mpr ⟨lw_p16, List.forall_mem_cons.mpr ⟨lw_p17, List.forall_mem_cons.mpr ⟨lw_p18, List.forall_mem_cons.mpr ⟨lw_p19, List.forall_mem_cons.mpr ⟨lw_p20, List.forall_mem_cons.mpr ⟨lw_p21, List.forall_mem_cons.mpr ⟨lw_p22, List.forall_mem_cons.mpr ⟨lw_p23, List.forall_mem_cons.mpr ⟨lw_p24, List.forall_mem_cons.mpr ⟨lw_p25, List.forall_mem_cons.mpr ⟨lw_p26, List.forall_mem_cons.mpr ⟨lw_p27, List.forall_mem_cons.mpr ⟨lw_p28, List.forall_mem_cons.mpr ⟨lw_p29, List.forall_mem_cons.mpr ⟨lw_p30, List.forall_mem_cons.mpr ⟨lw_p31, fun _ h => absurd h List.not_mem_nil⟩⟩⟩⟩⟩⟩⟩⟩⟩⟩⟩⟩⟩⟩⟩⟩
theorem lw_p32 : lw_okq (⟨"EndSums$Table", "become", "(LEndSums$Table;)V"⟩, 3) := ⟨⟨by decide +kernel, by decide +kernel⟩, List.mem_of_getElem? (i := 30) (by decide +kernel), List.mem_of_getElem? (i := 400) (by decide +kernel), List.mem_of_getElem? (i := 401) (by decide +kernel)⟩
theorem lw_p33 : lw_okq (⟨"EndSums$Joining", "start", "(I)V"⟩, 4) := ⟨⟨by decide +kernel, by decide +kernel⟩, List.mem_of_getElem? (i := 24) (by decide +kernel), List.mem_of_getElem? (i := 412) (by decide +kernel), List.mem_of_getElem? (i := 413) (by decide +kernel)⟩
theorem lw_p34 : lw_okq (⟨"EndSums$Joining", "follow", "(I)V"⟩, 4) := ⟨⟨by decide +kernel, by decide +kernel⟩, List.mem_of_getElem? (i := 24) (by decide +kernel), List.mem_of_getElem? (i := 418) (by decide +kernel), List.mem_of_getElem? (i := 419) (by decide +kernel)⟩
theorem lw_p35 : lw_okq (⟨"EndSums$Joining", "comesTo", "(JJ)Z"⟩, 4) := ⟨⟨by decide +kernel, by decide +kernel⟩, List.mem_of_getElem? (i := 24) (by decide +kernel), List.mem_of_getElem? (i := 423) (by decide +kernel), List.mem_of_getElem? (i := 424) (by decide +kernel)⟩
theorem lw_p36 : lw_okq (⟨"EndSums", "tell", "(JJJJ)V"⟩, 11) := ⟨⟨by decide +kernel, by decide +kernel⟩, List.mem_of_getElem? (i := 16) (by decide +kernel), List.mem_of_getElem? (i := 427) (by decide +kernel), List.mem_of_getElem? (i := 428) (by decide +kernel)⟩
theorem lw_p37 : lw_okq (⟨"EndSums$Joining", "power", "(II)I"⟩, 4) := ⟨⟨by decide +kernel, by decide +kernel⟩, List.mem_of_getElem? (i := 24) (by decide +kernel), List.mem_of_getElem? (i := 436) (by decide +kernel), List.mem_of_getElem? (i := 437) (by decide +kernel)⟩
theorem lw_p38 : lw_okq (⟨"EndSums$Joining", "startEmpty", "()V"⟩, 4) := ⟨⟨by decide +kernel, by decide +kernel⟩, List.mem_of_getElem? (i := 24) (by decide +kernel), List.mem_of_getElem? (i := 440) (by decide +kernel), List.mem_of_getElem? (i := 441) (by decide +kernel)⟩
theorem lw_p39 : lw_okq (⟨"EndSums", "keepSum", "(I)V"⟩, 11) := ⟨⟨by decide +kernel, by decide +kernel⟩, List.mem_of_getElem? (i := 16) (by decide +kernel), List.mem_of_getElem? (i := 453) (by decide +kernel), List.mem_of_getElem? (i := 454) (by decide +kernel)⟩
theorem lw_p40 : lw_okq (⟨"EndSums", "firstSumLike", "(I)I"⟩, 11) := ⟨⟨by decide +kernel, by decide +kernel⟩, List.mem_of_getElem? (i := 16) (by decide +kernel), List.mem_of_getElem? (i := 458) (by decide +kernel), List.mem_of_getElem? (i := 459) (by decide +kernel)⟩
theorem lw_p41 : lw_okq (⟨"EndSums", "sumIsJust", "(IJJ)Z"⟩, 11) := ⟨⟨by decide +kernel, by decide +kernel⟩, List.mem_of_getElem? (i := 16) (by decide +kernel), List.mem_of_getElem? (i := 463) (by decide +kernel), List.mem_of_getElem? (i := 464) (by decide +kernel)⟩
theorem lw_p42 : lw_okq (⟨"EndSums$Joining", "unlikeItems", "()I"⟩, 4) := ⟨⟨by decide +kernel, by decide +kernel⟩, List.mem_of_getElem? (i := 24) (by decide +kernel), List.mem_of_getElem? (i := 471) (by decide +kernel), List.mem_of_getElem? (i := 472) (by decide +kernel)⟩
theorem lw_p43 : lw_okq (⟨"EndSums$Joining", "undo", "(II)Z"⟩, 4) := ⟨⟨by decide +kernel, by decide +kernel⟩, List.mem_of_getElem? (i := 24) (by decide +kernel), List.mem_of_getElem? (i := 475) (by decide +kernel), List.mem_of_getElem? (i := 476) (by decide +kernel)⟩
theorem lw_p44 : lw_okq (⟨"EndSums$Works", "put", "(LEndSums$Line;II)V"⟩, 4) := ⟨⟨by decide +kernel, by decide +kernel⟩, List.mem_of_getElem? (i := 70) (by decide +kernel), List.mem_of_getElem? (i := 488) (by decide +kernel), List.mem_of_getElem? (i := 489) (by decide +kernel)⟩
theorem lw_p45 : lw_okq (⟨"EndSums$Works", "take", "(LEndSums$Line;I)I"⟩, 4) := ⟨⟨by decide +kernel, by decide +kernel⟩, List.mem_of_getElem? (i := 70) (by decide +kernel), List.mem_of_getElem? (i := 497) (by decide +kernel), List.mem_of_getElem? (i := 498) (by decide +kernel)⟩
theorem lw_p46 : lw_okq (⟨"EndSums$Line", "become", "(LEndSums$Line;)V"⟩, 2) := ⟨⟨by decide +kernel, by decide +kernel⟩, List.mem_of_getElem? (i := 92) (by decide +kernel), List.mem_of_getElem? (i := 505) (by decide +kernel), List.mem_of_getElem? (i := 506) (by decide +kernel)⟩
theorem lw_p47 : lw_okq (⟨"EndSums$Pile", "become", "(LEndSums$Pile;)V"⟩, 5) := ⟨⟨by decide +kernel, by decide +kernel⟩, List.mem_of_getElem? (i := 98) (by decide +kernel), List.mem_of_getElem? (i := 509) (by decide +kernel), List.mem_of_getElem? (i := 510) (by decide +kernel)⟩
def lw_privs_3 : List (MethodName × Nat) := [(⟨"EndSums$Table", "become", "(LEndSums$Table;)V"⟩, 3), (⟨"EndSums$Joining", "start", "(I)V"⟩, 4), (⟨"EndSums$Joining", "follow", "(I)V"⟩, 4), (⟨"EndSums$Joining", "comesTo", "(JJ)Z"⟩, 4), (⟨"EndSums", "tell", "(JJJJ)V"⟩, 11), (⟨"EndSums$Joining", "power", "(II)I"⟩, 4), (⟨"EndSums$Joining", "startEmpty", "()V"⟩, 4), (⟨"EndSums", "keepSum", "(I)V"⟩, 11), (⟨"EndSums", "firstSumLike", "(I)I"⟩, 11), (⟨"EndSums", "sumIsJust", "(IJJ)Z"⟩, 11), (⟨"EndSums$Joining", "unlikeItems", "()I"⟩, 4), (⟨"EndSums$Joining", "undo", "(II)Z"⟩, 4), (⟨"EndSums$Works", "put", "(LEndSums$Line;II)V"⟩, 4), (⟨"EndSums$Works", "take", "(LEndSums$Line;I)I"⟩, 4), (⟨"EndSums$Line", "become", "(LEndSums$Line;)V"⟩, 2), (⟨"EndSums$Pile", "become", "(LEndSums$Pile;)V"⟩, 5)]
theorem lw_r3 : ∀ q ∈ lw_privs_3, lw_okq q := List.forall_mem_cons.mpr ⟨lw_p32, List.forall_mem_cons.mpr ⟨lw_p33, List.forall_mem_cons.mpr ⟨lw_p34, List.forall_mem_cons.mpr ⟨lw_p35, List.forall_mem_cons.mpr ⟨lw_p36, List.forall_mem_cons.mpr ⟨lw_p37, List.forall_mem_cons.mpr ⟨lw_p38, List.forall_mem_cons.mpr ⟨lw_p39, List.forall_mem_cons.mpr ⟨lw_p40, List.forall_mem_cons.mpr ⟨lw_p41, List.forall_mem_cons.mpr ⟨lw_p42, List.forall_mem_cons.mpr ⟨lw_p43, List.forall_mem_cons.mpr ⟨lw_p44, List.forall_mem_cons.mpr ⟨lw_p45, List.forall_mem_cons.mpr ⟨lw_p46, List.forall_mem_cons.mpr ⟨lw_p47, fun _ h => absurd h List.not_mem_nil⟩⟩⟩⟩⟩⟩⟩⟩⟩⟩⟩⟩⟩⟩⟩⟩
theorem lw_p48 : lw_okq (⟨"EndSums$Works", "split", "(LEndSums$Line;ILEndSums$Line;)V"⟩, 4) := ⟨⟨by decide +kernel, by decide +kernel⟩, List.mem_of_getElem? (i := 70) (by decide +kernel), List.mem_of_getElem? (i := 524) (by decide +kernel), List.mem_of_getElem? (i := 525) (by decide +kernel)⟩
theorem lw_p49 : lw_okq (⟨"EndSums$Works", "turn", "(LEndSums$Line;)V"⟩, 4) := ⟨⟨by decide +kernel, by decide +kernel⟩, List.mem_of_getElem? (i := 70) (by decide +kernel), List.mem_of_getElem? (i := 532) (by decide +kernel), List.mem_of_getElem? (i := 533) (by decide +kernel)⟩
theorem lw_p50 : lw_okq (⟨"EndSums$Works", "remake", "(LEndSums$Pile;IIII)V"⟩, 4) := ⟨⟨by decide +kernel, by decide +kernel⟩, List.mem_of_getElem? (i := 70) (by decide +kernel), List.mem_of_getElem? (i := 544) (by decide +kernel), List.mem_of_getElem? (i := 545) (by decide +kernel)⟩
theorem lw_p51 : lw_okq (⟨"EndSums", "sumUp", "(LEndSums$Line;II)V"⟩, 11) := ⟨⟨by decide +kernel, by decide +kernel⟩, List.mem_of_getElem? (i := 16) (by decide +kernel), List.mem_of_getElem? (i := 560) (by decide +kernel), List.mem_of_getElem? (i := 561) (by decide +kernel)⟩
theorem lw_p52 : lw_okq (⟨"EndSums$Text", "firstWrongInActs", "()I"⟩, 2) := ⟨⟨by decide +kernel, by decide +kernel⟩, List.mem_of_getElem? (i := 144) (by decide +kernel), List.mem_of_getElem? (i := 572) (by decide +kernel), List.mem_of_getElem? (i := 573) (by decide +kernel)⟩
theorem lw_p53 : lw_okq (⟨"EndSums$Text", "isPut", "(I)Z"⟩, 2) := ⟨⟨by decide +kernel, by decide +kernel⟩, List.mem_of_getElem? (i := 144) (by decide +kernel), List.mem_of_getElem? (i := 576) (by decide +kernel), List.mem_of_getElem? (i := 577) (by decide +kernel)⟩
theorem lw_p54 : lw_okq (⟨"EndSums$Text", "isAct", "(I)Z"⟩, 2) := ⟨⟨by decide +kernel, by decide +kernel⟩, List.mem_of_getElem? (i := 144) (by decide +kernel), List.mem_of_getElem? (i := 581) (by decide +kernel), List.mem_of_getElem? (i := 582) (by decide +kernel)⟩
theorem lw_p55 : lw_okq (⟨"EndSums$Text", "digitsFrom", "(II)I"⟩, 2) := ⟨⟨by decide +kernel, by decide +kernel⟩, List.mem_of_getElem? (i := 144) (by decide +kernel), List.mem_of_getElem? (i := 585) (by decide +kernel), List.mem_of_getElem? (i := 586) (by decide +kernel)⟩
theorem lw_p56 : lw_okq (⟨"EndSums$Text", "itemBehind", "(II)I"⟩, 2) := ⟨⟨by decide +kernel, by decide +kernel⟩, List.mem_of_getElem? (i := 144) (by decide +kernel), List.mem_of_getElem? (i := 594) (by decide +kernel), List.mem_of_getElem? (i := 595) (by decide +kernel)⟩
theorem lw_p57 : lw_okq (⟨"EndSums", "act", "(LEndSums$Line;II)Z"⟩, 11) := ⟨⟨by decide +kernel, by decide +kernel⟩, List.mem_of_getElem? (i := 16) (by decide +kernel), List.mem_of_getElem? (i := 598) (by decide +kernel), List.mem_of_getElem? (i := 599) (by decide +kernel)⟩
theorem lw_p58 : lw_okq (⟨"EndSums$Text", "grow", "(I)V"⟩, 2) := ⟨⟨by decide +kernel, by decide +kernel⟩, List.mem_of_getElem? (i := 144) (by decide +kernel), List.mem_of_getElem? (i := 606) (by decide +kernel), List.mem_of_getElem? (i := 607) (by decide +kernel)⟩
theorem lw_p59 : lw_okq (⟨"EndSums", "stretch", "(LEndSums$Line;I)V"⟩, 11) := ⟨⟨by decide +kernel, by decide +kernel⟩, List.mem_of_getElem? (i := 16) (by decide +kernel), List.mem_of_getElem? (i := 635) (by decide +kernel), List.mem_of_getElem? (i := 636) (by decide +kernel)⟩
theorem lw_p60 : lw_okq (⟨"EndSums", "firstAtMost", "(II)I"⟩, 11) := ⟨⟨by decide +kernel, by decide +kernel⟩, List.mem_of_getElem? (i := 16) (by decide +kernel), List.mem_of_getElem? (i := 640) (by decide +kernel), List.mem_of_getElem? (i := 641) (by decide +kernel)⟩
theorem lw_p61 : lw_okq (⟨"EndSums", "sumsJust", "(JJI)I"⟩, 11) := ⟨⟨by decide +kernel, by decide +kernel⟩, List.mem_of_getElem? (i := 16) (by decide +kernel), List.mem_of_getElem? (i := 652) (by decide +kernel), List.mem_of_getElem? (i := 653) (by decide +kernel)⟩
theorem lw_p62 : lw_okq (⟨"EndSums", "firstJust", "(JJI)I"⟩, 11) := ⟨⟨by decide +kernel, by decide +kernel⟩, List.mem_of_getElem? (i := 16) (by decide +kernel), List.mem_of_getElem? (i := 656) (by decide +kernel), List.mem_of_getElem? (i := 657) (by decide +kernel)⟩
theorem lw_p63 : lw_okq (⟨"EndSums", "sumFirsts", "(LEndSums$Line;)V"⟩, 11) := ⟨⟨by decide +kernel, by decide +kernel⟩, List.mem_of_getElem? (i := 16) (by decide +kernel), List.mem_of_getElem? (i := 677) (by decide +kernel), List.mem_of_getElem? (i := 678) (by decide +kernel)⟩
def lw_privs_4 : List (MethodName × Nat) := [(⟨"EndSums$Works", "split", "(LEndSums$Line;ILEndSums$Line;)V"⟩, 4), (⟨"EndSums$Works", "turn", "(LEndSums$Line;)V"⟩, 4), (⟨"EndSums$Works", "remake", "(LEndSums$Pile;IIII)V"⟩, 4), (⟨"EndSums", "sumUp", "(LEndSums$Line;II)V"⟩, 11), (⟨"EndSums$Text", "firstWrongInActs", "()I"⟩, 2), (⟨"EndSums$Text", "isPut", "(I)Z"⟩, 2), (⟨"EndSums$Text", "isAct", "(I)Z"⟩, 2), (⟨"EndSums$Text", "digitsFrom", "(II)I"⟩, 2), (⟨"EndSums$Text", "itemBehind", "(II)I"⟩, 2), (⟨"EndSums", "act", "(LEndSums$Line;II)Z"⟩, 11), (⟨"EndSums$Text", "grow", "(I)V"⟩, 2), (⟨"EndSums", "stretch", "(LEndSums$Line;I)V"⟩, 11), (⟨"EndSums", "firstAtMost", "(II)I"⟩, 11), (⟨"EndSums", "sumsJust", "(JJI)I"⟩, 11), (⟨"EndSums", "firstJust", "(JJI)I"⟩, 11), (⟨"EndSums", "sumFirsts", "(LEndSums$Line;)V"⟩, 11)]
theorem lw_r4 : ∀ q ∈ lw_privs_4, lw_okq q := List.forall_mem_cons.mpr ⟨lw_p48, List.forall_mem_cons.mpr ⟨lw_p49, List.forall_mem_cons.mpr ⟨lw_p50, List.forall_mem_cons.mpr ⟨lw_p51, List.forall_mem_cons.mpr ⟨lw_p52, List.forall_mem_cons.mpr ⟨lw_p53, List.forall_mem_cons.mpr ⟨lw_p54, List.forall_mem_cons.mpr ⟨lw_p55, List.forall_mem_cons.mpr ⟨lw_p56, List.forall_mem_cons.mpr ⟨lw_p57, List.forall_mem_cons.mpr ⟨lw_p58, List.forall_mem_cons.mpr ⟨lw_p59, List.forall_mem_cons.mpr ⟨lw_p60, List.forall_mem_cons.mpr ⟨lw_p61, List.forall_mem_cons.mpr ⟨lw_p62, List.forall_mem_cons.mpr ⟨lw_p63, fun _ h => absurd h List.not_mem_nil⟩⟩⟩⟩⟩⟩⟩⟩⟩⟩⟩⟩⟩⟩⟩⟩
theorem lw_p64 : lw_okq (⟨"EndSums", "sumsLike", "(II)I"⟩, 11) := ⟨⟨by decide +kernel, by decide +kernel⟩, List.mem_of_getElem? (i := 16) (by decide +kernel), List.mem_of_getElem? (i := 681) (by decide +kernel), List.mem_of_getElem? (i := 682) (by decide +kernel)⟩
theorem lw_p65 : lw_okq (⟨"EndSums$Line", "cellsSharedWith", "(LEndSums$Line;)I"⟩, 2) := ⟨⟨by decide +kernel, by decide +kernel⟩, List.mem_of_getElem? (i := 92) (by decide +kernel), List.mem_of_getElem? (i := 692) (by decide +kernel), List.mem_of_getElem? (i := 693) (by decide +kernel)⟩
theorem lw_p66 : lw_okq (⟨"EndSums$Line", "markOf", "(I)I"⟩, 2) := ⟨⟨by decide +kernel, by decide +kernel⟩, List.mem_of_getElem? (i := 92) (by decide +kernel), List.mem_of_getElem? (i := 697) (by decide +kernel), List.mem_of_getElem? (i := 698) (by decide +kernel)⟩
theorem lw_p67 : lw_okq (⟨"EndSums$Line", "hasCell", "(III)Z"⟩, 2) := ⟨⟨by decide +kernel, by decide +kernel⟩, List.mem_of_getElem? (i := 92) (by decide +kernel), List.mem_of_getElem? (i := 701) (by decide +kernel), List.mem_of_getElem? (i := 702) (by decide +kernel)⟩
theorem lw_p68 : lw_okq (⟨"EndSums$Pile", "has", "(II)Z"⟩, 5) := ⟨⟨by decide +kernel, by decide +kernel⟩, List.mem_of_getElem? (i := 98) (by decide +kernel), List.mem_of_getElem? (i := 705) (by decide +kernel), List.mem_of_getElem? (i := 706) (by decide +kernel)⟩
theorem lw_p69 : lw_okq (⟨"EndSums$Line", "hasItemsOf", "(LEndSums$Line;)Z"⟩, 2) := ⟨⟨by decide +kernel, by decide +kernel⟩, List.mem_of_getElem? (i := 92) (by decide +kernel), List.mem_of_getElem? (i := 709) (by decide +kernel), List.mem_of_getElem? (i := 710) (by decide +kernel)⟩
theorem lw_p70 : lw_okq (⟨"EndSums", "linesWithCell", "(LEndSums$Line;II)I"⟩, 11) := ⟨⟨by decide +kernel, by decide +kernel⟩, List.mem_of_getElem? (i := 16) (by decide +kernel), List.mem_of_getElem? (i := 718) (by decide +kernel), List.mem_of_getElem? (i := 719) (by decide +kernel)⟩
theorem lw_p71 : lw_okq (⟨"EndSums$Takings", "seek", "(III)V"⟩, 6) := ⟨⟨by decide +kernel, by decide +kernel⟩, List.mem_of_getElem? (i := 158) (by decide +kernel), List.mem_of_getElem? (i := 734) (by decide +kernel), List.mem_of_getElem? (i := 735) (by decide +kernel)⟩
theorem lw_p72 : lw_okq (⟨"EndSums$Takings", "offer", "(IIII)V"⟩, 6) := ⟨⟨by decide +kernel, by decide +kernel⟩, List.mem_of_getElem? (i := 158) (by decide +kernel), List.mem_of_getElem? (i := 743) (by decide +kernel), List.mem_of_getElem? (i := 744) (by decide +kernel)⟩
theorem lw_p73 : lw_okq (⟨"EndSums$Takings", "swap", "()V"⟩, 6) := ⟨⟨by decide +kernel, by decide +kernel⟩, List.mem_of_getElem? (i := 158) (by decide +kernel), List.mem_of_getElem? (i := 747) (by decide +kernel), List.mem_of_getElem? (i := 748) (by decide +kernel)⟩
theorem lw_p74 : lw_okq (⟨"EndSums$Takings", "choose", "(I)V"⟩, 6) := ⟨⟨by decide +kernel, by decide +kernel⟩, List.mem_of_getElem? (i := 158) (by decide +kernel), List.mem_of_getElem? (i := 751) (by decide +kernel), List.mem_of_getElem? (i := 752) (by decide +kernel)⟩
theorem lw_p75 : lw_okq (⟨"java/lang/Throwable", "fillInStackTrace", "(I)Ljava/lang/Throwable;"⟩, 6) := ⟨⟨by decide +kernel, by decide +kernel⟩, List.mem_of_getElem? (i := 803) (by decide +kernel), List.mem_of_getElem? (i := 801) (by decide +kernel), List.mem_of_getElem? (i := 802) (by decide +kernel)⟩
theorem lw_p76 : lw_okq (⟨"EndSumsModel", "joinsTwo", "(II)V"⟩, 32) := ⟨⟨by decide +kernel, by decide +kernel⟩, List.mem_of_getElem? (i := 856) (by decide +kernel), List.mem_of_getElem? (i := 967) (by decide +kernel), List.mem_of_getElem? (i := 968) (by decide +kernel)⟩
theorem lw_p77 : lw_okq (⟨"EndSumsModel", "element", "(I)V"⟩, 32) := ⟨⟨by decide +kernel, by decide +kernel⟩, List.mem_of_getElem? (i := 856) (by decide +kernel), List.mem_of_getElem? (i := 971) (by decide +kernel), List.mem_of_getElem? (i := 972) (by decide +kernel)⟩
theorem lw_p78 : lw_okq (⟨"EndSumsModel", "is", "(JJ)V"⟩, 32) := ⟨⟨by decide +kernel, by decide +kernel⟩, List.mem_of_getElem? (i := 856) (by decide +kernel), List.mem_of_getElem? (i := 975) (by decide +kernel), List.mem_of_getElem? (i := 976) (by decide +kernel)⟩
theorem lw_p79 : lw_okq (⟨"EndSumsModel", "leaps", "(I)I"⟩, 32) := ⟨⟨by decide +kernel, by decide +kernel⟩, List.mem_of_getElem? (i := 856) (by decide +kernel), List.mem_of_getElem? (i := 979) (by decide +kernel), List.mem_of_getElem? (i := 980) (by decide +kernel)⟩
def lw_privs_5 : List (MethodName × Nat) := [(⟨"EndSums", "sumsLike", "(II)I"⟩, 11), (⟨"EndSums$Line", "cellsSharedWith", "(LEndSums$Line;)I"⟩, 2), (⟨"EndSums$Line", "markOf", "(I)I"⟩, 2), (⟨"EndSums$Line", "hasCell", "(III)Z"⟩, 2), (⟨"EndSums$Pile", "has", "(II)Z"⟩, 5), (⟨"EndSums$Line", "hasItemsOf", "(LEndSums$Line;)Z"⟩, 2), (⟨"EndSums", "linesWithCell", "(LEndSums$Line;II)I"⟩, 11), (⟨"EndSums$Takings", "seek", "(III)V"⟩, 6), (⟨"EndSums$Takings", "offer", "(IIII)V"⟩, 6), (⟨"EndSums$Takings", "swap", "()V"⟩, 6), (⟨"EndSums$Takings", "choose", "(I)V"⟩, 6), (⟨"java/lang/Throwable", "fillInStackTrace", "(I)Ljava/lang/Throwable;"⟩, 6), (⟨"EndSumsModel", "joinsTwo", "(II)V"⟩, 32), (⟨"EndSumsModel", "element", "(I)V"⟩, 32), (⟨"EndSumsModel", "is", "(JJ)V"⟩, 32), (⟨"EndSumsModel", "leaps", "(I)I"⟩, 32)]
theorem lw_r5 : ∀ q ∈ lw_privs_5, lw_okq q := List.forall_mem_cons.mpr ⟨lw_p64, List.forall_mem_cons.mpr ⟨lw_p65, List.forall_mem_cons.mpr ⟨lw_p66, List.forall_mem_cons.mpr ⟨lw_p67, List.forall_mem_cons.mpr ⟨lw_p68, List.forall_mem_cons.mpr ⟨lw_p69, List.forall_mem_cons.mpr ⟨lw_p70, List.forall_mem_cons.mpr ⟨lw_p71, List.forall_mem_cons.mpr ⟨lw_p72, List.forall_mem_cons.mpr ⟨lw_p73, List.forall_mem_cons.mpr ⟨lw_p74, List.forall_mem_cons.mpr ⟨lw_p75, List.forall_mem_cons.mpr ⟨lw_p76, List.forall_mem_cons.mpr ⟨lw_p77, List.forall_mem_cons.mpr ⟨lw_p78, List.forall_mem_cons.mpr ⟨lw_p79, fun _ h => absurd h List.not_mem_nil⟩⟩⟩⟩⟩⟩⟩⟩⟩⟩⟩⟩⟩⟩⟩⟩
theorem lw_p80 : lw_okq (⟨"EndSumsModel", "join", "(JJJJ)V"⟩, 32) := ⟨⟨by decide +kernel, by decide +kernel⟩, List.mem_of_getElem? (i := 856) (by decide +kernel), List.mem_of_getElem? (i := 989) (by decide +kernel), List.mem_of_getElem? (i := 990) (by decide +kernel)⟩
theorem lw_p81 : lw_okq (⟨"EndSumsModel", "arrangedBy", "(II)I"⟩, 32) := ⟨⟨by decide +kernel, by decide +kernel⟩, List.mem_of_getElem? (i := 856) (by decide +kernel), List.mem_of_getElem? (i := 999) (by decide +kernel), List.mem_of_getElem? (i := 1000) (by decide +kernel)⟩
theorem lw_p82 : lw_okq (⟨"EndSumsModel", "enters", "(J)V"⟩, 32) := ⟨⟨by decide +kernel, by decide +kernel⟩, List.mem_of_getElem? (i := 856) (by decide +kernel), List.mem_of_getElem? (i := 1007) (by decide +kernel), List.mem_of_getElem? (i := 1008) (by decide +kernel)⟩
theorem lw_p83 : lw_okq (⟨"EndSumsModel", "power", "(II)I"⟩, 32) := ⟨⟨by decide +kernel, by decide +kernel⟩, List.mem_of_getElem? (i := 856) (by decide +kernel), List.mem_of_getElem? (i := 1016) (by decide +kernel), List.mem_of_getElem? (i := 1017) (by decide +kernel)⟩
theorem lw_p84 : lw_okq (⟨"EndSumsModel", "empty", "()V"⟩, 32) := ⟨⟨by decide +kernel, by decide +kernel⟩, List.mem_of_getElem? (i := 856) (by decide +kernel), List.mem_of_getElem? (i := 1020) (by decide +kernel), List.mem_of_getElem? (i := 1021) (by decide +kernel)⟩
theorem lw_p85 : lw_okq (⟨"EndSumsModel", "laysAll", "()V"⟩, 32) := ⟨⟨by decide +kernel, by decide +kernel⟩, List.mem_of_getElem? (i := 856) (by decide +kernel), List.mem_of_getElem? (i := 1039) (by decide +kernel), List.mem_of_getElem? (i := 1040) (by decide +kernel)⟩
theorem lw_p86 : lw_okq (⟨"EndSumsModel", "takesItems", "(I)I"⟩, 32) := ⟨⟨by decide +kernel, by decide +kernel⟩, List.mem_of_getElem? (i := 856) (by decide +kernel), List.mem_of_getElem? (i := 1043) (by decide +kernel), List.mem_of_getElem? (i := 1044) (by decide +kernel)⟩
theorem lw_p87 : lw_okq (⟨"EndSumsModel", "sizeOf", "(I)I"⟩, 32) := ⟨⟨by decide +kernel, by decide +kernel⟩, List.mem_of_getElem? (i := 856) (by decide +kernel), List.mem_of_getElem? (i := 1047) (by decide +kernel), List.mem_of_getElem? (i := 1048) (by decide +kernel)⟩
theorem lw_p88 : lw_okq (⟨"EndSumsModel", "itemAt", "(II)I"⟩, 32) := ⟨⟨by decide +kernel, by decide +kernel⟩, List.mem_of_getElem? (i := 856) (by decide +kernel), List.mem_of_getElem? (i := 1051) (by decide +kernel), List.mem_of_getElem? (i := 1052) (by decide +kernel)⟩
theorem lw_p89 : lw_okq (⟨"EndSumsModel", "placeOf", "(II)I"⟩, 32) := ⟨⟨by decide +kernel, by decide +kernel⟩, List.mem_of_getElem? (i := 856) (by decide +kernel), List.mem_of_getElem? (i := 1055) (by decide +kernel), List.mem_of_getElem? (i := 1056) (by decide +kernel)⟩
theorem lw_p90 : lw_okq (⟨"EndSumsModel", "lays", "(IIII)V"⟩, 32) := ⟨⟨by decide +kernel, by decide +kernel⟩, List.mem_of_getElem? (i := 856) (by decide +kernel), List.mem_of_getElem? (i := 1062) (by decide +kernel), List.mem_of_getElem? (i := 1063) (by decide +kernel)⟩
theorem lw_p91 : lw_okq (⟨"EndSumsModel", "makes", "(II)V"⟩, 32) := ⟨⟨by decide +kernel, by decide +kernel⟩, List.mem_of_getElem? (i := 856) (by decide +kernel), List.mem_of_getElem? (i := 1066) (by decide +kernel), List.mem_of_getElem? (i := 1067) (by decide +kernel)⟩
theorem lw_p92 : lw_okq (⟨"EndSumsModel", "reads", "()V"⟩, 32) := ⟨⟨by decide +kernel, by decide +kernel⟩, List.mem_of_getElem? (i := 856) (by decide +kernel), List.mem_of_getElem? (i := 1074) (by decide +kernel), List.mem_of_getElem? (i := 1075) (by decide +kernel)⟩
theorem lw_p93 : lw_okq (⟨"EndSumsModel", "readsTable", "()Z"⟩, 32) := ⟨⟨by decide +kernel, by decide +kernel⟩, List.mem_of_getElem? (i := 856) (by decide +kernel), List.mem_of_getElem? (i := 1078) (by decide +kernel), List.mem_of_getElem? (i := 1079) (by decide +kernel)⟩
theorem lw_p94 : lw_okq (⟨"EndSumsModel", "takesSign", "(I)Z"⟩, 32) := ⟨⟨by decide +kernel, by decide +kernel⟩, List.mem_of_getElem? (i := 856) (by decide +kernel), List.mem_of_getElem? (i := 1084) (by decide +kernel), List.mem_of_getElem? (i := 1085) (by decide +kernel)⟩
theorem lw_p95 : lw_okq (⟨"EndSumsModel", "isDigit", "()Z"⟩, 32) := ⟨⟨by decide +kernel, by decide +kernel⟩, List.mem_of_getElem? (i := 856) (by decide +kernel), List.mem_of_getElem? (i := 1088) (by decide +kernel), List.mem_of_getElem? (i := 1089) (by decide +kernel)⟩
def lw_privs_6 : List (MethodName × Nat) := [(⟨"EndSumsModel", "join", "(JJJJ)V"⟩, 32), (⟨"EndSumsModel", "arrangedBy", "(II)I"⟩, 32), (⟨"EndSumsModel", "enters", "(J)V"⟩, 32), (⟨"EndSumsModel", "power", "(II)I"⟩, 32), (⟨"EndSumsModel", "empty", "()V"⟩, 32), (⟨"EndSumsModel", "laysAll", "()V"⟩, 32), (⟨"EndSumsModel", "takesItems", "(I)I"⟩, 32), (⟨"EndSumsModel", "sizeOf", "(I)I"⟩, 32), (⟨"EndSumsModel", "itemAt", "(II)I"⟩, 32), (⟨"EndSumsModel", "placeOf", "(II)I"⟩, 32), (⟨"EndSumsModel", "lays", "(IIII)V"⟩, 32), (⟨"EndSumsModel", "makes", "(II)V"⟩, 32), (⟨"EndSumsModel", "reads", "()V"⟩, 32), (⟨"EndSumsModel", "readsTable", "()Z"⟩, 32), (⟨"EndSumsModel", "takesSign", "(I)Z"⟩, 32), (⟨"EndSumsModel", "isDigit", "()Z"⟩, 32)]
theorem lw_r6 : ∀ q ∈ lw_privs_6, lw_okq q := List.forall_mem_cons.mpr ⟨lw_p80, List.forall_mem_cons.mpr ⟨lw_p81, List.forall_mem_cons.mpr ⟨lw_p82, List.forall_mem_cons.mpr ⟨lw_p83, List.forall_mem_cons.mpr ⟨lw_p84, List.forall_mem_cons.mpr ⟨lw_p85, List.forall_mem_cons.mpr ⟨lw_p86, List.forall_mem_cons.mpr ⟨lw_p87, List.forall_mem_cons.mpr ⟨lw_p88, List.forall_mem_cons.mpr ⟨lw_p89, List.forall_mem_cons.mpr ⟨lw_p90, List.forall_mem_cons.mpr ⟨lw_p91, List.forall_mem_cons.mpr ⟨lw_p92, List.forall_mem_cons.mpr ⟨lw_p93, List.forall_mem_cons.mpr ⟨lw_p94, List.forall_mem_cons.mpr ⟨lw_p95, fun _ h => absurd h List.not_mem_nil⟩⟩⟩⟩⟩⟩⟩⟩⟩⟩⟩⟩⟩⟩⟩⟩
theorem lw_p96 : lw_okq (⟨"EndSumsModel", "hasUnlike", "()Z"⟩, 32) := ⟨⟨by decide +kernel, by decide +kernel⟩, List.mem_of_getElem? (i := 856) (by decide +kernel), List.mem_of_getElem? (i := 1093) (by decide +kernel), List.mem_of_getElem? (i := 1094) (by decide +kernel)⟩
theorem lw_p97 : lw_okq (⟨"EndSumsModel", "read", "(II)I"⟩, 32) := ⟨⟨by decide +kernel, by decide +kernel⟩, List.mem_of_getElem? (i := 856) (by decide +kernel), List.mem_of_getElem? (i := 1097) (by decide +kernel), List.mem_of_getElem? (i := 1098) (by decide +kernel)⟩
theorem lw_p98 : lw_okq (⟨"EndSumsModel", "isNeutral", "(I)Z"⟩, 32) := ⟨⟨by decide +kernel, by decide +kernel⟩, List.mem_of_getElem? (i := 856) (by decide +kernel), List.mem_of_getElem? (i := 1101) (by decide +kernel), List.mem_of_getElem? (i := 1102) (by decide +kernel)⟩
theorem lw_p99 : lw_okq (⟨"EndSumsModel", "takesOne", "(II)I"⟩, 32) := ⟨⟨by decide +kernel, by decide +kernel⟩, List.mem_of_getElem? (i := 856) (by decide +kernel), List.mem_of_getElem? (i := 1120) (by decide +kernel), List.mem_of_getElem? (i := 1121) (by decide +kernel)⟩
theorem lw_p100 : lw_okq (⟨"EndSumsModel", "tellsWork", "(II)I"⟩, 32) := ⟨⟨by decide +kernel, by decide +kernel⟩, List.mem_of_getElem? (i := 856) (by decide +kernel), List.mem_of_getElem? (i := 1124) (by decide +kernel), List.mem_of_getElem? (i := 1125) (by decide +kernel)⟩
theorem lw_p101 : lw_okq (⟨"EndSumsModel", "copiesTo", "(II)V"⟩, 32) := ⟨⟨by decide +kernel, by decide +kernel⟩, List.mem_of_getElem? (i := 856) (by decide +kernel), List.mem_of_getElem? (i := 1132) (by decide +kernel), List.mem_of_getElem? (i := 1133) (by decide +kernel)⟩
theorem lw_p102 : lw_okq (⟨"EndSumsModel", "turns", "(I)I"⟩, 32) := ⟨⟨by decide +kernel, by decide +kernel⟩, List.mem_of_getElem? (i := 856) (by decide +kernel), List.mem_of_getElem? (i := 1148) (by decide +kernel), List.mem_of_getElem? (i := 1149) (by decide +kernel)⟩
theorem lw_p103 : lw_okq (⟨"EndSumsModel", "isAt", "(II)Z"⟩, 32) := ⟨⟨by decide +kernel, by decide +kernel⟩, List.mem_of_getElem? (i := 856) (by decide +kernel), List.mem_of_getElem? (i := 1156) (by decide +kernel), List.mem_of_getElem? (i := 1157) (by decide +kernel)⟩
theorem lw_p104 : lw_okq (⟨"EndSumsModel", "makesAgain", "(IZII)V"⟩, 32) := ⟨⟨by decide +kernel, by decide +kernel⟩, List.mem_of_getElem? (i := 856) (by decide +kernel), List.mem_of_getElem? (i := 1160) (by decide +kernel), List.mem_of_getElem? (i := 1161) (by decide +kernel)⟩
theorem lw_p105 : lw_okq (⟨"EndSumsModel", "entersSummary", "(I)V"⟩, 32) := ⟨⟨by decide +kernel, by decide +kernel⟩, List.mem_of_getElem? (i := 856) (by decide +kernel), List.mem_of_getElem? (i := 1177) (by decide +kernel), List.mem_of_getElem? (i := 1178) (by decide +kernel)⟩
theorem lw_p106 : lw_okq (⟨"EndSumsModel", "summary", "(I)V"⟩, 32) := ⟨⟨by decide +kernel, by decide +kernel⟩, List.mem_of_getElem? (i := 856) (by decide +kernel), List.mem_of_getElem? (i := 1181) (by decide +kernel), List.mem_of_getElem? (i := 1182) (by decide +kernel)⟩
theorem lw_p107 : lw_okq (⟨"EndSumsModel", "passes", "()V"⟩, 32) := ⟨⟨by decide +kernel, by decide +kernel⟩, List.mem_of_getElem? (i := 856) (by decide +kernel), List.mem_of_getElem? (i := 1193) (by decide +kernel), List.mem_of_getElem? (i := 1194) (by decide +kernel)⟩
theorem lw_p108 : lw_okq (⟨"EndSumsModel", "readsAct", "(I)Z"⟩, 32) := ⟨⟨by decide +kernel, by decide +kernel⟩, List.mem_of_getElem? (i := 856) (by decide +kernel), List.mem_of_getElem? (i := 1197) (by decide +kernel), List.mem_of_getElem? (i := 1198) (by decide +kernel)⟩
theorem lw_p109 : lw_okq (⟨"EndSumsModel", "does", "(II)Z"⟩, 32) := ⟨⟨by decide +kernel, by decide +kernel⟩, List.mem_of_getElem? (i := 856) (by decide +kernel), List.mem_of_getElem? (i := 1201) (by decide +kernel), List.mem_of_getElem? (i := 1202) (by decide +kernel)⟩
theorem lw_p110 : lw_okq (⟨"EndSumsModel", "sums", "(III)V"⟩, 32) := ⟨⟨by decide +kernel, by decide +kernel⟩, List.mem_of_getElem? (i := 856) (by decide +kernel), List.mem_of_getElem? (i := 1217) (by decide +kernel), List.mem_of_getElem? (i := 1218) (by decide +kernel)⟩
theorem lw_p111 : lw_okq (⟨"EndSumsModel", "drainsBy", "(II)I"⟩, 32) := ⟨⟨by decide +kernel, by decide +kernel⟩, List.mem_of_getElem? (i := 856) (by decide +kernel), List.mem_of_getElem? (i := 1245) (by decide +kernel), List.mem_of_getElem? (i := 1246) (by decide +kernel)⟩
def lw_privs_7 : List (MethodName × Nat) := [(⟨"EndSumsModel", "hasUnlike", "()Z"⟩, 32), (⟨"EndSumsModel", "read", "(II)I"⟩, 32), (⟨"EndSumsModel", "isNeutral", "(I)Z"⟩, 32), (⟨"EndSumsModel", "takesOne", "(II)I"⟩, 32), (⟨"EndSumsModel", "tellsWork", "(II)I"⟩, 32), (⟨"EndSumsModel", "copiesTo", "(II)V"⟩, 32), (⟨"EndSumsModel", "turns", "(I)I"⟩, 32), (⟨"EndSumsModel", "isAt", "(II)Z"⟩, 32), (⟨"EndSumsModel", "makesAgain", "(IZII)V"⟩, 32), (⟨"EndSumsModel", "entersSummary", "(I)V"⟩, 32), (⟨"EndSumsModel", "summary", "(I)V"⟩, 32), (⟨"EndSumsModel", "passes", "()V"⟩, 32), (⟨"EndSumsModel", "readsAct", "(I)Z"⟩, 32), (⟨"EndSumsModel", "does", "(II)Z"⟩, 32), (⟨"EndSumsModel", "sums", "(III)V"⟩, 32), (⟨"EndSumsModel", "drainsBy", "(II)I"⟩, 32)]
theorem lw_r7 : ∀ q ∈ lw_privs_7, lw_okq q := List.forall_mem_cons.mpr ⟨lw_p96, List.forall_mem_cons.mpr ⟨lw_p97, List.forall_mem_cons.mpr ⟨lw_p98, List.forall_mem_cons.mpr ⟨lw_p99, List.forall_mem_cons.mpr ⟨lw_p100, List.forall_mem_cons.mpr ⟨lw_p101, List.forall_mem_cons.mpr ⟨lw_p102, List.forall_mem_cons.mpr ⟨lw_p103, List.forall_mem_cons.mpr ⟨lw_p104, List.forall_mem_cons.mpr ⟨lw_p105, List.forall_mem_cons.mpr ⟨lw_p106, List.forall_mem_cons.mpr ⟨lw_p107, List.forall_mem_cons.mpr ⟨lw_p108, List.forall_mem_cons.mpr ⟨lw_p109, List.forall_mem_cons.mpr ⟨lw_p110, List.forall_mem_cons.mpr ⟨lw_p111, fun _ h => absurd h List.not_mem_nil⟩⟩⟩⟩⟩⟩⟩⟩⟩⟩⟩⟩⟩⟩⟩⟩
theorem lw_p112 : lw_okq (⟨"EndSumsModel", "begins", "(I)V"⟩, 32) := ⟨⟨by decide +kernel, by decide +kernel⟩, List.mem_of_getElem? (i := 856) (by decide +kernel), List.mem_of_getElem? (i := 1249) (by decide +kernel), List.mem_of_getElem? (i := 1250) (by decide +kernel)⟩
theorem lw_p113 : lw_okq (⟨"EndSumsModel", "costs", "(I)I"⟩, 32) := ⟨⟨by decide +kernel, by decide +kernel⟩, List.mem_of_getElem? (i := 856) (by decide +kernel), List.mem_of_getElem? (i := 1253) (by decide +kernel), List.mem_of_getElem? (i := 1254) (by decide +kernel)⟩
theorem lw_p114 : lw_okq (⟨"EndSumsModel", "hasCell", "(II)Z"⟩, 32) := ⟨⟨by decide +kernel, by decide +kernel⟩, List.mem_of_getElem? (i := 856) (by decide +kernel), List.mem_of_getElem? (i := 1276) (by decide +kernel), List.mem_of_getElem? (i := 1277) (by decide +kernel)⟩
def lw_privs_8 : List (MethodName × Nat) := [(⟨"EndSumsModel", "begins", "(I)V"⟩, 32), (⟨"EndSumsModel", "costs", "(I)I"⟩, 32), (⟨"EndSumsModel", "hasCell", "(II)Z"⟩, 32)]
theorem lw_r8 : ∀ q ∈ lw_privs_8, lw_okq q := List.forall_mem_cons.mpr ⟨lw_p112, List.forall_mem_cons.mpr ⟨lw_p113, List.forall_mem_cons.mpr ⟨lw_p114, fun _ h => absurd h List.not_mem_nil⟩⟩⟩
def lw_privs : List (MethodName × Nat) := lw_privs_1 ++ (lw_privs_2 ++ (lw_privs_3 ++ (lw_privs_4 ++ (lw_privs_5 ++ (lw_privs_6 ++ (lw_privs_7 ++ (lw_privs_8)))))))
def lw_tbl : List Cond := k2_sels lw_privs ++ tables_1
theorem lw_privs_ok : ∀ q ∈ lw_privs, lw_okq q := by
  show ∀ q ∈ lw_privs_1 ++ (lw_privs_2 ++ (lw_privs_3 ++ (lw_privs_4 ++ (lw_privs_5 ++ (lw_privs_6 ++ (lw_privs_7 ++ (lw_privs_8))))))), lw_okq q
  exact List.forall_mem_append.mpr ⟨lw_r1, List.forall_mem_append.mpr ⟨lw_r2, List.forall_mem_append.mpr ⟨lw_r3, List.forall_mem_append.mpr ⟨lw_r4, List.forall_mem_append.mpr ⟨lw_r5, List.forall_mem_append.mpr ⟨lw_r6, List.forall_mem_append.mpr ⟨lw_r7, lw_r8⟩⟩⟩⟩⟩⟩⟩

def RX0 : String := "EndSums$Joining"
def TX0 : u_T := fun k => match k with
  | 0 => ("EndSums$Joining", "kind", "I", false)
  | 1 => ("EndSums$Joining", "table", "LEndSums$Table;", true)
  | 2 => ("EndSums$Joining", "p", "J", false)
  | _ => ("EndSums$Joining", "q", "J", false)
def tyX0 : Nat → FieldType := fun k => match k with
  | 0 => .int
  | 1 => .object "EndSums$Table"
  | 2 => .long
  | _ => .long
abbrev wsX00 : List Cond := u_ws RX0 TX0 4
theorem nmX0 : ∀ a, a < 4 → ∀ b, b < 4 → a ≠ b → (TX0 a).2.1 ≠ (TX0 b).2.1 := by decide +kernel
theorem tyX0_ok : ∀ k, k < 4 → parseFieldDescriptor (TX0 k).2.2.1 = some (tyX0 k) := by decide +kernel
abbrev cX0_init : ByteArray := prog_2_method_1_code
def yX0_init : MethodName := ⟨RX0, "<init>", "()V"⟩
abbrev cX0_startWith : ByteArray := prog_2_method_2_code
def yX0_startWith : MethodName := ⟨RX0, "startWith", "(JJ)V"⟩
abbrev cX0_comesTo : ByteArray := prog_2_method_3_code
def yX0_comesTo : MethodName := ⟨RX0, "comesTo", "(JJ)Z"⟩
abbrev cX0_startEmpty : ByteArray := prog_2_method_4_code
def yX0_startEmpty : MethodName := ⟨RX0, "startEmpty", "()V"⟩
abbrev cX0_start : ByteArray := prog_2_method_5_code
def yX0_start : MethodName := ⟨RX0, "start", "(I)V"⟩
abbrev cX0_follow : ByteArray := prog_2_method_6_code
def yX0_follow : MethodName := ⟨RX0, "follow", "(I)V"⟩
abbrev cX0_emptyP : ByteArray := prog_2_method_7_code
def yX0_emptyP : MethodName := ⟨RX0, "emptyP", "()J"⟩
abbrev cX0_emptyQ : ByteArray := prog_2_method_8_code
def yX0_emptyQ : MethodName := ⟨RX0, "emptyQ", "()J"⟩
abbrev cX0_elementP : ByteArray := prog_2_method_9_code
def yX0_elementP : MethodName := ⟨RX0, "elementP", "(I)J"⟩
abbrev cX0_elementQ : ByteArray := prog_2_method_10_code
def yX0_elementQ : MethodName := ⟨RX0, "elementQ", "(I)J"⟩
abbrev cX0_join : ByteArray := prog_2_method_11_code
def yX0_join : MethodName := ⟨RX0, "join", "(JJJJ)V"⟩
abbrev cX0_greatestDivisor : ByteArray := prog_2_method_12_code
def yX0_greatestDivisor : MethodName := ⟨RX0, "greatestDivisor", "(JJ)J"⟩
abbrev cX0_arrangement : ByteArray := prog_2_method_13_code
def yX0_arrangement : MethodName := ⟨RX0, "arrangement", "(I)I"⟩
abbrev cX0_leaps : ByteArray := prog_2_method_14_code
def yX0_leaps : MethodName := ⟨RX0, "leaps", "(I)I"⟩
abbrev cX0_arranged : ByteArray := prog_2_method_15_code
def yX0_arranged : MethodName := ⟨RX0, "arranged", "(II)I"⟩
abbrev cX0_power : ByteArray := prog_2_method_16_code
def yX0_power : MethodName := ⟨RX0, "power", "(II)I"⟩
abbrev cX0_unlikeItems : ByteArray := prog_2_method_17_code
def yX0_unlikeItems : MethodName := ⟨RX0, "unlikeItems", "()I"⟩
abbrev cX0_undo : ByteArray := prog_2_method_18_code
def yX0_undo : MethodName := ⟨RX0, "undo", "(II)Z"⟩
def RX1 : String := "EndSums$Line"
def TX1 : u_T := fun k => match k with
  | 0 => ("EndSums$Line", "front", "LEndSums$Pile;", true)
  | _ => ("EndSums$Line", "back", "LEndSums$Pile;", true)
def tyX1 : Nat → FieldType := fun k => match k with
  | 0 => .object "EndSums$Pile"
  | _ => .object "EndSums$Pile"
abbrev wsX10 : List Cond := u_ws RX1 TX1 2
theorem nmX1 : ∀ a, a < 2 → ∀ b, b < 2 → a ≠ b → (TX1 a).2.1 ≠ (TX1 b).2.1 := by decide +kernel
theorem tyX1_ok : ∀ k, k < 2 → parseFieldDescriptor (TX1 k).2.2.1 = some (tyX1 k) := by decide +kernel
abbrev cX1_init : ByteArray := prog_3_method_1_code
def yX1_init : MethodName := ⟨RX1, "<init>", "()V"⟩
abbrev cX1_size : ByteArray := prog_3_method_2_code
def yX1_size : MethodName := ⟨RX1, "size", "()I"⟩
abbrev cX1_pile : ByteArray := prog_3_method_3_code
def yX1_pile : MethodName := ⟨RX1, "pile", "(I)LEndSums$Pile;"⟩
abbrev cX1_endOf : ByteArray := prog_3_method_4_code
def yX1_endOf : MethodName := ⟨RX1, "endOf", "(I)I"⟩
abbrev cX1_heightOf : ByteArray := prog_3_method_5_code
def yX1_heightOf : MethodName := ⟨RX1, "heightOf", "(I)I"⟩
abbrev cX1_itemAt : ByteArray := prog_3_method_6_code
def yX1_itemAt : MethodName := ⟨RX1, "itemAt", "(I)I"⟩
abbrev cX1_markOf : ByteArray := prog_3_method_7_code
def yX1_markOf : MethodName := ⟨RX1, "markOf", "(I)I"⟩
abbrev cX1_become : ByteArray := prog_3_method_8_code
def yX1_become : MethodName := ⟨RX1, "become", "(LEndSums$Line;)V"⟩
abbrev cX1_hasCell : ByteArray := prog_3_method_9_code
def yX1_hasCell : MethodName := ⟨RX1, "hasCell", "(III)Z"⟩
abbrev cX1_cellsSharedWith : ByteArray := prog_3_method_10_code
def yX1_cellsSharedWith : MethodName := ⟨RX1, "cellsSharedWith", "(LEndSums$Line;)I"⟩
abbrev cX1_hasItemsOf : ByteArray := prog_3_method_11_code
def yX1_hasItemsOf : MethodName := ⟨RX1, "hasItemsOf", "(LEndSums$Line;)Z"⟩
def RX2 : String := "EndSums$Pile"
def TX2 : u_T := fun k => match k with
  | 0 => ("EndSums$Pile", "size", "I", false)
  | 1 => ("EndSums$Pile", "items", "[I", true)
  | 2 => ("EndSums$Pile", "ps", "[J", true)
  | 3 => ("EndSums$Pile", "qs", "[J", true)
  | _ => ("EndSums$Pile", "marks", "[I", true)
def tyX2 : Nat → FieldType := fun k => match k with
  | 0 => .int
  | 1 => .array .int
  | 2 => .array .long
  | 3 => .array .long
  | _ => .array .int
abbrev wsX20 : List Cond := u_ws RX2 TX2 5
theorem nmX2 : ∀ a, a < 5 → ∀ b, b < 5 → a ≠ b → (TX2 a).2.1 ≠ (TX2 b).2.1 := by decide +kernel
theorem tyX2_ok : ∀ k, k < 5 → parseFieldDescriptor (TX2 k).2.2.1 = some (tyX2 k) := by decide +kernel
abbrev cX2_init : ByteArray := prog_4_method_1_code
def yX2_init : MethodName := ⟨RX2, "<init>", "()V"⟩
abbrev cX2_grow : ByteArray := prog_4_method_2_code
def yX2_grow : MethodName := ⟨RX2, "grow", "(IJJI)V"⟩
abbrev cX2_become : ByteArray := prog_4_method_3_code
def yX2_become : MethodName := ⟨RX2, "become", "(LEndSums$Pile;)V"⟩
abbrev cX2_has : ByteArray := prog_4_method_4_code
def yX2_has : MethodName := ⟨RX2, "has", "(II)Z"⟩
def RX3 : String := "EndSums$Table"
def TX3 : u_T := fun k => match k with
  | 0 => ("EndSums$Table", "n", "I", false)
  | 1 => ("EndSums$Table", "neutral", "I", false)
  | _ => ("EndSums$Table", "entries", "[I", true)
def tyX3 : Nat → FieldType := fun k => match k with
  | 0 => .int
  | 1 => .int
  | _ => .array .int
abbrev wsX30 : List Cond := u_ws RX3 TX3 3
theorem nmX3 : ∀ a, a < 3 → ∀ b, b < 3 → a ≠ b → (TX3 a).2.1 ≠ (TX3 b).2.1 := by decide +kernel
theorem tyX3_ok : ∀ k, k < 3 → parseFieldDescriptor (TX3 k).2.2.1 = some (tyX3 k) := by decide +kernel
abbrev cX3_init : ByteArray := prog_5_method_1_code
def yX3_init : MethodName := ⟨RX3, "<init>", "()V"⟩
abbrev cX3_entry : ByteArray := prog_5_method_2_code
def yX3_entry : MethodName := ⟨RX3, "entry", "(II)I"⟩
abbrev cX3_kindOf : ByteArray := prog_5_method_3_code
def yX3_kindOf : MethodName := ⟨RX3, "kindOf", "(I)I"⟩
abbrev cX3_become : ByteArray := prog_5_method_4_code
def yX3_become : MethodName := ⟨RX3, "become", "(LEndSums$Table;)V"⟩
abbrev cX3_read : ByteArray := prog_5_method_5_code
def yX3_read : MethodName := ⟨RX3, "read", "(LEndSums$Text;)V"⟩
abbrev cX3_neutralOne : ByteArray := prog_5_method_6_code
def yX3_neutralOne : MethodName := ⟨RX3, "neutralOne", "()I"⟩
abbrev cX3_firstNotAlike : ByteArray := prog_5_method_7_code
def yX3_firstNotAlike : MethodName := ⟨RX3, "firstNotAlike", "()I"⟩
def RX4 : String := "EndSums$Takings"
def TX4 : u_T := fun k => match k with
  | 0 => ("EndSums$Takings", "costs", "[I", false)
  | 1 => ("EndSums$Takings", "ends", "[I", false)
  | 2 => ("EndSums$Takings", "nextCosts", "[I", false)
  | 3 => ("EndSums$Takings", "nextEnds", "[I", false)
  | 4 => ("EndSums$Takings", "dearestCost", "I", false)
  | _ => ("EndSums$Takings", "dearestEnds", "I", false)
def tyX4 : Nat → FieldType := fun k => match k with
  | 0 => .array .int
  | 1 => .array .int
  | 2 => .array .int
  | 3 => .array .int
  | 4 => .int
  | _ => .int
abbrev wsX40 : List Cond := u_ws RX4 TX4 6
theorem nmX4 : ∀ a, a < 6 → ∀ b, b < 6 → a ≠ b → (TX4 a).2.1 ≠ (TX4 b).2.1 := by decide +kernel
theorem tyX4_ok : ∀ k, k < 6 → parseFieldDescriptor (TX4 k).2.2.1 = some (tyX4 k) := by decide +kernel
abbrev cX4_init : ByteArray := prog_6_method_1_code
def yX4_init : MethodName := ⟨RX4, "<init>", "()V"⟩
abbrev cX4_cost : ByteArray := prog_6_method_2_code
def yX4_cost : MethodName := ⟨RX4, "cost", "(III)I"⟩
abbrev cX4_frontBehind : ByteArray := prog_6_method_3_code
def yX4_frontBehind : MethodName := ⟨RX4, "frontBehind", "(III)I"⟩
abbrev cX4_drain : ByteArray := prog_6_method_4_code
def yX4_drain : MethodName := ⟨RX4, "drain", "(II)I"⟩
abbrev cX4_seek : ByteArray := prog_6_method_5_code
def yX4_seek : MethodName := ⟨RX4, "seek", "(III)V"⟩
abbrev cX4_forget : ByteArray := prog_6_method_6_code
def yX4_forget : MethodName := ⟨RX4, "forget", "([I)V"⟩
abbrev cX4_offer : ByteArray := prog_6_method_7_code
def yX4_offer : MethodName := ⟨RX4, "offer", "(IIII)V"⟩
abbrev cX4_swap : ByteArray := prog_6_method_8_code
def yX4_swap : MethodName := ⟨RX4, "swap", "()V"⟩
abbrev cX4_choose : ByteArray := prog_6_method_9_code
def yX4_choose : MethodName := ⟨RX4, "choose", "(I)V"⟩
def RX5 : String := "EndSums$Text"
def TX5 : u_T := fun k => match k with
  | 0 => ("EndSums$Text", "length", "I", false)
  | _ => ("EndSums$Text", "signs", "[I", true)
def tyX5 : Nat → FieldType := fun k => match k with
  | 0 => .int
  | _ => .array .int
abbrev wsX50 : List Cond := u_ws RX5 TX5 2
theorem nmX5 : ∀ a, a < 2 → ∀ b, b < 2 → a ≠ b → (TX5 a).2.1 ≠ (TX5 b).2.1 := by decide +kernel
theorem tyX5_ok : ∀ k, k < 2 → parseFieldDescriptor (TX5 k).2.2.1 = some (tyX5 k) := by decide +kernel
abbrev cX5_init : ByteArray := prog_7_method_1_code
def yX5_init : MethodName := ⟨RX5, "<init>", "()V"⟩
abbrev cX5_grow : ByteArray := prog_7_method_2_code
def yX5_grow : MethodName := ⟨RX5, "grow", "(I)V"⟩
abbrev cX5_signAt : ByteArray := prog_7_method_3_code
def yX5_signAt : MethodName := ⟨RX5, "signAt", "(I)I"⟩
abbrev cX5_signOrBehind : ByteArray := prog_7_method_4_code
def yX5_signOrBehind : MethodName := ⟨RX5, "signOrBehind", "(I)I"⟩
abbrev cX5_isDigit : ByteArray := prog_7_method_5_code
def yX5_isDigit : MethodName := ⟨RX5, "isDigit", "(I)Z"⟩
abbrev cX5_firstRow : ByteArray := prog_7_method_6_code
def yX5_firstRow : MethodName := ⟨RX5, "firstRow", "()I"⟩
abbrev cX5_firstWrongInTable : ByteArray := prog_7_method_7_code
def yX5_firstWrongInTable : MethodName := ⟨RX5, "firstWrongInTable", "()I"⟩
abbrev cX5_fitsTable : ByteArray := prog_7_method_8_code
def yX5_fitsTable : MethodName := ⟨RX5, "fitsTable", "(II)Z"⟩
abbrev cX5_isAct : ByteArray := prog_7_method_9_code
def yX5_isAct : MethodName := ⟨RX5, "isAct", "(I)Z"⟩
abbrev cX5_isPut : ByteArray := prog_7_method_10_code
def yX5_isPut : MethodName := ⟨RX5, "isPut", "(I)Z"⟩
abbrev cX5_digitsFrom : ByteArray := prog_7_method_11_code
def yX5_digitsFrom : MethodName := ⟨RX5, "digitsFrom", "(II)I"⟩
abbrev cX5_firstWrongInActs : ByteArray := prog_7_method_12_code
def yX5_firstWrongInActs : MethodName := ⟨RX5, "firstWrongInActs", "()I"⟩
abbrev cX5_itemBehind : ByteArray := prog_7_method_13_code
def yX5_itemBehind : MethodName := ⟨RX5, "itemBehind", "(II)I"⟩
def RX6 : String := "EndSums$Works"
def TX6 : u_T := fun k => match k with
  | 0 => ("EndSums$Works", "joining", "LEndSums$Joining;", true)
  | 1 => ("EndSums$Works", "made", "I", false)
  | 2 => ("EndSums$Works", "rebuilt", "I", false)
  | _ => ("EndSums$Works", "held", "[I", true)
def tyX6 : Nat → FieldType := fun k => match k with
  | 0 => .object "EndSums$Joining"
  | 1 => .int
  | 2 => .int
  | _ => .array .int
abbrev wsX60 : List Cond := u_ws RX6 TX6 4
theorem nmX6 : ∀ a, a < 4 → ∀ b, b < 4 → a ≠ b → (TX6 a).2.1 ≠ (TX6 b).2.1 := by decide +kernel
theorem tyX6_ok : ∀ k, k < 4 → parseFieldDescriptor (TX6 k).2.2.1 = some (tyX6 k) := by decide +kernel
abbrev cX6_init : ByteArray := prog_8_method_1_code
def yX6_init : MethodName := ⟨RX6, "<init>", "(LEndSums$Joining;)V"⟩
abbrev cX6_make : ByteArray := prog_8_method_2_code
def yX6_make : MethodName := ⟨RX6, "make", "(LEndSums$Pile;II)V"⟩
abbrev cX6_put : ByteArray := prog_8_method_3_code
def yX6_put : MethodName := ⟨RX6, "put", "(LEndSums$Line;II)V"⟩
abbrev cX6_hold : ByteArray := prog_8_method_4_code
def yX6_hold : MethodName := ⟨RX6, "hold", "(LEndSums$Line;)V"⟩
abbrev cX6_lay : ByteArray := prog_8_method_5_code
def yX6_lay : MethodName := ⟨RX6, "lay", "(LEndSums$Line;III)V"⟩
abbrev cX6_layAsItLies : ByteArray := prog_8_method_6_code
def yX6_layAsItLies : MethodName := ⟨RX6, "layAsItLies", "(LEndSums$Line;)V"⟩
abbrev cX6_take : ByteArray := prog_8_method_7_code
def yX6_take : MethodName := ⟨RX6, "take", "(LEndSums$Line;I)I"⟩
abbrev cX6_split : ByteArray := prog_8_method_8_code
def yX6_split : MethodName := ⟨RX6, "split", "(LEndSums$Line;ILEndSums$Line;)V"⟩
abbrev cX6_turn : ByteArray := prog_8_method_9_code
def yX6_turn : MethodName := ⟨RX6, "turn", "(LEndSums$Line;)V"⟩
abbrev cX6_remake : ByteArray := prog_8_method_10_code
def yX6_remake : MethodName := ⟨RX6, "remake", "(LEndSums$Pile;IIII)V"⟩
def RX7 : String := "EndSums"
def TX7 : u_T := fun k => match k with
  | 0 => ("EndSums", "joining", "LEndSums$Joining;", true)
  | 1 => ("EndSums", "works", "LEndSums$Works;", true)
  | 2 => ("EndSums", "lines", "[LEndSums$Line;", true)
  | 3 => ("EndSums", "spare", "LEndSums$Line;", true)
  | 4 => ("EndSums", "fresh", "LEndSums$Table;", true)
  | 5 => ("EndSums", "text", "LEndSums$Text;", true)
  | 6 => ("EndSums", "takings", "LEndSums$Takings;", true)
  | 7 => ("EndSums", "told", "[J", true)
  | 8 => ("EndSums", "toldCount", "I", false)
  | 9 => ("EndSums", "sumsP", "[J", true)
  | _ => ("EndSums", "sumsQ", "[J", true)
def tyX7 : Nat → FieldType := fun k => match k with
  | 0 => .object "EndSums$Joining"
  | 1 => .object "EndSums$Works"
  | 2 => .array (.object "EndSums$Line")
  | 3 => .object "EndSums$Line"
  | 4 => .object "EndSums$Table"
  | 5 => .object "EndSums$Text"
  | 6 => .object "EndSums$Takings"
  | 7 => .array .long
  | 8 => .int
  | 9 => .array .long
  | _ => .array .long
abbrev wsX70 : List Cond := u_ws RX7 TX7 11
theorem nmX7 : ∀ a, a < 11 → ∀ b, b < 11 → a ≠ b → (TX7 a).2.1 ≠ (TX7 b).2.1 := by decide +kernel
theorem tyX7_ok : ∀ k, k < 11 → parseFieldDescriptor (TX7 k).2.2.1 = some (tyX7 k) := by decide +kernel
abbrev cX7_init : ByteArray := prog_1_method_1_code
def yX7_init : MethodName := ⟨RX7, "<init>", "()V"⟩
abbrev cX7_rule : ByteArray := prog_1_method_2_code
def yX7_rule : MethodName := ⟨RX7, "rule", "(I)I"⟩
abbrev cX7_table : ByteArray := prog_1_method_3_code
def yX7_table : MethodName := ⟨RX7, "table", "()I"⟩
abbrev cX7_commutes : ByteArray := prog_1_method_4_code
def yX7_commutes : MethodName := ⟨RX7, "commutes", "(II)I"⟩
abbrev cX7_powers : ByteArray := prog_1_method_5_code
def yX7_powers : MethodName := ⟨RX7, "powers", "(II)I"⟩
abbrev cX7_order : ByteArray := prog_1_method_6_code
def yX7_order : MethodName := ⟨RX7, "order", "(I)I"⟩
abbrev cX7_undoes : ByteArray := prog_1_method_7_code
def yX7_undoes : MethodName := ⟨RX7, "undoes", "(I)I"⟩
abbrev cX7_puts : ByteArray := prog_1_method_8_code
def yX7_puts : MethodName := ⟨RX7, "puts", "(III)I"⟩
abbrev cX7_takes : ByteArray := prog_1_method_9_code
def yX7_takes : MethodName := ⟨RX7, "takes", "(II)I"⟩
abbrev cX7_copies : ByteArray := prog_1_method_10_code
def yX7_copies : MethodName := ⟨RX7, "copies", "(II)I"⟩
abbrev cX7_joins : ByteArray := prog_1_method_11_code
def yX7_joins : MethodName := ⟨RX7, "joins", "(II)I"⟩
abbrev cX7_parts : ByteArray := prog_1_method_12_code
def yX7_parts : MethodName := ⟨RX7, "parts", "(III)I"⟩
abbrev cX7_reverses : ByteArray := prog_1_method_13_code
def yX7_reverses : MethodName := ⟨RX7, "reverses", "(I)I"⟩
abbrev cX7_changes : ByteArray := prog_1_method_14_code
def yX7_changes : MethodName := ⟨RX7, "changes", "(III)I"⟩
abbrev cX7_slips : ByteArray := prog_1_method_15_code
def yX7_slips : MethodName := ⟨RX7, "slips", "(III)I"⟩
abbrev cX7_drops : ByteArray := prog_1_method_16_code
def yX7_drops : MethodName := ⟨RX7, "drops", "(II)I"⟩
abbrev cX7_shifts : ByteArray := prog_1_method_17_code
def yX7_shifts : MethodName := ⟨RX7, "shifts", "(III)I"⟩
abbrev cX7_clears : ByteArray := prog_1_method_18_code
def yX7_clears : MethodName := ⟨RX7, "clears", "(I)I"⟩
abbrev cX7_run : ByteArray := prog_1_method_19_code
def yX7_run : MethodName := ⟨RX7, "run", "(I)I"⟩
abbrev cX7_sign : ByteArray := prog_1_method_20_code
def yX7_sign : MethodName := ⟨RX7, "sign", "(I)I"⟩
abbrev cX7_end : ByteArray := prog_1_method_21_code
def yX7_end : MethodName := ⟨RX7, "end", "(I)Z"⟩
abbrev cX7_sum : ByteArray := prog_1_method_22_code
def yX7_sum : MethodName := ⟨RX7, "sum", "(I)I"⟩
abbrev cX7_item : ByteArray := prog_1_method_23_code
def yX7_item : MethodName := ⟨RX7, "item", "(II)I"⟩
abbrev cX7_part : ByteArray := prog_1_method_24_code
def yX7_part : MethodName := ⟨RX7, "part", "(III)I"⟩
abbrev cX7_windows : ByteArray := prog_1_method_25_code
def yX7_windows : MethodName := ⟨RX7, "windows", "(II)I"⟩
abbrev cX7_first : ByteArray := prog_1_method_26_code
def yX7_first : MethodName := ⟨RX7, "first", "(II)I"⟩
abbrev cX7_longest : ByteArray := prog_1_method_27_code
def yX7_longest : MethodName := ⟨RX7, "longest", "(II)I"⟩
abbrev cX7_greatest : ByteArray := prog_1_method_28_code
def yX7_greatest : MethodName := ⟨RX7, "greatest", "(II)I"⟩
abbrev cX7_finds : ByteArray := prog_1_method_29_code
def yX7_finds : MethodName := ⟨RX7, "finds", "(III)I"⟩
abbrev cX7_drains : ByteArray := prog_1_method_30_code
def yX7_drains : MethodName := ⟨RX7, "drains", "(I)I"⟩
abbrev cX7_unlike : ByteArray := prog_1_method_31_code
def yX7_unlike : MethodName := ⟨RX7, "unlike", "(I)I"⟩
abbrev cX7_same : ByteArray := prog_1_method_32_code
def yX7_same : MethodName := ⟨RX7, "same", "(II)I"⟩
abbrev cX7_shared : ByteArray := prog_1_method_33_code
def yX7_shared : MethodName := ⟨RX7, "shared", "()I"⟩
abbrev cX7_would : ByteArray := prog_1_method_34_code
def yX7_would : MethodName := ⟨RX7, "would", "(II)I"⟩
abbrev cX7_dearest : ByteArray := prog_1_method_35_code
def yX7_dearest : MethodName := ⟨RX7, "dearest", "(II)I"⟩
abbrev cX7_count : ByteArray := prog_1_method_36_code
def yX7_count : MethodName := ⟨RX7, "count", "(I)I"⟩
abbrev cX7_row : ByteArray := prog_1_method_37_code
def yX7_row : MethodName := ⟨RX7, "row", "(I)J"⟩
abbrev cX7_lineAt : ByteArray := prog_1_method_38_code
def yX7_lineAt : MethodName := ⟨RX7, "lineAt", "(I)LEndSums$Line;"⟩
abbrev cX7_isEnd : ByteArray := prog_1_method_39_code
def yX7_isEnd : MethodName := ⟨RX7, "isEnd", "(I)Z"⟩
abbrev cX7_isItem : ByteArray := prog_1_method_40_code
def yX7_isItem : MethodName := ⟨RX7, "isItem", "(I)Z"⟩
abbrev cX7_at : ByteArray := prog_1_method_41_code
def yX7_at : MethodName := ⟨RX7, "at", "([II)I"⟩
abbrev cX7_at_ : ByteArray := prog_1_method_42_code
def yX7_at_ : MethodName := ⟨RX7, "at", "([JI)J"⟩
abbrev cX7_set : ByteArray := prog_1_method_43_code
def yX7_set : MethodName := ⟨RX7, "set", "([III)V"⟩
abbrev cX7_set_ : ByteArray := prog_1_method_44_code
def yX7_set_ : MethodName := ⟨RX7, "set", "([JIJ)V"⟩
abbrev cX7_tellMore : ByteArray := prog_1_method_45_code
def yX7_tellMore : MethodName := ⟨RX7, "tellMore", "(J)V"⟩
abbrev cX7_tell : ByteArray := prog_1_method_46_code
def yX7_tell : MethodName := ⟨RX7, "tell", "(J)V"⟩
abbrev cX7_tell_ : ByteArray := prog_1_method_47_code
def yX7_tell_ : MethodName := ⟨RX7, "tell", "(JJ)V"⟩
abbrev cX7_tell__ : ByteArray := prog_1_method_48_code
def yX7_tell__ : MethodName := ⟨RX7, "tell", "(JJJ)V"⟩
abbrev cX7_tell___ : ByteArray := prog_1_method_49_code
def yX7_tell___ : MethodName := ⟨RX7, "tell", "(JJJJ)V"⟩
abbrev cX7_layAllAnew : ByteArray := prog_1_method_50_code
def yX7_layAllAnew : MethodName := ⟨RX7, "layAllAnew", "()V"⟩
abbrev cX7_act : ByteArray := prog_1_method_51_code
def yX7_act : MethodName := ⟨RX7, "act", "(LEndSums$Line;II)Z"⟩
abbrev cX7_sumUp : ByteArray := prog_1_method_52_code
def yX7_sumUp : MethodName := ⟨RX7, "sumUp", "(LEndSums$Line;II)V"⟩
abbrev cX7_keepSum : ByteArray := prog_1_method_53_code
def yX7_keepSum : MethodName := ⟨RX7, "keepSum", "(I)V"⟩
abbrev cX7_sumFirsts : ByteArray := prog_1_method_54_code
def yX7_sumFirsts : MethodName := ⟨RX7, "sumFirsts", "(LEndSums$Line;)V"⟩
abbrev cX7_stretch : ByteArray := prog_1_method_55_code
def yX7_stretch : MethodName := ⟨RX7, "stretch", "(LEndSums$Line;I)V"⟩
abbrev cX7_sumIsJust : ByteArray := prog_1_method_56_code
def yX7_sumIsJust : MethodName := ⟨RX7, "sumIsJust", "(IJJ)Z"⟩
abbrev cX7_firstSumLike : ByteArray := prog_1_method_57_code
def yX7_firstSumLike : MethodName := ⟨RX7, "firstSumLike", "(I)I"⟩
abbrev cX7_sumsLike : ByteArray := prog_1_method_58_code
def yX7_sumsLike : MethodName := ⟨RX7, "sumsLike", "(II)I"⟩
abbrev cX7_sumsJust : ByteArray := prog_1_method_59_code
def yX7_sumsJust : MethodName := ⟨RX7, "sumsJust", "(JJI)I"⟩
abbrev cX7_firstJust : ByteArray := prog_1_method_60_code
def yX7_firstJust : MethodName := ⟨RX7, "firstJust", "(JJI)I"⟩
abbrev cX7_firstAtMost : ByteArray := prog_1_method_61_code
def yX7_firstAtMost : MethodName := ⟨RX7, "firstAtMost", "(II)I"⟩
abbrev cX7_linesWithCell : ByteArray := prog_1_method_62_code
def yX7_linesWithCell : MethodName := ⟨RX7, "linesWithCell", "(LEndSums$Line;II)I"⟩
def RX8 : String := "EndSumsModel"
def TX8 : u_T := fun k => match k with
  | 0 => ("EndSumsModel", "thrown", "I", false)
  | 1 => ("EndSumsModel", "told", "I", false)
  | 2 => ("EndSumsModel", "row", "[J", true)
  | 3 => ("EndSumsModel", "tape", "[I", true)
  | 4 => ("EndSumsModel", "taped", "I", false)
  | 5 => ("EndSumsModel", "at", "I", false)
  | 6 => ("EndSumsModel", "to", "I", false)
  | 7 => ("EndSumsModel", "rule", "I", false)
  | 8 => ("EndSumsModel", "wide", "I", false)
  | 9 => ("EndSumsModel", "neutral", "I", false)
  | 10 => ("EndSumsModel", "table", "[I", true)
  | 11 => ("EndSumsModel", "p", "J", false)
  | 12 => ("EndSumsModel", "q", "J", false)
  | 13 => ("EndSumsModel", "places", "[I", true)
  | 14 => ("EndSumsModel", "others", "[I", true)
  | 15 => ("EndSumsModel", "made", "[I", true)
  | 16 => ("EndSumsModel", "sumP", "[J", true)
  | 17 => ("EndSumsModel", "sumQ", "[J", true)
  | 18 => ("EndSumsModel", "many", "[I", true)
  | 19 => ("EndSumsModel", "cell", "[I", true)
  | 20 => ("EndSumsModel", "item", "[I", true)
  | 21 => ("EndSumsModel", "cellP", "[J", true)
  | 22 => ("EndSumsModel", "cellQ", "[J", true)
  | 23 => ("EndSumsModel", "work", "I", false)
  | 24 => ("EndSumsModel", "rebuilt", "I", false)
  | 25 => ("EndSumsModel", "items", "[I", true)
  | 26 => ("EndSumsModel", "readTable", "[I", true)
  | 27 => ("EndSumsModel", "readWide", "I", false)
  | 28 => ("EndSumsModel", "act", "[I", true)
  | 29 => ("EndSumsModel", "actItem", "[I", true)
  | 30 => ("EndSumsModel", "front", "I", false)
  | _ => ("EndSumsModel", "back", "I", false)
def tyX8 : Nat → FieldType := fun k => match k with
  | 0 => .int
  | 1 => .int
  | 2 => .array .long
  | 3 => .array .int
  | 4 => .int
  | 5 => .int
  | 6 => .int
  | 7 => .int
  | 8 => .int
  | 9 => .int
  | 10 => .array .int
  | 11 => .long
  | 12 => .long
  | 13 => .array .int
  | 14 => .array .int
  | 15 => .array .int
  | 16 => .array .long
  | 17 => .array .long
  | 18 => .array .int
  | 19 => .array .int
  | 20 => .array .int
  | 21 => .array .long
  | 22 => .array .long
  | 23 => .int
  | 24 => .int
  | 25 => .array .int
  | 26 => .array .int
  | 27 => .int
  | 28 => .array .int
  | 29 => .array .int
  | 30 => .int
  | _ => .int
abbrev wsX80 : List Cond := u_ws RX8 TX8 32
theorem nmX8 : ∀ a, a < 32 → ∀ b, b < 32 → a ≠ b → (TX8 a).2.1 ≠ (TX8 b).2.1 := by decide +kernel
theorem tyX8_ok : ∀ k, k < 32 → parseFieldDescriptor (TX8 k).2.2.1 = some (tyX8 k) := by decide +kernel
abbrev cX8_thrown : ByteArray := prog_10_method_1_code
def yX8_thrown : MethodName := ⟨RX8, "thrown", "()I"⟩
abbrev cX8_in : ByteArray := prog_10_method_2_code
def yX8_in : MethodName := ⟨RX8, "in", "(JJJ)Z"⟩
abbrev cX8_flag : ByteArray := prog_10_method_3_code
def yX8_flag : MethodName := ⟨RX8, "flag", "(Z)I"⟩
abbrev cX8_enters : ByteArray := prog_10_method_4_code
def yX8_enters : MethodName := ⟨RX8, "enters", "(J)V"⟩
abbrev cX8_sign : ByteArray := prog_10_method_5_code
def yX8_sign : MethodName := ⟨RX8, "sign", "(I)I"⟩
abbrev cX8_end : ByteArray := prog_10_method_6_code
def yX8_end : MethodName := ⟨RX8, "end", "(I)Z"⟩
abbrev cX8_reads : ByteArray := prog_10_method_7_code
def yX8_reads : MethodName := ⟨RX8, "reads", "()V"⟩
abbrev cX8_takesSign : ByteArray := prog_10_method_8_code
def yX8_takesSign : MethodName := ⟨RX8, "takesSign", "(I)Z"⟩
abbrev cX8_isDigit : ByteArray := prog_10_method_9_code
def yX8_isDigit : MethodName := ⟨RX8, "isDigit", "()Z"⟩
abbrev cX8_init : ByteArray := prog_10_method_10_code
def yX8_init : MethodName := ⟨RX8, "<init>", "()V"⟩
abbrev cX8_is : ByteArray := prog_10_method_11_code
def yX8_is : MethodName := ⟨RX8, "is", "(JJ)V"⟩
abbrev cX8_empty : ByteArray := prog_10_method_12_code
def yX8_empty : MethodName := ⟨RX8, "empty", "()V"⟩
abbrev cX8_element : ByteArray := prog_10_method_13_code
def yX8_element : MethodName := ⟨RX8, "element", "(I)V"⟩
abbrev cX8_common : ByteArray := prog_10_method_14_code
def yX8_common : MethodName := ⟨RX8, "common", "(JJ)J"⟩
abbrev cX8_lays : ByteArray := prog_10_method_15_code
def yX8_lays : MethodName := ⟨RX8, "lays", "(I[I)V"⟩
abbrev cX8_numberOf : ByteArray := prog_10_method_16_code
def yX8_numberOf : MethodName := ⟨RX8, "numberOf", "([I)I"⟩
abbrev cX8_leaps : ByteArray := prog_10_method_17_code
def yX8_leaps : MethodName := ⟨RX8, "leaps", "(I)I"⟩
abbrev cX8_arrangedBy : ByteArray := prog_10_method_18_code
def yX8_arrangedBy : MethodName := ⟨RX8, "arrangedBy", "(II)I"⟩
abbrev cX8_join : ByteArray := prog_10_method_19_code
def yX8_join : MethodName := ⟨RX8, "join", "(JJJJ)V"⟩
abbrev cX8_isItem : ByteArray := prog_10_method_20_code
def yX8_isItem : MethodName := ⟨RX8, "isItem", "(I)Z"⟩
abbrev cX8_joinsTwo : ByteArray := prog_10_method_21_code
def yX8_joinsTwo : MethodName := ⟨RX8, "joinsTwo", "(II)V"⟩
abbrev cX8_commutes : ByteArray := prog_10_method_22_code
def yX8_commutes : MethodName := ⟨RX8, "commutes", "(II)I"⟩
abbrev cX8_power : ByteArray := prog_10_method_23_code
def yX8_power : MethodName := ⟨RX8, "power", "(II)I"⟩
abbrev cX8_powers : ByteArray := prog_10_method_24_code
def yX8_powers : MethodName := ⟨RX8, "powers", "(II)I"⟩
abbrev cX8_order : ByteArray := prog_10_method_25_code
def yX8_order : MethodName := ⟨RX8, "order", "(I)I"⟩
abbrev cX8_undoes : ByteArray := prog_10_method_26_code
def yX8_undoes : MethodName := ⟨RX8, "undoes", "(I)I"⟩
abbrev cX8_isLine : ByteArray := prog_10_method_27_code
def yX8_isLine : MethodName := ⟨RX8, "isLine", "(I)Z"⟩
abbrev cX8_isEnd : ByteArray := prog_10_method_28_code
def yX8_isEnd : MethodName := ⟨RX8, "isEnd", "(I)Z"⟩
abbrev cX8_sizeOf : ByteArray := prog_10_method_29_code
def yX8_sizeOf : MethodName := ⟨RX8, "sizeOf", "(I)I"⟩
abbrev cX8_place : ByteArray := prog_10_method_30_code
def yX8_place : MethodName := ⟨RX8, "place", "(II)I"⟩
abbrev cX8_placeOf : ByteArray := prog_10_method_31_code
def yX8_placeOf : MethodName := ⟨RX8, "placeOf", "(II)I"⟩
abbrev cX8_itemAt : ByteArray := prog_10_method_32_code
def yX8_itemAt : MethodName := ⟨RX8, "itemAt", "(II)I"⟩
abbrev cX8_makes : ByteArray := prog_10_method_33_code
def yX8_makes : MethodName := ⟨RX8, "makes", "(II)V"⟩
abbrev cX8_takesItems : ByteArray := prog_10_method_34_code
def yX8_takesItems : MethodName := ⟨RX8, "takesItems", "(I)I"⟩
abbrev cX8_lays_ : ByteArray := prog_10_method_35_code
def yX8_lays_ : MethodName := ⟨RX8, "lays", "(IIII)V"⟩
abbrev cX8_laysAll : ByteArray := prog_10_method_36_code
def yX8_laysAll : MethodName := ⟨RX8, "laysAll", "()V"⟩
abbrev cX8_takesOne : ByteArray := prog_10_method_37_code
def yX8_takesOne : MethodName := ⟨RX8, "takesOne", "(II)I"⟩
abbrev cX8_copiesTo : ByteArray := prog_10_method_38_code
def yX8_copiesTo : MethodName := ⟨RX8, "copiesTo", "(II)V"⟩
abbrev cX8_rule : ByteArray := prog_10_method_39_code
def yX8_rule : MethodName := ⟨RX8, "rule", "(I)I"⟩
abbrev cX8_readsTable : ByteArray := prog_10_method_40_code
def yX8_readsTable : MethodName := ⟨RX8, "readsTable", "()Z"⟩
abbrev cX8_read : ByteArray := prog_10_method_41_code
def yX8_read : MethodName := ⟨RX8, "read", "(II)I"⟩
abbrev cX8_hasUnlike : ByteArray := prog_10_method_42_code
def yX8_hasUnlike : MethodName := ⟨RX8, "hasUnlike", "()Z"⟩
abbrev cX8_isNeutral : ByteArray := prog_10_method_43_code
def yX8_isNeutral : MethodName := ⟨RX8, "isNeutral", "(I)Z"⟩
abbrev cX8_table : ByteArray := prog_10_method_44_code
def yX8_table : MethodName := ⟨RX8, "table", "()I"⟩
abbrev cX8_puts : ByteArray := prog_10_method_45_code
def yX8_puts : MethodName := ⟨RX8, "puts", "(III)I"⟩
abbrev cX8_tellsWork : ByteArray := prog_10_method_46_code
def yX8_tellsWork : MethodName := ⟨RX8, "tellsWork", "(II)I"⟩
abbrev cX8_takes : ByteArray := prog_10_method_47_code
def yX8_takes : MethodName := ⟨RX8, "takes", "(II)I"⟩
abbrev cX8_copies : ByteArray := prog_10_method_48_code
def yX8_copies : MethodName := ⟨RX8, "copies", "(II)I"⟩
abbrev cX8_joins : ByteArray := prog_10_method_49_code
def yX8_joins : MethodName := ⟨RX8, "joins", "(II)I"⟩
abbrev cX8_parts : ByteArray := prog_10_method_50_code
def yX8_parts : MethodName := ⟨RX8, "parts", "(III)I"⟩
abbrev cX8_reverses : ByteArray := prog_10_method_51_code
def yX8_reverses : MethodName := ⟨RX8, "reverses", "(I)I"⟩
abbrev cX8_turns : ByteArray := prog_10_method_52_code
def yX8_turns : MethodName := ⟨RX8, "turns", "(I)I"⟩
abbrev cX8_makesAgain : ByteArray := prog_10_method_53_code
def yX8_makesAgain : MethodName := ⟨RX8, "makesAgain", "(IZII)V"⟩
abbrev cX8_isAt : ByteArray := prog_10_method_54_code
def yX8_isAt : MethodName := ⟨RX8, "isAt", "(II)Z"⟩
abbrev cX8_changes : ByteArray := prog_10_method_55_code
def yX8_changes : MethodName := ⟨RX8, "changes", "(III)I"⟩
abbrev cX8_slips : ByteArray := prog_10_method_56_code
def yX8_slips : MethodName := ⟨RX8, "slips", "(III)I"⟩
abbrev cX8_drops : ByteArray := prog_10_method_57_code
def yX8_drops : MethodName := ⟨RX8, "drops", "(II)I"⟩
abbrev cX8_summary : ByteArray := prog_10_method_58_code
def yX8_summary : MethodName := ⟨RX8, "summary", "(I)V"⟩
abbrev cX8_entersSummary : ByteArray := prog_10_method_59_code
def yX8_entersSummary : MethodName := ⟨RX8, "entersSummary", "(I)V"⟩
abbrev cX8_shifts : ByteArray := prog_10_method_60_code
def yX8_shifts : MethodName := ⟨RX8, "shifts", "(III)I"⟩
abbrev cX8_clears : ByteArray := prog_10_method_61_code
def yX8_clears : MethodName := ⟨RX8, "clears", "(I)I"⟩
abbrev cX8_passes : ByteArray := prog_10_method_62_code
def yX8_passes : MethodName := ⟨RX8, "passes", "()V"⟩
abbrev cX8_readsAct : ByteArray := prog_10_method_63_code
def yX8_readsAct : MethodName := ⟨RX8, "readsAct", "(I)Z"⟩
abbrev cX8_does : ByteArray := prog_10_method_64_code
def yX8_does : MethodName := ⟨RX8, "does", "(II)Z"⟩
abbrev cX8_run : ByteArray := prog_10_method_65_code
def yX8_run : MethodName := ⟨RX8, "run", "(I)I"⟩
abbrev cX8_sum : ByteArray := prog_10_method_66_code
def yX8_sum : MethodName := ⟨RX8, "sum", "(I)I"⟩
abbrev cX8_item : ByteArray := prog_10_method_67_code
def yX8_item : MethodName := ⟨RX8, "item", "(II)I"⟩
abbrev cX8_sums : ByteArray := prog_10_method_68_code
def yX8_sums : MethodName := ⟨RX8, "sums", "(III)V"⟩
abbrev cX8_part : ByteArray := prog_10_method_69_code
def yX8_part : MethodName := ⟨RX8, "part", "(III)I"⟩
abbrev cX8_windows : ByteArray := prog_10_method_70_code
def yX8_windows : MethodName := ⟨RX8, "windows", "(II)I"⟩
abbrev cX8_first : ByteArray := prog_10_method_71_code
def yX8_first : MethodName := ⟨RX8, "first", "(II)I"⟩
abbrev cX8_longest : ByteArray := prog_10_method_72_code
def yX8_longest : MethodName := ⟨RX8, "longest", "(II)I"⟩
abbrev cX8_greatest : ByteArray := prog_10_method_73_code
def yX8_greatest : MethodName := ⟨RX8, "greatest", "(II)I"⟩
abbrev cX8_finds : ByteArray := prog_10_method_74_code
def yX8_finds : MethodName := ⟨RX8, "finds", "(III)I"⟩
abbrev cX8_costs : ByteArray := prog_10_method_75_code
def yX8_costs : MethodName := ⟨RX8, "costs", "(I)I"⟩
abbrev cX8_begins : ByteArray := prog_10_method_76_code
def yX8_begins : MethodName := ⟨RX8, "begins", "(I)V"⟩
abbrev cX8_drainsBy : ByteArray := prog_10_method_77_code
def yX8_drainsBy : MethodName := ⟨RX8, "drainsBy", "(II)I"⟩
abbrev cX8_drains : ByteArray := prog_10_method_78_code
def yX8_drains : MethodName := ⟨RX8, "drains", "(I)I"⟩
abbrev cX8_would : ByteArray := prog_10_method_79_code
def yX8_would : MethodName := ⟨RX8, "would", "(II)I"⟩
abbrev cX8_dearest : ByteArray := prog_10_method_80_code
def yX8_dearest : MethodName := ⟨RX8, "dearest", "(II)I"⟩
abbrev cX8_unlike : ByteArray := prog_10_method_81_code
def yX8_unlike : MethodName := ⟨RX8, "unlike", "(I)I"⟩
abbrev cX8_hasCell : ByteArray := prog_10_method_82_code
def yX8_hasCell : MethodName := ⟨RX8, "hasCell", "(II)Z"⟩
abbrev cX8_same : ByteArray := prog_10_method_83_code
def yX8_same : MethodName := ⟨RX8, "same", "(II)I"⟩
abbrev cX8_shared : ByteArray := prog_10_method_84_code
def yX8_shared : MethodName := ⟨RX8, "shared", "()I"⟩
abbrev cX8_count : ByteArray := prog_10_method_85_code
def yX8_count : MethodName := ⟨RX8, "count", "(I)I"⟩
abbrev cX8_row : ByteArray := prog_10_method_86_code
def yX8_row : MethodName := ⟨RX8, "row", "(I)J"⟩
def RL : String := "EndSumsLaw"
abbrev cL_item : ByteArray := method_3_code
def yL_item : MethodName := ⟨RL, "item", "(LEndSums;II[J)I"⟩
abbrev cL_row : ByteArray := method_4_code
def yL_row : MethodName := ⟨RL, "row", "(LEndSums;I[J)I"⟩
abbrev cL_law : ByteArray := code
def yL_law : MethodName := ⟨RL, "law", "([I)Z"⟩
abbrev vwCl : List vw_C := [(RX0, TX0, 4), (RX1, TX1, 2), (RX2, TX2, 5), (RX3, TX3, 3), (RX4, TX4, 6), (RX5, TX5, 2), (RX6, TX6, 4), (RX7, TX7, 11), (RX8, TX8, 32)]
end
section
-- the words that every method gets: those of the tables that a call may pay with
def zTb : List Cond := lw_tbl.filter goodWord
theorem zTb_mem {w : Cond} (i : Nat) (h : lw_tbl[i]? = some w) (g : goodWord w = true) : w ∈ zTb := List.mem_filter.mpr ⟨List.mem_of_getElem? h, g⟩
theorem zTb_good : ∀ w ∈ zTb, goodWord w = true := fun _ h => (List.mem_filter.mp h).2
theorem zTb_sub : ∀ w ∈ zTb, w ∈ lw_tbl := fun _ h => (List.mem_filter.mp h).1
theorem zTb_goodIn {ws : List Cond} (h : ∀ w ∈ ws, w ∈ zTb) : GoodIn zTb ws := fun w hw => ⟨h w hw, good_of_word (zTb_good w (h w hw))⟩
-- nest words: not paid with, but told in each contract
def zNest : Cond → Bool
  | .fieldLinkNest .. => true
  | .methodLinkNest .. => true
  | _ => false
def zNs (U : State) : Prop := ∀ w ∈ lw_tbl, zNest w = true → va_Nw w U
theorem zNs_warm {s U : State} (hW : s.WarmedH U.vm) (h : zNs s) : zNs U := by
  intro w hw hn
  cases w <;> first | (exact va_Nw.warmF hW (h _ hw hn)) | (exact va_Nw.warmM hW (h _ hw hn)) | (cases hn)
theorem zNs_same {s U : State} (hvm : s.vm = U.vm) (h : zNs s) : zNs U := by
  intro w hw hn
  cases w <;> first | (exact va_Nw.same rfl hvm (h _ hw hn)) | (cases hn)
-- THE PURE WORLD: ints, longs (object, field or place), the four rows of Takings
abbrev zW : Type := (Nat → Nat → Int32) × (Nat → Nat → Int64) × (Nat → Nat)
def zI (w : zW) (k j : Nat) : Int32 := w.1 k j
def zL (w : zW) (k j : Nat) : Int64 := w.2.1 k j
def zR (w : zW) (j : Nat) : Nat := 67 + w.2.2 j % 4
def zu {α : Type} (f : Nat → Nat → α) (k j : Nat) (v : α) : Nat → Nat → α := fun a b => if a = k ∧ b = j then v else f a b
def zsI (w : zW) (k j : Nat) (v : Int32) : zW := (zu w.1 k j v, w.2)
def zsL (w : zW) (k j : Nat) (v : Int64) : zW := (w.1, zu w.2.1 k j v, w.2.2)
def zsR (w : zW) (j t : Nat) : zW := (w.1, w.2.1, fun b => if b = j then t + 1 else w.2.2 b)
def lt {α β : Type} (x : α) (f : α → β) : β := f x
def bd {α β : Type} (r : Option (α × zW)) (f : α → zW → Option β) : Option β := match r with
  | none => none
  | some q => f q.1 q.2
def zin (i : Int32) (n : Nat) : Bool := decide (0 ≤ i.toInt ∧ i.toInt < n)
def zg {α : Type} (b : Bool) (x : Option α) : Option α := match b with
  | true => x
  | false => none
theorem zin_vp {i : Int32} {n : Nat} (h : zin i n = true) : vp_in i n := vp_in_iff.mpr (of_decide_eq_true h)
-- the objects: 0 int row, 1 long row, 2 the row of Lines, c + 3 an object of class c; and how long
def zSh : List (Nat × Nat) := [(10, 0), (3, 0), (6, 0), (0, 25), (9, 0), (0, 64), (2, 4), (4, 0), (5, 0), (0, 64), (1, 64), (1, 64), (0, 64), (5, 0), (0, 64), (1, 64), (1, 64), (0, 64), (4, 0), (5, 0), (0, 64), (1, 64), (1, 64), (0, 64), (5, 0), (0, 64), (1, 64), (1, 64), (0, 64), (4, 0), (5, 0), (0, 64), (1, 64), (1, 64), (0, 64), (5, 0), (0, 64), (1, 64), (1, 64), (0, 64), (4, 0), (5, 0), (0, 64), (1, 64), (1, 64), (0, 64), (5, 0), (0, 64), (1, 64), (1, 64), (0, 64), (4, 0), (5, 0), (0, 64), (1, 64), (1, 64), (0, 64), (5, 0), (0, 64), (1, 64), (1, 64), (0, 64), (6, 0), (0, 25), (8, 0), (0, 100), (7, 0), (0, 65), (0, 65), (0, 65), (0, 65), (1, 128), (1, 129), (1, 129), (11, 0), (1, 160), (0, 100), (0, 25), (0, 4), (0, 4), (0, 4), (1, 129), (1, 129), (0, 10), (0, 640), (0, 640), (1, 640), (1, 640), (0, 65), (0, 25), (0, 100), (0, 100), (1, 1)]
def zLay : List (List Nat) := [[1, 4, 6, 51, 62, 64, 66, 71, 0, 72, 73], [0, 2, 0, 0], [0, 0, 3], [], [1, 0, 0, 5], [], [7, 18, 29, 40], [8, 13], [0, 9, 10, 11, 12], [], [], [], [], [0, 14, 15, 16, 17], [], [], [], [], [19, 24], [0, 20, 21, 22, 23], [], [], [], [], [0, 25, 26, 27, 28], [], [], [], [], [30, 35], [0, 31, 32, 33, 34], [], [], [], [], [0, 36, 37, 38, 39], [], [], [], [], [41, 46], [0, 42, 43, 44, 45], [], [], [], [], [0, 47, 48, 49, 50], [], [], [], [], [52, 57], [0, 53, 54, 55, 56], [], [], [], [], [0, 58, 59, 60, 61], [], [], [], [], [0, 0, 63], [], [0, 65], [], [67, 68, 69, 70, 0, 0], [], [], [], [], [], [], [], [0, 0, 75, 76, 0, 0, 0, 0, 0, 0, 77, 0, 0, 78, 79, 80, 81, 82, 83, 84, 85, 86, 87, 0, 0, 88, 89, 0, 90, 91, 0, 0], [], [], [], [], [], [], [], [], [], [], [], [], [], [], [], [], [], []]
def zsh (k : Nat) : Nat × Nat := zSh.getD k (0, 0)
def zlen (k : Nat) : Nat := (zsh k).2
def zlay (k j : Nat) : Nat := (zLay.getD k []).getD j 0
def zc (c k : Nat) : Prop := k < 93 ∧ zsh k = (c + 3, 0)
def za (t k : Nat) : Prop := k < 93 ∧ zsh k = (t, zlen k)
def zty (c : Nat) : Nat → FieldType := match c with
  | 0 => tyX0
  | 1 => tyX1
  | 2 => tyX2
  | 3 => tyX3
  | 4 => tyX4
  | 5 => tyX5
  | 6 => tyX6
  | 7 => tyX7
  | _ => tyX8
def zN (c : Nat) : Nat := [4, 2, 5, 3, 6, 2, 4, 11, 32].getD c 0
def zref (w : zW) (k j : Nat) : Nat := if k = 66 then zR w j else zlay k j
def zfv (AD : Nat → Nat) (w : zW) (k j : Nat) : FieldType → Value
  | .int => .int (zI w k j)
  | .long => .long (zL w k j)
  | _ => .ref (AD (zref w k j))
def zfs (AD : Nat → Nat) (w : zW) (k c : Nat) : List Value := (List.range (zN c)).map fun j => zfv AD w k j (zty c j)
def zcell (cA : Nat → ClassId) (AD : Nat → Nat) (w : zW) (k : Nat) : va_E := match zsh k with
  | (0, n) => .inl (cA 0, n, .inl (w.1 k))
  | (1, n) => .inl (cA 1, n, .inr (.inl (w.2.1 k)))
  | (2, n) => .inl (cA 2, n, .inr (.inr (.inr (.inr fun i => some (AD (zlay k i))))))
  | (c + 3, _) => .inr (c, zfs AD w k c)
def zws (cA : Nat → ClassId) (AD : Nat → Nat) (w : zW) : va_W := (List.range 93).map fun k => (AD k, zcell cA AD w k)
def ztys (cA : Nat → ClassId) : List (ClassId × FieldType) := [(cA 0, .int), (cA 1, .long), (cA 2, .object "EndSums$Line")]
theorem zws_at {cA : Nat → ClassId} {AD : Nat → Nat} {w : zW} {k : Nat} (h : k < 93) : (zws cA AD w)[k]? = some (AD k, zcell cA AD w k) := by
  simp [zws, h]
theorem zcell_o {cA : Nat → ClassId} {AD : Nat → Nat} {w : zW} {c k : Nat} (h : zc c k) : zcell cA AD w k = .inr (c, zfs AD w k c) := by
  unfold zcell; rw [h.2]
theorem zws_o {cA : Nat → ClassId} {AD : Nat → Nat} {w : zW} {c k : Nat} (h : zc c k) : (zws cA AD w)[k]? = some (AD k, .inr (c, zfs AD w k c)) := by
  rw [zws_at h.1, zcell_o h]
theorem zws_i {cA : Nat → ClassId} {AD : Nat → Nat} {w : zW} {k : Nat} (h : za 0 k) : (zws cA AD w)[k]? = some (AD k, .inl (cA 0, zlen k, .inl (w.1 k))) := by
  rw [zws_at h.1]; unfold zcell; rw [h.2]
theorem zws_l {cA : Nat → ClassId} {AD : Nat → Nat} {w : zW} {k : Nat} (h : za 1 k) : (zws cA AD w)[k]? = some (AD k, .inl (cA 1, zlen k, .inr (.inl (w.2.1 k)))) := by
  rw [zws_at h.1]; unfold zcell; rw [h.2]
theorem zws_q {cA : Nat → ClassId} {AD : Nat → Nat} {w : zW} {k : Nat} (h : za 2 k) : (zws cA AD w)[k]? = some (AD k, .inl (cA 2, zlen k, .inr (.inr (.inr (.inr fun i => some (AD (zlay k i))))))) := by
  rw [zws_at h.1]; unfold zcell; rw [h.2]
theorem zws_set {cA : Nat → ClassId} {AD : Nat → Nat} {w w' : zW} {k : Nat} (h : k < 93) {e : va_E} (hk : e = zcell cA AD w' k) (ho : ∀ j, j ≠ k → zcell cA AD w' j = zcell cA AD w j) : (zws cA AD w).set k (AD k, e) = zws cA AD w' := by
  subst hk
  apply List.ext_getElem?
  intro i
  by_cases hi : i = k
  · subst hi
    rw [zws_at h, List.getElem?_set_self (by simp [zws, h])]
  · rw [List.getElem?_set_ne (Ne.symm hi)]
    by_cases h2 : i < 93
    · rw [zws_at h2, zws_at h2, ho i hi]
    · rw [List.getElem?_eq_none (by simp [zws]; omega), List.getElem?_eq_none (by simp [zws]; omega)]
theorem zfs_at {AD : Nat → Nat} {w : zW} {c k j : Nat} (hj : j < zN c) : (zfs AD w k c)[j]? = some (zfv AD w k j (zty c j)) := by
  simp [zfs, hj]
theorem zfs_len {AD : Nat → Nat} {w : zW} {c k : Nat} : (zfs AD w k c).length = zN c := by simp [zfs]
theorem zfs_set {AD : Nat → Nat} {w w' : zW} {c k j : Nat} {v : Value} (hj : j < zN c) (hv : v = zfv AD w' k j (zty c j)) (ho : ∀ i, i ≠ j → ∀ t, zfv AD w' k i t = zfv AD w k i t) : (zfs AD w k c).set j v = zfs AD w' k c := by
  subst hv
  apply List.ext_getElem?
  intro i
  by_cases hi : i = j
  · subst hi
    rw [zfs_at hj, List.getElem?_set_self (by rw [zfs_len]; exact hj)]
  · rw [List.getElem?_set_ne (Ne.symm hi)]
    by_cases h2 : i < zN c
    · rw [zfs_at h2, zfs_at h2, ho i hi]
    · rw [List.getElem?_eq_none (by rw [zfs_len]; omega), List.getElem?_eq_none (by rw [zfs_len]; omega)]
theorem zcell_eq {cA : Nat → ClassId} {AD : Nat → Nat} {w w' : zW} {k : Nat} (h1 : w'.1 k = w.1 k) (h2 : w'.2.1 k = w.2.1 k) (h3 : k = 66 → w'.2.2 = w.2.2) : zcell cA AD w' k = zcell cA AD w k := by
  have hf : ∀ j t, zfv AD w' k j t = zfv AD w k j t := by
    intro j t
    have e1 : zI w' k j = zI w k j := congrFun h1 j
    have e2 : zL w' k j = zL w k j := congrFun h2 j
    have e3 : zref w' k j = zref w k j := by
      unfold zref zR
      by_cases hk : k = 66
      · rw [if_pos hk, if_pos hk, h3 hk]
      · rw [if_neg hk, if_neg hk]
    cases t <;> simp [zfv, e1, e2, e3]
  have e4 : ∀ c, zfs AD w' k c = zfs AD w k c := by
    intro c
    unfold zfs
    exact List.map_congr_left fun j _ => hf j _
  unfold zcell
  rw [h1, h2]
  split <;> first | rfl | rw [e4]
theorem zu_ne {α : Type} {f : Nat → Nat → α} {k j a : Nat} {v : α} (h : a ≠ k) : zu f k j v a = f a := by
  funext b; simp [zu, h]
theorem zu_row {f : Nat → Nat → Int32} {k j : Nat} {v : Int32} : zu f k j v k = upd (f k) j v := by
  funext b; simp [zu, upd]
theorem zu_rowL {f : Nat → Nat → Int64} {k j : Nat} {v : Int64} : zu f k j v k = vp_updL (f k) j v := by
  funext b; simp [zu, vp_updL]
-- a store: into an int field, a long field, one of Takings' rows, an int row, a long row
theorem zst_I {cA : Nat → ClassId} {AD : Nat → Nat} {w : zW} {c k j : Nat} {v : Int32} (h : zc c k) (hj : j < zN c) (ht : zty c j = .int) : (zws cA AD w).set k (AD k, .inr (c, (zfs AD w k c).set j (.int v))) = zws cA AD (zsI w k j v) := by
  refine zws_set h.1 ?_ (fun i hi => zcell_eq (zu_ne hi) rfl (fun _ => rfl))
  rw [zcell_o h, zfs_set (w' := zsI w k j v) hj ?_ ?_]
  · rw [ht]; simp [zfv, zI, zsI, zu]
  · intro i hi t
    cases t <;> simp [zfv, zI, zL, zsI, zu, hi, zref, zR]
theorem zst_L {cA : Nat → ClassId} {AD : Nat → Nat} {w : zW} {c k j : Nat} {v : Int64} (h : zc c k) (hj : j < zN c) (ht : zty c j = .long) : (zws cA AD w).set k (AD k, .inr (c, (zfs AD w k c).set j (.long v))) = zws cA AD (zsL w k j v) := by
  refine zws_set h.1 ?_ (fun i hi => zcell_eq rfl (zu_ne hi) (fun _ => rfl))
  rw [zcell_o h, zfs_set (w' := zsL w k j v) hj ?_ ?_]
  · rw [ht]; simp [zfv, zL, zsL, zu]
  · intro i hi t
    cases t <;> simp [zfv, zI, zL, zsL, zu, hi, zref, zR]
theorem zst_R {cA : Nat → ClassId} {AD : Nat → Nat} {w : zW} {j t : Nat} (hj : j < 4) (ht : t = 67 ∨ t = 68 ∨ t = 69 ∨ t = 70) : (zws cA AD w).set 66 (AD 66, .inr (4, (zfs AD w 66 4).set j (.ref (AD t)))) = zws cA AD (zsR w j t) := by
  have h : zc 4 66 := by unfold zc; decide
  refine zws_set h.1 ?_ (fun i hi => zcell_eq rfl rfl (fun q => absurd q hi))
  rw [zcell_o h, zfs_set (w' := zsR w j t) ?_ ?_ ?_]
  · exact Nat.lt_of_lt_of_le hj (by decide)
  · have e : zty 4 j = .array .int := by
      rcases (show j = 0 ∨ j = 1 ∨ j = 2 ∨ j = 3 by omega) with rfl | rfl | rfl | rfl <;> rfl
    rw [e]
    have e2 : zR (zsR w j t) j = t := by
      simp only [zR, zsR, if_true]
      rcases ht with rfl | rfl | rfl | rfl <;> rfl
    simp [zfv, zref, e2]
  · intro i hi t2
    cases t2 <;> simp [zfv, zI, zL, zsR, zref, zR, hi]
theorem zst_i {cA : Nat → ClassId} {AD : Nat → Nat} {w : zW} {k j : Nat} {v : Int32} (h : za 0 k) : (zws cA AD w).set k (AD k, .inl (cA 0, zlen k, .inl (upd (w.1 k) j v))) = zws cA AD (zsI w k j v) := by
  refine zws_set h.1 ?_ (fun i hi => zcell_eq (zu_ne hi) rfl (fun _ => rfl))
  unfold zcell; rw [h.2]
  simp [zsI, zu_row]
theorem zst_l {cA : Nat → ClassId} {AD : Nat → Nat} {w : zW} {k j : Nat} {v : Int64} (h : za 1 k) : (zws cA AD w).set k (AD k, .inl (cA 1, zlen k, .inr (.inl (vp_updL (w.2.1 k) j v)))) = zws cA AD (zsL w k j v) := by
  refine zws_set h.1 ?_ (fun i hi => zcell_eq rfl (zu_ne hi) (fun _ => rfl))
  unfold zcell; rw [h.2]
  simp [zsL, zu_rowL]
-- addresses
def zAp (A : Nat → Prop) (AD : Nat → Nat) : Prop := (∀ i j, i < 93 → j < 93 → AD i = AD j → i = j) ∧ ∀ k, k < 93 → A (AD k)
theorem zD {A : Nat → Prop} {AD : Nat → Nat} {cA : Nat → ClassId} {w : zW} (h : zAp A AD) : va_D A (zws cA AD w) := by
  have key : ∀ (k : Nat) (q : Nat × va_E), (zws cA AD w)[k]? = some q → k < 93 ∧ q.1 = AD k := by
    intro k q hk
    by_cases h2 : k < 93
    · rw [zws_at h2] at hk
      exact ⟨h2, by rw [← Option.some.inj hk]⟩
    · rw [List.getElem?_eq_none (by simp [zws]; omega)] at hk
      cases hk
  refine ⟨fun i j p q hi hj hpq => ?_, fun k q hk => ?_⟩
  · obtain ⟨a1, a2⟩ := key i p hi
    obtain ⟨b1, b2⟩ := key j q hj
    exact h.1 i j a1 b1 (a2.symm.trans (hpq.trans b2))
  · obtain ⟨a1, a2⟩ := key k q hk
    rw [a2]; exact h.2 k a1
def zA (AD : Nat → Nat) (sz : Nat) : Nat → Prop := fun q => (∃ k, k < 93 ∧ q = AD k) ∨ sz ≤ q
-- the static row of the arrangements
def zarr : List Int32 := [291, 306, 531, 561, 786, 801, 4131, 4146, 4611, 4656, 4866, 4896, 8211, 8241, 8451, 8496, 8961, 8976, 12306, 12321, 12546, 12576, 12801, 12816]
def zSt (AD : Nat → Nat) (A : Nat → Prop) (U : State) (H : Heap) : Prop := va_Z "EndSums$Joining" "ARRANGEMENTS" "[I" (.ref (AD 93)) A U H ∧ va_T .int (AD 93) 24 (fun j => .int (zarr.getD j 0)) A U H
theorem zSt_moved {AD : Nat → Nat} {A : Nat → Prop} {u U : State} {H : Heap} (hvm : u.vm.Alike U.vm) (h : zSt AD A u H) : zSt AD A U H := ⟨va_Z.moved hvm h.1, va_T.moved hvm h.2⟩
theorem zSt_kept {AD : Nat → Nat} {A : Nat → Prop} {U : State} {H H1 : Heap} (h : zSt AD A U H) (hq : ∀ a : Nat, a < H.size → ¬ A a → H1[a]? = H[a]?) : zSt AD A U H1 := ⟨va_Z.kept h.1 hq, va_T.kept h.2 hq⟩
theorem zSt_narrow {AD : Nat → Nat} {A B : Nat → Prop} {U : State} {H : Heap} (h : zSt AD A U H) (hAB : ∀ q, B q → A q) : zSt AD B U H := ⟨va_Z.narrow h.1 hAB, va_T.narrow h.2 hAB⟩
-- A METHOD: its bytes, class, locals, what it returns, its room
abbrev zM : Type := ByteArray × String × Nat × Option FieldType × Room
def zev (AD : Nat → Nat) : Value → Value
  | .ref k => .ref (AD k)
  | v => v
theorem zev_cat {AD : Nat → Nat} (v : Value) : (zev AD v).category = v.category := by cases v <;> rfl
def zes (AD : Nat → Nat) (st : List Value) : List Value := st.map (zev AD)
def zel (AD : Nat → Nat) (lv : List (Nat × Value)) : List (Nat × Value) := lv.map fun q => (q.1, zev AD q.2)
theorem zel_at {AD : Nat → Nat} {lv : List (Nat × Value)} {k i : Nat} {v : Value} (h : lv[k]? = some (i, v)) : (zel AD lv)[k]? = some (i, zev AD v) := by
  simp [zel, h]
theorem zel_st {AD : Nat → Nat} {lv lv' : List (Nat × Value)} {i : Nat} {v : Value} (h : (i, v) :: lv.filter (fun q => !(q.1 == i) && !(q.1 + 1 == i && q.2.category == 2)) = lv') : (i, zev AD v) :: (zel AD lv).filter (fun q => !(q.1 == i) && !(q.1 + 1 == i && q.2.category == 2)) = zel AD lv' := by
  subst h
  simp only [zel, List.filter_map, List.map_cons]
  congr 2
  apply List.filter_congr
  intro q _
  simp [zev_cat]
theorem zel_st2 {AD : Nat → Nat} {lv lv' : List (Nat × Value)} {i : Nat} {v : Value} (h : (i, v) :: lv.filter (fun q => !(q.1 == i) && (!(q.1 == i + 1) && !(q.1 + 1 == i && q.2.category == 2))) = lv') : (i, zev AD v) :: (zel AD lv).filter (fun q => !(q.1 == i) && (!(q.1 == i + 1) && !(q.1 + 1 == i && q.2.category == 2))) = zel AD lv' := by
  subst h
  simp only [zel, List.filter_map, List.map_cons]
  congr 2
  apply List.filter_congr
  intro q _
  simp [zev_cat]
def zQ {ρ : Type} (D : va_G) (cA : Nat → ClassId) (AD : Nat → Nat) (A : Nat → Prop) (inj : ρ → Option Value) (res : ρ × zW) : Array Value → State → Outcome → State → Prop := fun _ st o t =>
  (o = .returned ((inj res.1).map (zev AD)) ∧ va_P D vwCl (zws cA AD res.2) t.heap) ∧ va_F A st t
def zCtx (M : zM) (p : Program) (s : State) (m : MethodId) (args : Array Value) (meth : Method) (c : Code) (D : va_G) (cA : Nat → ClassId) (AD : Nat → Nat) (A : Nat → Prop) : Prop :=
  p.tables.exec = Jvm.exec ∧ c.code = M.1 ∧ meth.sig.returnType = M.2.2.2.1 ∧ c.maxLocals = M.2.2.1 ∧ s.vm.findClass M.2.1 = some m.cls ∧ (∀ w ∈ zTb, w.before args s = true) ∧ meth.locks = false ∧ va_K D vwCl (ztys cA) s ∧ zAp A AD ∧ (∀ q, s.heap.size ≤ q → A q) ∧ zSt AD A s s.heap ∧ zNs s
/-- from this place of the method, with these locals, this stack, this world: where r is some answer and world, the machine returns it and comes to it -/
def Tz {ρ : Type} (M : zM) (inj : ρ → Option Value) (r : Option (ρ × zW)) (pc : Nat) (lv : List (Nat × Value)) (st : List Value) (w : zW) : Prop :=
  ∀ (res : ρ × zW), r = some res → ∀ (p : Program) (l : Launch) (e : Env) (s : State) (m : MethodId) (args : Array Value) (below : List Frame) (meth : Method) (c : Code) (D : va_G) (cA : Nat → ClassId) (AD : Nat → Nat) (A : Nat → Prop),
    zCtx M p s m args meth c D cA AD A → ∀ (H : Heap) (locs : List Loc) (ls : Array Slot), va_P D vwCl (zws cA AD w) H → va_S A s.heap H locs → lv_has ls M.2.2.1 (zel AD lv) →
      W p l e M.2.2.2.2 s m args below meth c H locs 0 0 (MQ below (zQ D cA AD A inj res) args s 0 0 A) (F0 m pc ls (zes AD st))
def zPre (D : va_G) (cA : Nat → ClassId) (AD : Nat → Nat) (w : zW) (sz : Nat) (U : State) : Prop :=
  U.heap.size = sz ∧ va_P D vwCl (zws cA AD w) U.heap ∧ va_K D vwCl (ztys cA) U ∧ (∀ i j, i < 93 → j < 93 → AD i = AD j → i = j) ∧ zSt AD (zA AD sz) U U.heap ∧ zNs U
/-- THE CONTRACT of a method, where it is called with these values in this world: r is its answer and the world behind it -/
def Sm {ρ : Type} (y : MethodName) (M : zM) (inj : ρ → Option Value) (av : List Value) (w : zW) (r : Option (ρ × zW)) : Prop :=
  ∀ (res : ρ × zW), r = some res → ∀ (l : Launch) (D : va_G) (cA : Nat → ClassId) (AD : Nat → Nat) (sz : Nat),
    Met l y (.code y M.1 M.2.2.1 M.2.2.2.1 :: zTb) M.2.2.2.2 (va_Pc (zes AD av) (zPre D cA AD w sz)) (zQ D cA AD (zA AD sz) inj res) 0 0 (zA AD sz)
section TZ
variable {ρ : Type} {M : zM} {inj : ρ → Option Value} {r : Option (ρ × zW)} {pc : Nat} {lv : List (Nat × Value)} {st : List Value} {w : zW}
theorem tz_iadd {x y : Int32} (d : decode M.1 pc = .ok (.iadd, 1)) (k : Tz M inj r (pc + 1) lv (.int (x + y) :: st) w) : Tz M inj r pc lv (.int y :: .int x :: st) w := fun res h p l e s m args below meth c D cA AD A X H locs ls hP hS hl => lv_iadd X.1 X.2.1 d (k res h p l e s m args below meth c D cA AD A X H locs ls hP hS hl)
theorem tz_isub {x y : Int32} (d : decode M.1 pc = .ok (.isub, 1)) (k : Tz M inj r (pc + 1) lv (.int (x - y) :: st) w) : Tz M inj r pc lv (.int y :: .int x :: st) w := fun res h p l e s m args below meth c D cA AD A X H locs ls hP hS hl => lv_isub X.1 X.2.1 d (k res h p l e s m args below meth c D cA AD A X H locs ls hP hS hl)
theorem tz_imul {x y : Int32} (d : decode M.1 pc = .ok (.imul, 1)) (k : Tz M inj r (pc + 1) lv (.int (x * y) :: st) w) : Tz M inj r pc lv (.int y :: .int x :: st) w := fun res h p l e s m args below meth c D cA AD A X H locs ls hP hS hl => lv_imul X.1 X.2.1 d (k res h p l e s m args below meth c D cA AD A X H locs ls hP hS hl)
theorem tz_iand {x y : Int32} (d : decode M.1 pc = .ok (.iand, 1)) (k : Tz M inj r (pc + 1) lv (.int (x &&& y) :: st) w) : Tz M inj r pc lv (.int y :: .int x :: st) w := fun res h p l e s m args below meth c D cA AD A X H locs ls hP hS hl => lv_iand X.1 X.2.1 d (k res h p l e s m args below meth c D cA AD A X H locs ls hP hS hl)
theorem tz_ior {x y : Int32} (d : decode M.1 pc = .ok (.ior, 1)) (k : Tz M inj r (pc + 1) lv (.int (x ||| y) :: st) w) : Tz M inj r pc lv (.int y :: .int x :: st) w := fun res h p l e s m args below meth c D cA AD A X H locs ls hP hS hl => lv_ior X.1 X.2.1 d (k res h p l e s m args below meth c D cA AD A X H locs ls hP hS hl)
theorem tz_ishl {x y : Int32} (d : decode M.1 pc = .ok (.ishl, 1)) (k : Tz M inj r (pc + 1) lv (.int (x <<< (y &&& 31)) :: st) w) : Tz M inj r pc lv (.int y :: .int x :: st) w := fun res h p l e s m args below meth c D cA AD A X H locs ls hP hS hl => lv_ishl X.1 X.2.1 d (k res h p l e s m args below meth c D cA AD A X H locs ls hP hS hl)
theorem tz_ishr {x y : Int32} (d : decode M.1 pc = .ok (.ishr, 1)) (k : Tz M inj r (pc + 1) lv (.int (x >>> (y &&& 31)) :: st) w) : Tz M inj r pc lv (.int y :: .int x :: st) w := fun res h p l e s m args below meth c D cA AD A X H locs ls hP hS hl => lv_ishr X.1 X.2.1 d (k res h p l e s m args below meth c D cA AD A X H locs ls hP hS hl)
theorem tz_ladd {x y : Int64} (d : decode M.1 pc = .ok (.ladd, 1)) (k : Tz M inj r (pc + 1) lv (.long (x + y) :: st) w) : Tz M inj r pc lv (.long y :: .long x :: st) w := fun res h p l e s m args below meth c D cA AD A X H locs ls hP hS hl => lv_ladd X.1 X.2.1 d (k res h p l e s m args below meth c D cA AD A X H locs ls hP hS hl)
theorem tz_lsub {x y : Int64} (d : decode M.1 pc = .ok (.lsub, 1)) (k : Tz M inj r (pc + 1) lv (.long (x - y) :: st) w) : Tz M inj r pc lv (.long y :: .long x :: st) w := fun res h p l e s m args below meth c D cA AD A X H locs ls hP hS hl => lv_lsub X.1 X.2.1 d (k res h p l e s m args below meth c D cA AD A X H locs ls hP hS hl)
theorem tz_lmul {x y : Int64} (d : decode M.1 pc = .ok (.lmul, 1)) (k : Tz M inj r (pc + 1) lv (.long (x * y) :: st) w) : Tz M inj r pc lv (.long y :: .long x :: st) w := fun res h p l e s m args below meth c D cA AD A X H locs ls hP hS hl => lv_lmul X.1 X.2.1 d (k res h p l e s m args below meth c D cA AD A X H locs ls hP hS hl)
theorem tz_lxor {x y : Int64} (d : decode M.1 pc = .ok (.lxor, 1)) (k : Tz M inj r (pc + 1) lv (.long (x ^^^ y) :: st) w) : Tz M inj r pc lv (.long y :: .long x :: st) w := fun res h p l e s m args below meth c D cA AD A X H locs ls hP hS hl => lv_lxor X.1 X.2.1 d (k res h p l e s m args below meth c D cA AD A X H locs ls hP hS hl)
theorem tz_idiv {x y : Int32} (hn : ¬ y = 0) (d : decode M.1 pc = .ok (.idiv, 1)) (k : Tz M inj r (pc + 1) lv (.int (x / y) :: st) w) : Tz M inj r pc lv (.int y :: .int x :: st) w := fun res h p l e s m args below meth c D cA AD A X H locs ls hP hS hl => lv_idiv X.1 X.2.1 d hn (k res h p l e s m args below meth c D cA AD A X H locs ls hP hS hl)
theorem tz_irem {x y : Int32} (hn : ¬ y = 0) (d : decode M.1 pc = .ok (.irem, 1)) (k : Tz M inj r (pc + 1) lv (.int (x - x / y * y) :: st) w) : Tz M inj r pc lv (.int y :: .int x :: st) w := fun res h p l e s m args below meth c D cA AD A X H locs ls hP hS hl => lv_irem X.1 X.2.1 d hn (k res h p l e s m args below meth c D cA AD A X H locs ls hP hS hl)
theorem tz_lrem {x y : Int64} (hn : ¬ y = 0) (d : decode M.1 pc = .ok (.lrem, 1)) (k : Tz M inj r (pc + 1) lv (.long (x - x / y * y) :: st) w) : Tz M inj r pc lv (.long y :: .long x :: st) w := fun res h p l e s m args below meth c D cA AD A X H locs ls hP hS hl => lv_lrem X.1 X.2.1 d hn (k res h p l e s m args below meth c D cA AD A X H locs ls hP hS hl)
theorem tz_i2l {x : Int32} (d : decode M.1 pc = .ok (.i2l, 1)) (k : Tz M inj r (pc + 1) lv (.long x.toInt64 :: st) w) : Tz M inj r pc lv (.int x :: st) w := fun res h p l e s m args below meth c D cA AD A X H locs ls hP hS hl => lv_i2l X.1 X.2.1 d rfl (k res h p l e s m args below meth c D cA AD A X H locs ls hP hS hl)
theorem tz_l2i {x : Int64} (d : decode M.1 pc = .ok (.l2i, 1)) (k : Tz M inj r (pc + 1) lv (.int x.toInt32 :: st) w) : Tz M inj r pc lv (.long x :: st) w := fun res h p l e s m args below meth c D cA AD A X H locs ls hP hS hl => lv_l2i X.1 X.2.1 d rfl (k res h p l e s m args below meth c D cA AD A X H locs ls hP hS hl)
theorem tz_iconst {n : Int} (v : Int32) (hv : Int32.ofInt n = v) (d : decode M.1 pc = .ok (.iconst n, 1)) (k : Tz M inj r (pc + 1) lv (.int v :: st) w) : Tz M inj r pc lv st w := fun res h p l e s m args below meth c D cA AD A X H locs ls hP hS hl => lv_iconst X.1 X.2.1 d hv (k res h p l e s m args below meth c D cA AD A X H locs ls hP hS hl)
theorem tz_bipush {n : Int} (v : Int32) (hv : (Int8.ofInt n).toInt32 = v) (d : decode M.1 pc = .ok (.bipush n, 2)) (k : Tz M inj r (pc + 2) lv (.int v :: st) w) : Tz M inj r pc lv st w := fun res h p l e s m args below meth c D cA AD A X H locs ls hP hS hl => lv_bipush X.1 X.2.1 d hv (k res h p l e s m args below meth c D cA AD A X H locs ls hP hS hl)
theorem tz_sipush {n : Int} (v : Int32) (hv : (Int16.ofInt n).toInt32 = v) (d : decode M.1 pc = .ok (.sipush n, 3)) (k : Tz M inj r (pc + 3) lv (.int v :: st) w) : Tz M inj r pc lv st w := fun res h p l e s m args below meth c D cA AD A X H locs ls hP hS hl => lv_sipush X.1 X.2.1 d hv (k res h p l e s m args below meth c D cA AD A X H locs ls hP hS hl)
theorem tz_lconst {n : Fin 2} (v : Int64) (hv : Int64.ofNat (n : Nat) = v) (d : decode M.1 pc = .ok (.lconst n, 1)) (k : Tz M inj r (pc + 1) lv (.long v :: st) w) : Tz M inj r pc lv st w := fun res h p l e s m args below meth c D cA AD A X H locs ls hP hS hl => lv_lconst X.1 X.2.1 d hv (k res h p l e s m args below meth c D cA AD A X H locs ls hP hS hl)
theorem tz_ldc {index : Nat} {v : Int32} (hm : Cond.constant M.2.1 index v ∈ zTb) (d : decode M.1 pc = .ok (.ldc index, 2)) (k : Tz M inj r (pc + 2) lv (.int v :: st) w) : Tz M inj r pc lv st w := fun res h p l e s m args below meth c D cA AD A X H locs ls hP hS hl => lv_ldc X.1 X.2.1 X.2.2.2.2.1 (X.2.2.2.2.2.1 _ hm) d (k res h p l e s m args below meth c D cA AD A X H locs ls hP hS hl)
theorem tz_ldc_w {index : Nat} {v : Int32} (hm : Cond.constant M.2.1 index v ∈ zTb) (d : decode M.1 pc = .ok (.ldc_w index, 3)) (k : Tz M inj r (pc + 3) lv (.int v :: st) w) : Tz M inj r pc lv st w := fun res h p l e s m args below meth c D cA AD A X H locs ls hP hS hl => lv_ldcw X.1 X.2.1 X.2.2.2.2.1 (X.2.2.2.2.2.1 _ hm) d (k res h p l e s m args below meth c D cA AD A X H locs ls hP hS hl)
theorem tz_ldc2_w {index : Nat} {v : Int64} (hm : Cond.constantLong M.2.1 index v ∈ zTb) (d : decode M.1 pc = .ok (.ldc2_w index, 3)) (k : Tz M inj r (pc + 3) lv (.long v :: st) w) : Tz M inj r pc lv st w := fun res h p l e s m args below meth c D cA AD A X H locs ls hP hS hl => lv_ldc2 X.1 X.2.1 X.2.2.2.2.1 (X.2.2.2.2.2.1 _ hm) d (k res h p l e s m args below meth c D cA AD A X H locs ls hP hS hl)
theorem tz_iload_n {n : Fin 4} {x : Int32} (q : Nat) (hl0 : lv[q]? = some ((n : Nat), .int x)) (d : decode M.1 pc = .ok (.iload_n n, 1)) (k : Tz M inj r (pc + 1) lv (.int x :: st) w) : Tz M inj r pc lv st w := fun res h p l e s m args below meth c D cA AD A X H locs ls hP hS hl => lv_iload_n X.1 X.2.1 d rfl (lv_at hl q (zel_at hl0)) (k res h p l e s m args below meth c D cA AD A X H locs ls hP hS hl)
theorem tz_iload {i : Nat} {x : Int32} (q : Nat) (hl0 : lv[q]? = some (i, .int x)) (d : decode M.1 pc = .ok (.iload i, 2)) (k : Tz M inj r (pc + 2) lv (.int x :: st) w) : Tz M inj r pc lv st w := fun res h p l e s m args below meth c D cA AD A X H locs ls hP hS hl => lv_iload X.1 X.2.1 d (lv_at hl q (zel_at hl0)) (k res h p l e s m args below meth c D cA AD A X H locs ls hP hS hl)
theorem tz_lload_n {n : Fin 4} {x : Int64} (q : Nat) (hl0 : lv[q]? = some ((n : Nat), .long x)) (d : decode M.1 pc = .ok (.lload_n n, 1)) (k : Tz M inj r (pc + 1) lv (.long x :: st) w) : Tz M inj r pc lv st w := fun res h p l e s m args below meth c D cA AD A X H locs ls hP hS hl => lv_lload_n X.1 X.2.1 d rfl (lv_at hl q (zel_at hl0)) (k res h p l e s m args below meth c D cA AD A X H locs ls hP hS hl)
theorem tz_lload {i : Nat} {x : Int64} (q : Nat) (hl0 : lv[q]? = some (i, .long x)) (d : decode M.1 pc = .ok (.lload i, 2)) (k : Tz M inj r (pc + 2) lv (.long x :: st) w) : Tz M inj r pc lv st w := fun res h p l e s m args below meth c D cA AD A X H locs ls hP hS hl => lv_lload X.1 X.2.1 d (lv_at hl q (zel_at hl0)) (k res h p l e s m args below meth c D cA AD A X H locs ls hP hS hl)
theorem tz_aload_n {n : Fin 4} {x : Nat} (q : Nat) (hl0 : lv[q]? = some ((n : Nat), .ref x)) (d : decode M.1 pc = .ok (.aload_n n, 1)) (k : Tz M inj r (pc + 1) lv (.ref x :: st) w) : Tz M inj r pc lv st w := fun res h p l e s m args below meth c D cA AD A X H locs ls hP hS hl => lv_aload_n X.1 X.2.1 d rfl (lv_at hl q (zel_at hl0)) (k res h p l e s m args below meth c D cA AD A X H locs ls hP hS hl)
theorem tz_aload {i : Nat} {x : Nat} (q : Nat) (hl0 : lv[q]? = some (i, .ref x)) (d : decode M.1 pc = .ok (.aload i, 2)) (k : Tz M inj r (pc + 2) lv (.ref x :: st) w) : Tz M inj r pc lv st w := fun res h p l e s m args below meth c D cA AD A X H locs ls hP hS hl => lv_aload X.1 X.2.1 d (lv_at hl q (zel_at hl0)) (k res h p l e s m args below meth c D cA AD A X H locs ls hP hS hl)
theorem tz_aload_nN {n : Fin 4} (q : Nat) (hl0 : lv[q]? = some ((n : Nat), .null)) (d : decode M.1 pc = .ok (.aload_n n, 1)) (k : Tz M inj r (pc + 1) lv (.null :: st) w) : Tz M inj r pc lv st w := fun res h p l e s m args below meth c D cA AD A X H locs ls hP hS hl => lv_aload_nN X.1 X.2.1 d rfl (lv_at hl q (zel_at hl0)) (k res h p l e s m args below meth c D cA AD A X H locs ls hP hS hl)
theorem tz_aloadN {i : Nat} (q : Nat) (hl0 : lv[q]? = some (i, .null)) (d : decode M.1 pc = .ok (.aload i, 2)) (k : Tz M inj r (pc + 2) lv (.null :: st) w) : Tz M inj r pc lv st w := fun res h p l e s m args below meth c D cA AD A X H locs ls hP hS hl => lv_aloadN X.1 X.2.1 d (lv_at hl q (zel_at hl0)) (k res h p l e s m args below meth c D cA AD A X H locs ls hP hS hl)
theorem tz_istore_n {n : Fin 4} {x : Int32} (lv2 : List (Nat × Value)) (hn : (n : Nat) < M.2.2.1) (he : ((n : Nat), Value.int x) :: lv.filter (fun q => !(q.1 == (n : Nat)) && !(q.1 + 1 == (n : Nat) && q.2.category == 2)) = lv2) (d : decode M.1 pc = .ok (.istore_n n, 1)) (k : Tz M inj r (pc + 1) lv2 st w) : Tz M inj r pc lv (.int x :: st) w := fun res h p l e s m args below meth c D cA AD A X H locs ls hP hS hl => lv_istore_n X.1 X.2.1 d rfl hl hn (zel_st he) (fun ls2 hl2 => k res h p l e s m args below meth c D cA AD A X H locs ls2 hP hS hl2)
theorem tz_istore {i : Nat} {x : Int32} (lv2 : List (Nat × Value)) (hn : i < M.2.2.1) (he : (i, Value.int x) :: lv.filter (fun q => !(q.1 == i) && !(q.1 + 1 == i && q.2.category == 2)) = lv2) (d : decode M.1 pc = .ok (.istore i, 2)) (k : Tz M inj r (pc + 2) lv2 st w) : Tz M inj r pc lv (.int x :: st) w := fun res h p l e s m args below meth c D cA AD A X H locs ls hP hS hl => lv_istore X.1 X.2.1 d hl hn (zel_st he) (fun ls2 hl2 => k res h p l e s m args below meth c D cA AD A X H locs ls2 hP hS hl2)
theorem tz_lstore_n {n : Fin 4} {x : Int64} (lv2 : List (Nat × Value)) (hn : (n : Nat) + 1 < M.2.2.1) (he : ((n : Nat), Value.long x) :: lv.filter (fun q => !(q.1 == (n : Nat)) && (!(q.1 == (n : Nat) + 1) && !(q.1 + 1 == (n : Nat) && q.2.category == 2))) = lv2) (d : decode M.1 pc = .ok (.lstore_n n, 1)) (k : Tz M inj r (pc + 1) lv2 st w) : Tz M inj r pc lv (.long x :: st) w := fun res h p l e s m args below meth c D cA AD A X H locs ls hP hS hl => lv_lstore_n X.1 X.2.1 d rfl hl hn (zel_st2 he) (fun ls2 hl2 => k res h p l e s m args below meth c D cA AD A X H locs ls2 hP hS hl2)
theorem tz_lstore {i : Nat} {x : Int64} (lv2 : List (Nat × Value)) (hn : i + 1 < M.2.2.1) (he : (i, Value.long x) :: lv.filter (fun q => !(q.1 == i) && (!(q.1 == i + 1) && !(q.1 + 1 == i && q.2.category == 2))) = lv2) (d : decode M.1 pc = .ok (.lstore i, 2)) (k : Tz M inj r (pc + 2) lv2 st w) : Tz M inj r pc lv (.long x :: st) w := fun res h p l e s m args below meth c D cA AD A X H locs ls hP hS hl => lv_lstore X.1 X.2.1 d hl hn (zel_st2 he) (fun ls2 hl2 => k res h p l e s m args below meth c D cA AD A X H locs ls2 hP hS hl2)
theorem tz_astore_n {n : Fin 4} {x : Nat} (lv2 : List (Nat × Value)) (hn : (n : Nat) < M.2.2.1) (he : ((n : Nat), Value.ref x) :: lv.filter (fun q => !(q.1 == (n : Nat)) && !(q.1 + 1 == (n : Nat) && q.2.category == 2)) = lv2) (d : decode M.1 pc = .ok (.astore_n n, 1)) (k : Tz M inj r (pc + 1) lv2 st w) : Tz M inj r pc lv (.ref x :: st) w := fun res h p l e s m args below meth c D cA AD A X H locs ls hP hS hl => lv_astore_n X.1 X.2.1 d rfl hl hn (zel_st he) (fun ls2 hl2 => k res h p l e s m args below meth c D cA AD A X H locs ls2 hP hS hl2)
theorem tz_astore {i : Nat} {x : Nat} (lv2 : List (Nat × Value)) (hn : i < M.2.2.1) (he : (i, Value.ref x) :: lv.filter (fun q => !(q.1 == i) && !(q.1 + 1 == i && q.2.category == 2)) = lv2) (d : decode M.1 pc = .ok (.astore i, 2)) (k : Tz M inj r (pc + 2) lv2 st w) : Tz M inj r pc lv (.ref x :: st) w := fun res h p l e s m args below meth c D cA AD A X H locs ls hP hS hl => lv_astore X.1 X.2.1 d hl hn (zel_st he) (fun ls2 hl2 => k res h p l e s m args below meth c D cA AD A X H locs ls2 hP hS hl2)
theorem tz_astore_nN {n : Fin 4} (lv2 : List (Nat × Value)) (hn : (n : Nat) < M.2.2.1) (he : ((n : Nat), Value.null) :: lv.filter (fun q => !(q.1 == (n : Nat)) && !(q.1 + 1 == (n : Nat) && q.2.category == 2)) = lv2) (d : decode M.1 pc = .ok (.astore_n n, 1)) (k : Tz M inj r (pc + 1) lv2 st w) : Tz M inj r pc lv (.null :: st) w := fun res h p l e s m args below meth c D cA AD A X H locs ls hP hS hl => lv_astore_nN X.1 X.2.1 d rfl hl hn (zel_st he) (fun ls2 hl2 => k res h p l e s m args below meth c D cA AD A X H locs ls2 hP hS hl2)
theorem tz_astoreN {i : Nat} (lv2 : List (Nat × Value)) (hn : i < M.2.2.1) (he : (i, Value.null) :: lv.filter (fun q => !(q.1 == i) && !(q.1 + 1 == i && q.2.category == 2)) = lv2) (d : decode M.1 pc = .ok (.astore i, 2)) (k : Tz M inj r (pc + 2) lv2 st w) : Tz M inj r pc lv (.null :: st) w := fun res h p l e s m args below meth c D cA AD A X H locs ls hP hS hl => lv_astoreN X.1 X.2.1 d hl hn (zel_st he) (fun ls2 hl2 => k res h p l e s m args below meth c D cA AD A X H locs ls2 hP hS hl2)
theorem tz_iinc {i : Nat} {n : Int} {x : Int32} (q : Nat) (v : Int32) (lv2 : List (Nat × Value)) (hl0 : lv[q]? = some (i, .int x)) (hv : Int32.ofInt n = v) (hn : i < M.2.2.1) (he : (i, Value.int (x + v)) :: lv.filter (fun q => !(q.1 == i) && !(q.1 + 1 == i && q.2.category == 2)) = lv2) (d : decode M.1 pc = .ok (.iinc i n, 3)) (k : Tz M inj r (pc + 3) lv2 st w) : Tz M inj r pc lv st w := fun res h p l e s m args below meth c D cA AD A X H locs ls hP hS hl => lv_iinc X.1 X.2.1 d hl (zel_at hl0) (by rw [hv]) hn (zel_st he) (fun ls2 hl2 => k res h p l e s m args below meth c D cA AD A X H locs ls2 hP hS hl2)
theorem tz_lv {lv2 : List (Nat × Value)} (ks : List Nat) (hk : lv_pick lv ks = lv2) (k : Tz M inj r pc lv2 st w) : Tz M inj r pc lv st w := fun res h p l e s m args below meth c D cA AD A X H locs ls hP hS hl => k res h p l e s m args below meth c D cA AD A X H locs ls hP hS (lv_sub hl ks (by subst hk; simp only [lv_pick, zel, List.getElem?_map, List.map_filterMap]))
theorem tz_dupi {x : Int32} (d : decode M.1 pc = .ok (.dup, 1)) (k : Tz M inj r (pc + 1) lv (.int x :: .int x :: st) w) : Tz M inj r pc lv (.int x :: st) w := fun res h p l e s m args below meth c D cA AD A X H locs ls hP hS hl => lv_dup X.1 X.2.1 d rfl (k res h p l e s m args below meth c D cA AD A X H locs ls hP hS hl)
theorem tz_dupa {x : Nat} (d : decode M.1 pc = .ok (.dup, 1)) (k : Tz M inj r (pc + 1) lv (.ref x :: .ref x :: st) w) : Tz M inj r pc lv (.ref x :: st) w := fun res h p l e s m args below meth c D cA AD A X H locs ls hP hS hl => lv_dup X.1 X.2.1 d rfl (k res h p l e s m args below meth c D cA AD A X H locs ls hP hS hl)
theorem tz_dup2 {x : Int32} {a : Nat} (d : decode M.1 pc = .ok (.dup2, 1)) (k : Tz M inj r (pc + 1) lv (.int x :: .ref a :: .int x :: .ref a :: st) w) : Tz M inj r pc lv (.int x :: .ref a :: st) w := fun res h p l e s m args below meth c D cA AD A X H locs ls hP hS hl => lv_dup2_11 X.1 X.2.1 d rfl rfl (k res h p l e s m args below meth c D cA AD A X H locs ls hP hS hl)
theorem tz_popi {x : Int32} (d : decode M.1 pc = .ok (.pop, 1)) (k : Tz M inj r (pc + 1) lv st w) : Tz M inj r pc lv (.int x :: st) w := fun res h p l e s m args below meth c D cA AD A X H locs ls hP hS hl => lv_pop X.1 X.2.1 d rfl (k res h p l e s m args below meth c D cA AD A X H locs ls hP hS hl)
theorem tz_goto {off : Int} (tgt : Nat) (d : decode M.1 pc = .ok (.goto off, 3)) (ht : (pc : Int) + off = (tgt : Int)) (k : Tz M inj r tgt lv st w) : Tz M inj r pc lv st w := fun res h p l e s m args below meth c D cA AD A X H locs ls hP hS hl => lv_goto X.1 X.2.1 d ht (k res h p l e s m args below meth c D cA AD A X H locs ls hP hS hl)
theorem tz_null (d : decode M.1 pc = .ok (.aconst_null, 1)) (k : Tz M inj r (pc + 1) lv (.null :: st) w) : Tz M inj r pc lv st w := fun res h p l e s m args below meth c D cA AD A X H locs ls hP hS hl => lv_null X.1 X.2.1 d (k res h p l e s m args below meth c D cA AD A X H locs ls hP hS hl)
theorem tz_ifnull {x : Nat} {off : Int} (d : decode M.1 pc = .ok (.ifnull off, 3)) (k : Tz M inj r (pc + 3) lv st w) : Tz M inj r pc lv (.ref x :: st) w := fun res h p l e s m args below meth c D cA AD A X H locs ls hP hS hl => lv_ifnull X.1 X.2.1 d (k res h p l e s m args below meth c D cA AD A X H locs ls hP hS hl)
theorem tz_ifnullN {off : Int} (tgt : Nat) (d : decode M.1 pc = .ok (.ifnull off, 3)) (ht : (pc : Int) + off = (tgt : Int)) (k : Tz M inj r tgt lv st w) : Tz M inj r pc lv (.null :: st) w := fun res h p l e s m args below meth c D cA AD A X H locs ls hP hS hl => lv_ifnullN X.1 X.2.1 d ht (k res h p l e s m args below meth c D cA AD A X H locs ls hP hS hl)
theorem tz_ifnonnull {x : Nat} {off : Int} (tgt : Nat) (d : decode M.1 pc = .ok (.ifnonnull off, 3)) (ht : (pc : Int) + off = (tgt : Int)) (k : Tz M inj r tgt lv st w) : Tz M inj r pc lv (.ref x :: st) w := fun res h p l e s m args below meth c D cA AD A X H locs ls hP hS hl => lv_ifnonnull X.1 X.2.1 d ht (k res h p l e s m args below meth c D cA AD A X H locs ls hP hS hl)
theorem tz_ifnonnullN {off : Int} (d : decode M.1 pc = .ok (.ifnonnull off, 3)) (k : Tz M inj r (pc + 3) lv st w) : Tz M inj r pc lv (.null :: st) w := fun res h p l e s m args below meth c D cA AD A X H locs ls hP hS hl => lv_ifnonnullN X.1 X.2.1 d (k res h p l e s m args below meth c D cA AD A X H locs ls hP hS hl)
theorem tz_icmp_eq {x y : Int32} {off : Int} {r1 r2 : Option (ρ × zW)} [dc : Decidable (x = y)] (tgt : Nat) (d : decode M.1 pc = .ok (.if_icmp .eq off, 3)) (ht : (pc : Int) + off = (tgt : Int)) (k1 : x = y → Tz M inj r1 tgt lv st w) (k2 : ¬ (x = y) → Tz M inj r2 (pc + 3) lv st w) : Tz M inj (if x = y then r1 else r2) pc lv (.int y :: .int x :: st) w := fun res h p l e s m args below meth c D cA AD A X H locs ls hP hS hl => lv_icmp_eq X.1 X.2.1 d ht (fun q => k1 q res (by rw [← h]; exact (if_pos q).symm) p l e s m args below meth c D cA AD A X H locs ls hP hS hl) (fun q => k2 q res (by rw [← h]; exact (if_neg q).symm) p l e s m args below meth c D cA AD A X H locs ls hP hS hl)
theorem tz_icmp_ne {x y : Int32} {off : Int} {r1 r2 : Option (ρ × zW)} [dc : Decidable (¬ x = y)] (tgt : Nat) (d : decode M.1 pc = .ok (.if_icmp .ne off, 3)) (ht : (pc : Int) + off = (tgt : Int)) (k1 : ¬ x = y → Tz M inj r1 tgt lv st w) (k2 : ¬ (¬ x = y) → Tz M inj r2 (pc + 3) lv st w) : Tz M inj (if ¬ x = y then r1 else r2) pc lv (.int y :: .int x :: st) w := fun res h p l e s m args below meth c D cA AD A X H locs ls hP hS hl => lv_icmp_ne X.1 X.2.1 d ht (fun q => k1 q res (by rw [← h]; exact (if_pos q).symm) p l e s m args below meth c D cA AD A X H locs ls hP hS hl) (fun q => k2 (fun z => z q) res (by rw [← h]; exact (if_neg (fun z => z q)).symm) p l e s m args below meth c D cA AD A X H locs ls hP hS hl)
theorem tz_icmp_lt {x y : Int32} {off : Int} {r1 r2 : Option (ρ × zW)} [dc : Decidable (x < y)] (tgt : Nat) (d : decode M.1 pc = .ok (.if_icmp .lt off, 3)) (ht : (pc : Int) + off = (tgt : Int)) (k1 : x < y → Tz M inj r1 tgt lv st w) (k2 : ¬ (x < y) → Tz M inj r2 (pc + 3) lv st w) : Tz M inj (if x < y then r1 else r2) pc lv (.int y :: .int x :: st) w := fun res h p l e s m args below meth c D cA AD A X H locs ls hP hS hl => lv_icmp_lt X.1 X.2.1 d ht (fun q => k1 q res (by rw [← h]; exact (if_pos q).symm) p l e s m args below meth c D cA AD A X H locs ls hP hS hl) (fun q => k2 q res (by rw [← h]; exact (if_neg q).symm) p l e s m args below meth c D cA AD A X H locs ls hP hS hl)
theorem tz_icmp_ge {x y : Int32} {off : Int} {r1 r2 : Option (ρ × zW)} [dc : Decidable (y ≤ x)] (tgt : Nat) (d : decode M.1 pc = .ok (.if_icmp .ge off, 3)) (ht : (pc : Int) + off = (tgt : Int)) (k1 : y ≤ x → Tz M inj r1 tgt lv st w) (k2 : ¬ (y ≤ x) → Tz M inj r2 (pc + 3) lv st w) : Tz M inj (if y ≤ x then r1 else r2) pc lv (.int y :: .int x :: st) w := fun res h p l e s m args below meth c D cA AD A X H locs ls hP hS hl => lv_icmp_ge X.1 X.2.1 d ht (fun q => k1 q res (by rw [← h]; exact (if_pos q).symm) p l e s m args below meth c D cA AD A X H locs ls hP hS hl) (fun q => k2 q res (by rw [← h]; exact (if_neg q).symm) p l e s m args below meth c D cA AD A X H locs ls hP hS hl)
theorem tz_icmp_gt {x y : Int32} {off : Int} {r1 r2 : Option (ρ × zW)} [dc : Decidable (y < x)] (tgt : Nat) (d : decode M.1 pc = .ok (.if_icmp .gt off, 3)) (ht : (pc : Int) + off = (tgt : Int)) (k1 : y < x → Tz M inj r1 tgt lv st w) (k2 : ¬ (y < x) → Tz M inj r2 (pc + 3) lv st w) : Tz M inj (if y < x then r1 else r2) pc lv (.int y :: .int x :: st) w := fun res h p l e s m args below meth c D cA AD A X H locs ls hP hS hl => lv_icmp_gt X.1 X.2.1 d ht (fun q => k1 q res (by rw [← h]; exact (if_pos q).symm) p l e s m args below meth c D cA AD A X H locs ls hP hS hl) (fun q => k2 q res (by rw [← h]; exact (if_neg q).symm) p l e s m args below meth c D cA AD A X H locs ls hP hS hl)
theorem tz_icmp_le {x y : Int32} {off : Int} {r1 r2 : Option (ρ × zW)} [dc : Decidable (x ≤ y)] (tgt : Nat) (d : decode M.1 pc = .ok (.if_icmp .le off, 3)) (ht : (pc : Int) + off = (tgt : Int)) (k1 : x ≤ y → Tz M inj r1 tgt lv st w) (k2 : ¬ (x ≤ y) → Tz M inj r2 (pc + 3) lv st w) : Tz M inj (if x ≤ y then r1 else r2) pc lv (.int y :: .int x :: st) w := fun res h p l e s m args below meth c D cA AD A X H locs ls hP hS hl => lv_icmp_le X.1 X.2.1 d ht (fun q => k1 q res (by rw [← h]; exact (if_pos q).symm) p l e s m args below meth c D cA AD A X H locs ls hP hS hl) (fun q => k2 q res (by rw [← h]; exact (if_neg q).symm) p l e s m args below meth c D cA AD A X H locs ls hP hS hl)
theorem tz_if_eq {x : Int32} {off : Int} {r1 r2 : Option (ρ × zW)} [dc : Decidable (x = 0)] (tgt : Nat) (d : decode M.1 pc = .ok (.ifCond .eq off, 3)) (ht : (pc : Int) + off = (tgt : Int)) (k1 : x = 0 → Tz M inj r1 tgt lv st w) (k2 : ¬ (x = 0) → Tz M inj r2 (pc + 3) lv st w) : Tz M inj (if x = 0 then r1 else r2) pc lv (.int x :: st) w := fun res h p l e s m args below meth c D cA AD A X H locs ls hP hS hl => lv_if_eq X.1 X.2.1 d ht (fun q => k1 q res (by rw [← h]; exact (if_pos q).symm) p l e s m args below meth c D cA AD A X H locs ls hP hS hl) (fun q => k2 q res (by rw [← h]; exact (if_neg q).symm) p l e s m args below meth c D cA AD A X H locs ls hP hS hl)
theorem tz_if_ne {x : Int32} {off : Int} {r1 r2 : Option (ρ × zW)} [dc : Decidable (¬ x = 0)] (tgt : Nat) (d : decode M.1 pc = .ok (.ifCond .ne off, 3)) (ht : (pc : Int) + off = (tgt : Int)) (k1 : ¬ x = 0 → Tz M inj r1 tgt lv st w) (k2 : ¬ (¬ x = 0) → Tz M inj r2 (pc + 3) lv st w) : Tz M inj (if ¬ x = 0 then r1 else r2) pc lv (.int x :: st) w := fun res h p l e s m args below meth c D cA AD A X H locs ls hP hS hl => lv_if_ne X.1 X.2.1 d ht (fun q => k1 q res (by rw [← h]; exact (if_pos q).symm) p l e s m args below meth c D cA AD A X H locs ls hP hS hl) (fun q => k2 (fun z => z q) res (by rw [← h]; exact (if_neg (fun z => z q)).symm) p l e s m args below meth c D cA AD A X H locs ls hP hS hl)
theorem tz_if_lt {x : Int32} {off : Int} {r1 r2 : Option (ρ × zW)} [dc : Decidable (x < 0)] (tgt : Nat) (d : decode M.1 pc = .ok (.ifCond .lt off, 3)) (ht : (pc : Int) + off = (tgt : Int)) (k1 : x < 0 → Tz M inj r1 tgt lv st w) (k2 : ¬ (x < 0) → Tz M inj r2 (pc + 3) lv st w) : Tz M inj (if x < 0 then r1 else r2) pc lv (.int x :: st) w := fun res h p l e s m args below meth c D cA AD A X H locs ls hP hS hl => lv_if_lt X.1 X.2.1 d ht (fun q => k1 q res (by rw [← h]; exact (if_pos q).symm) p l e s m args below meth c D cA AD A X H locs ls hP hS hl) (fun q => k2 q res (by rw [← h]; exact (if_neg q).symm) p l e s m args below meth c D cA AD A X H locs ls hP hS hl)
theorem tz_if_ge {x : Int32} {off : Int} {r1 r2 : Option (ρ × zW)} [dc : Decidable (0 ≤ x)] (tgt : Nat) (d : decode M.1 pc = .ok (.ifCond .ge off, 3)) (ht : (pc : Int) + off = (tgt : Int)) (k1 : 0 ≤ x → Tz M inj r1 tgt lv st w) (k2 : ¬ (0 ≤ x) → Tz M inj r2 (pc + 3) lv st w) : Tz M inj (if 0 ≤ x then r1 else r2) pc lv (.int x :: st) w := fun res h p l e s m args below meth c D cA AD A X H locs ls hP hS hl => lv_if_ge X.1 X.2.1 d ht (fun q => k1 q res (by rw [← h]; exact (if_pos q).symm) p l e s m args below meth c D cA AD A X H locs ls hP hS hl) (fun q => k2 q res (by rw [← h]; exact (if_neg q).symm) p l e s m args below meth c D cA AD A X H locs ls hP hS hl)
theorem tz_if_gt {x : Int32} {off : Int} {r1 r2 : Option (ρ × zW)} [dc : Decidable (0 < x)] (tgt : Nat) (d : decode M.1 pc = .ok (.ifCond .gt off, 3)) (ht : (pc : Int) + off = (tgt : Int)) (k1 : 0 < x → Tz M inj r1 tgt lv st w) (k2 : ¬ (0 < x) → Tz M inj r2 (pc + 3) lv st w) : Tz M inj (if 0 < x then r1 else r2) pc lv (.int x :: st) w := fun res h p l e s m args below meth c D cA AD A X H locs ls hP hS hl => lv_if_gt X.1 X.2.1 d ht (fun q => k1 q res (by rw [← h]; exact (if_pos q).symm) p l e s m args below meth c D cA AD A X H locs ls hP hS hl) (fun q => k2 q res (by rw [← h]; exact (if_neg q).symm) p l e s m args below meth c D cA AD A X H locs ls hP hS hl)
theorem tz_if_le {x : Int32} {off : Int} {r1 r2 : Option (ρ × zW)} [dc : Decidable (x ≤ 0)] (tgt : Nat) (d : decode M.1 pc = .ok (.ifCond .le off, 3)) (ht : (pc : Int) + off = (tgt : Int)) (k1 : x ≤ 0 → Tz M inj r1 tgt lv st w) (k2 : ¬ (x ≤ 0) → Tz M inj r2 (pc + 3) lv st w) : Tz M inj (if x ≤ 0 then r1 else r2) pc lv (.int x :: st) w := fun res h p l e s m args below meth c D cA AD A X H locs ls hP hS hl => lv_if_le X.1 X.2.1 d ht (fun q => k1 q res (by rw [← h]; exact (if_pos q).symm) p l e s m args below meth c D cA AD A X H locs ls hP hS hl) (fun q => k2 q res (by rw [← h]; exact (if_neg q).symm) p l e s m args below meth c D cA AD A X H locs ls hP hS hl)
end TZ
end
section
-- a class as the rules want it
def zK (c : Nat) (q : vw_C) : Prop := vwCl[c]? = some q ∧ (∀ w ∈ u_ws q.1 q.2.1 q.2.2, w ∈ zTb) ∧ q.2.2 = zN c ∧ (∀ k, k < q.2.2 → parseFieldDescriptor (q.2.1 k).2.2.1 = some (zty c k)) ∧ (∀ a, a < q.2.2 → ∀ b, b < q.2.2 → a ≠ b → (q.2.1 a).2.1 ≠ (q.2.1 b).2.1)

theorem kz0 : zK 0 (RX0, TX0, 4) := ⟨rfl, by decide +kernel, rfl, tyX0_ok, nmX0⟩
theorem kz1 : zK 1 (RX1, TX1, 2) := ⟨rfl, by decide +kernel, rfl, tyX1_ok, nmX1⟩
theorem kz2 : zK 2 (RX2, TX2, 5) := ⟨rfl, by decide +kernel, rfl, tyX2_ok, nmX2⟩
theorem kz3 : zK 3 (RX3, TX3, 3) := ⟨rfl, by decide +kernel, rfl, tyX3_ok, nmX3⟩
theorem kz4 : zK 4 (RX4, TX4, 6) := ⟨rfl, by decide +kernel, rfl, tyX4_ok, nmX4⟩
theorem kz5 : zK 5 (RX5, TX5, 2) := ⟨rfl, by decide +kernel, rfl, tyX5_ok, nmX5⟩
theorem kz6 : zK 6 (RX6, TX6, 4) := ⟨rfl, by decide +kernel, rfl, tyX6_ok, nmX6⟩
theorem kz7 : zK 7 (RX7, TX7, 11) := ⟨rfl, by decide +kernel, rfl, tyX7_ok, nmX7⟩
theorem kz8 : zK 8 (RX8, TX8, 32) := ⟨rfl, by decide +kernel, rfl, tyX8_ok, nmX8⟩
def oc {β : Type} (o : Option Nat) (a : β) (f : Nat → β) : β := match o with
  | none => a
  | some x => f x
def zFU : Nat := 18446744073709551616
theorem zd {cc : ByteArray} {L : List (Nat × Instr × Nat)} (h : ∀ q ∈ L, decode cc q.1 = .ok (q.2.1, q.2.2)) (i : Nat) {pc : Nat} {ins : Instr} {len : Nat} (e : L[i]? = some (pc, ins, len)) : decode cc pc = .ok (ins, len) := h (pc, ins, len) (List.mem_of_getElem? e)
theorem zref_ne {w : zW} {k j : Nat} (h : k ≠ 66) : zref w k j = zlay k j := by unfold zref; rw [if_neg h]
theorem zR_or (w : zW) (j : Nat) : zR w j = 67 ∨ zR w j = 68 ∨ zR w j = 69 ∨ zR w j = 70 := by unfold zR; omega
theorem zR_a (w : zW) (j : Nat) : za 0 (zR w j) ∧ zlen (zR w j) = 65 := by
  rcases zR_or w j with h | h | h | h <;> rw [h] <;> (unfold za; decide)
theorem zfin (P : Nat → Prop) [DecidablePred P] (h : ∀ k, k < 93 → P k) {k : Nat} (hk : k < 93) : P k := h k hk
theorem zf1_0 {w : zW} {h : Nat} (hh : zc 1 h) : zref w h 0 = h + 1 ∧ zc 2 (h + 1) := by
  have e : ∀ h, h < 93 → zsh h = (4, 0) → h ≠ 66 ∧ zlay h 0 = h + 1 ∧ h + 1 < 93 ∧ zsh (h + 1) = (5, 0) := by decide +kernel
  obtain ⟨a, b, c, d⟩ := e h hh.1 hh.2
  exact ⟨(zref_ne a).trans b, c, d⟩
theorem zf1_1 {w : zW} {h : Nat} (hh : zc 1 h) : zref w h 1 = h + 6 ∧ zc 2 (h + 6) := by
  have e : ∀ h, h < 93 → zsh h = (4, 0) → h ≠ 66 ∧ zlay h 1 = h + 6 ∧ h + 6 < 93 ∧ zsh (h + 6) = (5, 0) := by decide +kernel
  obtain ⟨a, b, c, d⟩ := e h hh.1 hh.2
  exact ⟨(zref_ne a).trans b, c, d⟩
theorem zf2_1 {w : zW} {h : Nat} (hh : zc 2 h) : zref w h 1 = h + 1 ∧ za 0 (h + 1) ∧ zlen (h + 1) = 64 := by
  have e : ∀ h, h < 93 → zsh h = (5, 0) → h ≠ 66 ∧ zlay h 1 = h + 1 ∧ h + 1 < 93 ∧ zsh (h + 1) = (0, 64) := by decide +kernel
  obtain ⟨a, b, c, d⟩ := e h hh.1 hh.2
  have d2 : zlen (h + 1) = 64 := by unfold zlen; rw [d]
  exact ⟨(zref_ne a).trans b, ⟨c, by rw [d2]; exact d⟩, d2⟩
theorem zf2_2 {w : zW} {h : Nat} (hh : zc 2 h) : zref w h 2 = h + 2 ∧ za 1 (h + 2) ∧ zlen (h + 2) = 64 := by
  have e : ∀ h, h < 93 → zsh h = (5, 0) → h ≠ 66 ∧ zlay h 2 = h + 2 ∧ h + 2 < 93 ∧ zsh (h + 2) = (1, 64) := by decide +kernel
  obtain ⟨a, b, c, d⟩ := e h hh.1 hh.2
  have d2 : zlen (h + 2) = 64 := by unfold zlen; rw [d]
  exact ⟨(zref_ne a).trans b, ⟨c, by rw [d2]; exact d⟩, d2⟩
theorem zf2_3 {w : zW} {h : Nat} (hh : zc 2 h) : zref w h 3 = h + 3 ∧ za 1 (h + 3) ∧ zlen (h + 3) = 64 := by
  have e : ∀ h, h < 93 → zsh h = (5, 0) → h ≠ 66 ∧ zlay h 3 = h + 3 ∧ h + 3 < 93 ∧ zsh (h + 3) = (1, 64) := by decide +kernel
  obtain ⟨a, b, c, d⟩ := e h hh.1 hh.2
  have d2 : zlen (h + 3) = 64 := by unfold zlen; rw [d]
  exact ⟨(zref_ne a).trans b, ⟨c, by rw [d2]; exact d⟩, d2⟩
theorem zf2_4 {w : zW} {h : Nat} (hh : zc 2 h) : zref w h 4 = h + 4 ∧ za 0 (h + 4) ∧ zlen (h + 4) = 64 := by
  have e : ∀ h, h < 93 → zsh h = (5, 0) → h ≠ 66 ∧ zlay h 4 = h + 4 ∧ h + 4 < 93 ∧ zsh (h + 4) = (0, 64) := by decide +kernel
  obtain ⟨a, b, c, d⟩ := e h hh.1 hh.2
  have d2 : zlen (h + 4) = 64 := by unfold zlen; rw [d]
  exact ⟨(zref_ne a).trans b, ⟨c, by rw [d2]; exact d⟩, d2⟩
theorem zf3_2 {w : zW} {h : Nat} (hh : zc 3 h) : zref w h 2 = h + 1 ∧ za 0 (h + 1) ∧ zlen (h + 1) = 25 := by
  have e : ∀ h, h < 93 → zsh h = (6, 0) → h ≠ 66 ∧ zlay h 2 = h + 1 ∧ h + 1 < 93 ∧ zsh (h + 1) = (0, 25) := by decide +kernel
  obtain ⟨a, b, c, d⟩ := e h hh.1 hh.2
  have d2 : zlen (h + 1) = 25 := by unfold zlen; rw [d]
  exact ⟨(zref_ne a).trans b, ⟨c, by rw [d2]; exact d⟩, d2⟩
theorem zs_0 : zc 7 0 := by unfold zc; decide
theorem zs_1 : zc 0 1 := by unfold zc; decide
theorem zs_2 : zc 3 2 := by unfold zc; decide
theorem zs_3 : za 0 3 ∧ zlen 3 = 25 := by unfold za; decide
theorem zs_4 : zc 6 4 := by unfold zc; decide
theorem zs_5 : za 0 5 ∧ zlen 5 = 64 := by unfold za; decide
theorem zs_6 : za 2 6 ∧ zlen 6 = 4 := by unfold za; decide
theorem zs_7 : zc 1 7 := by unfold zc; decide
theorem zs_8 : zc 2 8 := by unfold zc; decide
theorem zs_9 : za 0 9 ∧ zlen 9 = 64 := by unfold za; decide
theorem zs_10 : za 1 10 ∧ zlen 10 = 64 := by unfold za; decide
theorem zs_11 : za 1 11 ∧ zlen 11 = 64 := by unfold za; decide
theorem zs_12 : za 0 12 ∧ zlen 12 = 64 := by unfold za; decide
theorem zs_13 : zc 2 13 := by unfold zc; decide
theorem zs_14 : za 0 14 ∧ zlen 14 = 64 := by unfold za; decide
theorem zs_15 : za 1 15 ∧ zlen 15 = 64 := by unfold za; decide
theorem zs_16 : za 1 16 ∧ zlen 16 = 64 := by unfold za; decide
theorem zs_17 : za 0 17 ∧ zlen 17 = 64 := by unfold za; decide
theorem zs_18 : zc 1 18 := by unfold zc; decide
theorem zs_19 : zc 2 19 := by unfold zc; decide
theorem zs_20 : za 0 20 ∧ zlen 20 = 64 := by unfold za; decide
theorem zs_21 : za 1 21 ∧ zlen 21 = 64 := by unfold za; decide
theorem zs_22 : za 1 22 ∧ zlen 22 = 64 := by unfold za; decide
theorem zs_23 : za 0 23 ∧ zlen 23 = 64 := by unfold za; decide
theorem zs_24 : zc 2 24 := by unfold zc; decide
theorem zs_25 : za 0 25 ∧ zlen 25 = 64 := by unfold za; decide
theorem zs_26 : za 1 26 ∧ zlen 26 = 64 := by unfold za; decide
theorem zs_27 : za 1 27 ∧ zlen 27 = 64 := by unfold za; decide
theorem zs_28 : za 0 28 ∧ zlen 28 = 64 := by unfold za; decide
theorem zs_29 : zc 1 29 := by unfold zc; decide
theorem zs_30 : zc 2 30 := by unfold zc; decide
theorem zs_31 : za 0 31 ∧ zlen 31 = 64 := by unfold za; decide
theorem zs_32 : za 1 32 ∧ zlen 32 = 64 := by unfold za; decide
theorem zs_33 : za 1 33 ∧ zlen 33 = 64 := by unfold za; decide
theorem zs_34 : za 0 34 ∧ zlen 34 = 64 := by unfold za; decide
theorem zs_35 : zc 2 35 := by unfold zc; decide
theorem zs_36 : za 0 36 ∧ zlen 36 = 64 := by unfold za; decide
theorem zs_37 : za 1 37 ∧ zlen 37 = 64 := by unfold za; decide
theorem zs_38 : za 1 38 ∧ zlen 38 = 64 := by unfold za; decide
theorem zs_39 : za 0 39 ∧ zlen 39 = 64 := by unfold za; decide
theorem zs_40 : zc 1 40 := by unfold zc; decide
theorem zs_41 : zc 2 41 := by unfold zc; decide
theorem zs_42 : za 0 42 ∧ zlen 42 = 64 := by unfold za; decide
theorem zs_43 : za 1 43 ∧ zlen 43 = 64 := by unfold za; decide
theorem zs_44 : za 1 44 ∧ zlen 44 = 64 := by unfold za; decide
theorem zs_45 : za 0 45 ∧ zlen 45 = 64 := by unfold za; decide
theorem zs_46 : zc 2 46 := by unfold zc; decide
theorem zs_47 : za 0 47 ∧ zlen 47 = 64 := by unfold za; decide
theorem zs_48 : za 1 48 ∧ zlen 48 = 64 := by unfold za; decide
theorem zs_49 : za 1 49 ∧ zlen 49 = 64 := by unfold za; decide
theorem zs_50 : za 0 50 ∧ zlen 50 = 64 := by unfold za; decide
theorem zs_51 : zc 1 51 := by unfold zc; decide
theorem zs_52 : zc 2 52 := by unfold zc; decide
theorem zs_53 : za 0 53 ∧ zlen 53 = 64 := by unfold za; decide
theorem zs_54 : za 1 54 ∧ zlen 54 = 64 := by unfold za; decide
theorem zs_55 : za 1 55 ∧ zlen 55 = 64 := by unfold za; decide
theorem zs_56 : za 0 56 ∧ zlen 56 = 64 := by unfold za; decide
theorem zs_57 : zc 2 57 := by unfold zc; decide
theorem zs_58 : za 0 58 ∧ zlen 58 = 64 := by unfold za; decide
theorem zs_59 : za 1 59 ∧ zlen 59 = 64 := by unfold za; decide
theorem zs_60 : za 1 60 ∧ zlen 60 = 64 := by unfold za; decide
theorem zs_61 : za 0 61 ∧ zlen 61 = 64 := by unfold za; decide
theorem zs_62 : zc 3 62 := by unfold zc; decide
theorem zs_63 : za 0 63 ∧ zlen 63 = 25 := by unfold za; decide
theorem zs_64 : zc 5 64 := by unfold zc; decide
theorem zs_65 : za 0 65 ∧ zlen 65 = 100 := by unfold za; decide
theorem zs_66 : zc 4 66 := by unfold zc; decide
theorem zs_67 : za 0 67 ∧ zlen 67 = 65 := by unfold za; decide
theorem zs_68 : za 0 68 ∧ zlen 68 = 65 := by unfold za; decide
theorem zs_69 : za 0 69 ∧ zlen 69 = 65 := by unfold za; decide
theorem zs_70 : za 0 70 ∧ zlen 70 = 65 := by unfold za; decide
theorem zs_71 : za 1 71 ∧ zlen 71 = 128 := by unfold za; decide
theorem zs_72 : za 1 72 ∧ zlen 72 = 129 := by unfold za; decide
theorem zs_73 : za 1 73 ∧ zlen 73 = 129 := by unfold za; decide
theorem zs_74 : zc 8 74 := by unfold zc; decide
theorem zs_75 : za 1 75 ∧ zlen 75 = 160 := by unfold za; decide
theorem zs_76 : za 0 76 ∧ zlen 76 = 100 := by unfold za; decide
theorem zs_77 : za 0 77 ∧ zlen 77 = 25 := by unfold za; decide
theorem zs_78 : za 0 78 ∧ zlen 78 = 4 := by unfold za; decide
theorem zs_79 : za 0 79 ∧ zlen 79 = 4 := by unfold za; decide
theorem zs_80 : za 0 80 ∧ zlen 80 = 4 := by unfold za; decide
theorem zs_81 : za 1 81 ∧ zlen 81 = 129 := by unfold za; decide
theorem zs_82 : za 1 82 ∧ zlen 82 = 129 := by unfold za; decide
theorem zs_83 : za 0 83 ∧ zlen 83 = 10 := by unfold za; decide
theorem zs_84 : za 0 84 ∧ zlen 84 = 640 := by unfold za; decide
theorem zs_85 : za 0 85 ∧ zlen 85 = 640 := by unfold za; decide
theorem zs_86 : za 1 86 ∧ zlen 86 = 640 := by unfold za; decide
theorem zs_87 : za 1 87 ∧ zlen 87 = 640 := by unfold za; decide
theorem zs_88 : za 0 88 ∧ zlen 88 = 65 := by unfold za; decide
theorem zs_89 : za 0 89 ∧ zlen 89 = 25 := by unfold za; decide
theorem zs_90 : za 0 90 ∧ zlen 90 = 100 := by unfold za; decide
theorem zs_91 : za 0 91 ∧ zlen 91 = 100 := by unfold za; decide
theorem zs_92 : za 1 92 ∧ zlen 92 = 1 := by unfold za; decide
section TF
variable {ρ : Type} {M : zM} {inj : ρ → Option Value} {r : Option (ρ × zW)} {pc : Nat} {lv : List (Nat × Value)} {st : List Value} {w : zW}
theorem tz_getI {q : vw_C} {ci k index : Nat} (j : Nat) (hk : zK ci q) (ho : zc ci k) (hj : j < q.2.2) (ht : zty ci j = .int) (hm : Cond.fieldLink M.2.1 index (q.2.1 j).1 (q.2.1 j).2.1 (q.2.1 j).2.2.1 ∈ zTb) (d : decode M.1 pc = .ok (.getfield index, 3)) (k1 : Tz M inj r (pc + 3) lv (.int (zI w k j) :: st) w) : Tz M inj r pc lv (.ref k :: st) w := fun res h p l e s m args below meth c D cA AD A X H locs ls hP hS hl => va_get (D := D) (ci := ci) X.1 X.2.1 (Ts := zTb) X.2.2.2.2.2.1 hk.2.1 X.2.2.2.2.1 X.2.2.2.2.2.2.2.1 hP k (zws_o ho) hk.1 j hj (X.2.2.2.2.2.1 _ hm) (fun _ z => z) (by rw [zfs_at (by rw [← hk.2.2.1]; exact hj), ht]; rfl) d (k1 res h p l e s m args below meth c D cA AD A X H locs ls hP hS hl)
theorem tz_getJ {q : vw_C} {ci k index : Nat} (j : Nat) (hk : zK ci q) (ho : zc ci k) (hj : j < q.2.2) (ht : zty ci j = .long) (hm : Cond.fieldLink M.2.1 index (q.2.1 j).1 (q.2.1 j).2.1 (q.2.1 j).2.2.1 ∈ zTb) (d : decode M.1 pc = .ok (.getfield index, 3)) (k1 : Tz M inj r (pc + 3) lv (.long (zL w k j) :: st) w) : Tz M inj r pc lv (.ref k :: st) w := fun res h p l e s m args below meth c D cA AD A X H locs ls hP hS hl => va_get (D := D) (ci := ci) X.1 X.2.1 (Ts := zTb) X.2.2.2.2.2.1 hk.2.1 X.2.2.2.2.1 X.2.2.2.2.2.2.2.1 hP k (zws_o ho) hk.1 j hj (X.2.2.2.2.2.1 _ hm) (fun _ z => z) (by rw [zfs_at (by rw [← hk.2.2.1]; exact hj), ht]; rfl) d (k1 res h p l e s m args below meth c D cA AD A X H locs ls hP hS hl)
theorem tz_getR {q : vw_C} {ci k index : Nat} (t j : Nat) (hk : zK ci q) (ho : zc ci k) (hj : j < q.2.2) (ht : ¬ zty ci j = .int ∧ ¬ zty ci j = .long) (hr : zref w k j = t) (hm : Cond.fieldLink M.2.1 index (q.2.1 j).1 (q.2.1 j).2.1 (q.2.1 j).2.2.1 ∈ zTb) (d : decode M.1 pc = .ok (.getfield index, 3)) (k1 : Tz M inj r (pc + 3) lv (.ref t :: st) w) : Tz M inj r pc lv (.ref k :: st) w := fun res h p l e s m args below meth c D cA AD A X H locs ls hP hS hl => va_get (D := D) (ci := ci) X.1 X.2.1 (Ts := zTb) X.2.2.2.2.2.1 hk.2.1 X.2.2.2.2.1 X.2.2.2.2.2.2.2.1 hP k (zws_o ho) hk.1 j hj (X.2.2.2.2.2.1 _ hm) (fun _ z => z) (v := .ref (AD t)) (by
  rw [zfs_at (by rw [← hk.2.2.1]; exact hj), ← hr]
  cases hz : zty ci j <;> first | rfl | exact absurd hz ht.1 | exact absurd hz ht.2) d (k1 res h p l e s m args below meth c D cA AD A X H locs ls hP hS hl)
theorem tz_putI {q : vw_C} {ci k index : Nat} {v : Int32} {F : zW → Option (ρ × zW)} (j : Nat) (hk : zK ci q) (ho : zc ci k) (hj : j < q.2.2) (ht : zty ci j = .int) (hfin : (q.2.1 j).2.2.2 = false) (hm : Cond.fieldLink M.2.1 index (q.2.1 j).1 (q.2.1 j).2.1 (q.2.1 j).2.2.1 ∈ zTb) (d : decode M.1 pc = .ok (.putfield index, 3)) (k1 : ∀ w1, Tz M inj (F w1) (pc + 3) lv st w1) : Tz M inj (lt (zsI w k j v) F) pc lv (.int v :: .ref k :: st) w := fun res h p l e s m args below meth c D cA AD A X H locs ls hP hS hl => va_put (D := D) (ci := ci) (ty := .int) X.1 X.2.1 (Ts := zTb) X.2.2.2.2.2.1 hk.2.1 (zty ci) hk.2.2.2.1 hk.2.2.2.2 X.2.2.2.2.1 X.2.2.2.2.2.2.2.1 hP (zD X.2.2.2.2.2.2.2.2.1) hS k (zws_o ho) hk.1 j hj (X.2.2.2.2.2.1 _ hm) (fun _ z => z) hfin (by rw [hk.2.2.2.1 j hj, ht]) rfl rfl (by rw [zfs_len, ← hk.2.2.1]; exact hj) d (fun H1 locs1 hP1 _ hS1 => k1 (zsI w k j v) res h p l e s m args below meth c D cA AD A X H1 locs1 ls (by
  have e9 := zst_I (cA := cA) (AD := AD) (w := w) (v := v) ho (by rw [← hk.2.2.1]; exact hj) ht
  exact e9 ▸ hP1) hS1 hl)
theorem tz_putJ {q : vw_C} {ci k index : Nat} {v : Int64} {F : zW → Option (ρ × zW)} (j : Nat) (hk : zK ci q) (ho : zc ci k) (hj : j < q.2.2) (ht : zty ci j = .long) (hfin : (q.2.1 j).2.2.2 = false) (hm : Cond.fieldLink M.2.1 index (q.2.1 j).1 (q.2.1 j).2.1 (q.2.1 j).2.2.1 ∈ zTb) (d : decode M.1 pc = .ok (.putfield index, 3)) (k1 : ∀ w1, Tz M inj (F w1) (pc + 3) lv st w1) : Tz M inj (lt (zsL w k j v) F) pc lv (.long v :: .ref k :: st) w := fun res h p l e s m args below meth c D cA AD A X H locs ls hP hS hl => va_put (D := D) (ci := ci) (ty := .long) X.1 X.2.1 (Ts := zTb) X.2.2.2.2.2.1 hk.2.1 (zty ci) hk.2.2.2.1 hk.2.2.2.2 X.2.2.2.2.1 X.2.2.2.2.2.2.2.1 hP (zD X.2.2.2.2.2.2.2.2.1) hS k (zws_o ho) hk.1 j hj (X.2.2.2.2.2.1 _ hm) (fun _ z => z) hfin (by rw [hk.2.2.2.1 j hj, ht]) rfl rfl (by rw [zfs_len, ← hk.2.2.1]; exact hj) d (fun H1 locs1 hP1 _ hS1 => k1 (zsL w k j v) res h p l e s m args below meth c D cA AD A X H1 locs1 ls (by
  have e9 := zst_L (cA := cA) (AD := AD) (w := w) (v := v) ho (by rw [← hk.2.2.1]; exact hj) ht
  exact e9 ▸ hP1) hS1 hl)
theorem tz_getIN {host : String} {q : vw_C} {ci k index : Nat} (j : Nat) (hk : zK ci q) (ho : zc ci k) (hj : j < q.2.2) (ht : zty ci j = .int) (hm : Cond.fieldLinkNest M.2.1 index (q.2.1 j).1 (q.2.1 j).2.1 (q.2.1 j).2.2.1 host ∈ lw_tbl) (d : decode M.1 pc = .ok (.getfield index, 3)) (k1 : Tz M inj r (pc + 3) lv (.int (zI w k j) :: st) w) : Tz M inj r pc lv (.ref k :: st) w := fun res h p l e s m args below meth c D cA AD A X H locs ls hP hS hl => va_getN (D := D) (ci := ci) X.1 X.2.1 (Ts := zTb) X.2.2.2.2.2.1 hk.2.1 X.2.2.2.2.1 X.2.2.2.2.2.2.2.1 hP k (zws_o ho) hk.1 j hj (va_Nw.use rfl (X.2.2.2.2.2.2.2.2.2.2.2 _ hm rfl)) (fun _ z => z) (by rw [zfs_at (by rw [← hk.2.2.1]; exact hj), ht]; rfl) d (k1 res h p l e s m args below meth c D cA AD A X H locs ls hP hS hl)
theorem tz_getJN {host : String} {q : vw_C} {ci k index : Nat} (j : Nat) (hk : zK ci q) (ho : zc ci k) (hj : j < q.2.2) (ht : zty ci j = .long) (hm : Cond.fieldLinkNest M.2.1 index (q.2.1 j).1 (q.2.1 j).2.1 (q.2.1 j).2.2.1 host ∈ lw_tbl) (d : decode M.1 pc = .ok (.getfield index, 3)) (k1 : Tz M inj r (pc + 3) lv (.long (zL w k j) :: st) w) : Tz M inj r pc lv (.ref k :: st) w := fun res h p l e s m args below meth c D cA AD A X H locs ls hP hS hl => va_getN (D := D) (ci := ci) X.1 X.2.1 (Ts := zTb) X.2.2.2.2.2.1 hk.2.1 X.2.2.2.2.1 X.2.2.2.2.2.2.2.1 hP k (zws_o ho) hk.1 j hj (va_Nw.use rfl (X.2.2.2.2.2.2.2.2.2.2.2 _ hm rfl)) (fun _ z => z) (by rw [zfs_at (by rw [← hk.2.2.1]; exact hj), ht]; rfl) d (k1 res h p l e s m args below meth c D cA AD A X H locs ls hP hS hl)
theorem tz_getRN {host : String} {q : vw_C} {ci k index : Nat} (t j : Nat) (hk : zK ci q) (ho : zc ci k) (hj : j < q.2.2) (ht : ¬ zty ci j = .int ∧ ¬ zty ci j = .long) (hr : zref w k j = t) (hm : Cond.fieldLinkNest M.2.1 index (q.2.1 j).1 (q.2.1 j).2.1 (q.2.1 j).2.2.1 host ∈ lw_tbl) (d : decode M.1 pc = .ok (.getfield index, 3)) (k1 : Tz M inj r (pc + 3) lv (.ref t :: st) w) : Tz M inj r pc lv (.ref k :: st) w := fun res h p l e s m args below meth c D cA AD A X H locs ls hP hS hl => va_getN (D := D) (ci := ci) X.1 X.2.1 (Ts := zTb) X.2.2.2.2.2.1 hk.2.1 X.2.2.2.2.1 X.2.2.2.2.2.2.2.1 hP k (zws_o ho) hk.1 j hj (va_Nw.use rfl (X.2.2.2.2.2.2.2.2.2.2.2 _ hm rfl)) (fun _ z => z) (v := .ref (AD t)) (by
  rw [zfs_at (by rw [← hk.2.2.1]; exact hj), ← hr]
  cases hz : zty ci j <;> first | rfl | exact absurd hz ht.1 | exact absurd hz ht.2) d (k1 res h p l e s m args below meth c D cA AD A X H locs ls hP hS hl)
theorem tz_putIN {host : String} {q : vw_C} {ci k index : Nat} {v : Int32} {F : zW → Option (ρ × zW)} (j : Nat) (hk : zK ci q) (ho : zc ci k) (hj : j < q.2.2) (ht : zty ci j = .int) (hfin : (q.2.1 j).2.2.2 = false) (hm : Cond.fieldLinkNest M.2.1 index (q.2.1 j).1 (q.2.1 j).2.1 (q.2.1 j).2.2.1 host ∈ lw_tbl) (d : decode M.1 pc = .ok (.putfield index, 3)) (k1 : ∀ w1, Tz M inj (F w1) (pc + 3) lv st w1) : Tz M inj (lt (zsI w k j v) F) pc lv (.int v :: .ref k :: st) w := fun res h p l e s m args below meth c D cA AD A X H locs ls hP hS hl => va_putN (D := D) (ci := ci) (ty := .int) X.1 X.2.1 (Ts := zTb) X.2.2.2.2.2.1 hk.2.1 (zty ci) hk.2.2.2.1 hk.2.2.2.2 X.2.2.2.2.1 X.2.2.2.2.2.2.2.1 hP (zD X.2.2.2.2.2.2.2.2.1) hS k (zws_o ho) hk.1 j hj (va_Nw.use rfl (X.2.2.2.2.2.2.2.2.2.2.2 _ hm rfl)) (fun _ z => z) hfin (by rw [hk.2.2.2.1 j hj, ht]) rfl rfl (by rw [zfs_len, ← hk.2.2.1]; exact hj) d (fun H1 locs1 hP1 _ hS1 => k1 (zsI w k j v) res h p l e s m args below meth c D cA AD A X H1 locs1 ls (by
  have e9 := zst_I (cA := cA) (AD := AD) (w := w) (v := v) ho (by rw [← hk.2.2.1]; exact hj) ht
  exact e9 ▸ hP1) hS1 hl)
theorem tz_putJN {host : String} {q : vw_C} {ci k index : Nat} {v : Int64} {F : zW → Option (ρ × zW)} (j : Nat) (hk : zK ci q) (ho : zc ci k) (hj : j < q.2.2) (ht : zty ci j = .long) (hfin : (q.2.1 j).2.2.2 = false) (hm : Cond.fieldLinkNest M.2.1 index (q.2.1 j).1 (q.2.1 j).2.1 (q.2.1 j).2.2.1 host ∈ lw_tbl) (d : decode M.1 pc = .ok (.putfield index, 3)) (k1 : ∀ w1, Tz M inj (F w1) (pc + 3) lv st w1) : Tz M inj (lt (zsL w k j v) F) pc lv (.long v :: .ref k :: st) w := fun res h p l e s m args below meth c D cA AD A X H locs ls hP hS hl => va_putN (D := D) (ci := ci) (ty := .long) X.1 X.2.1 (Ts := zTb) X.2.2.2.2.2.1 hk.2.1 (zty ci) hk.2.2.2.1 hk.2.2.2.2 X.2.2.2.2.1 X.2.2.2.2.2.2.2.1 hP (zD X.2.2.2.2.2.2.2.2.1) hS k (zws_o ho) hk.1 j hj (va_Nw.use rfl (X.2.2.2.2.2.2.2.2.2.2.2 _ hm rfl)) (fun _ z => z) hfin (by rw [hk.2.2.2.1 j hj, ht]) rfl rfl (by rw [zfs_len, ← hk.2.2.1]; exact hj) d (fun H1 locs1 hP1 _ hS1 => k1 (zsL w k j v) res h p l e s m args below meth c D cA AD A X H1 locs1 ls (by
  have e9 := zst_L (cA := cA) (AD := AD) (w := w) (v := v) ho (by rw [← hk.2.2.1]; exact hj) ht
  exact e9 ▸ hP1) hS1 hl)
theorem tz_putR {index t : Nat} {F : zW → Option (ρ × zW)} (j : Nat) (hj : j < 4) (hv : t = 67 ∨ t = 68 ∨ t = 69 ∨ t = 70) (hm : Cond.fieldLink M.2.1 index (TX4 j).1 (TX4 j).2.1 (TX4 j).2.2.1 ∈ zTb) (d : decode M.1 pc = .ok (.putfield index, 3)) (k1 : ∀ w1, Tz M inj (F w1) (pc + 3) lv st w1) : Tz M inj (lt (zsR w j t) F) pc lv (.ref t :: .ref 66 :: st) w := fun res h p l e s m args below meth c D cA AD A X H locs ls hP hS hl => va_put (D := D) (ci := 4) (ty := .array .int) X.1 X.2.1 (Ts := zTb) X.2.2.2.2.2.1 kz4.2.1 (zty 4) kz4.2.2.2.1 kz4.2.2.2.2 X.2.2.2.2.1 X.2.2.2.2.2.2.2.1 hP (zD X.2.2.2.2.2.2.2.2.1) hS 66 (zws_o (show zc 4 66 by unfold zc; decide)) kz4.1 j (Nat.lt_of_lt_of_le hj (by decide)) (X.2.2.2.2.2.1 _ hm) (fun _ z => z) (by rcases (show j = 0 ∨ j = 1 ∨ j = 2 ∨ j = 3 by omega) with rfl | rfl | rfl | rfl <;> rfl) (by rcases (show j = 0 ∨ j = 1 ∨ j = 2 ∨ j = 3 by omega) with rfl | rfl | rfl | rfl <;> decide +kernel) rfl rfl (by rw [zfs_len]; exact Nat.lt_of_lt_of_le hj (by decide)) d (fun H1 locs1 hP1 _ hS1 => k1 (zsR w j t) res h p l e s m args below meth c D cA AD A X H1 locs1 ls (by
  have e9 := zst_R (cA := cA) (AD := AD) (w := w) (t := t) hj hv
  exact e9 ▸ hP1) hS1 hl)
theorem zg_some {α : Type} {b : Bool} {x : Option α} {a : α} (h : zg b x = some a) : b = true ∧ x = some a := by
  cases b
  · cases h
  · exact ⟨rfl, h⟩
theorem tz_iald {k n : Nat} {i : Int32} (ha : za 0 k) (hn : zlen k = n) (d : decode M.1 pc = .ok (.iaload, 1)) (k1 : Tz M inj r (pc + 1) lv (.int (zI w k i.toNatClampNeg) :: st) w) : Tz M inj (zg (zin i n) r) pc lv (.int i :: .ref k :: st) w := fun res h p l e s m args below meth c D cA AD A X H locs ls hP hS hl => va_iald X.1 X.2.1 X.2.2.2.2.2.2.2.1 hP k 0 (zws_i ha) rfl (by rw [hn]; exact zin_vp (zg_some h).1) d (k1 res (zg_some h).2 p l e s m args below meth c D cA AD A X H locs ls hP hS hl)
theorem tz_lald {k n : Nat} {i : Int32} (ha : za 1 k) (hn : zlen k = n) (d : decode M.1 pc = .ok (.laload, 1)) (k1 : Tz M inj r (pc + 1) lv (.long (zL w k i.toNatClampNeg) :: st) w) : Tz M inj (zg (zin i n) r) pc lv (.int i :: .ref k :: st) w := fun res h p l e s m args below meth c D cA AD A X H locs ls hP hS hl => va_lald X.1 X.2.1 X.2.2.2.2.2.2.2.1 hP k 1 (zws_l ha) rfl (by rw [hn]; exact zin_vp (zg_some h).1) d (k1 res (zg_some h).2 p l e s m args below meth c D cA AD A X H locs ls hP hS hl)
def zline (i : Int32) : Nat := zlay 6 i.toNatClampNeg
theorem zline_c {i : Int32} (h : zin i 4 = true) : zc 1 (zline i) := by
  obtain ⟨j, hj, e⟩ := vp_in_of (zin_vp h) (by decide)
  subst e
  unfold zline
  rw [nI_clamp (by omega)]
  have e : ∀ j, j < 4 → zlay 6 j < 93 ∧ zsh (zlay 6 j) = (4, 0) := by decide
  exact e j hj
theorem tz_qald {i : Int32} (d : decode M.1 pc = .ok (.aaload, 1)) (k1 : zin i 4 = true → Tz M inj r (pc + 1) lv (.ref (zline i) :: st) w) : Tz M inj (zg (zin i 4) r) pc lv (.int i :: .ref 6 :: st) w := fun res h p l e s m args below meth c D cA AD A X H locs ls hP hS hl => va_aldq (C := "EndSums$Line") X.1 X.2.1 X.2.2.2.2.2.2.2.1 hP 6 2 (zws_q (show za 2 6 by unfold za; decide)) rfl (zin_vp (zg_some h).1) d (k1 (zg_some h).1 res (zg_some h).2 p l e s m args below meth c D cA AD A X H locs ls hP hS hl)
theorem tz_tald {i : Int32} (d : decode M.1 pc = .ok (.iaload, 1)) (k1 : Tz M inj r (pc + 1) lv (.int (zarr.getD i.toNatClampNeg 0) :: st) w) : Tz M inj (zg (zin i 24) r) pc lv (.int i :: .ref 93 :: st) w := fun res h p l e s m args below meth c D cA AD A X H locs ls hP hS hl => va_ti (N := 24) (f := fun j => .int (zarr.getD j 0)) X.1 X.2.1 X.2.2.2.2.2.2.2.2.2.2.1.2 hS (zin_vp (zg_some h).1) rfl d (k1 res (zg_some h).2 p l e s m args below meth c D cA AD A X H locs ls hP hS hl)
theorem tz_tlen (d : decode M.1 pc = .ok (.arraylength, 1)) (k1 : Tz M inj r (pc + 1) lv (.int 24 :: st) w) : Tz M inj r pc lv (.ref 93 :: st) w := fun res h p l e s m args below meth c D cA AD A X H locs ls hP hS hl => va_tlen (N := 24) X.1 X.2.1 X.2.2.2.2.2.2.2.2.2.2.1.2 hS (v := 24) (by decide) d (k1 res h p l e s m args below meth c D cA AD A X H locs ls hP hS hl)
theorem tz_gets {index : Nat} (hm : Cond.fieldLink M.2.1 index "EndSums$Joining" "ARRANGEMENTS" "[I" ∈ zTb) (d : decode M.1 pc = .ok (.getstatic index, 3)) (k1 : Tz M inj r (pc + 3) lv (.ref 93 :: st) w) : Tz M inj r pc lv st w := fun res h p l e s m args below meth c D cA AD A X H locs ls hP hS hl => va_gets X.1 X.2.1 X.2.2.2.2.2.2.2.2.2.2.1.1 hS X.2.2.2.2.1 (X.2.2.2.2.2.1 _ hm) (fun _ z => z) d (k1 res h p l e s m args below meth c D cA AD A X H locs ls hP hS hl)
theorem tz_iast {k n : Nat} {i : Int32} {v : Int32} {F : zW → Option (ρ × zW)} (ha : za 0 k) (hn : zlen k = n) (d : decode M.1 pc = .ok (.iastore, 1)) (k1 : ∀ w1, Tz M inj (F w1) (pc + 1) lv st w1) : Tz M inj (zg (zin i n) (lt (zsI w k i.toNatClampNeg v) F)) pc lv (.int v :: .int i :: .ref k :: st) w := fun res h p l e s m args below meth c D cA AD A X H locs ls hP hS hl => va_iast X.1 X.2.1 X.2.2.2.2.2.2.2.1 hP (zD X.2.2.2.2.2.2.2.2.1) hS k 0 (zws_i ha) rfl (by rw [hn]; exact zin_vp (zg_some h).1) d (fun H1 locs1 hP1 _ hS1 => k1 _ res (zg_some h).2 p l e s m args below meth c D cA AD A X H1 locs1 ls (by
  have e9 := zst_i (cA := cA) (AD := AD) (w := w) (j := i.toNatClampNeg) (v := v) ha
  exact e9 ▸ hP1) hS1 hl)
theorem tz_last {k n : Nat} {i : Int32} {v : Int64} {F : zW → Option (ρ × zW)} (ha : za 1 k) (hn : zlen k = n) (d : decode M.1 pc = .ok (.lastore, 1)) (k1 : ∀ w1, Tz M inj (F w1) (pc + 1) lv st w1) : Tz M inj (zg (zin i n) (lt (zsL w k i.toNatClampNeg v) F)) pc lv (.long v :: .int i :: .ref k :: st) w := fun res h p l e s m args below meth c D cA AD A X H locs ls hP hS hl => va_last X.1 X.2.1 X.2.2.2.2.2.2.2.1 hP (zD X.2.2.2.2.2.2.2.2.1) hS k 1 (zws_l ha) rfl (by rw [hn]; exact zin_vp (zg_some h).1) d (fun H1 locs1 hP1 _ hS1 => k1 _ res (zg_some h).2 p l e s m args below meth c D cA AD A X H1 locs1 ls (by
  have e9 := zst_l (cA := cA) (AD := AD) (w := w) (j := i.toNatClampNeg) (v := v) ha
  exact e9 ▸ hP1) hS1 hl)
theorem tz_alen0 {k n : Nat} (ha : za 0 k) (hn : zlen k = n) (d : decode M.1 pc = .ok (.arraylength, 1)) (k1 : Tz M inj r (pc + 1) lv (.int (nI n) :: st) w) : Tz M inj r pc lv (.ref k :: st) w := fun res h p l e s m args below meth c D cA AD A X H locs ls hP hS hl => va_alen X.1 X.2.1 X.2.2.2.2.2.2.2.1 hP k 0 (zws_i ha) rfl (v := nI n) (by rw [← hn]; rfl) d (k1 res h p l e s m args below meth c D cA AD A X H locs ls hP hS hl)
theorem tz_alen1 {k n : Nat} (ha : za 1 k) (hn : zlen k = n) (d : decode M.1 pc = .ok (.arraylength, 1)) (k1 : Tz M inj r (pc + 1) lv (.int (nI n) :: st) w) : Tz M inj r pc lv (.ref k :: st) w := fun res h p l e s m args below meth c D cA AD A X H locs ls hP hS hl => va_alen X.1 X.2.1 X.2.2.2.2.2.2.2.1 hP k 1 (zws_l ha) rfl (v := nI n) (by rw [← hn]; rfl) d (k1 res h p l e s m args below meth c D cA AD A X H locs ls hP hS hl)
theorem tz_alen2 {k n : Nat} (ha : za 2 k) (hn : zlen k = n) (d : decode M.1 pc = .ok (.arraylength, 1)) (k1 : Tz M inj r (pc + 1) lv (.int (nI n) :: st) w) : Tz M inj r pc lv (.ref k :: st) w := fun res h p l e s m args below meth c D cA AD A X H locs ls hP hS hl => va_alen X.1 X.2.1 X.2.2.2.2.2.2.2.1 hP k 2 (zws_q ha) rfl (v := nI n) (by rw [← hn]; rfl) d (k1 res h p l e s m args below meth c D cA AD A X H locs ls hP hS hl)
theorem tz_lti {x : Int32} {F : Int32 → Option (ρ × zW)} (k : ∀ v : Int32, Tz M inj (F v) pc lv (.int v :: st) w) : Tz M inj (lt x F) pc lv (.int x :: st) w := k x
theorem tz_ltl {x : Int64} {F : Int64 → Option (ρ × zW)} (k : ∀ v : Int64, Tz M inj (F v) pc lv (.long v :: st) w) : Tz M inj (lt x F) pc lv (.long x :: st) w := k x
theorem tz_jp {α : Type} {F : α} {G : α → Option (ρ × zW)} (P : α → Prop) (hF : P F) (hG : ∀ j, P j → Tz M inj (G j) pc lv st w) : Tz M inj (lt F G) pc lv st w := hG F hF
theorem tz_dia {α : Type} {x : α} {F : α → Option (ρ × zW)} (P : (α → Option (ρ × zW)) → Prop) (hF : P F) (hG : ∀ F, P F → Tz M inj (lt x F) pc lv st w) : Tz M inj (lt x F) pc lv st w := hG F hF
theorem tz_ite {α : Type} {c : Prop} [Decidable c] {a b : α} {F : α → Option (ρ × zW)} (k : Tz M inj (if c then lt a F else lt b F) pc lv st w) : Tz M inj (lt (if c then a else b) F) pc lv st w := by
  have e : lt (if c then a else b) F = if c then lt a F else lt b F := by split <;> rfl
  rw [e]; exact k
theorem tz_case {c : Prop} [Decidable c] {r1 r2 : Option (ρ × zW)} (k1 : c → Tz M inj r1 pc lv st w) (k2 : ¬ c → Tz M inj r2 pc lv st w) : Tz M inj (if c then r1 else r2) pc lv st w := by
  by_cases h : c
  · rw [if_pos h]; exact k1 h
  · rw [if_neg h]; exact k2 h
theorem tz_none : Tz M inj (none : Option (ρ × zW)) pc lv st w := fun _ h => by cases h
theorem tz_zg {b : Bool} (k : b = true → Tz M inj r pc lv st w) : Tz M inj (zg b r) pc lv st w := fun res h => k (zg_some h).1 res (zg_some h).2
theorem tz_eq {r2 : Option (ρ × zW)} (e : r = r2) (k : Tz M inj r2 pc lv st w) : Tz M inj r pc lv st w := e ▸ k
def zb (b : Bool) : Int32 := match b with
  | true => 1
  | false => 0
theorem zb_0 {b : Bool} : zb b = 0 ↔ ¬ b = true := by cases b <;> simp [zb]
def zvb (v : Int32) : Bool := decide (v &&& 1 = 1)
theorem zvb_and (v : Int32) : zb (zvb v) = v &&& 1 := by
  unfold zvb
  by_cases h : v &&& 1 = 1
  · rw [h]; rfl
  · rw [decide_eq_false h]
    have h2 : v &&& 1 = 0 ∨ v &&& 1 = 1 := by
      obtain ⟨j, hj, he⟩ := pk_andE v (m := 1) 1 (by decide)
      rcases (show j = 0 ∨ j = 1 by omega) with rfl | rfl
      · exact Or.inl he
      · exact Or.inr he
    rcases h2 with q | q
    · rw [q]; rfl
    · exact absurd q h
theorem tz_bif_eq {b : Bool} {off : Int} {r1 r2 : Option (ρ × zW)} (tgt : Nat) (d : decode M.1 pc = .ok (.ifCond .eq off, 3)) (ht : (pc : Int) + off = (tgt : Int)) (k1 : b = true → Tz M inj r1 (pc + 3) lv st w) (k2 : ¬ b = true → Tz M inj r2 tgt lv st w) : Tz M inj (if b = true then r1 else r2) pc lv (.int (zb b) :: st) w := by
  refine tz_eq (r2 := if zb b = 0 then r2 else r1) (by cases b <;> rfl) (tz_if_eq tgt d ht (fun q => k2 (zb_0.mp q)) (fun q => k1 (by cases b <;> first | rfl | exact absurd rfl q)))
theorem tz_bif_ne {b : Bool} {off : Int} {r1 r2 : Option (ρ × zW)} (tgt : Nat) (d : decode M.1 pc = .ok (.ifCond .ne off, 3)) (ht : (pc : Int) + off = (tgt : Int)) (k1 : b = true → Tz M inj r1 tgt lv st w) (k2 : ¬ b = true → Tz M inj r2 (pc + 3) lv st w) : Tz M inj (if b = true then r1 else r2) pc lv (.int (zb b) :: st) w := by
  refine tz_eq (r2 := if ¬ zb b = 0 then r1 else r2) (by cases b <;> rfl) (tz_if_ne tgt d ht (fun q => k1 (by cases b <;> first | rfl | exact absurd rfl q)) (fun q => k2 (fun z => q (fun z0 => zb_0.mp z0 z))))
theorem zlc_eq (x y : Int64) : (lg_cmp x y = 0) ↔ (x = y) := by
  unfold lg_cmp
  by_cases h1 : x > y
  · have h2 : ¬ x = y := fun z => by subst z; exact absurd h1 (Int64.lt_irrefl)
    have h3 : ¬ x < y := fun z => Int64.lt_asymm z h1
    have h4 : y ≤ x := Int64.le_of_lt h1
    have h5 : ¬ x ≤ y := fun z => Int64.not_lt.mpr z h1
    rw [if_pos h1]
    first | exact ⟨fun q => absurd q (by decide), fun q => absurd q h2⟩ | exact ⟨fun _ => h2, fun _ => by decide⟩ | exact ⟨fun q => absurd q (by decide), fun q => absurd q h3⟩ | exact ⟨fun _ => h4, fun _ => by decide⟩ | exact ⟨fun _ => h1, fun _ => by decide⟩ | exact ⟨fun q => absurd q (by decide), fun q => absurd q h5⟩
  · rw [if_neg h1]
    by_cases h2 : x = y
    · subst h2
      have h3 : ¬ x < x := Int64.lt_irrefl
      have h4 : x ≤ x := Int64.le_refl x
      rw [if_pos rfl]
      first | exact ⟨fun _ => rfl, fun _ => rfl⟩ | exact ⟨fun q => absurd rfl q, fun q => absurd rfl q⟩ | exact ⟨fun q => absurd q (by decide), fun q => absurd q h3⟩ | exact ⟨fun _ => h4, fun _ => by decide⟩
    · rw [if_neg h2]
      have h6 : x ≤ y := Int64.not_lt.mp h1
      have h3 : x < y := Int64.lt_of_le_of_ne h6 h2
      have h5 : ¬ y ≤ x := fun z => Int64.not_lt.mpr z h3
      first | exact ⟨fun q => absurd q (by decide), fun q => absurd q h2⟩ | exact ⟨fun _ => h2, fun _ => by decide⟩ | exact ⟨fun _ => h3, fun _ => by decide⟩ | exact ⟨fun q => absurd q (by decide), fun q => absurd q h5⟩ | exact ⟨fun q => absurd q (by decide), fun q => absurd q h1⟩ | exact ⟨fun _ => h6, fun _ => by decide⟩
theorem tz_lcmp_eq {x y : Int64} {off : Int} {r1 r2 : Option (ρ × zW)} [dc : Decidable (x = y)] (tgt : Nat) (d0 : decode M.1 pc = .ok (.lcmp, 1)) (d : decode M.1 (pc + 1) = .ok (.ifCond .eq off, 3)) (ht : ((pc + 1 : Nat) : Int) + off = (tgt : Int)) (k1 : x = y → Tz M inj r1 tgt lv st w) (k2 : ¬ (x = y) → Tz M inj r2 (pc + 4) lv st w) : Tz M inj (if x = y then r1 else r2) pc lv (.long y :: .long x :: st) w := by
  have e9 : Tz M inj (if x = y then r1 else r2) (pc + 1) lv (.int (lg_cmp x y) :: st) w := by
    refine tz_eq (r2 := if lg_cmp x y = 0 then r1 else r2) ?_ (tz_if_eq tgt d ht (fun q => k1 ((zlc_eq x y).mp q)) (fun q => k2 (fun z => q ((zlc_eq x y).mpr z))))
    by_cases q : x = y
    · rw [if_pos q, if_pos ((zlc_eq x y).mpr q)]
    · rw [if_neg q, if_neg (fun z => q ((zlc_eq x y).mp z))]
  exact fun res h p l e s m args below meth c D cA AD A X H locs ls hP hS hl => W.lcmp X.1 X.2.1 d0 (e9 res h p l e s m args below meth c D cA AD A X H locs ls hP hS hl)
theorem zlc_ne (x y : Int64) : (¬ lg_cmp x y = 0) ↔ (¬ x = y) := by
  unfold lg_cmp
  by_cases h1 : x > y
  · have h2 : ¬ x = y := fun z => by subst z; exact absurd h1 (Int64.lt_irrefl)
    have h3 : ¬ x < y := fun z => Int64.lt_asymm z h1
    have h4 : y ≤ x := Int64.le_of_lt h1
    have h5 : ¬ x ≤ y := fun z => Int64.not_lt.mpr z h1
    rw [if_pos h1]
    first | exact ⟨fun q => absurd q (by decide), fun q => absurd q h2⟩ | exact ⟨fun _ => h2, fun _ => by decide⟩ | exact ⟨fun q => absurd q (by decide), fun q => absurd q h3⟩ | exact ⟨fun _ => h4, fun _ => by decide⟩ | exact ⟨fun _ => h1, fun _ => by decide⟩ | exact ⟨fun q => absurd q (by decide), fun q => absurd q h5⟩
  · rw [if_neg h1]
    by_cases h2 : x = y
    · subst h2
      have h3 : ¬ x < x := Int64.lt_irrefl
      have h4 : x ≤ x := Int64.le_refl x
      rw [if_pos rfl]
      first | exact ⟨fun _ => rfl, fun _ => rfl⟩ | exact ⟨fun q => absurd rfl q, fun q => absurd rfl q⟩ | exact ⟨fun q => absurd q (by decide), fun q => absurd q h3⟩ | exact ⟨fun _ => h4, fun _ => by decide⟩
    · rw [if_neg h2]
      have h6 : x ≤ y := Int64.not_lt.mp h1
      have h3 : x < y := Int64.lt_of_le_of_ne h6 h2
      have h5 : ¬ y ≤ x := fun z => Int64.not_lt.mpr z h3
      first | exact ⟨fun q => absurd q (by decide), fun q => absurd q h2⟩ | exact ⟨fun _ => h2, fun _ => by decide⟩ | exact ⟨fun _ => h3, fun _ => by decide⟩ | exact ⟨fun q => absurd q (by decide), fun q => absurd q h5⟩ | exact ⟨fun q => absurd q (by decide), fun q => absurd q h1⟩ | exact ⟨fun _ => h6, fun _ => by decide⟩
theorem tz_lcmp_ne {x y : Int64} {off : Int} {r1 r2 : Option (ρ × zW)} [dc : Decidable (¬ x = y)] (tgt : Nat) (d0 : decode M.1 pc = .ok (.lcmp, 1)) (d : decode M.1 (pc + 1) = .ok (.ifCond .ne off, 3)) (ht : ((pc + 1 : Nat) : Int) + off = (tgt : Int)) (k1 : ¬ x = y → Tz M inj r1 tgt lv st w) (k2 : ¬ (¬ x = y) → Tz M inj r2 (pc + 4) lv st w) : Tz M inj (if ¬ x = y then r1 else r2) pc lv (.long y :: .long x :: st) w := by
  have e9 : Tz M inj (if ¬ x = y then r1 else r2) (pc + 1) lv (.int (lg_cmp x y) :: st) w := by
    refine tz_eq (r2 := if ¬ lg_cmp x y = 0 then r1 else r2) ?_ (tz_if_ne tgt d ht (fun q => k1 ((zlc_ne x y).mp q)) (fun q => k2 (fun z => q ((zlc_ne x y).mpr z))))
    by_cases q : ¬ x = y
    · rw [if_pos q, if_pos ((zlc_ne x y).mpr q)]
    · rw [if_neg q, if_neg (fun z => q ((zlc_ne x y).mp z))]
  exact fun res h p l e s m args below meth c D cA AD A X H locs ls hP hS hl => W.lcmp X.1 X.2.1 d0 (e9 res h p l e s m args below meth c D cA AD A X H locs ls hP hS hl)
theorem zlc_lt (x y : Int64) : (lg_cmp x y < 0) ↔ (x < y) := by
  unfold lg_cmp
  by_cases h1 : x > y
  · have h2 : ¬ x = y := fun z => by subst z; exact absurd h1 (Int64.lt_irrefl)
    have h3 : ¬ x < y := fun z => Int64.lt_asymm z h1
    have h4 : y ≤ x := Int64.le_of_lt h1
    have h5 : ¬ x ≤ y := fun z => Int64.not_lt.mpr z h1
    rw [if_pos h1]
    first | exact ⟨fun q => absurd q (by decide), fun q => absurd q h2⟩ | exact ⟨fun _ => h2, fun _ => by decide⟩ | exact ⟨fun q => absurd q (by decide), fun q => absurd q h3⟩ | exact ⟨fun _ => h4, fun _ => by decide⟩ | exact ⟨fun _ => h1, fun _ => by decide⟩ | exact ⟨fun q => absurd q (by decide), fun q => absurd q h5⟩
  · rw [if_neg h1]
    by_cases h2 : x = y
    · subst h2
      have h3 : ¬ x < x := Int64.lt_irrefl
      have h4 : x ≤ x := Int64.le_refl x
      rw [if_pos rfl]
      first | exact ⟨fun _ => rfl, fun _ => rfl⟩ | exact ⟨fun q => absurd rfl q, fun q => absurd rfl q⟩ | exact ⟨fun q => absurd q (by decide), fun q => absurd q h3⟩ | exact ⟨fun _ => h4, fun _ => by decide⟩
    · rw [if_neg h2]
      have h6 : x ≤ y := Int64.not_lt.mp h1
      have h3 : x < y := Int64.lt_of_le_of_ne h6 h2
      have h5 : ¬ y ≤ x := fun z => Int64.not_lt.mpr z h3
      first | exact ⟨fun q => absurd q (by decide), fun q => absurd q h2⟩ | exact ⟨fun _ => h2, fun _ => by decide⟩ | exact ⟨fun _ => h3, fun _ => by decide⟩ | exact ⟨fun q => absurd q (by decide), fun q => absurd q h5⟩ | exact ⟨fun q => absurd q (by decide), fun q => absurd q h1⟩ | exact ⟨fun _ => h6, fun _ => by decide⟩
theorem tz_lcmp_lt {x y : Int64} {off : Int} {r1 r2 : Option (ρ × zW)} [dc : Decidable (x < y)] (tgt : Nat) (d0 : decode M.1 pc = .ok (.lcmp, 1)) (d : decode M.1 (pc + 1) = .ok (.ifCond .lt off, 3)) (ht : ((pc + 1 : Nat) : Int) + off = (tgt : Int)) (k1 : x < y → Tz M inj r1 tgt lv st w) (k2 : ¬ (x < y) → Tz M inj r2 (pc + 4) lv st w) : Tz M inj (if x < y then r1 else r2) pc lv (.long y :: .long x :: st) w := by
  have e9 : Tz M inj (if x < y then r1 else r2) (pc + 1) lv (.int (lg_cmp x y) :: st) w := by
    refine tz_eq (r2 := if lg_cmp x y < 0 then r1 else r2) ?_ (tz_if_lt tgt d ht (fun q => k1 ((zlc_lt x y).mp q)) (fun q => k2 (fun z => q ((zlc_lt x y).mpr z))))
    by_cases q : x < y
    · rw [if_pos q, if_pos ((zlc_lt x y).mpr q)]
    · rw [if_neg q, if_neg (fun z => q ((zlc_lt x y).mp z))]
  exact fun res h p l e s m args below meth c D cA AD A X H locs ls hP hS hl => W.lcmp X.1 X.2.1 d0 (e9 res h p l e s m args below meth c D cA AD A X H locs ls hP hS hl)
theorem zlc_ge (x y : Int64) : (0 ≤ lg_cmp x y) ↔ (y ≤ x) := by
  unfold lg_cmp
  by_cases h1 : x > y
  · have h2 : ¬ x = y := fun z => by subst z; exact absurd h1 (Int64.lt_irrefl)
    have h3 : ¬ x < y := fun z => Int64.lt_asymm z h1
    have h4 : y ≤ x := Int64.le_of_lt h1
    have h5 : ¬ x ≤ y := fun z => Int64.not_lt.mpr z h1
    rw [if_pos h1]
    first | exact ⟨fun q => absurd q (by decide), fun q => absurd q h2⟩ | exact ⟨fun _ => h2, fun _ => by decide⟩ | exact ⟨fun q => absurd q (by decide), fun q => absurd q h3⟩ | exact ⟨fun _ => h4, fun _ => by decide⟩ | exact ⟨fun _ => h1, fun _ => by decide⟩ | exact ⟨fun q => absurd q (by decide), fun q => absurd q h5⟩
  · rw [if_neg h1]
    by_cases h2 : x = y
    · subst h2
      have h3 : ¬ x < x := Int64.lt_irrefl
      have h4 : x ≤ x := Int64.le_refl x
      rw [if_pos rfl]
      first | exact ⟨fun _ => rfl, fun _ => rfl⟩ | exact ⟨fun q => absurd rfl q, fun q => absurd rfl q⟩ | exact ⟨fun q => absurd q (by decide), fun q => absurd q h3⟩ | exact ⟨fun _ => h4, fun _ => by decide⟩
    · rw [if_neg h2]
      have h6 : x ≤ y := Int64.not_lt.mp h1
      have h3 : x < y := Int64.lt_of_le_of_ne h6 h2
      have h5 : ¬ y ≤ x := fun z => Int64.not_lt.mpr z h3
      first | exact ⟨fun q => absurd q (by decide), fun q => absurd q h2⟩ | exact ⟨fun _ => h2, fun _ => by decide⟩ | exact ⟨fun _ => h3, fun _ => by decide⟩ | exact ⟨fun q => absurd q (by decide), fun q => absurd q h5⟩ | exact ⟨fun q => absurd q (by decide), fun q => absurd q h1⟩ | exact ⟨fun _ => h6, fun _ => by decide⟩
theorem tz_lcmp_ge {x y : Int64} {off : Int} {r1 r2 : Option (ρ × zW)} [dc : Decidable (y ≤ x)] (tgt : Nat) (d0 : decode M.1 pc = .ok (.lcmp, 1)) (d : decode M.1 (pc + 1) = .ok (.ifCond .ge off, 3)) (ht : ((pc + 1 : Nat) : Int) + off = (tgt : Int)) (k1 : y ≤ x → Tz M inj r1 tgt lv st w) (k2 : ¬ (y ≤ x) → Tz M inj r2 (pc + 4) lv st w) : Tz M inj (if y ≤ x then r1 else r2) pc lv (.long y :: .long x :: st) w := by
  have e9 : Tz M inj (if y ≤ x then r1 else r2) (pc + 1) lv (.int (lg_cmp x y) :: st) w := by
    refine tz_eq (r2 := if 0 ≤ lg_cmp x y then r1 else r2) ?_ (tz_if_ge tgt d ht (fun q => k1 ((zlc_ge x y).mp q)) (fun q => k2 (fun z => q ((zlc_ge x y).mpr z))))
    by_cases q : y ≤ x
    · rw [if_pos q, if_pos ((zlc_ge x y).mpr q)]
    · rw [if_neg q, if_neg (fun z => q ((zlc_ge x y).mp z))]
  exact fun res h p l e s m args below meth c D cA AD A X H locs ls hP hS hl => W.lcmp X.1 X.2.1 d0 (e9 res h p l e s m args below meth c D cA AD A X H locs ls hP hS hl)
theorem zlc_gt (x y : Int64) : (0 < lg_cmp x y) ↔ (y < x) := by
  unfold lg_cmp
  by_cases h1 : x > y
  · have h2 : ¬ x = y := fun z => by subst z; exact absurd h1 (Int64.lt_irrefl)
    have h3 : ¬ x < y := fun z => Int64.lt_asymm z h1
    have h4 : y ≤ x := Int64.le_of_lt h1
    have h5 : ¬ x ≤ y := fun z => Int64.not_lt.mpr z h1
    rw [if_pos h1]
    first | exact ⟨fun q => absurd q (by decide), fun q => absurd q h2⟩ | exact ⟨fun _ => h2, fun _ => by decide⟩ | exact ⟨fun q => absurd q (by decide), fun q => absurd q h3⟩ | exact ⟨fun _ => h4, fun _ => by decide⟩ | exact ⟨fun _ => h1, fun _ => by decide⟩ | exact ⟨fun q => absurd q (by decide), fun q => absurd q h5⟩
  · rw [if_neg h1]
    by_cases h2 : x = y
    · subst h2
      have h3 : ¬ x < x := Int64.lt_irrefl
      have h4 : x ≤ x := Int64.le_refl x
      rw [if_pos rfl]
      first | exact ⟨fun _ => rfl, fun _ => rfl⟩ | exact ⟨fun q => absurd rfl q, fun q => absurd rfl q⟩ | exact ⟨fun q => absurd q (by decide), fun q => absurd q h3⟩ | exact ⟨fun _ => h4, fun _ => by decide⟩
    · rw [if_neg h2]
      have h6 : x ≤ y := Int64.not_lt.mp h1
      have h3 : x < y := Int64.lt_of_le_of_ne h6 h2
      have h5 : ¬ y ≤ x := fun z => Int64.not_lt.mpr z h3
      first | exact ⟨fun q => absurd q (by decide), fun q => absurd q h2⟩ | exact ⟨fun _ => h2, fun _ => by decide⟩ | exact ⟨fun _ => h3, fun _ => by decide⟩ | exact ⟨fun q => absurd q (by decide), fun q => absurd q h5⟩ | exact ⟨fun q => absurd q (by decide), fun q => absurd q h1⟩ | exact ⟨fun _ => h6, fun _ => by decide⟩
theorem tz_lcmp_gt {x y : Int64} {off : Int} {r1 r2 : Option (ρ × zW)} [dc : Decidable (y < x)] (tgt : Nat) (d0 : decode M.1 pc = .ok (.lcmp, 1)) (d : decode M.1 (pc + 1) = .ok (.ifCond .gt off, 3)) (ht : ((pc + 1 : Nat) : Int) + off = (tgt : Int)) (k1 : y < x → Tz M inj r1 tgt lv st w) (k2 : ¬ (y < x) → Tz M inj r2 (pc + 4) lv st w) : Tz M inj (if y < x then r1 else r2) pc lv (.long y :: .long x :: st) w := by
  have e9 : Tz M inj (if y < x then r1 else r2) (pc + 1) lv (.int (lg_cmp x y) :: st) w := by
    refine tz_eq (r2 := if 0 < lg_cmp x y then r1 else r2) ?_ (tz_if_gt tgt d ht (fun q => k1 ((zlc_gt x y).mp q)) (fun q => k2 (fun z => q ((zlc_gt x y).mpr z))))
    by_cases q : y < x
    · rw [if_pos q, if_pos ((zlc_gt x y).mpr q)]
    · rw [if_neg q, if_neg (fun z => q ((zlc_gt x y).mp z))]
  exact fun res h p l e s m args below meth c D cA AD A X H locs ls hP hS hl => W.lcmp X.1 X.2.1 d0 (e9 res h p l e s m args below meth c D cA AD A X H locs ls hP hS hl)
theorem zlc_le (x y : Int64) : (lg_cmp x y ≤ 0) ↔ (x ≤ y) := by
  unfold lg_cmp
  by_cases h1 : x > y
  · have h2 : ¬ x = y := fun z => by subst z; exact absurd h1 (Int64.lt_irrefl)
    have h3 : ¬ x < y := fun z => Int64.lt_asymm z h1
    have h4 : y ≤ x := Int64.le_of_lt h1
    have h5 : ¬ x ≤ y := fun z => Int64.not_lt.mpr z h1
    rw [if_pos h1]
    first | exact ⟨fun q => absurd q (by decide), fun q => absurd q h2⟩ | exact ⟨fun _ => h2, fun _ => by decide⟩ | exact ⟨fun q => absurd q (by decide), fun q => absurd q h3⟩ | exact ⟨fun _ => h4, fun _ => by decide⟩ | exact ⟨fun _ => h1, fun _ => by decide⟩ | exact ⟨fun q => absurd q (by decide), fun q => absurd q h5⟩
  · rw [if_neg h1]
    by_cases h2 : x = y
    · subst h2
      have h3 : ¬ x < x := Int64.lt_irrefl
      have h4 : x ≤ x := Int64.le_refl x
      rw [if_pos rfl]
      first | exact ⟨fun _ => rfl, fun _ => rfl⟩ | exact ⟨fun q => absurd rfl q, fun q => absurd rfl q⟩ | exact ⟨fun q => absurd q (by decide), fun q => absurd q h3⟩ | exact ⟨fun _ => h4, fun _ => by decide⟩
    · rw [if_neg h2]
      have h6 : x ≤ y := Int64.not_lt.mp h1
      have h3 : x < y := Int64.lt_of_le_of_ne h6 h2
      have h5 : ¬ y ≤ x := fun z => Int64.not_lt.mpr z h3
      first | exact ⟨fun q => absurd q (by decide), fun q => absurd q h2⟩ | exact ⟨fun _ => h2, fun _ => by decide⟩ | exact ⟨fun _ => h3, fun _ => by decide⟩ | exact ⟨fun q => absurd q (by decide), fun q => absurd q h5⟩ | exact ⟨fun q => absurd q (by decide), fun q => absurd q h1⟩ | exact ⟨fun _ => h6, fun _ => by decide⟩
theorem tz_lcmp_le {x y : Int64} {off : Int} {r1 r2 : Option (ρ × zW)} [dc : Decidable (x ≤ y)] (tgt : Nat) (d0 : decode M.1 pc = .ok (.lcmp, 1)) (d : decode M.1 (pc + 1) = .ok (.ifCond .le off, 3)) (ht : ((pc + 1 : Nat) : Int) + off = (tgt : Int)) (k1 : x ≤ y → Tz M inj r1 tgt lv st w) (k2 : ¬ (x ≤ y) → Tz M inj r2 (pc + 4) lv st w) : Tz M inj (if x ≤ y then r1 else r2) pc lv (.long y :: .long x :: st) w := by
  have e9 : Tz M inj (if x ≤ y then r1 else r2) (pc + 1) lv (.int (lg_cmp x y) :: st) w := by
    refine tz_eq (r2 := if lg_cmp x y ≤ 0 then r1 else r2) ?_ (tz_if_le tgt d ht (fun q => k1 ((zlc_le x y).mp q)) (fun q => k2 (fun z => q ((zlc_le x y).mpr z))))
    by_cases q : x ≤ y
    · rw [if_pos q, if_pos ((zlc_le x y).mpr q)]
    · rw [if_neg q, if_neg (fun z => q ((zlc_le x y).mp z))]
  exact fun res h p l e s m args below meth c D cA AD A X H locs ls hP hS hl => W.lcmp X.1 X.2.1 d0 (e9 res h p l e s m args below meth c D cA AD A X H locs ls hP hS hl)
theorem tz_tin {dflt lo hi : Int} {offs : Array Int} {len : Nat} {x : Int32} {off : Int} (v : Int) (tgt : Nat) (hx : x.toInt = v) (d : decode M.1 pc = .ok (.tableswitch dflt lo hi offs, len)) (h1 : lo ≤ v) (h2 : v ≤ hi) (ho : offs[(v - lo).toNat]? = some off) (ht : (pc : Int) + off = (tgt : Int)) (k : Tz M inj r tgt lv st w) : Tz M inj r pc lv (.int x :: st) w := fun res h p l e s m args below meth c D cA AD A X H locs ls hP hS hl => lv_tableIn X.1 X.2.1 d (by omega) (by omega) (by rw [hx]; exact ho) ht (k res h p l e s m args below meth c D cA AD A X H locs ls hP hS hl)
theorem tz_tout {dflt lo hi : Int} {offs : Array Int} {len : Nat} {x : Int32} (tgt : Nat) (hx : x.toInt < lo ∨ hi < x.toInt) (d : decode M.1 pc = .ok (.tableswitch dflt lo hi offs, len)) (ht : (pc : Int) + dflt = (tgt : Int)) (k : Tz M inj r tgt lv st w) : Tz M inj r pc lv (.int x :: st) w := fun res h p l e s m args below meth c D cA AD A X H locs ls hP hS hl => lv_tableOut X.1 X.2.1 d hx ht (k res h p l e s m args below meth c D cA AD A X H locs ls hP hS hl)
theorem tz_lsw {dflt off : Int} {ps : Array (Int × Int)} {len : Nat} {x : Int32} (tgt : Nat) (hp : (ps.toList.zip (ps.toList.drop 1)).all (fun (a, next) => a.1 < next.1) = true) (ho : Op.lookupswitch.offset ps.toList dflt x.toInt = off) (d : decode M.1 pc = .ok (.lookupswitch dflt ps, len)) (ht : (pc : Int) + off = (tgt : Int)) (k : Tz M inj r tgt lv st w) : Tz M inj r pc lv (.int x :: st) w := fun res h p l e s m args below meth c D cA AD A X H locs ls hP hS hl => lv_lookup X.1 X.2.1 d hp ho ht (k res h p l e s m args below meth c D cA AD A X H locs ls hP hS hl)
theorem z_ne {x : Int32} {v : Int32} (h : ¬ x = v) : ¬ x.toInt = v.toInt := fun q => h (Int32.toInt_inj.mp q)
end TF
-- answers: int, long, none, boolean, a cell, a cell or null
def zi : Int32 → Option Value := fun x => some (.int x)
def zl : Int64 → Option Value := fun x => some (.long x)
def zn : Unit → Option Value := fun _ => none
def zz : Bool → Option Value := fun b => some (.int (zb b))
def zq : Nat → Option Value := fun k => some (.ref k)
def zo : Option Nat → Option Value := fun o => some (va_rf o)
section TE
variable {M : zM} {pc : Nat} {lv : List (Nat × Value)} {w : zW}
theorem tz_iret {v : Int32} (hr : M.2.2.2.1 = some .int) (d : decode M.1 pc = .ok (.ireturn, 1)) : Tz M zi (some (v, w)) pc lv [.int v] w := fun res h p l e s m args below meth c D cA AD A X H locs ls hP hS hl => by
  cases h
  exact W.iret X.1 X.2.1 (X.2.2.1.trans hr) (fun t ht hW => ⟨⟨rfl, by rw [ht]; exact hP⟩, hS.F ht⟩) hS.2.2 d (hlocks := X.2.2.2.2.2.2.1)
theorem tz_lret {v : Int64} (hr : M.2.2.2.1 = some .long) (d : decode M.1 pc = .ok (.lreturn, 1)) : Tz M zl (some (v, w)) pc lv [.long v] w := fun res h p l e s m args below meth c D cA AD A X H locs ls hP hS hl => by
  cases h
  exact W.lret X.1 X.2.1 (X.2.2.1.trans hr) (fun t ht hW => ⟨⟨rfl, by rw [ht]; exact hP⟩, hS.F ht⟩) hS.2.2 d (hlocks := X.2.2.2.2.2.2.1)
theorem tz_vret (hr : M.2.2.2.1 = none) (d : decode M.1 pc = .ok (.return_, 1)) : Tz M zn (some ((), w)) pc lv [] w := fun res h p l e s m args below meth c D cA AD A X H locs ls hP hS hl => by
  cases h
  exact W.vret X.1 X.2.1 (X.2.2.1.trans hr) (fun t ht hW => ⟨⟨rfl, by rw [ht]; exact hP⟩, hS.F ht⟩) hS.2.2 d (hlocks := X.2.2.2.2.2.2.1)
theorem tz_zret {b : Bool} (hr : M.2.2.2.1 = some .boolean) (d : decode M.1 pc = .ok (.ireturn, 1)) : Tz M zz (some (b, w)) pc lv [.int (zb b)] w := fun res h p l e s m args below meth c D cA AD A X H locs ls hP hS hl => by
  cases h
  exact W.zret X.1 X.2.1 (X.2.2.1.trans hr) (by cases b <;> rfl) (fun t ht hW => ⟨⟨rfl, by rw [ht]; exact hP⟩, hS.F ht⟩) hS.2.2 d (hlocks := X.2.2.2.2.2.2.1)
theorem tz_zret1 (hr : M.2.2.2.1 = some .boolean) (d : decode M.1 pc = .ok (.ireturn, 1)) : Tz M zz (some (true, w)) pc lv [.int 1] w := tz_zret hr d
theorem tz_zret0 (hr : M.2.2.2.1 = some .boolean) (d : decode M.1 pc = .ok (.ireturn, 1)) : Tz M zz (some (false, w)) pc lv [.int 0] w := tz_zret hr d
theorem z_zret {p : Program} {l : Launch} {e : Env} {R : Room} {s : State} {m : MethodId} {args : Array Value} {below : List Frame} {meth : Method} {c : Code} {H : Heap} {locs : List Loc} {cells slots : Nat} {cc : ByteArray} {Qc : Array Value → State → Outcome → State → Prop} {free : Addr → Prop} {v v2 : Int32} {ty : FieldType} (hexec : p.tables.exec = Jvm.exec) (hb : c.code = cc) (hr : meth.sig.returnType = some ty) (hn : narrow ty (.int v) = .int v2)
    (hq : ∀ t : State, t.heap = H → s.WarmedH t.vm → Qc args s (.returned (some (.int v2))) t) (hf : ∀ q ∈ locs, free q.base)
    {pc : Nat} {ls : Array Slot} (hdg : decode cc pc = .ok (.ireturn, 1)) (hlocks : meth.locks = false) : W p l e R s m args below meth c H locs cells slots (MQ below Qc args s cells slots free) (F0 m pc ls [.int v]) := by
  intro T hT X
  have hlocks : meth.locks = false := hlocks
  obtain ⟨fs, hret, hrun, hended, hW, hframe⟩ := X.leave (v := some (.int v2)) (fun h => by rw [hr] at h; cases h)
  have hmeth' : T.vm.method? m = some meth := X.method'
  refine ⟨T.setFrames fs, ?_, .returned (some (.int v2)), hrun, hended, hq _ hT hW, locs, ⟨⟨_, rfl⟩, hW, hframe⟩, hf⟩
  jvm_step X.here [X.here.top, hexec, hb, hdg, hmeth', hr, hn]
  (try refine ⟨rfl, ?_⟩); (try refine ⟨rfl, ?_⟩)
  first | (intro acts; rw [hret _ acts rfl rfl rfl]) | rw [hret _ _ rfl rfl rfl]
  exact Steps.refl _
theorem tz_zretv {v : Int32} (hr : M.2.2.2.1 = some .boolean) (d : decode M.1 pc = .ok (.ireturn, 1)) : Tz M zz (some (zvb v, w)) pc lv [.int v] w := by
  intro res h p l e1 s m args below meth c D cA AD A X H locs ls hP hS hl
  cases h
  exact z_zret (v2 := v &&& 1) X.1 X.2.1 (X.2.2.1.trans hr) rfl (fun t ht hW => ⟨⟨by show Outcome.returned (some (.int (v &&& 1))) = .returned (some (.int (zb (zvb v)))); rw [zvb_and], by rw [ht]; exact hP⟩, hS.F ht⟩) hS.2.2 d X.2.2.2.2.2.2.1
theorem tz_qret {k : Nat} {n : String} (hr : M.2.2.2.1 = some (.object n)) (d : decode M.1 pc = .ok (.areturn, 1)) : Tz M zq (some (k, w)) pc lv [.ref k] w := fun res h p l e s m args below meth c D cA AD A X H locs ls hP hS hl => by
  cases h
  exact W.aret X.1 X.2.1 (X.2.2.1.trans hr) (Or.inl ⟨_, rfl⟩) (Or.inr ⟨_, rfl⟩) (fun t ht hW => ⟨⟨rfl, by rw [ht]; exact hP⟩, hS.F ht⟩) hS.2.2 d (hlocks := X.2.2.2.2.2.2.1)
theorem tz_oretN {n : String} (hr : M.2.2.2.1 = some (.object n)) (d : decode M.1 pc = .ok (.areturn, 1)) : Tz M zo (some (none, w)) pc lv [.null] w := fun res h p l e s m args below meth c D cA AD A X H locs ls hP hS hl => by
  cases h
  exact W.aret X.1 X.2.1 (X.2.2.1.trans hr) (Or.inl ⟨_, rfl⟩) (Or.inl rfl) (fun t ht hW => ⟨⟨rfl, by rw [ht]; exact hP⟩, hS.F ht⟩) hS.2.2 d (hlocks := X.2.2.2.2.2.2.1)
theorem tz_oret {k : Nat} {n : String} (hr : M.2.2.2.1 = some (.object n)) (d : decode M.1 pc = .ok (.areturn, 1)) : Tz M zo (some (some k, w)) pc lv [.ref k] w := fun res h p l e s m args below meth c D cA AD A X H locs ls hP hS hl => by
  cases h
  exact W.aret X.1 X.2.1 (X.2.2.1.trans hr) (Or.inl ⟨_, rfl⟩) (Or.inr ⟨_, rfl⟩) (fun t ht hW => ⟨⟨rfl, by rw [ht]; exact hP⟩, hS.F ht⟩) hS.2.2 d (hlocks := X.2.2.2.2.2.2.1)
end TE
theorem zel_args {AD : Nat → Nat} (av : List Value) (i : Nat) : lv_args i (zes AD av) = zel AD (lv_args i av) := by
  induction av generalizing i with
  | nil => rfl
  | cons v vs ih =>
    show (i, zev AD v) :: lv_args (if (zev AD v).category = 2 then i + 2 else i + 1) (zes AD vs) = _
    rw [zev_cat, ih]; rfl
set_option maxHeartbeats 4000000 in
theorem Sm_of {ρ : Type} {y : MethodName} {M : zM} {inj : ρ → Option Value} {av : List Value} {w : zW} {r : Option (ρ × zW)} (hy : plainName y.cls = true) (own : M.2.1 = y.cls) (hlen : ∀ AD, (lg_sl (zes AD av)).length ≤ M.2.2.1) {lv0 : List (Nat × Value)} (hlv : lv_args 0 av = lv0) (k : Tz M inj r 0 lv0 [] w) : Sm y M inj av w r := by
  subst hlv
  intro res h l D cA AD sz
  refine Met.ofW (cc := M.1) (maxL := M.2.2.1) (ret := M.2.2.2.1) hy rfl ?_
  intro p e s m args below meth c s₁ B hml hv
  obtain ⟨rfl, hsz, hP, hK, hinj, hSt, hNs⟩ := hv
  subst hsz
  have hts := atoms_spec (ws := .code y M.1 M.2.2.1 M.2.2.2.1 :: zTb) B.pre
  have hl := lv_entry (zes AD av) (n := M.2.2.1) (hlen AD)
  rw [lg_entry_eq]
  rw [zel_args] at hl
  exact k res h p l e s m _ below meth c D cA AD (zA AD s.heap.size) ⟨B.exec, B.bytes, B.returns, hml, by rw [own]; exact findClass_of_methodNamed B.named, fun w hw => hts w (List.mem_cons_of_mem _ hw), B.notSynchronized, hK, ⟨hinj, fun k hk => Or.inl ⟨k, hk, rfl⟩⟩, fun q hq => Or.inr hq, hSt, hNs⟩ s.heap [] _ hP va_S.rf hl
theorem zes_app {AD : Nat → Nat} (o : Option Value) (rest : List Value) : (o.map (zev AD)).toList ++ zes AD rest = zes AD (o.toList ++ rest) := by cases o <;> rfl
theorem zes_cat {AD : Nat → Nat} (st : List Value) : ((zes AD st).map fun v => v.category).sum = (st.map fun v => v.category).sum := by
  induction st with
  | nil => rfl
  | cons v vs ih => simp only [zes, List.map_cons, List.sum_cons, zev_cat] at ih ⊢; rw [ih]
theorem zPc_blind {D : va_G} {cA : Nat → ClassId} {AD : Nat → Nat} {w : zW} {sz : Nat} {av : List Value} : FrameBlind (va_Pc av (zPre D cA AD w sz)) := by
  intro a U g mk q
  obtain ⟨q0, q1, q2, q3, q4, q5, q6⟩ := q
  exact ⟨q0, q1, q2, va_K.moved (u := U) (U := U.calling g mk a) (Vm.Alike.refl U.vm) q3, q4, zSt_moved (u := U) (U := U.calling g mk a) (Vm.Alike.refl U.vm) q5, zNs_same (s := U) (U := U.calling g mk a) rfl q6⟩
theorem zPre_of {M : zM} {p : Program} {s : State} {m : MethodId} {args : Array Value} {meth : Method} {c : Code} {D : va_G} {cA : Nat → ClassId} {AD : Nat → Nat} {A : Nat → Prop} {w : zW} {H : Heap} {locs : List Loc} (X : zCtx M p s m args meth c D cA AD A) (hP : va_P D vwCl (zws cA AD w) H) (hS : va_S A s.heap H locs) {U : State} (hU : U.heap = H) (hW : s.WarmedH U.vm) : zPre D cA AD w H.size U := by
  refine ⟨by rw [hU], by rw [hU]; exact hP, va_K.moved hW.alike X.2.2.2.2.2.2.2.1, X.2.2.2.2.2.2.2.2.1.1, ?_, zNs_warm hW X.2.2.2.2.2.2.2.2.2.2.2⟩
  rw [hU]
  refine zSt_moved hW.alike (zSt_narrow (zSt_kept X.2.2.2.2.2.2.2.2.2.2.1 (fun a h1 h2 => hS.2.1 a h1 h2)) ?_)
  intro q hq
  rcases hq with ⟨k, h1, rfl⟩ | h1
  · exact X.2.2.2.2.2.2.2.2.1.2 k h1
  · exact X.2.2.2.2.2.2.2.2.2.1 q (Nat.le_trans hS.1 h1)
theorem zA_in {M : zM} {p : Program} {s : State} {m : MethodId} {args : Array Value} {meth : Method} {c : Code} {D : va_G} {cA : Nat → ClassId} {AD : Nat → Nat} {A : Nat → Prop} {H : Heap} {locs : List Loc} (X : zCtx M p s m args meth c D cA AD A) (hS : va_S A s.heap H locs) : ∀ q, zA AD H.size q → A q := by
  intro q hq
  rcases hq with ⟨k, h1, rfl⟩ | h1
  · exact X.2.2.2.2.2.2.2.2.1.2 k h1
  · exact X.2.2.2.2.2.2.2.2.2.1 q (Nat.le_trans hS.1 h1)
section ZC
variable {p : Program} {l : Launch} {e : Env} {R : Room} {s : State} {m : MethodId} {args : Array Value} {below : List Frame} {meth : Method} {c : Code} {H : Heap} {locs : List Loc} {Q : State → Prop} {pc : Nat} {ls : Array Slot} {st0 rest : List Value} {a : Array Value}
theorem z_call {ρ : Type} {D : va_G} {cA : Nat → ClassId} {AD : Nat → Nat} {A : Nat → Prop} {inj : ρ → Option Value} {res : ρ × zW} (hr : va_Run p l e R s m args below meth c H locs 0 0 0 0 (F0 m pc ls st0) rest (zQ D cA AD (zA AD H.size) inj res a) (zA AD H.size)) (hS : va_S A s.heap H locs) (hA : ∀ q, zA AD H.size q → A q)
    (kk : ∀ (H1 : Heap) (locs1 : List Loc), va_P D vwCl (zws cA AD res.2) H1 → va_S A s.heap H1 locs1 → W p l e R s m args below meth c H1 locs1 0 0 Q (F0 m (pc + 3) ls (((inj res.1).map (zev AD)).toList ++ rest))) : W p l e R s m args below meth c H locs 0 0 Q (F0 m pc ls st0) := by
  intro T hT X
  obtain ⟨v, st₀, t, T', L, h0, X', hL, e1, e2, ⟨⟨hv, hp⟩, hz, hk⟩, st⟩ := hr T hT X
  cases hv
  rw [h0] at hz hk
  obtain ⟨t2, a1, b1⟩ := kk T'.heap (locs ++ L) (by rw [e1]; exact hp)
    ⟨Nat.le_trans hS.1 (by rw [e1]; exact hz), fun q h1 h2 => by rw [e1, hk q (Nat.lt_of_lt_of_le h1 hS.1) (fun z => h2 (hA q z))]; exact hS.2.1 q h1 h2, fun q hq => by
      rcases List.mem_append.mp hq with h | h
      · exact hS.2.2 q h
      · exact hA _ (hL q h)⟩ T' rfl X'
  exact ⟨t2, st t2 a1, b1⟩
end ZC
/-- what a call of an instance method, a static method pays with -/
def zYV (y : MethodName) (M : zM) (n : Nat) : Prop := Cond.code y M.1 M.2.2.1 M.2.2.2.1 ∈ zTb ∧ Cond.initialized y.cls ∈ zTb ∧ (Cond.instanceMethod y ∈ zTb ∧ Cond.selects y.cls y y ∈ zTb) ∧ (y.cls ≠ "java/lang/invoke/MethodHandle" ∧ y.cls ≠ "java/lang/invoke/VarHandle" ∧ (parseMethodDescriptor y.desc).map (fun d => d.parameters.length) = some n) ∧ M.2.2.2.2.cells = 0 ∧ M.2.2.2.2.slots = 0
def zYS (y : MethodName) (M : zM) (n : Nat) : Prop := Cond.code y M.1 M.2.2.1 M.2.2.2.1 ∈ zTb ∧ Cond.initialized y.cls ∈ zTb ∧ Cond.static y ∈ zTb ∧ (y.cls ≠ "java/lang/invoke/MethodHandle" ∧ y.cls ≠ "java/lang/invoke/VarHandle" ∧ (parseMethodDescriptor y.desc).map (fun d => d.parameters.length) = some n) ∧ M.2.2.2.2.cells = 0 ∧ M.2.2.2.2.slots = 0
theorem bd_some {α β : Type} {f : Option (α × zW)} {F : α → zW → Option β} {b : β} (h : bd f F = some b) : ∃ v w1, f = some (v, w1) ∧ F v w1 = some b := by
  cases f with
  | none => cases h
  | some q => exact ⟨q.1, q.2, rfl, h⟩
theorem zTb_pay {y : MethodName} {M : zM} (h : Cond.code y M.1 M.2.2.1 M.2.2.2.1 ∈ zTb) : GoodIn zTb (.code y M.1 M.2.2.1 M.2.2.2.1 :: zTb) := zTb_goodIn fun w hw => by
  rcases List.mem_cons.mp hw with rfl | hw
  · exact h
  · exact hw
section TC
variable {ρ σ : Type} {M My : zM} {inj : ρ → Option Value} {injc : σ → Option Value} {pc : Nat} {lv : List (Nat × Value)} {st rest : List Value} {w : zW} {y : MethodName} {f : Option (σ × zW)} {F : σ → zW → Option (ρ × zW)} {As : List Value} {n : Nat}
theorem tz_cV {index : Nat} {q : vw_C} {ci b : Nat} (hk : zK ci q) (hb : zc ci b) (hC : q.1 = y.cls) (hY : zYV y My n) (hm : Cond.methodLink M.2.1 index y ∈ zTb) (hS0 : Sm y My injc (.ref b :: As) w f) (hn : As.length = n) (hst : st = As.reverse ++ .ref b :: rest) (hcat : (rest.map fun v => v.category).sum ≤ 8) (hR : My.2.2.2.2.frames + 1 ≤ M.2.2.2.2.frames ∧ 8 + (My.2.2.1 + 11) + My.2.2.2.2.locals ≤ M.2.2.2.2.locals) (d : decode M.1 pc = .ok (.invokevirtual index, 3)) (k : ∀ (v : σ) (w1 : zW), f = some (v, w1) → Tz M inj (F v w1) (pc + 3) lv ((injc v).toList ++ rest) w1) : Tz M inj (bd f F) pc lv st w := by
  intro res h p l e s m args below meth c D cA AD A X H locs ls hP hS hl
  obtain ⟨v, w1, hf, hF⟩ := bd_some h
  have hM := hS0 (v, w1) hf l D cA AD H.size
  subst hst
  refine z_call (rest := zes AD rest) (va_runV (S := ⟨X.1, X.2.1, X.2.2.2.1, X.2.2.2.2.1, X.2.2.2.2.2.1⟩) (As := zes AD As) hM ⟨callB_of n X.2.2.2.2.2.1 (zTb_pay hY.1) rfl hY.2.2.2.2.1 hY.2.2.2.2.2 (X.2.2.2.2.2.1 _ hY.2.1) (X.2.2.2.2.2.1 _ hm) hY.2.2.2.1 hR, X.2.2.2.2.2.1 _ hY.2.2.1.1, X.2.2.2.2.2.1 _ hY.2.2.1.2⟩ ⟨zPc_blind, by have e9 := va_recv (s := s) X.2.2.2.2.2.2.2.1 hP hk.1 (zws_o hb); rw [hC] at e9; exact e9, fun U hU hW => ⟨rfl, zPre_of X hP hS hU hW⟩⟩ rfl (by simpa [zes] using hn) hl.1 (by simp [zes, zev]) ?_ d ⟨Nat.zero_le _, Nat.zero_le _⟩) hS (zA_in X hS) (fun H1 locs1 hP1 hS1 => ?_)
  · exact lv_room (by rw [zes_cat]; exact hcat)
  · rw [zes_app]
    exact k v w1 hf res hF p l e s m args below meth c D cA AD A X H1 locs1 ls hP1 hS1 hl
theorem tz_cV_i {index : Nat} {q : vw_C} {ci b : Nat} (hk : zK ci q) (hb : zc ci b) (hC : q.1 = y.cls) {f : Option (Int32 × zW)} {F : Int32 → zW → Option (ρ × zW)} (hY : zYV y My n) (hm : Cond.methodLink M.2.1 index y ∈ zTb) (hS0 : Sm y My zi (.ref b :: As) w f) (hn : As.length = n) (hst : st = As.reverse ++ .ref b :: rest) (hcat : (rest.map fun v => v.category).sum ≤ 8) (hR : My.2.2.2.2.frames + 1 ≤ M.2.2.2.2.frames ∧ 8 + (My.2.2.1 + 11) + My.2.2.2.2.locals ≤ M.2.2.2.2.locals) (d : decode M.1 pc = .ok (.invokevirtual index, 3)) (k : ∀ (v : Int32) (w1 : zW), f = some (v, w1) → Tz M inj (F v w1) (pc + 3) lv (.int v :: rest) w1) : Tz M inj (bd f F) pc lv st w := tz_cV hk hb hC hY hm hS0 hn hst hcat hR d k
theorem tz_cV_l {index : Nat} {q : vw_C} {ci b : Nat} (hk : zK ci q) (hb : zc ci b) (hC : q.1 = y.cls) {f : Option (Int64 × zW)} {F : Int64 → zW → Option (ρ × zW)} (hY : zYV y My n) (hm : Cond.methodLink M.2.1 index y ∈ zTb) (hS0 : Sm y My zl (.ref b :: As) w f) (hn : As.length = n) (hst : st = As.reverse ++ .ref b :: rest) (hcat : (rest.map fun v => v.category).sum ≤ 8) (hR : My.2.2.2.2.frames + 1 ≤ M.2.2.2.2.frames ∧ 8 + (My.2.2.1 + 11) + My.2.2.2.2.locals ≤ M.2.2.2.2.locals) (d : decode M.1 pc = .ok (.invokevirtual index, 3)) (k : ∀ (v : Int64) (w1 : zW), f = some (v, w1) → Tz M inj (F v w1) (pc + 3) lv (.long v :: rest) w1) : Tz M inj (bd f F) pc lv st w := tz_cV hk hb hC hY hm hS0 hn hst hcat hR d k
theorem tz_cV_n {index : Nat} {q : vw_C} {ci b : Nat} (hk : zK ci q) (hb : zc ci b) (hC : q.1 = y.cls) {f : Option (Unit × zW)} {F : Unit → zW → Option (ρ × zW)} (hY : zYV y My n) (hm : Cond.methodLink M.2.1 index y ∈ zTb) (hS0 : Sm y My zn (.ref b :: As) w f) (hn : As.length = n) (hst : st = As.reverse ++ .ref b :: rest) (hcat : (rest.map fun v => v.category).sum ≤ 8) (hR : My.2.2.2.2.frames + 1 ≤ M.2.2.2.2.frames ∧ 8 + (My.2.2.1 + 11) + My.2.2.2.2.locals ≤ M.2.2.2.2.locals) (d : decode M.1 pc = .ok (.invokevirtual index, 3)) (k : ∀ (v : Unit) (w1 : zW), f = some (v, w1) → Tz M inj (F v w1) (pc + 3) lv (rest) w1) : Tz M inj (bd f F) pc lv st w := tz_cV hk hb hC hY hm hS0 hn hst hcat hR d k
theorem tz_cV_z {index : Nat} {q : vw_C} {ci b : Nat} (hk : zK ci q) (hb : zc ci b) (hC : q.1 = y.cls) {f : Option (Bool × zW)} {F : Bool → zW → Option (ρ × zW)} (hY : zYV y My n) (hm : Cond.methodLink M.2.1 index y ∈ zTb) (hS0 : Sm y My zz (.ref b :: As) w f) (hn : As.length = n) (hst : st = As.reverse ++ .ref b :: rest) (hcat : (rest.map fun v => v.category).sum ≤ 8) (hR : My.2.2.2.2.frames + 1 ≤ M.2.2.2.2.frames ∧ 8 + (My.2.2.1 + 11) + My.2.2.2.2.locals ≤ M.2.2.2.2.locals) (d : decode M.1 pc = .ok (.invokevirtual index, 3)) (k : ∀ (v : Bool) (w1 : zW), f = some (v, w1) → Tz M inj (F v w1) (pc + 3) lv (.int (zb v) :: rest) w1) : Tz M inj (bd f F) pc lv st w := tz_cV hk hb hC hY hm hS0 hn hst hcat hR d k
theorem tz_cV_q {index : Nat} {q : vw_C} {ci b : Nat} (hk : zK ci q) (hb : zc ci b) (hC : q.1 = y.cls) {f : Option (Nat × zW)} {F : Nat → zW → Option (ρ × zW)} (hY : zYV y My n) (hm : Cond.methodLink M.2.1 index y ∈ zTb) (hS0 : Sm y My zq (.ref b :: As) w f) (hn : As.length = n) (hst : st = As.reverse ++ .ref b :: rest) (hcat : (rest.map fun v => v.category).sum ≤ 8) (hR : My.2.2.2.2.frames + 1 ≤ M.2.2.2.2.frames ∧ 8 + (My.2.2.1 + 11) + My.2.2.2.2.locals ≤ M.2.2.2.2.locals) (d : decode M.1 pc = .ok (.invokevirtual index, 3)) (k : ∀ (v : Nat) (w1 : zW), f = some (v, w1) → Tz M inj (F v w1) (pc + 3) lv (.ref v :: rest) w1) : Tz M inj (bd f F) pc lv st w := tz_cV hk hb hC hY hm hS0 hn hst hcat hR d k
theorem tz_cV_o {index : Nat} {q : vw_C} {ci b : Nat} (hk : zK ci q) (hb : zc ci b) (hC : q.1 = y.cls) {f : Option (Option Nat × zW)} {F0 : zW → Option (ρ × zW)} {F1 : Nat → zW → Option (ρ × zW)} (hY : zYV y My n) (hm : Cond.methodLink M.2.1 index y ∈ zTb) (hS0 : Sm y My zo (.ref b :: As) w f) (hn : As.length = n) (hst : st = As.reverse ++ .ref b :: rest) (hcat : (rest.map fun v => v.category).sum ≤ 8) (hR : My.2.2.2.2.frames + 1 ≤ M.2.2.2.2.frames ∧ 8 + (My.2.2.1 + 11) + My.2.2.2.2.locals ≤ M.2.2.2.2.locals) (d : decode M.1 pc = .ok (.invokevirtual index, 3)) (k0 : ∀ (w1 : zW), f = some (none, w1) → Tz M inj (F0 w1) (pc + 3) lv (.null :: rest) w1) (k1 : ∀ (v : Nat) (w1 : zW), f = some (some v, w1) → Tz M inj (F1 v w1) (pc + 3) lv (.ref v :: rest) w1) : Tz M inj (bd f fun o w1 => oc o (F0 w1) (fun v => F1 v w1)) pc lv st w := tz_cV hk hb hC hY hm hS0 hn hst hcat hR d (fun o w1 e => match o, e with | none, e => k0 w1 e | some v, e => k1 v w1 e)
theorem tz_cVN {host : String} {index : Nat} {q : vw_C} {ci b : Nat} (hk : zK ci q) (hb : zc ci b) (hC : q.1 = y.cls) (hY : zYV y My n) (hm : Cond.methodLinkNest M.2.1 index y host ∈ lw_tbl) (hS0 : Sm y My injc (.ref b :: As) w f) (hn : As.length = n) (hst : st = As.reverse ++ .ref b :: rest) (hcat : (rest.map fun v => v.category).sum ≤ 8) (hR : My.2.2.2.2.frames + 1 ≤ M.2.2.2.2.frames ∧ 8 + (My.2.2.1 + 11) + My.2.2.2.2.locals ≤ M.2.2.2.2.locals) (d : decode M.1 pc = .ok (.invokevirtual index, 3)) (k : ∀ (v : σ) (w1 : zW), f = some (v, w1) → Tz M inj (F v w1) (pc + 3) lv ((injc v).toList ++ rest) w1) : Tz M inj (bd f F) pc lv st w := by
  intro res h p l e s m args below meth c D cA AD A X H locs ls hP hS hl
  obtain ⟨v, w1, hf, hF⟩ := bd_some h
  have hM := hS0 (v, w1) hf l D cA AD H.size
  subst hst
  refine z_call (rest := zes AD rest) (va_runVN (S := ⟨X.1, X.2.1, X.2.2.2.1, X.2.2.2.2.1, X.2.2.2.2.2.1⟩) (As := zes AD As) hM ⟨va_cnB n X.2.2.2.2.2.1 (zTb_pay hY.1) rfl hY.2.2.2.2.1 hY.2.2.2.2.2 (X.2.2.2.2.2.2.2.2.2.2.2 _ hm rfl) (X.2.2.2.2.2.1 _ hY.2.1) hY.2.2.2.1 hR, X.2.2.2.2.2.1 _ hY.2.2.1.1, X.2.2.2.2.2.1 _ hY.2.2.1.2⟩ ⟨zPc_blind, by have e9 := va_recv (s := s) X.2.2.2.2.2.2.2.1 hP hk.1 (zws_o hb); rw [hC] at e9; exact e9, fun U hU hW => ⟨rfl, zPre_of X hP hS hU hW⟩⟩ rfl (by simpa [zes] using hn) hl.1 (by simp [zes, zev]) ?_ d ⟨Nat.zero_le _, Nat.zero_le _⟩) hS (zA_in X hS) (fun H1 locs1 hP1 hS1 => ?_)
  · exact lv_room (by rw [zes_cat]; exact hcat)
  · rw [zes_app]
    exact k v w1 hf res hF p l e s m args below meth c D cA AD A X H1 locs1 ls hP1 hS1 hl
theorem tz_cVN_i {host : String} {index : Nat} {q : vw_C} {ci b : Nat} (hk : zK ci q) (hb : zc ci b) (hC : q.1 = y.cls) {f : Option (Int32 × zW)} {F : Int32 → zW → Option (ρ × zW)} (hY : zYV y My n) (hm : Cond.methodLinkNest M.2.1 index y host ∈ lw_tbl) (hS0 : Sm y My zi (.ref b :: As) w f) (hn : As.length = n) (hst : st = As.reverse ++ .ref b :: rest) (hcat : (rest.map fun v => v.category).sum ≤ 8) (hR : My.2.2.2.2.frames + 1 ≤ M.2.2.2.2.frames ∧ 8 + (My.2.2.1 + 11) + My.2.2.2.2.locals ≤ M.2.2.2.2.locals) (d : decode M.1 pc = .ok (.invokevirtual index, 3)) (k : ∀ (v : Int32) (w1 : zW), f = some (v, w1) → Tz M inj (F v w1) (pc + 3) lv (.int v :: rest) w1) : Tz M inj (bd f F) pc lv st w := tz_cVN hk hb hC hY hm hS0 hn hst hcat hR d k
theorem tz_cVN_l {host : String} {index : Nat} {q : vw_C} {ci b : Nat} (hk : zK ci q) (hb : zc ci b) (hC : q.1 = y.cls) {f : Option (Int64 × zW)} {F : Int64 → zW → Option (ρ × zW)} (hY : zYV y My n) (hm : Cond.methodLinkNest M.2.1 index y host ∈ lw_tbl) (hS0 : Sm y My zl (.ref b :: As) w f) (hn : As.length = n) (hst : st = As.reverse ++ .ref b :: rest) (hcat : (rest.map fun v => v.category).sum ≤ 8) (hR : My.2.2.2.2.frames + 1 ≤ M.2.2.2.2.frames ∧ 8 + (My.2.2.1 + 11) + My.2.2.2.2.locals ≤ M.2.2.2.2.locals) (d : decode M.1 pc = .ok (.invokevirtual index, 3)) (k : ∀ (v : Int64) (w1 : zW), f = some (v, w1) → Tz M inj (F v w1) (pc + 3) lv (.long v :: rest) w1) : Tz M inj (bd f F) pc lv st w := tz_cVN hk hb hC hY hm hS0 hn hst hcat hR d k
theorem tz_cVN_n {host : String} {index : Nat} {q : vw_C} {ci b : Nat} (hk : zK ci q) (hb : zc ci b) (hC : q.1 = y.cls) {f : Option (Unit × zW)} {F : Unit → zW → Option (ρ × zW)} (hY : zYV y My n) (hm : Cond.methodLinkNest M.2.1 index y host ∈ lw_tbl) (hS0 : Sm y My zn (.ref b :: As) w f) (hn : As.length = n) (hst : st = As.reverse ++ .ref b :: rest) (hcat : (rest.map fun v => v.category).sum ≤ 8) (hR : My.2.2.2.2.frames + 1 ≤ M.2.2.2.2.frames ∧ 8 + (My.2.2.1 + 11) + My.2.2.2.2.locals ≤ M.2.2.2.2.locals) (d : decode M.1 pc = .ok (.invokevirtual index, 3)) (k : ∀ (v : Unit) (w1 : zW), f = some (v, w1) → Tz M inj (F v w1) (pc + 3) lv (rest) w1) : Tz M inj (bd f F) pc lv st w := tz_cVN hk hb hC hY hm hS0 hn hst hcat hR d k
theorem tz_cVN_z {host : String} {index : Nat} {q : vw_C} {ci b : Nat} (hk : zK ci q) (hb : zc ci b) (hC : q.1 = y.cls) {f : Option (Bool × zW)} {F : Bool → zW → Option (ρ × zW)} (hY : zYV y My n) (hm : Cond.methodLinkNest M.2.1 index y host ∈ lw_tbl) (hS0 : Sm y My zz (.ref b :: As) w f) (hn : As.length = n) (hst : st = As.reverse ++ .ref b :: rest) (hcat : (rest.map fun v => v.category).sum ≤ 8) (hR : My.2.2.2.2.frames + 1 ≤ M.2.2.2.2.frames ∧ 8 + (My.2.2.1 + 11) + My.2.2.2.2.locals ≤ M.2.2.2.2.locals) (d : decode M.1 pc = .ok (.invokevirtual index, 3)) (k : ∀ (v : Bool) (w1 : zW), f = some (v, w1) → Tz M inj (F v w1) (pc + 3) lv (.int (zb v) :: rest) w1) : Tz M inj (bd f F) pc lv st w := tz_cVN hk hb hC hY hm hS0 hn hst hcat hR d k
theorem tz_cVN_q {host : String} {index : Nat} {q : vw_C} {ci b : Nat} (hk : zK ci q) (hb : zc ci b) (hC : q.1 = y.cls) {f : Option (Nat × zW)} {F : Nat → zW → Option (ρ × zW)} (hY : zYV y My n) (hm : Cond.methodLinkNest M.2.1 index y host ∈ lw_tbl) (hS0 : Sm y My zq (.ref b :: As) w f) (hn : As.length = n) (hst : st = As.reverse ++ .ref b :: rest) (hcat : (rest.map fun v => v.category).sum ≤ 8) (hR : My.2.2.2.2.frames + 1 ≤ M.2.2.2.2.frames ∧ 8 + (My.2.2.1 + 11) + My.2.2.2.2.locals ≤ M.2.2.2.2.locals) (d : decode M.1 pc = .ok (.invokevirtual index, 3)) (k : ∀ (v : Nat) (w1 : zW), f = some (v, w1) → Tz M inj (F v w1) (pc + 3) lv (.ref v :: rest) w1) : Tz M inj (bd f F) pc lv st w := tz_cVN hk hb hC hY hm hS0 hn hst hcat hR d k
theorem tz_cVN_o {host : String} {index : Nat} {q : vw_C} {ci b : Nat} (hk : zK ci q) (hb : zc ci b) (hC : q.1 = y.cls) {f : Option (Option Nat × zW)} {F0 : zW → Option (ρ × zW)} {F1 : Nat → zW → Option (ρ × zW)} (hY : zYV y My n) (hm : Cond.methodLinkNest M.2.1 index y host ∈ lw_tbl) (hS0 : Sm y My zo (.ref b :: As) w f) (hn : As.length = n) (hst : st = As.reverse ++ .ref b :: rest) (hcat : (rest.map fun v => v.category).sum ≤ 8) (hR : My.2.2.2.2.frames + 1 ≤ M.2.2.2.2.frames ∧ 8 + (My.2.2.1 + 11) + My.2.2.2.2.locals ≤ M.2.2.2.2.locals) (d : decode M.1 pc = .ok (.invokevirtual index, 3)) (k0 : ∀ (w1 : zW), f = some (none, w1) → Tz M inj (F0 w1) (pc + 3) lv (.null :: rest) w1) (k1 : ∀ (v : Nat) (w1 : zW), f = some (some v, w1) → Tz M inj (F1 v w1) (pc + 3) lv (.ref v :: rest) w1) : Tz M inj (bd f fun o w1 => oc o (F0 w1) (fun v => F1 v w1)) pc lv st w := tz_cVN hk hb hC hY hm hS0 hn hst hcat hR d (fun o w1 e => match o, e with | none, e => k0 w1 e | some v, e => k1 v w1 e)
theorem tz_cS {index : Nat} (hY : zYS y My n) (hm : Cond.methodLink M.2.1 index y ∈ zTb) (hS0 : Sm y My injc As w f) (hn : As.length = n) (hst : st = As.reverse ++ rest) (hcat : (rest.map fun v => v.category).sum ≤ 8) (hR : My.2.2.2.2.frames + 1 ≤ M.2.2.2.2.frames ∧ 8 + (My.2.2.1 + 11) + My.2.2.2.2.locals ≤ M.2.2.2.2.locals) (d : decode M.1 pc = .ok (.invokestatic index, 3)) (k : ∀ (v : σ) (w1 : zW), f = some (v, w1) → Tz M inj (F v w1) (pc + 3) lv ((injc v).toList ++ rest) w1) : Tz M inj (bd f F) pc lv st w := by
  intro res h p l e s m args below meth c D cA AD A X H locs ls hP hS hl
  obtain ⟨v, w1, hf, hF⟩ := bd_some h
  have hM := hS0 (v, w1) hf l D cA AD H.size
  subst hst
  refine z_call (rest := zes AD rest) (va_runS (S := ⟨X.1, X.2.1, X.2.2.2.1, X.2.2.2.2.1, X.2.2.2.2.2.1⟩) (As := zes AD As) hM ⟨callB_of n X.2.2.2.2.2.1 (zTb_pay hY.1) rfl hY.2.2.2.2.1 hY.2.2.2.2.2 (X.2.2.2.2.2.1 _ hY.2.1) (X.2.2.2.2.2.1 _ hm) hY.2.2.2.1 hR, X.2.2.2.2.2.1 _ hY.2.2.1⟩ ⟨zPc_blind, fun U hU hW => ⟨rfl, zPre_of X hP hS hU hW⟩⟩ rfl (by simpa [zes] using hn) hl.1 (by simp [zes, zev]) ?_ d ⟨Nat.zero_le _, Nat.zero_le _⟩) hS (zA_in X hS) (fun H1 locs1 hP1 hS1 => ?_)
  · exact lv_room (by rw [zes_cat]; exact hcat)
  · rw [zes_app]
    exact k v w1 hf res hF p l e s m args below meth c D cA AD A X H1 locs1 ls hP1 hS1 hl
theorem tz_cS_i {index : Nat} {f : Option (Int32 × zW)} {F : Int32 → zW → Option (ρ × zW)} (hY : zYS y My n) (hm : Cond.methodLink M.2.1 index y ∈ zTb) (hS0 : Sm y My zi As w f) (hn : As.length = n) (hst : st = As.reverse ++ rest) (hcat : (rest.map fun v => v.category).sum ≤ 8) (hR : My.2.2.2.2.frames + 1 ≤ M.2.2.2.2.frames ∧ 8 + (My.2.2.1 + 11) + My.2.2.2.2.locals ≤ M.2.2.2.2.locals) (d : decode M.1 pc = .ok (.invokestatic index, 3)) (k : ∀ (v : Int32) (w1 : zW), f = some (v, w1) → Tz M inj (F v w1) (pc + 3) lv (.int v :: rest) w1) : Tz M inj (bd f F) pc lv st w := tz_cS hY hm hS0 hn hst hcat hR d k
theorem tz_cS_l {index : Nat} {f : Option (Int64 × zW)} {F : Int64 → zW → Option (ρ × zW)} (hY : zYS y My n) (hm : Cond.methodLink M.2.1 index y ∈ zTb) (hS0 : Sm y My zl As w f) (hn : As.length = n) (hst : st = As.reverse ++ rest) (hcat : (rest.map fun v => v.category).sum ≤ 8) (hR : My.2.2.2.2.frames + 1 ≤ M.2.2.2.2.frames ∧ 8 + (My.2.2.1 + 11) + My.2.2.2.2.locals ≤ M.2.2.2.2.locals) (d : decode M.1 pc = .ok (.invokestatic index, 3)) (k : ∀ (v : Int64) (w1 : zW), f = some (v, w1) → Tz M inj (F v w1) (pc + 3) lv (.long v :: rest) w1) : Tz M inj (bd f F) pc lv st w := tz_cS hY hm hS0 hn hst hcat hR d k
theorem tz_cS_n {index : Nat} {f : Option (Unit × zW)} {F : Unit → zW → Option (ρ × zW)} (hY : zYS y My n) (hm : Cond.methodLink M.2.1 index y ∈ zTb) (hS0 : Sm y My zn As w f) (hn : As.length = n) (hst : st = As.reverse ++ rest) (hcat : (rest.map fun v => v.category).sum ≤ 8) (hR : My.2.2.2.2.frames + 1 ≤ M.2.2.2.2.frames ∧ 8 + (My.2.2.1 + 11) + My.2.2.2.2.locals ≤ M.2.2.2.2.locals) (d : decode M.1 pc = .ok (.invokestatic index, 3)) (k : ∀ (v : Unit) (w1 : zW), f = some (v, w1) → Tz M inj (F v w1) (pc + 3) lv (rest) w1) : Tz M inj (bd f F) pc lv st w := tz_cS hY hm hS0 hn hst hcat hR d k
theorem tz_cS_z {index : Nat} {f : Option (Bool × zW)} {F : Bool → zW → Option (ρ × zW)} (hY : zYS y My n) (hm : Cond.methodLink M.2.1 index y ∈ zTb) (hS0 : Sm y My zz As w f) (hn : As.length = n) (hst : st = As.reverse ++ rest) (hcat : (rest.map fun v => v.category).sum ≤ 8) (hR : My.2.2.2.2.frames + 1 ≤ M.2.2.2.2.frames ∧ 8 + (My.2.2.1 + 11) + My.2.2.2.2.locals ≤ M.2.2.2.2.locals) (d : decode M.1 pc = .ok (.invokestatic index, 3)) (k : ∀ (v : Bool) (w1 : zW), f = some (v, w1) → Tz M inj (F v w1) (pc + 3) lv (.int (zb v) :: rest) w1) : Tz M inj (bd f F) pc lv st w := tz_cS hY hm hS0 hn hst hcat hR d k
theorem tz_cS_q {index : Nat} {f : Option (Nat × zW)} {F : Nat → zW → Option (ρ × zW)} (hY : zYS y My n) (hm : Cond.methodLink M.2.1 index y ∈ zTb) (hS0 : Sm y My zq As w f) (hn : As.length = n) (hst : st = As.reverse ++ rest) (hcat : (rest.map fun v => v.category).sum ≤ 8) (hR : My.2.2.2.2.frames + 1 ≤ M.2.2.2.2.frames ∧ 8 + (My.2.2.1 + 11) + My.2.2.2.2.locals ≤ M.2.2.2.2.locals) (d : decode M.1 pc = .ok (.invokestatic index, 3)) (k : ∀ (v : Nat) (w1 : zW), f = some (v, w1) → Tz M inj (F v w1) (pc + 3) lv (.ref v :: rest) w1) : Tz M inj (bd f F) pc lv st w := tz_cS hY hm hS0 hn hst hcat hR d k
theorem tz_cSN {host : String} {index : Nat} (hY : zYS y My n) (hm : Cond.methodLinkNest M.2.1 index y host ∈ lw_tbl) (hS0 : Sm y My injc As w f) (hn : As.length = n) (hst : st = As.reverse ++ rest) (hcat : (rest.map fun v => v.category).sum ≤ 8) (hR : My.2.2.2.2.frames + 1 ≤ M.2.2.2.2.frames ∧ 8 + (My.2.2.1 + 11) + My.2.2.2.2.locals ≤ M.2.2.2.2.locals) (d : decode M.1 pc = .ok (.invokestatic index, 3)) (k : ∀ (v : σ) (w1 : zW), f = some (v, w1) → Tz M inj (F v w1) (pc + 3) lv ((injc v).toList ++ rest) w1) : Tz M inj (bd f F) pc lv st w := by
  intro res h p l e s m args below meth c D cA AD A X H locs ls hP hS hl
  obtain ⟨v, w1, hf, hF⟩ := bd_some h
  have hM := hS0 (v, w1) hf l D cA AD H.size
  subst hst
  refine z_call (rest := zes AD rest) (va_runSN (S := ⟨X.1, X.2.1, X.2.2.2.1, X.2.2.2.2.1, X.2.2.2.2.2.1⟩) (As := zes AD As) hM ⟨va_cnB n X.2.2.2.2.2.1 (zTb_pay hY.1) rfl hY.2.2.2.2.1 hY.2.2.2.2.2 (X.2.2.2.2.2.2.2.2.2.2.2 _ hm rfl) (X.2.2.2.2.2.1 _ hY.2.1) hY.2.2.2.1 hR, X.2.2.2.2.2.1 _ hY.2.2.1, trivial⟩ ⟨zPc_blind, fun U hU hW => ⟨rfl, zPre_of X hP hS hU hW⟩⟩ rfl (by simpa [zes] using hn) hl.1 (by simp [zes, zev]) ?_ d ⟨Nat.zero_le _, Nat.zero_le _⟩) hS (zA_in X hS) (fun H1 locs1 hP1 hS1 => ?_)
  · exact lv_room (by rw [zes_cat]; exact hcat)
  · rw [zes_app]
    exact k v w1 hf res hF p l e s m args below meth c D cA AD A X H1 locs1 ls hP1 hS1 hl
theorem tz_cSN_i {host : String} {index : Nat} {f : Option (Int32 × zW)} {F : Int32 → zW → Option (ρ × zW)} (hY : zYS y My n) (hm : Cond.methodLinkNest M.2.1 index y host ∈ lw_tbl) (hS0 : Sm y My zi As w f) (hn : As.length = n) (hst : st = As.reverse ++ rest) (hcat : (rest.map fun v => v.category).sum ≤ 8) (hR : My.2.2.2.2.frames + 1 ≤ M.2.2.2.2.frames ∧ 8 + (My.2.2.1 + 11) + My.2.2.2.2.locals ≤ M.2.2.2.2.locals) (d : decode M.1 pc = .ok (.invokestatic index, 3)) (k : ∀ (v : Int32) (w1 : zW), f = some (v, w1) → Tz M inj (F v w1) (pc + 3) lv (.int v :: rest) w1) : Tz M inj (bd f F) pc lv st w := tz_cSN hY hm hS0 hn hst hcat hR d k
theorem tz_cSN_l {host : String} {index : Nat} {f : Option (Int64 × zW)} {F : Int64 → zW → Option (ρ × zW)} (hY : zYS y My n) (hm : Cond.methodLinkNest M.2.1 index y host ∈ lw_tbl) (hS0 : Sm y My zl As w f) (hn : As.length = n) (hst : st = As.reverse ++ rest) (hcat : (rest.map fun v => v.category).sum ≤ 8) (hR : My.2.2.2.2.frames + 1 ≤ M.2.2.2.2.frames ∧ 8 + (My.2.2.1 + 11) + My.2.2.2.2.locals ≤ M.2.2.2.2.locals) (d : decode M.1 pc = .ok (.invokestatic index, 3)) (k : ∀ (v : Int64) (w1 : zW), f = some (v, w1) → Tz M inj (F v w1) (pc + 3) lv (.long v :: rest) w1) : Tz M inj (bd f F) pc lv st w := tz_cSN hY hm hS0 hn hst hcat hR d k
theorem tz_cSN_n {host : String} {index : Nat} {f : Option (Unit × zW)} {F : Unit → zW → Option (ρ × zW)} (hY : zYS y My n) (hm : Cond.methodLinkNest M.2.1 index y host ∈ lw_tbl) (hS0 : Sm y My zn As w f) (hn : As.length = n) (hst : st = As.reverse ++ rest) (hcat : (rest.map fun v => v.category).sum ≤ 8) (hR : My.2.2.2.2.frames + 1 ≤ M.2.2.2.2.frames ∧ 8 + (My.2.2.1 + 11) + My.2.2.2.2.locals ≤ M.2.2.2.2.locals) (d : decode M.1 pc = .ok (.invokestatic index, 3)) (k : ∀ (v : Unit) (w1 : zW), f = some (v, w1) → Tz M inj (F v w1) (pc + 3) lv (rest) w1) : Tz M inj (bd f F) pc lv st w := tz_cSN hY hm hS0 hn hst hcat hR d k
theorem tz_cSN_z {host : String} {index : Nat} {f : Option (Bool × zW)} {F : Bool → zW → Option (ρ × zW)} (hY : zYS y My n) (hm : Cond.methodLinkNest M.2.1 index y host ∈ lw_tbl) (hS0 : Sm y My zz As w f) (hn : As.length = n) (hst : st = As.reverse ++ rest) (hcat : (rest.map fun v => v.category).sum ≤ 8) (hR : My.2.2.2.2.frames + 1 ≤ M.2.2.2.2.frames ∧ 8 + (My.2.2.1 + 11) + My.2.2.2.2.locals ≤ M.2.2.2.2.locals) (d : decode M.1 pc = .ok (.invokestatic index, 3)) (k : ∀ (v : Bool) (w1 : zW), f = some (v, w1) → Tz M inj (F v w1) (pc + 3) lv (.int (zb v) :: rest) w1) : Tz M inj (bd f F) pc lv st w := tz_cSN hY hm hS0 hn hst hcat hR d k
theorem tz_cSN_q {host : String} {index : Nat} {f : Option (Nat × zW)} {F : Nat → zW → Option (ρ × zW)} (hY : zYS y My n) (hm : Cond.methodLinkNest M.2.1 index y host ∈ lw_tbl) (hS0 : Sm y My zq As w f) (hn : As.length = n) (hst : st = As.reverse ++ rest) (hcat : (rest.map fun v => v.category).sum ≤ 8) (hR : My.2.2.2.2.frames + 1 ≤ M.2.2.2.2.frames ∧ 8 + (My.2.2.1 + 11) + My.2.2.2.2.locals ≤ M.2.2.2.2.locals) (d : decode M.1 pc = .ok (.invokestatic index, 3)) (k : ∀ (v : Nat) (w1 : zW), f = some (v, w1) → Tz M inj (F v w1) (pc + 3) lv (.ref v :: rest) w1) : Tz M inj (bd f F) pc lv st w := tz_cSN hY hm hS0 hn hst hcat hR d k
end TC
section TM
variable {ρ : Type} {M : zM} {inj : ρ → Option Value} {r : Option (ρ × zW)} {pc : Nat} {lv : List (Nat × Value)} {st : List Value} {w : zW}
theorem tz_mmin_long {index : Nat} {x y : Int64} (h1 : Cond.methodLink M.2.1 index Lib.MathLoose.min_long.x ∈ zTb) (h2 : Cond.static Lib.MathLoose.min_long.x ∈ zTb) (h3 : Cond.initialized "java/lang/Math" ∈ zTb) (h4 : Cond.code Lib.MathLoose.min_long.x Lib.MathLoose.min_long.code 4 (some .long) ∈ zTb) (hf : 1 ≤ M.2.2.2.2.frames) (hlo : (st.map fun v => v.category).sum + 15 ≤ M.2.2.2.2.locals) (d : decode M.1 pc = .ok (.invokestatic index, 3)) (k : Tz M inj r (pc + 3) lv (.long (if y < x then y else x) :: st) w) : Tz M inj r pc lv (.long y :: .long x :: st) w := fun res h p l e s m args below meth c D cA AD A X H locs ls hP hS hl => va_mmin_long X.1 X.2.1 (by rw [X.2.2.2.1, hl.1]) X.2.2.2.2.1 (X.2.2.2.2.2.1 _ h1) (X.2.2.2.2.2.1 _ h2) (X.2.2.2.2.2.1 _ h3) (X.2.2.2.2.2.1 _ h4) hf (by have e9 := zes_cat (AD := AD) st; rw [← e9] at hlo; exact hlo) (Nat.zero_le _) (Nat.zero_le _) d (k res h p l e s m args below meth c D cA AD A X H locs ls hP hS hl)
theorem tz_mmax_long {index : Nat} {x y : Int64} (h1 : Cond.methodLink M.2.1 index Lib.MathLoose.max_long.x ∈ zTb) (h2 : Cond.static Lib.MathLoose.max_long.x ∈ zTb) (h3 : Cond.initialized "java/lang/Math" ∈ zTb) (h4 : Cond.code Lib.MathLoose.max_long.x Lib.MathLoose.max_long.code 4 (some .long) ∈ zTb) (hf : 1 ≤ M.2.2.2.2.frames) (hlo : (st.map fun v => v.category).sum + 15 ≤ M.2.2.2.2.locals) (d : decode M.1 pc = .ok (.invokestatic index, 3)) (k : Tz M inj r (pc + 3) lv (.long (if y < x then x else y) :: st) w) : Tz M inj r pc lv (.long y :: .long x :: st) w := fun res h p l e s m args below meth c D cA AD A X H locs ls hP hS hl => va_mmax_long X.1 X.2.1 (by rw [X.2.2.2.1, hl.1]) X.2.2.2.2.1 (X.2.2.2.2.2.1 _ h1) (X.2.2.2.2.2.1 _ h2) (X.2.2.2.2.2.1 _ h3) (X.2.2.2.2.2.1 _ h4) hf (by have e9 := zes_cat (AD := AD) st; rw [← e9] at hlo; exact hlo) (Nat.zero_le _) (Nat.zero_le _) d (k res h p l e s m args below meth c D cA AD A X H locs ls hP hS hl)
theorem tz_mmin {index : Nat} {x y : Int32} (h1 : Cond.methodLink M.2.1 index Lib.Math.min.name ∈ zTb) (h2 : Cond.static Lib.Math.min.name ∈ zTb) (h3 : Cond.initialized "java/lang/Math" ∈ zTb) (h4 : Cond.code Lib.Math.min.name Lib.Math.min.code 2 (some .int) ∈ zTb) (hf : 1 ≤ M.2.2.2.2.frames) (hlo : (st.map fun v => v.category).sum + 13 ≤ M.2.2.2.2.locals) (d : decode M.1 pc = .ok (.invokestatic index, 3)) (k : Tz M inj r (pc + 3) lv (.int (if y < x then y else x) :: st) w) : Tz M inj r pc lv (.int y :: .int x :: st) w := fun res h p l e s m args below meth c D cA AD A X H locs ls hP hS hl => va_mmin X.1 X.2.1 (by rw [X.2.2.2.1, hl.1]) X.2.2.2.2.1 (X.2.2.2.2.2.1 _ h1) (X.2.2.2.2.2.1 _ h2) (X.2.2.2.2.2.1 _ h3) (X.2.2.2.2.2.1 _ h4) hf (by have e9 := zes_cat (AD := AD) st; rw [← e9] at hlo; exact hlo) (Nat.zero_le _) (Nat.zero_le _) d (k res h p l e s m args below meth c D cA AD A X H locs ls hP hS hl)
theorem tz_mmax {index : Nat} {x y : Int32} (h1 : Cond.methodLink M.2.1 index Lib.Math.max.name ∈ zTb) (h2 : Cond.static Lib.Math.max.name ∈ zTb) (h3 : Cond.initialized "java/lang/Math" ∈ zTb) (h4 : Cond.code Lib.Math.max.name Lib.Math.max.code 2 (some .int) ∈ zTb) (hf : 1 ≤ M.2.2.2.2.frames) (hlo : (st.map fun v => v.category).sum + 13 ≤ M.2.2.2.2.locals) (d : decode M.1 pc = .ok (.invokestatic index, 3)) (k : Tz M inj r (pc + 3) lv (.int (if x < y then y else x) :: st) w) : Tz M inj r pc lv (.int y :: .int x :: st) w := fun res h p l e s m args below meth c D cA AD A X H locs ls hP hS hl => va_mmax X.1 X.2.1 (by rw [X.2.2.2.1, hl.1]) X.2.2.2.2.1 (X.2.2.2.2.2.1 _ h1) (X.2.2.2.2.2.1 _ h2) (X.2.2.2.2.2.1 _ h3) (X.2.2.2.2.2.1 _ h4) hf (by have e9 := zes_cat (AD := AD) st; rw [← e9] at hlo; exact hlo) (Nat.zero_le _) (Nat.zero_le _) d (k res h p l e s m args below meth c D cA AD A X H locs ls hP hS hl)
end TM
end
