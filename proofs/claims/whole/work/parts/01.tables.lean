/-- a private method of a class that the tables say can be made, by its rows of tables_1 -/
def lw_okq (q : MethodName × Nat) : Prop := (q.1.cls ≠ "java/lang/invoke/MethodHandle" ∧ q.1.cls ≠ "java/lang/invoke/VarHandle") ∧ Cond.instantiable q.1.cls q.2 ∈ tables_1 ∧ Cond.privateMethod q.1 ∈ tables_1 ∧ Cond.instanceMethod q.1 ∈ tables_1
theorem lw_p0 : lw_okq (⟨"OrnamentsOut$Reader", "putBytes", "(I)V"⟩, 18) := ⟨⟨by decide +kernel, by decide +kernel⟩, List.mem_of_getElem? (i := 30) (by decide +kernel), List.mem_of_getElem? (i := 375) (by decide +kernel), List.mem_of_getElem? (i := 376) (by decide +kernel)⟩
theorem lw_p1 : lw_okq (⟨"OrnamentsOut$Reader", "start", "(LOrnamentsOut$Song;I)V"⟩, 18) := ⟨⟨by decide +kernel, by decide +kernel⟩, List.mem_of_getElem? (i := 30) (by decide +kernel), List.mem_of_getElem? (i := 383) (by decide +kernel), List.mem_of_getElem? (i := 384) (by decide +kernel)⟩
theorem lw_p2 : lw_okq (⟨"OrnamentsOut$Song", "clear", "()V"⟩, 5) := ⟨⟨by decide +kernel, by decide +kernel⟩, List.mem_of_getElem? (i := 222) (by decide +kernel), List.mem_of_getElem? (i := 387) (by decide +kernel), List.mem_of_getElem? (i := 388) (by decide +kernel)⟩
theorem lw_p3 : lw_okq (⟨"OrnamentsOut$Reader", "advance", "()V"⟩, 18) := ⟨⟨by decide +kernel, by decide +kernel⟩, List.mem_of_getElem? (i := 30) (by decide +kernel), List.mem_of_getElem? (i := 394) (by decide +kernel), List.mem_of_getElem? (i := 395) (by decide +kernel)⟩
theorem lw_p4 : lw_okq (⟨"OrnamentsOut$Reader", "hasMore", "()Z"⟩, 18) := ⟨⟨by decide +kernel, by decide +kernel⟩, List.mem_of_getElem? (i := 30) (by decide +kernel), List.mem_of_getElem? (i := 398) (by decide +kernel), List.mem_of_getElem? (i := 399) (by decide +kernel)⟩
theorem lw_p5 : lw_okq (⟨"OrnamentsOut$Reader", "readLine", "()Z"⟩, 18) := ⟨⟨by decide +kernel, by decide +kernel⟩, List.mem_of_getElem? (i := 30) (by decide +kernel), List.mem_of_getElem? (i := 402) (by decide +kernel), List.mem_of_getElem? (i := 403) (by decide +kernel)⟩
theorem lw_p6 : lw_okq (⟨"OrnamentsOut$Reader", "takeWord", "(Ljava/lang/String;)Z"⟩, 18) := ⟨⟨by decide +kernel, by decide +kernel⟩, List.mem_of_getElem? (i := 30) (by decide +kernel), List.mem_of_getElem? (i := 407) (by decide +kernel), List.mem_of_getElem? (i := 408) (by decide +kernel)⟩
theorem lw_p7 : lw_okq (⟨"OrnamentsOut$Reader", "readNote", "()Z"⟩, 18) := ⟨⟨by decide +kernel, by decide +kernel⟩, List.mem_of_getElem? (i := 30) (by decide +kernel), List.mem_of_getElem? (i := 459) (by decide +kernel), List.mem_of_getElem? (i := 460) (by decide +kernel)⟩
theorem lw_p8 : lw_okq (⟨"OrnamentsOut$Reader", "openBar", "()V"⟩, 18) := ⟨⟨by decide +kernel, by decide +kernel⟩, List.mem_of_getElem? (i := 30) (by decide +kernel), List.mem_of_getElem? (i := 463) (by decide +kernel), List.mem_of_getElem? (i := 464) (by decide +kernel)⟩
theorem lw_p9 : lw_okq (⟨"OrnamentsOut$Song", "addBar", "()V"⟩, 5) := ⟨⟨by decide +kernel, by decide +kernel⟩, List.mem_of_getElem? (i := 222) (by decide +kernel), List.mem_of_getElem? (i := 467) (by decide +kernel), List.mem_of_getElem? (i := 468) (by decide +kernel)⟩
theorem lw_p10 : lw_okq (⟨"OrnamentsOut$Reader", "fail", "(II)Z"⟩, 18) := ⟨⟨by decide +kernel, by decide +kernel⟩, List.mem_of_getElem? (i := 30) (by decide +kernel), List.mem_of_getElem? (i := 474) (by decide +kernel), List.mem_of_getElem? (i := 475) (by decide +kernel)⟩
theorem lw_p11 : lw_okq (⟨"OrnamentsOut$Note", "clear", "()V"⟩, 16) := ⟨⟨by decide +kernel, by decide +kernel⟩, List.mem_of_getElem? (i := 229) (by decide +kernel), List.mem_of_getElem? (i := 478) (by decide +kernel), List.mem_of_getElem? (i := 479) (by decide +kernel)⟩
theorem lw_p12 : lw_okq (⟨"OrnamentsOut$Note", "putBody", "(I)V"⟩, 16) := ⟨⟨by decide +kernel, by decide +kernel⟩, List.mem_of_getElem? (i := 229) (by decide +kernel), List.mem_of_getElem? (i := 482) (by decide +kernel), List.mem_of_getElem? (i := 483) (by decide +kernel)⟩
theorem lw_p13 : lw_okq (⟨"OrnamentsOut$Reader", "readPitch", "()Z"⟩, 18) := ⟨⟨by decide +kernel, by decide +kernel⟩, List.mem_of_getElem? (i := 30) (by decide +kernel), List.mem_of_getElem? (i := 489) (by decide +kernel), List.mem_of_getElem? (i := 490) (by decide +kernel)⟩
theorem lw_p14 : lw_okq (⟨"OrnamentsOut$Reader", "letterHere", "()I"⟩, 18) := ⟨⟨by decide +kernel, by decide +kernel⟩, List.mem_of_getElem? (i := 30) (by decide +kernel), List.mem_of_getElem? (i := 493) (by decide +kernel), List.mem_of_getElem? (i := 494) (by decide +kernel)⟩
theorem lw_p15 : lw_okq (⟨"OrnamentsOut$Reader", "signHere", "()I"⟩, 18) := ⟨⟨by decide +kernel, by decide +kernel⟩, List.mem_of_getElem? (i := 30) (by decide +kernel), List.mem_of_getElem? (i := 555) (by decide +kernel), List.mem_of_getElem? (i := 556) (by decide +kernel)⟩
def lw_privs_1 : List (MethodName × Nat) := [(⟨"OrnamentsOut$Reader", "putBytes", "(I)V"⟩, 18), (⟨"OrnamentsOut$Reader", "start", "(LOrnamentsOut$Song;I)V"⟩, 18), (⟨"OrnamentsOut$Song", "clear", "()V"⟩, 5), (⟨"OrnamentsOut$Reader", "advance", "()V"⟩, 18), (⟨"OrnamentsOut$Reader", "hasMore", "()Z"⟩, 18), (⟨"OrnamentsOut$Reader", "readLine", "()Z"⟩, 18), (⟨"OrnamentsOut$Reader", "takeWord", "(Ljava/lang/String;)Z"⟩, 18), (⟨"OrnamentsOut$Reader", "readNote", "()Z"⟩, 18), (⟨"OrnamentsOut$Reader", "openBar", "()V"⟩, 18), (⟨"OrnamentsOut$Song", "addBar", "()V"⟩, 5), (⟨"OrnamentsOut$Reader", "fail", "(II)Z"⟩, 18), (⟨"OrnamentsOut$Note", "clear", "()V"⟩, 16), (⟨"OrnamentsOut$Note", "putBody", "(I)V"⟩, 16), (⟨"OrnamentsOut$Reader", "readPitch", "()Z"⟩, 18), (⟨"OrnamentsOut$Reader", "letterHere", "()I"⟩, 18), (⟨"OrnamentsOut$Reader", "signHere", "()I"⟩, 18)]
theorem lw_r1 : ∀ q ∈ lw_privs_1, lw_okq q := List.forall_mem_cons.mpr ⟨lw_p0, List.forall_mem_cons.mpr ⟨lw_p1, List.forall_mem_cons.mpr ⟨lw_p2, List.forall_mem_cons.mpr ⟨lw_p3, List.forall_mem_cons.mpr ⟨lw_p4, List.forall_mem_cons.mpr ⟨lw_p5, List.forall_mem_cons.mpr ⟨lw_p6, List.forall_mem_cons.mpr ⟨lw_p7, List.forall_mem_cons.mpr ⟨lw_p8, List.forall_mem_cons.mpr ⟨lw_p9, List.forall_mem_cons.mpr ⟨lw_p10, List.forall_mem_cons.mpr ⟨lw_p11, List.forall_mem_cons.mpr ⟨lw_p12, List.forall_mem_cons.mpr ⟨lw_p13, List.forall_mem_cons.mpr ⟨lw_p14, List.forall_mem_cons.mpr ⟨lw_p15, fun _ h => absurd h List.not_mem_nil⟩⟩⟩⟩⟩⟩⟩⟩⟩⟩⟩⟩⟩⟩⟩⟩
theorem lw_p16 : lw_okq (⟨"OrnamentsOut$Reader", "readNumber", "(II)Z"⟩, 18) := ⟨⟨by decide +kernel, by decide +kernel⟩, List.mem_of_getElem? (i := 30) (by decide +kernel), List.mem_of_getElem? (i := 559) (by decide +kernel), List.mem_of_getElem? (i := 560) (by decide +kernel)⟩
theorem lw_p17 : lw_okq (⟨"OrnamentsOut$Reader", "toldSign", "(I)I"⟩, 18) := ⟨⟨by decide +kernel, by decide +kernel⟩, List.mem_of_getElem? (i := 30) (by decide +kernel), List.mem_of_getElem? (i := 563) (by decide +kernel), List.mem_of_getElem? (i := 564) (by decide +kernel)⟩
theorem lw_p18 : lw_okq (⟨"OrnamentsOut$Reader", "holdSigns", "(LOrnamentsOut$Note;)V"⟩, 18) := ⟨⟨by decide +kernel, by decide +kernel⟩, List.mem_of_getElem? (i := 30) (by decide +kernel), List.mem_of_getElem? (i := 591) (by decide +kernel), List.mem_of_getElem? (i := 592) (by decide +kernel)⟩
theorem lw_p19 : lw_okq (⟨"OrnamentsOut$Reader", "readFraction", "(II)Z"⟩, 18) := ⟨⟨by decide +kernel, by decide +kernel⟩, List.mem_of_getElem? (i := 30) (by decide +kernel), List.mem_of_getElem? (i := 598) (by decide +kernel), List.mem_of_getElem? (i := 599) (by decide +kernel)⟩
theorem lw_p20 : lw_okq (⟨"OrnamentsOut$Reader", "takeByte", "(C)Z"⟩, 18) := ⟨⟨by decide +kernel, by decide +kernel⟩, List.mem_of_getElem? (i := 30) (by decide +kernel), List.mem_of_getElem? (i := 602) (by decide +kernel), List.mem_of_getElem? (i := 603) (by decide +kernel)⟩
theorem lw_p21 : lw_okq (⟨"OrnamentsOut$Reader", "readPrefix", "(LOrnamentsOut$Note;)Z"⟩, 18) := ⟨⟨by decide +kernel, by decide +kernel⟩, List.mem_of_getElem? (i := 30) (by decide +kernel), List.mem_of_getElem? (i := 609) (by decide +kernel), List.mem_of_getElem? (i := 610) (by decide +kernel)⟩
theorem lw_p22 : lw_okq (⟨"OrnamentsOut$Reader", "readBody", "(LOrnamentsOut$Note;)Z"⟩, 18) := ⟨⟨by decide +kernel, by decide +kernel⟩, List.mem_of_getElem? (i := 30) (by decide +kernel), List.mem_of_getElem? (i := 616) (by decide +kernel), List.mem_of_getElem? (i := 617) (by decide +kernel)⟩
theorem lw_p23 : lw_okq (⟨"OrnamentsOut$Reader", "bodyHere", "()I"⟩, 18) := ⟨⟨by decide +kernel, by decide +kernel⟩, List.mem_of_getElem? (i := 30) (by decide +kernel), List.mem_of_getElem? (i := 620) (by decide +kernel), List.mem_of_getElem? (i := 621) (by decide +kernel)⟩
theorem lw_p24 : lw_okq (⟨"OrnamentsOut$Reader", "tellSign", "(LOrnamentsOut$Note;ZI)V"⟩, 18) := ⟨⟨by decide +kernel, by decide +kernel⟩, List.mem_of_getElem? (i := 30) (by decide +kernel), List.mem_of_getElem? (i := 627) (by decide +kernel), List.mem_of_getElem? (i := 628) (by decide +kernel)⟩
theorem lw_p25 : lw_okq (⟨"OrnamentsOut$Reader", "readBehind", "(LOrnamentsOut$Note;)V"⟩, 18) := ⟨⟨by decide +kernel, by decide +kernel⟩, List.mem_of_getElem? (i := 30) (by decide +kernel), List.mem_of_getElem? (i := 631) (by decide +kernel), List.mem_of_getElem? (i := 632) (by decide +kernel)⟩
theorem lw_p26 : lw_okq (⟨"OrnamentsOut$Reader", "addNote", "(LOrnamentsOut$Note;I)V"⟩, 18) := ⟨⟨by decide +kernel, by decide +kernel⟩, List.mem_of_getElem? (i := 30) (by decide +kernel), List.mem_of_getElem? (i := 638) (by decide +kernel), List.mem_of_getElem? (i := 639) (by decide +kernel)⟩
theorem lw_p27 : lw_okq (⟨"OrnamentsOut$Reader", "readRest", "()Z"⟩, 18) := ⟨⟨by decide +kernel, by decide +kernel⟩, List.mem_of_getElem? (i := 30) (by decide +kernel), List.mem_of_getElem? (i := 643) (by decide +kernel), List.mem_of_getElem? (i := 644) (by decide +kernel)⟩
theorem lw_p28 : lw_okq (⟨"OrnamentsOut$Reader", "readTie", "()Z"⟩, 18) := ⟨⟨by decide +kernel, by decide +kernel⟩, List.mem_of_getElem? (i := 30) (by decide +kernel), List.mem_of_getElem? (i := 648) (by decide +kernel), List.mem_of_getElem? (i := 649) (by decide +kernel)⟩
theorem lw_p29 : lw_okq (⟨"OrnamentsOut$Song", "playedNote", "(I)LOrnamentsOut$Note;"⟩, 5) := ⟨⟨by decide +kernel, by decide +kernel⟩, List.mem_of_getElem? (i := 222) (by decide +kernel), List.mem_of_getElem? (i := 652) (by decide +kernel), List.mem_of_getElem? (i := 653) (by decide +kernel)⟩
theorem lw_p30 : lw_okq (⟨"OrnamentsOut$Song", "anyNote", "(I)LOrnamentsOut$Note;"⟩, 5) := ⟨⟨by decide +kernel, by decide +kernel⟩, List.mem_of_getElem? (i := 222) (by decide +kernel), List.mem_of_getElem? (i := 656) (by decide +kernel), List.mem_of_getElem? (i := 657) (by decide +kernel)⟩
theorem lw_p31 : lw_okq (⟨"OrnamentsOut$Note", "isRest", "()Z"⟩, 16) := ⟨⟨by decide +kernel, by decide +kernel⟩, List.mem_of_getElem? (i := 229) (by decide +kernel), List.mem_of_getElem? (i := 660) (by decide +kernel), List.mem_of_getElem? (i := 661) (by decide +kernel)⟩
def lw_privs_2 : List (MethodName × Nat) := [(⟨"OrnamentsOut$Reader", "readNumber", "(II)Z"⟩, 18), (⟨"OrnamentsOut$Reader", "toldSign", "(I)I"⟩, 18), (⟨"OrnamentsOut$Reader", "holdSigns", "(LOrnamentsOut$Note;)V"⟩, 18), (⟨"OrnamentsOut$Reader", "readFraction", "(II)Z"⟩, 18), (⟨"OrnamentsOut$Reader", "takeByte", "(C)Z"⟩, 18), (⟨"OrnamentsOut$Reader", "readPrefix", "(LOrnamentsOut$Note;)Z"⟩, 18), (⟨"OrnamentsOut$Reader", "readBody", "(LOrnamentsOut$Note;)Z"⟩, 18), (⟨"OrnamentsOut$Reader", "bodyHere", "()I"⟩, 18), (⟨"OrnamentsOut$Reader", "tellSign", "(LOrnamentsOut$Note;ZI)V"⟩, 18), (⟨"OrnamentsOut$Reader", "readBehind", "(LOrnamentsOut$Note;)V"⟩, 18), (⟨"OrnamentsOut$Reader", "addNote", "(LOrnamentsOut$Note;I)V"⟩, 18), (⟨"OrnamentsOut$Reader", "readRest", "()Z"⟩, 18), (⟨"OrnamentsOut$Reader", "readTie", "()Z"⟩, 18), (⟨"OrnamentsOut$Song", "playedNote", "(I)LOrnamentsOut$Note;"⟩, 5), (⟨"OrnamentsOut$Song", "anyNote", "(I)LOrnamentsOut$Note;"⟩, 5), (⟨"OrnamentsOut$Note", "isRest", "()Z"⟩, 16)]
theorem lw_r2 : ∀ q ∈ lw_privs_2, lw_okq q := List.forall_mem_cons.mpr ⟨lw_p16, List.forall_mem_cons.mpr ⟨lw_p17, List.forall_mem_cons.mpr ⟨lw_p18, List.forall_mem_cons.mpr ⟨lw_p19, List.forall_mem_cons.mpr ⟨lw_p20, List.forall_mem_cons.mpr ⟨lw_p21, List.forall_mem_cons.mpr ⟨lw_p22, List.forall_mem_cons.mpr ⟨lw_p23, List.forall_mem_cons.mpr ⟨lw_p24, List.forall_mem_cons.mpr ⟨lw_p25, List.forall_mem_cons.mpr ⟨lw_p26, List.forall_mem_cons.mpr ⟨lw_p27, List.forall_mem_cons.mpr ⟨lw_p28, List.forall_mem_cons.mpr ⟨lw_p29, List.forall_mem_cons.mpr ⟨lw_p30, List.forall_mem_cons.mpr ⟨lw_p31, fun _ h => absurd h List.not_mem_nil⟩⟩⟩⟩⟩⟩⟩⟩⟩⟩⟩⟩⟩⟩⟩⟩
theorem lw_p32 : lw_okq (⟨"OrnamentsOut$Reader", "readKey", "()Z"⟩, 18) := ⟨⟨by decide +kernel, by decide +kernel⟩, List.mem_of_getElem? (i := 30) (by decide +kernel), List.mem_of_getElem? (i := 665) (by decide +kernel), List.mem_of_getElem? (i := 666) (by decide +kernel)⟩
theorem lw_p33 : lw_okq (⟨"OrnamentsOut$Reader", "readMeter", "()Z"⟩, 18) := ⟨⟨by decide +kernel, by decide +kernel⟩, List.mem_of_getElem? (i := 30) (by decide +kernel), List.mem_of_getElem? (i := 670) (by decide +kernel), List.mem_of_getElem? (i := 671) (by decide +kernel)⟩
theorem lw_p34 : lw_okq (⟨"OrnamentsOut$Reader", "readSpeed", "()Z"⟩, 18) := ⟨⟨by decide +kernel, by decide +kernel⟩, List.mem_of_getElem? (i := 30) (by decide +kernel), List.mem_of_getElem? (i := 675) (by decide +kernel), List.mem_of_getElem? (i := 676) (by decide +kernel)⟩
theorem lw_p35 : lw_okq (⟨"OrnamentsOut$Reader", "closeLine", "()Z"⟩, 18) := ⟨⟨by decide +kernel, by decide +kernel⟩, List.mem_of_getElem? (i := 30) (by decide +kernel), List.mem_of_getElem? (i := 679) (by decide +kernel), List.mem_of_getElem? (i := 680) (by decide +kernel)⟩
theorem lw_p36 : lw_okq (⟨"OrnamentsOut", "neighbourNumber", "(LOrnamentsOut$Note;I)I"⟩, 7) := ⟨⟨by decide +kernel, by decide +kernel⟩, List.mem_of_getElem? (i := 22) (by decide +kernel), List.mem_of_getElem? (i := 728) (by decide +kernel), List.mem_of_getElem? (i := 729) (by decide +kernel)⟩
theorem lw_p37 : lw_okq (⟨"OrnamentsOut$Note", "upperIn", "(II)I"⟩, 16) := ⟨⟨by decide +kernel, by decide +kernel⟩, List.mem_of_getElem? (i := 229) (by decide +kernel), List.mem_of_getElem? (i := 732) (by decide +kernel), List.mem_of_getElem? (i := 733) (by decide +kernel)⟩
theorem lw_p38 : lw_okq (⟨"OrnamentsOut$Note", "lowerIn", "(II)I"⟩, 16) := ⟨⟨by decide +kernel, by decide +kernel⟩, List.mem_of_getElem? (i := 229) (by decide +kernel), List.mem_of_getElem? (i := 741) (by decide +kernel), List.mem_of_getElem? (i := 742) (by decide +kernel)⟩
theorem lw_p39 : lw_okq (⟨"OrnamentsOut$Note", "lowIn", "(II)I"⟩, 16) := ⟨⟨by decide +kernel, by decide +kernel⟩, List.mem_of_getElem? (i := 229) (by decide +kernel), List.mem_of_getElem? (i := 746) (by decide +kernel), List.mem_of_getElem? (i := 747) (by decide +kernel)⟩
theorem lw_p40 : lw_okq (⟨"OrnamentsOut$Writer", "written", "(LOrnamentsOut$Song;)LOrnamentsOut$Score;"⟩, 14) := ⟨⟨by decide +kernel, by decide +kernel⟩, List.mem_of_getElem? (i := 95) (by decide +kernel), List.mem_of_getElem? (i := 750) (by decide +kernel), List.mem_of_getElem? (i := 751) (by decide +kernel)⟩
theorem lw_p41 : lw_okq (⟨"OrnamentsOut$Writer", "start", "(LOrnamentsOut$Song;LOrnamentsOut$Score;I)V"⟩, 14) := ⟨⟨by decide +kernel, by decide +kernel⟩, List.mem_of_getElem? (i := 95) (by decide +kernel), List.mem_of_getElem? (i := 754) (by decide +kernel), List.mem_of_getElem? (i := 755) (by decide +kernel)⟩
theorem lw_p42 : lw_okq (⟨"OrnamentsOut$Score", "clear", "()V"⟩, 17) := ⟨⟨by decide +kernel, by decide +kernel⟩, List.mem_of_getElem? (i := 101) (by decide +kernel), List.mem_of_getElem? (i := 758) (by decide +kernel), List.mem_of_getElem? (i := 759) (by decide +kernel)⟩
theorem lw_p43 : lw_okq (⟨"OrnamentsOut$Writer", "writeNote", "(I)V"⟩, 14) := ⟨⟨by decide +kernel, by decide +kernel⟩, List.mem_of_getElem? (i := 95) (by decide +kernel), List.mem_of_getElem? (i := 762) (by decide +kernel), List.mem_of_getElem? (i := 763) (by decide +kernel)⟩
theorem lw_p44 : lw_okq (⟨"OrnamentsOut$Score", "openNote", "(I)V"⟩, 17) := ⟨⟨by decide +kernel, by decide +kernel⟩, List.mem_of_getElem? (i := 101) (by decide +kernel), List.mem_of_getElem? (i := 767) (by decide +kernel), List.mem_of_getElem? (i := 768) (by decide +kernel)⟩
theorem lw_p45 : lw_okq (⟨"OrnamentsOut$Score", "addRest", "(I)V"⟩, 17) := ⟨⟨by decide +kernel, by decide +kernel⟩, List.mem_of_getElem? (i := 101) (by decide +kernel), List.mem_of_getElem? (i := 787) (by decide +kernel), List.mem_of_getElem? (i := 788) (by decide +kernel)⟩
theorem lw_p46 : lw_okq (⟨"OrnamentsOut$Score", "closeNote", "(IIII)V"⟩, 17) := ⟨⟨by decide +kernel, by decide +kernel⟩, List.mem_of_getElem? (i := 101) (by decide +kernel), List.mem_of_getElem? (i := 791) (by decide +kernel), List.mem_of_getElem? (i := 792) (by decide +kernel)⟩
theorem lw_p47 : lw_okq (⟨"OrnamentsOut$Score", "putVerdict", "(II)V"⟩, 17) := ⟨⟨by decide +kernel, by decide +kernel⟩, List.mem_of_getElem? (i := 101) (by decide +kernel), List.mem_of_getElem? (i := 795) (by decide +kernel), List.mem_of_getElem? (i := 796) (by decide +kernel)⟩
def lw_privs_3 : List (MethodName × Nat) := [(⟨"OrnamentsOut$Reader", "readKey", "()Z"⟩, 18), (⟨"OrnamentsOut$Reader", "readMeter", "()Z"⟩, 18), (⟨"OrnamentsOut$Reader", "readSpeed", "()Z"⟩, 18), (⟨"OrnamentsOut$Reader", "closeLine", "()Z"⟩, 18), (⟨"OrnamentsOut", "neighbourNumber", "(LOrnamentsOut$Note;I)I"⟩, 7), (⟨"OrnamentsOut$Note", "upperIn", "(II)I"⟩, 16), (⟨"OrnamentsOut$Note", "lowerIn", "(II)I"⟩, 16), (⟨"OrnamentsOut$Note", "lowIn", "(II)I"⟩, 16), (⟨"OrnamentsOut$Writer", "written", "(LOrnamentsOut$Song;)LOrnamentsOut$Score;"⟩, 14), (⟨"OrnamentsOut$Writer", "start", "(LOrnamentsOut$Song;LOrnamentsOut$Score;I)V"⟩, 14), (⟨"OrnamentsOut$Score", "clear", "()V"⟩, 17), (⟨"OrnamentsOut$Writer", "writeNote", "(I)V"⟩, 14), (⟨"OrnamentsOut$Score", "openNote", "(I)V"⟩, 17), (⟨"OrnamentsOut$Score", "addRest", "(I)V"⟩, 17), (⟨"OrnamentsOut$Score", "closeNote", "(IIII)V"⟩, 17), (⟨"OrnamentsOut$Score", "putVerdict", "(II)V"⟩, 17)]
theorem lw_r3 : ∀ q ∈ lw_privs_3, lw_okq q := List.forall_mem_cons.mpr ⟨lw_p32, List.forall_mem_cons.mpr ⟨lw_p33, List.forall_mem_cons.mpr ⟨lw_p34, List.forall_mem_cons.mpr ⟨lw_p35, List.forall_mem_cons.mpr ⟨lw_p36, List.forall_mem_cons.mpr ⟨lw_p37, List.forall_mem_cons.mpr ⟨lw_p38, List.forall_mem_cons.mpr ⟨lw_p39, List.forall_mem_cons.mpr ⟨lw_p40, List.forall_mem_cons.mpr ⟨lw_p41, List.forall_mem_cons.mpr ⟨lw_p42, List.forall_mem_cons.mpr ⟨lw_p43, List.forall_mem_cons.mpr ⟨lw_p44, List.forall_mem_cons.mpr ⟨lw_p45, List.forall_mem_cons.mpr ⟨lw_p46, List.forall_mem_cons.mpr ⟨lw_p47, fun _ h => absurd h List.not_mem_nil⟩⟩⟩⟩⟩⟩⟩⟩⟩⟩⟩⟩⟩⟩⟩⟩
theorem lw_p48 : lw_okq (⟨"OrnamentsOut$Writer", "toneAt", "(II)I"⟩, 14) := ⟨⟨by decide +kernel, by decide +kernel⟩, List.mem_of_getElem? (i := 95) (by decide +kernel), List.mem_of_getElem? (i := 799) (by decide +kernel), List.mem_of_getElem? (i := 800) (by decide +kernel)⟩
theorem lw_p49 : lw_okq (⟨"OrnamentsOut$Writer", "isQuick", "(III)Z"⟩, 14) := ⟨⟨by decide +kernel, by decide +kernel⟩, List.mem_of_getElem? (i := 95) (by decide +kernel), List.mem_of_getElem? (i := 803) (by decide +kernel), List.mem_of_getElem? (i := 804) (by decide +kernel)⟩
theorem lw_p50 : lw_okq (⟨"OrnamentsOut$Writer", "playPrefix", "()I"⟩, 14) := ⟨⟨by decide +kernel, by decide +kernel⟩, List.mem_of_getElem? (i := 95) (by decide +kernel), List.mem_of_getElem? (i := 812) (by decide +kernel), List.mem_of_getElem? (i := 813) (by decide +kernel)⟩
theorem lw_p51 : lw_okq (⟨"OrnamentsOut$Writer", "playAppoggiatura", "()I"⟩, 14) := ⟨⟨by decide +kernel, by decide +kernel⟩, List.mem_of_getElem? (i := 95) (by decide +kernel), List.mem_of_getElem? (i := 816) (by decide +kernel), List.mem_of_getElem? (i := 817) (by decide +kernel)⟩
theorem lw_p52 : lw_okq (⟨"OrnamentsOut$Writer", "takeOfNote", "(I)V"⟩, 14) := ⟨⟨by decide +kernel, by decide +kernel⟩, List.mem_of_getElem? (i := 95) (by decide +kernel), List.mem_of_getElem? (i := 823) (by decide +kernel), List.mem_of_getElem? (i := 824) (by decide +kernel)⟩
theorem lw_p53 : lw_okq (⟨"OrnamentsOut$Writer", "addGraces", "(III)V"⟩, 14) := ⟨⟨by decide +kernel, by decide +kernel⟩, List.mem_of_getElem? (i := 95) (by decide +kernel), List.mem_of_getElem? (i := 827) (by decide +kernel), List.mem_of_getElem? (i := 828) (by decide +kernel)⟩
theorem lw_p54 : lw_okq (⟨"OrnamentsOut$Score", "addTone", "(IIII)V"⟩, 17) := ⟨⟨by decide +kernel, by decide +kernel⟩, List.mem_of_getElem? (i := 101) (by decide +kernel), List.mem_of_getElem? (i := 832) (by decide +kernel), List.mem_of_getElem? (i := 833) (by decide +kernel)⟩
theorem lw_p55 : lw_okq (⟨"OrnamentsOut$Writer", "playSlide", "()I"⟩, 14) := ⟨⟨by decide +kernel, by decide +kernel⟩, List.mem_of_getElem? (i := 95) (by decide +kernel), List.mem_of_getElem? (i := 836) (by decide +kernel), List.mem_of_getElem? (i := 837) (by decide +kernel)⟩
theorem lw_p56 : lw_okq (⟨"OrnamentsOut$Writer", "play", "(II)V"⟩, 14) := ⟨⟨by decide +kernel, by decide +kernel⟩, List.mem_of_getElem? (i := 95) (by decide +kernel), List.mem_of_getElem? (i := 840) (by decide +kernel), List.mem_of_getElem? (i := 841) (by decide +kernel)⟩
theorem lw_p57 : lw_okq (⟨"OrnamentsOut$Writer", "playGraces", "(I)I"⟩, 14) := ⟨⟨by decide +kernel, by decide +kernel⟩, List.mem_of_getElem? (i := 95) (by decide +kernel), List.mem_of_getElem? (i := 844) (by decide +kernel), List.mem_of_getElem? (i := 845) (by decide +kernel)⟩
theorem lw_p58 : lw_okq (⟨"OrnamentsOut$Score", "shortenLatest", "(I)V"⟩, 17) := ⟨⟨by decide +kernel, by decide +kernel⟩, List.mem_of_getElem? (i := 101) (by decide +kernel), List.mem_of_getElem? (i := 848) (by decide +kernel), List.mem_of_getElem? (i := 849) (by decide +kernel)⟩
theorem lw_p59 : lw_okq (⟨"OrnamentsOut$Writer", "playBody", "()I"⟩, 14) := ⟨⟨by decide +kernel, by decide +kernel⟩, List.mem_of_getElem? (i := 95) (by decide +kernel), List.mem_of_getElem? (i := 852) (by decide +kernel), List.mem_of_getElem? (i := 853) (by decide +kernel)⟩
theorem lw_p60 : lw_okq (⟨"OrnamentsOut$Writer", "playTurns", "()Z"⟩, 14) := ⟨⟨by decide +kernel, by decide +kernel⟩, List.mem_of_getElem? (i := 95) (by decide +kernel), List.mem_of_getElem? (i := 856) (by decide +kernel), List.mem_of_getElem? (i := 857) (by decide +kernel)⟩
theorem lw_p61 : lw_okq (⟨"OrnamentsOut$Writer", "isBehindUpper", "()Z"⟩, 14) := ⟨⟨by decide +kernel, by decide +kernel⟩, List.mem_of_getElem? (i := 95) (by decide +kernel), List.mem_of_getElem? (i := 860) (by decide +kernel), List.mem_of_getElem? (i := 861) (by decide +kernel)⟩
theorem lw_p62 : lw_okq (⟨"OrnamentsOut$Writer", "wantsAfterbeat", "()Z"⟩, 14) := ⟨⟨by decide +kernel, by decide +kernel⟩, List.mem_of_getElem? (i := 95) (by decide +kernel), List.mem_of_getElem? (i := 865) (by decide +kernel), List.mem_of_getElem? (i := 866) (by decide +kernel)⟩
theorem lw_p63 : lw_okq (⟨"OrnamentsOut$Writer", "addTurns", "(ZI)Z"⟩, 14) := ⟨⟨by decide +kernel, by decide +kernel⟩, List.mem_of_getElem? (i := 95) (by decide +kernel), List.mem_of_getElem? (i := 869) (by decide +kernel), List.mem_of_getElem? (i := 870) (by decide +kernel)⟩
def lw_privs_4 : List (MethodName × Nat) := [(⟨"OrnamentsOut$Writer", "toneAt", "(II)I"⟩, 14), (⟨"OrnamentsOut$Writer", "isQuick", "(III)Z"⟩, 14), (⟨"OrnamentsOut$Writer", "playPrefix", "()I"⟩, 14), (⟨"OrnamentsOut$Writer", "playAppoggiatura", "()I"⟩, 14), (⟨"OrnamentsOut$Writer", "takeOfNote", "(I)V"⟩, 14), (⟨"OrnamentsOut$Writer", "addGraces", "(III)V"⟩, 14), (⟨"OrnamentsOut$Score", "addTone", "(IIII)V"⟩, 17), (⟨"OrnamentsOut$Writer", "playSlide", "()I"⟩, 14), (⟨"OrnamentsOut$Writer", "play", "(II)V"⟩, 14), (⟨"OrnamentsOut$Writer", "playGraces", "(I)I"⟩, 14), (⟨"OrnamentsOut$Score", "shortenLatest", "(I)V"⟩, 17), (⟨"OrnamentsOut$Writer", "playBody", "()I"⟩, 14), (⟨"OrnamentsOut$Writer", "playTurns", "()Z"⟩, 14), (⟨"OrnamentsOut$Writer", "isBehindUpper", "()Z"⟩, 14), (⟨"OrnamentsOut$Writer", "wantsAfterbeat", "()Z"⟩, 14), (⟨"OrnamentsOut$Writer", "addTurns", "(ZI)Z"⟩, 14)]
theorem lw_r4 : ∀ q ∈ lw_privs_4, lw_okq q := List.forall_mem_cons.mpr ⟨lw_p48, List.forall_mem_cons.mpr ⟨lw_p49, List.forall_mem_cons.mpr ⟨lw_p50, List.forall_mem_cons.mpr ⟨lw_p51, List.forall_mem_cons.mpr ⟨lw_p52, List.forall_mem_cons.mpr ⟨lw_p53, List.forall_mem_cons.mpr ⟨lw_p54, List.forall_mem_cons.mpr ⟨lw_p55, List.forall_mem_cons.mpr ⟨lw_p56, List.forall_mem_cons.mpr ⟨lw_p57, List.forall_mem_cons.mpr ⟨lw_p58, List.forall_mem_cons.mpr ⟨lw_p59, List.forall_mem_cons.mpr ⟨lw_p60, List.forall_mem_cons.mpr ⟨lw_p61, List.forall_mem_cons.mpr ⟨lw_p62, List.forall_mem_cons.mpr ⟨lw_p63, fun _ h => absurd h List.not_mem_nil⟩⟩⟩⟩⟩⟩⟩⟩⟩⟩⟩⟩⟩⟩⟩⟩
theorem lw_p64 : lw_okq (⟨"OrnamentsOut$Writer", "turnsIn", "(IZ)I"⟩, 14) := ⟨⟨by decide +kernel, by decide +kernel⟩, List.mem_of_getElem? (i := 95) (by decide +kernel), List.mem_of_getElem? (i := 873) (by decide +kernel), List.mem_of_getElem? (i := 874) (by decide +kernel)⟩
theorem lw_p65 : lw_okq (⟨"OrnamentsOut$Score", "countTones", "(II)V"⟩, 17) := ⟨⟨by decide +kernel, by decide +kernel⟩, List.mem_of_getElem? (i := 101) (by decide +kernel), List.mem_of_getElem? (i := 878) (by decide +kernel), List.mem_of_getElem? (i := 879) (by decide +kernel)⟩
theorem lw_p66 : lw_okq (⟨"OrnamentsOut$Writer", "playPrall", "()I"⟩, 14) := ⟨⟨by decide +kernel, by decide +kernel⟩, List.mem_of_getElem? (i := 95) (by decide +kernel), List.mem_of_getElem? (i := 882) (by decide +kernel), List.mem_of_getElem? (i := 883) (by decide +kernel)⟩
theorem lw_p67 : lw_okq (⟨"OrnamentsOut$Writer", "playShape", "([II)Z"⟩, 14) := ⟨⟨by decide +kernel, by decide +kernel⟩, List.mem_of_getElem? (i := 95) (by decide +kernel), List.mem_of_getElem? (i := 888) (by decide +kernel), List.mem_of_getElem? (i := 889) (by decide +kernel)⟩
theorem lw_p68 : lw_okq (⟨"OrnamentsOut$Writer", "playTurn", "([I)Z"⟩, 14) := ⟨⟨by decide +kernel, by decide +kernel⟩, List.mem_of_getElem? (i := 95) (by decide +kernel), List.mem_of_getElem? (i := 901) (by decide +kernel), List.mem_of_getElem? (i := 902) (by decide +kernel)⟩
theorem lw_p69 : lw_okq (⟨"OrnamentsOut$Writer", "playDelayedTurn", "()Z"⟩, 14) := ⟨⟨by decide +kernel, by decide +kernel⟩, List.mem_of_getElem? (i := 95) (by decide +kernel), List.mem_of_getElem? (i := 905) (by decide +kernel), List.mem_of_getElem? (i := 906) (by decide +kernel)⟩
theorem lw_p70 : lw_okq (⟨"OrnamentsOut$Writer", "playJoin", "()Z"⟩, 14) := ⟨⟨by decide +kernel, by decide +kernel⟩, List.mem_of_getElem? (i := 95) (by decide +kernel), List.mem_of_getElem? (i := 913) (by decide +kernel), List.mem_of_getElem? (i := 914) (by decide +kernel)⟩
theorem lw_p71 : lw_okq (⟨"OrnamentsOut$Writer", "playBehind", "()I"⟩, 14) := ⟨⟨by decide +kernel, by decide +kernel⟩, List.mem_of_getElem? (i := 95) (by decide +kernel), List.mem_of_getElem? (i := 917) (by decide +kernel), List.mem_of_getElem? (i := 918) (by decide +kernel)⟩
theorem lw_p72 : lw_okq (⟨"OrnamentsOut$Score", "hasTone", "(I)Z"⟩, 17) := ⟨⟨by decide +kernel, by decide +kernel⟩, List.mem_of_getElem? (i := 101) (by decide +kernel), List.mem_of_getElem? (i := 956) (by decide +kernel), List.mem_of_getElem? (i := 957) (by decide +kernel)⟩
theorem lw_p73 : lw_okq (⟨"OrnamentsOut$Song", "barAt", "(I)I"⟩, 5) := ⟨⟨by decide +kernel, by decide +kernel⟩, List.mem_of_getElem? (i := 222) (by decide +kernel), List.mem_of_getElem? (i := 967) (by decide +kernel), List.mem_of_getElem? (i := 968) (by decide +kernel)⟩
theorem lw_p74 : lw_okq (⟨"OrnamentsOut$Song", "barEnd", "(I)I"⟩, 5) := ⟨⟨by decide +kernel, by decide +kernel⟩, List.mem_of_getElem? (i := 222) (by decide +kernel), List.mem_of_getElem? (i := 1128) (by decide +kernel), List.mem_of_getElem? (i := 1129) (by decide +kernel)⟩
theorem lw_p75 : lw_okq (⟨"OrnamentsOut$Score", "tonesBetween", "(II)I"⟩, 17) := ⟨⟨by decide +kernel, by decide +kernel⟩, List.mem_of_getElem? (i := 101) (by decide +kernel), List.mem_of_getElem? (i := 1132) (by decide +kernel), List.mem_of_getElem? (i := 1133) (by decide +kernel)⟩
theorem lw_p76 : lw_okq (⟨"OrnamentsOut$Song", "notesInBar", "(I)I"⟩, 5) := ⟨⟨by decide +kernel, by decide +kernel⟩, List.mem_of_getElem? (i := 222) (by decide +kernel), List.mem_of_getElem? (i := 1136) (by decide +kernel), List.mem_of_getElem? (i := 1137) (by decide +kernel)⟩
theorem lw_p77 : lw_okq (⟨"OrnamentsOut$Score", "soundingBetween", "(II)I"⟩, 17) := ⟨⟨by decide +kernel, by decide +kernel⟩, List.mem_of_getElem? (i := 101) (by decide +kernel), List.mem_of_getElem? (i := 1140) (by decide +kernel), List.mem_of_getElem? (i := 1141) (by decide +kernel)⟩
theorem lw_p78 : lw_okq (⟨"OrnamentsOut$Writer", "onPaper", "(LOrnamentsOut$Song;II)LOrnamentsOut$Score;"⟩, 14) := ⟨⟨by decide +kernel, by decide +kernel⟩, List.mem_of_getElem? (i := 95) (by decide +kernel), List.mem_of_getElem? (i := 1153) (by decide +kernel), List.mem_of_getElem? (i := 1154) (by decide +kernel)⟩
theorem lw_p79 : lw_okq (⟨"OrnamentsOut$Writer", "isAllAsTold", "(LOrnamentsOut$Song;I)Z"⟩, 14) := ⟨⟨by decide +kernel, by decide +kernel⟩, List.mem_of_getElem? (i := 95) (by decide +kernel), List.mem_of_getElem? (i := 1161) (by decide +kernel), List.mem_of_getElem? (i := 1162) (by decide +kernel)⟩
def lw_privs_5 : List (MethodName × Nat) := [(⟨"OrnamentsOut$Writer", "turnsIn", "(IZ)I"⟩, 14), (⟨"OrnamentsOut$Score", "countTones", "(II)V"⟩, 17), (⟨"OrnamentsOut$Writer", "playPrall", "()I"⟩, 14), (⟨"OrnamentsOut$Writer", "playShape", "([II)Z"⟩, 14), (⟨"OrnamentsOut$Writer", "playTurn", "([I)Z"⟩, 14), (⟨"OrnamentsOut$Writer", "playDelayedTurn", "()Z"⟩, 14), (⟨"OrnamentsOut$Writer", "playJoin", "()Z"⟩, 14), (⟨"OrnamentsOut$Writer", "playBehind", "()I"⟩, 14), (⟨"OrnamentsOut$Score", "hasTone", "(I)Z"⟩, 17), (⟨"OrnamentsOut$Song", "barAt", "(I)I"⟩, 5), (⟨"OrnamentsOut$Song", "barEnd", "(I)I"⟩, 5), (⟨"OrnamentsOut$Score", "tonesBetween", "(II)I"⟩, 17), (⟨"OrnamentsOut$Song", "notesInBar", "(I)I"⟩, 5), (⟨"OrnamentsOut$Score", "soundingBetween", "(II)I"⟩, 17), (⟨"OrnamentsOut$Writer", "onPaper", "(LOrnamentsOut$Song;II)LOrnamentsOut$Score;"⟩, 14), (⟨"OrnamentsOut$Writer", "isAllAsTold", "(LOrnamentsOut$Song;I)Z"⟩, 14)]
theorem lw_r5 : ∀ q ∈ lw_privs_5, lw_okq q := List.forall_mem_cons.mpr ⟨lw_p64, List.forall_mem_cons.mpr ⟨lw_p65, List.forall_mem_cons.mpr ⟨lw_p66, List.forall_mem_cons.mpr ⟨lw_p67, List.forall_mem_cons.mpr ⟨lw_p68, List.forall_mem_cons.mpr ⟨lw_p69, List.forall_mem_cons.mpr ⟨lw_p70, List.forall_mem_cons.mpr ⟨lw_p71, List.forall_mem_cons.mpr ⟨lw_p72, List.forall_mem_cons.mpr ⟨lw_p73, List.forall_mem_cons.mpr ⟨lw_p74, List.forall_mem_cons.mpr ⟨lw_p75, List.forall_mem_cons.mpr ⟨lw_p76, List.forall_mem_cons.mpr ⟨lw_p77, List.forall_mem_cons.mpr ⟨lw_p78, List.forall_mem_cons.mpr ⟨lw_p79, fun _ h => absurd h List.not_mem_nil⟩⟩⟩⟩⟩⟩⟩⟩⟩⟩⟩⟩⟩⟩⟩⟩
theorem lw_p80 : lw_okq (⟨"OrnamentsOut$Score", "isAsTold", "(I)Z"⟩, 17) := ⟨⟨by decide +kernel, by decide +kernel⟩, List.mem_of_getElem? (i := 101) (by decide +kernel), List.mem_of_getElem? (i := 1165) (by decide +kernel), List.mem_of_getElem? (i := 1166) (by decide +kernel)⟩
theorem lw_p81 : lw_okq (⟨"OrnamentsOut$Note", "takeBodyOf", "(LOrnamentsOut$Note;)V"⟩, 16) := ⟨⟨by decide +kernel, by decide +kernel⟩, List.mem_of_getElem? (i := 229) (by decide +kernel), List.mem_of_getElem? (i := 1178) (by decide +kernel), List.mem_of_getElem? (i := 1179) (by decide +kernel)⟩
theorem lw_p82 : lw_okq (⟨"OrnamentsOut$Song", "plainNotes", "()I"⟩, 5) := ⟨⟨by decide +kernel, by decide +kernel⟩, List.mem_of_getElem? (i := 222) (by decide +kernel), List.mem_of_getElem? (i := 1199) (by decide +kernel), List.mem_of_getElem? (i := 1200) (by decide +kernel)⟩
theorem lw_p83 : lw_okq (⟨"OrnamentsOutModel", "goes", "()V"⟩, 56) := ⟨⟨by decide +kernel, by decide +kernel⟩, List.mem_of_getElem? (i := 1204) (by decide +kernel), List.mem_of_getElem? (i := 1390) (by decide +kernel), List.mem_of_getElem? (i := 1391) (by decide +kernel)⟩
theorem lw_p84 : lw_okq (⟨"OrnamentsOutModel", "peek", "()I"⟩, 56) := ⟨⟨by decide +kernel, by decide +kernel⟩, List.mem_of_getElem? (i := 1204) (by decide +kernel), List.mem_of_getElem? (i := 1394) (by decide +kernel), List.mem_of_getElem? (i := 1395) (by decide +kernel)⟩
theorem lw_p85 : lw_okq (⟨"OrnamentsOutModel", "line", "()V"⟩, 56) := ⟨⟨by decide +kernel, by decide +kernel⟩, List.mem_of_getElem? (i := 1204) (by decide +kernel), List.mem_of_getElem? (i := 1402) (by decide +kernel), List.mem_of_getElem? (i := 1403) (by decide +kernel)⟩
theorem lw_p86 : lw_okq (⟨"OrnamentsOutModel", "word", "()I"⟩, 56) := ⟨⟨by decide +kernel, by decide +kernel⟩, List.mem_of_getElem? (i := 1204) (by decide +kernel), List.mem_of_getElem? (i := 1406) (by decide +kernel), List.mem_of_getElem? (i := 1407) (by decide +kernel)⟩
theorem lw_p87 : lw_okq (⟨"OrnamentsOutModel", "fails", "(II)V"⟩, 56) := ⟨⟨by decide +kernel, by decide +kernel⟩, List.mem_of_getElem? (i := 1204) (by decide +kernel), List.mem_of_getElem? (i := 1410) (by decide +kernel), List.mem_of_getElem? (i := 1411) (by decide +kernel)⟩
theorem lw_p88 : lw_okq (⟨"OrnamentsOutModel", "passesSign", "(I)Z"⟩, 56) := ⟨⟨by decide +kernel, by decide +kernel⟩, List.mem_of_getElem? (i := 1204) (by decide +kernel), List.mem_of_getElem? (i := 1414) (by decide +kernel), List.mem_of_getElem? (i := 1415) (by decide +kernel)⟩
theorem lw_p89 : lw_okq (⟨"OrnamentsOutModel", "isSign", "(I)Z"⟩, 56) := ⟨⟨by decide +kernel, by decide +kernel⟩, List.mem_of_getElem? (i := 1204) (by decide +kernel), List.mem_of_getElem? (i := 1418) (by decide +kernel), List.mem_of_getElem? (i := 1419) (by decide +kernel)⟩
theorem lw_p90 : lw_okq (⟨"OrnamentsOutModel", "number", "(II)I"⟩, 56) := ⟨⟨by decide +kernel, by decide +kernel⟩, List.mem_of_getElem? (i := 1204) (by decide +kernel), List.mem_of_getElem? (i := 1422) (by decide +kernel), List.mem_of_getElem? (i := 1423) (by decide +kernel)⟩
theorem lw_p91 : lw_okq (⟨"OrnamentsOutModel", "must", "(I)V"⟩, 56) := ⟨⟨by decide +kernel, by decide +kernel⟩, List.mem_of_getElem? (i := 1204) (by decide +kernel), List.mem_of_getElem? (i := 1426) (by decide +kernel), List.mem_of_getElem? (i := 1427) (by decide +kernel)⟩
theorem lw_p92 : lw_okq (⟨"OrnamentsOutModel", "power", "(I)I"⟩, 56) := ⟨⟨by decide +kernel, by decide +kernel⟩, List.mem_of_getElem? (i := 1204) (by decide +kernel), List.mem_of_getElem? (i := 1430) (by decide +kernel), List.mem_of_getElem? (i := 1431) (by decide +kernel)⟩
theorem lw_p93 : lw_okq (⟨"OrnamentsOutModel", "restLine", "()V"⟩, 56) := ⟨⟨by decide +kernel, by decide +kernel⟩, List.mem_of_getElem? (i := 1204) (by decide +kernel), List.mem_of_getElem? (i := 1434) (by decide +kernel), List.mem_of_getElem? (i := 1435) (by decide +kernel)⟩
theorem lw_p94 : lw_okq (⟨"OrnamentsOutModel", "opens", "()V"⟩, 56) := ⟨⟨by decide +kernel, by decide +kernel⟩, List.mem_of_getElem? (i := 1204) (by decide +kernel), List.mem_of_getElem? (i := 1438) (by decide +kernel), List.mem_of_getElem? (i := 1439) (by decide +kernel)⟩
theorem lw_p95 : lw_okq (⟨"OrnamentsOutModel", "fraction", "()I"⟩, 56) := ⟨⟨by decide +kernel, by decide +kernel⟩, List.mem_of_getElem? (i := 1204) (by decide +kernel), List.mem_of_getElem? (i := 1442) (by decide +kernel), List.mem_of_getElem? (i := 1443) (by decide +kernel)⟩
def lw_privs_6 : List (MethodName × Nat) := [(⟨"OrnamentsOut$Score", "isAsTold", "(I)Z"⟩, 17), (⟨"OrnamentsOut$Note", "takeBodyOf", "(LOrnamentsOut$Note;)V"⟩, 16), (⟨"OrnamentsOut$Song", "plainNotes", "()I"⟩, 5), (⟨"OrnamentsOutModel", "goes", "()V"⟩, 56), (⟨"OrnamentsOutModel", "peek", "()I"⟩, 56), (⟨"OrnamentsOutModel", "line", "()V"⟩, 56), (⟨"OrnamentsOutModel", "word", "()I"⟩, 56), (⟨"OrnamentsOutModel", "fails", "(II)V"⟩, 56), (⟨"OrnamentsOutModel", "passesSign", "(I)Z"⟩, 56), (⟨"OrnamentsOutModel", "isSign", "(I)Z"⟩, 56), (⟨"OrnamentsOutModel", "number", "(II)I"⟩, 56), (⟨"OrnamentsOutModel", "must", "(I)V"⟩, 56), (⟨"OrnamentsOutModel", "power", "(I)I"⟩, 56), (⟨"OrnamentsOutModel", "restLine", "()V"⟩, 56), (⟨"OrnamentsOutModel", "opens", "()V"⟩, 56), (⟨"OrnamentsOutModel", "fraction", "()I"⟩, 56)]
theorem lw_r6 : ∀ q ∈ lw_privs_6, lw_okq q := List.forall_mem_cons.mpr ⟨lw_p80, List.forall_mem_cons.mpr ⟨lw_p81, List.forall_mem_cons.mpr ⟨lw_p82, List.forall_mem_cons.mpr ⟨lw_p83, List.forall_mem_cons.mpr ⟨lw_p84, List.forall_mem_cons.mpr ⟨lw_p85, List.forall_mem_cons.mpr ⟨lw_p86, List.forall_mem_cons.mpr ⟨lw_p87, List.forall_mem_cons.mpr ⟨lw_p88, List.forall_mem_cons.mpr ⟨lw_p89, List.forall_mem_cons.mpr ⟨lw_p90, List.forall_mem_cons.mpr ⟨lw_p91, List.forall_mem_cons.mpr ⟨lw_p92, List.forall_mem_cons.mpr ⟨lw_p93, List.forall_mem_cons.mpr ⟨lw_p94, List.forall_mem_cons.mpr ⟨lw_p95, fun _ h => absurd h List.not_mem_nil⟩⟩⟩⟩⟩⟩⟩⟩⟩⟩⟩⟩⟩⟩⟩⟩
theorem lw_p96 : lw_okq (⟨"OrnamentsOutModel", "lasts", "(II)V"⟩, 56) := ⟨⟨by decide +kernel, by decide +kernel⟩, List.mem_of_getElem? (i := 1204) (by decide +kernel), List.mem_of_getElem? (i := 1446) (by decide +kernel), List.mem_of_getElem? (i := 1447) (by decide +kernel)⟩
theorem lw_p97 : lw_okq (⟨"OrnamentsOutModel", "takes", "(III)V"⟩, 56) := ⟨⟨by decide +kernel, by decide +kernel⟩, List.mem_of_getElem? (i := 1204) (by decide +kernel), List.mem_of_getElem? (i := 1450) (by decide +kernel), List.mem_of_getElem? (i := 1451) (by decide +kernel)⟩
theorem lw_p98 : lw_okq (⟨"OrnamentsOutModel", "noteLine", "()V"⟩, 56) := ⟨⟨by decide +kernel, by decide +kernel⟩, List.mem_of_getElem? (i := 1204) (by decide +kernel), List.mem_of_getElem? (i := 1454) (by decide +kernel), List.mem_of_getElem? (i := 1455) (by decide +kernel)⟩
theorem lw_p99 : lw_okq (⟨"OrnamentsOutModel", "readsTone", "()V"⟩, 56) := ⟨⟨by decide +kernel, by decide +kernel⟩, List.mem_of_getElem? (i := 1204) (by decide +kernel), List.mem_of_getElem? (i := 1458) (by decide +kernel), List.mem_of_getElem? (i := 1459) (by decide +kernel)⟩
theorem lw_p100 : lw_okq (⟨"OrnamentsOutModel", "isLetter", "()Z"⟩, 56) := ⟨⟨by decide +kernel, by decide +kernel⟩, List.mem_of_getElem? (i := 1204) (by decide +kernel), List.mem_of_getElem? (i := 1462) (by decide +kernel), List.mem_of_getElem? (i := 1463) (by decide +kernel)⟩
theorem lw_p101 : lw_okq (⟨"OrnamentsOutModel", "readsSign", "()I"⟩, 56) := ⟨⟨by decide +kernel, by decide +kernel⟩, List.mem_of_getElem? (i := 1204) (by decide +kernel), List.mem_of_getElem? (i := 1467) (by decide +kernel), List.mem_of_getElem? (i := 1468) (by decide +kernel)⟩
theorem lw_p102 : lw_okq (⟨"OrnamentsOutModel", "plainOf", "(II)I"⟩, 56) := ⟨⟨by decide +kernel, by decide +kernel⟩, List.mem_of_getElem? (i := 1204) (by decide +kernel), List.mem_of_getElem? (i := 1471) (by decide +kernel), List.mem_of_getElem? (i := 1472) (by decide +kernel)⟩
theorem lw_p103 : lw_okq (⟨"OrnamentsOutModel", "alterBy", "(II)I"⟩, 56) := ⟨⟨by decide +kernel, by decide +kernel⟩, List.mem_of_getElem? (i := 1204) (by decide +kernel), List.mem_of_getElem? (i := 1475) (by decide +kernel), List.mem_of_getElem? (i := 1476) (by decide +kernel)⟩
theorem lw_p104 : lw_okq (⟨"OrnamentsOutModel", "heldAt", "(II)I"⟩, 56) := ⟨⟨by decide +kernel, by decide +kernel⟩, List.mem_of_getElem? (i := 1204) (by decide +kernel), List.mem_of_getElem? (i := 1479) (by decide +kernel), List.mem_of_getElem? (i := 1480) (by decide +kernel)⟩
theorem lw_p105 : lw_okq (⟨"OrnamentsOutModel", "prefix", "(I)V"⟩, 56) := ⟨⟨by decide +kernel, by decide +kernel⟩, List.mem_of_getElem? (i := 1204) (by decide +kernel), List.mem_of_getElem? (i := 1484) (by decide +kernel), List.mem_of_getElem? (i := 1485) (by decide +kernel)⟩
theorem lw_p106 : lw_okq (⟨"OrnamentsOutModel", "passes", "(I)Z"⟩, 56) := ⟨⟨by decide +kernel, by decide +kernel⟩, List.mem_of_getElem? (i := 1204) (by decide +kernel), List.mem_of_getElem? (i := 1488) (by decide +kernel), List.mem_of_getElem? (i := 1489) (by decide +kernel)⟩
theorem lw_p107 : lw_okq (⟨"OrnamentsOutModel", "grace", "(II)V"⟩, 56) := ⟨⟨by decide +kernel, by decide +kernel⟩, List.mem_of_getElem? (i := 1204) (by decide +kernel), List.mem_of_getElem? (i := 1492) (by decide +kernel), List.mem_of_getElem? (i := 1493) (by decide +kernel)⟩
theorem lw_p108 : lw_okq (⟨"OrnamentsOutModel", "readsBody", "(I)V"⟩, 56) := ⟨⟨by decide +kernel, by decide +kernel⟩, List.mem_of_getElem? (i := 1204) (by decide +kernel), List.mem_of_getElem? (i := 1496) (by decide +kernel), List.mem_of_getElem? (i := 1497) (by decide +kernel)⟩
theorem lw_p109 : lw_okq (⟨"OrnamentsOutModel", "tieLine", "()V"⟩, 56) := ⟨⟨by decide +kernel, by decide +kernel⟩, List.mem_of_getElem? (i := 1204) (by decide +kernel), List.mem_of_getElem? (i := 1502) (by decide +kernel), List.mem_of_getElem? (i := 1503) (by decide +kernel)⟩
theorem lw_p110 : lw_okq (⟨"OrnamentsOutModel", "isNote", "(I)Z"⟩, 56) := ⟨⟨by decide +kernel, by decide +kernel⟩, List.mem_of_getElem? (i := 1204) (by decide +kernel), List.mem_of_getElem? (i := 1519) (by decide +kernel), List.mem_of_getElem? (i := 1520) (by decide +kernel)⟩
theorem lw_p111 : lw_okq (⟨"OrnamentsOutModel", "isThere", "(I)Z"⟩, 56) := ⟨⟨by decide +kernel, by decide +kernel⟩, List.mem_of_getElem? (i := 1204) (by decide +kernel), List.mem_of_getElem? (i := 1523) (by decide +kernel), List.mem_of_getElem? (i := 1524) (by decide +kernel)⟩
def lw_privs_7 : List (MethodName × Nat) := [(⟨"OrnamentsOutModel", "lasts", "(II)V"⟩, 56), (⟨"OrnamentsOutModel", "takes", "(III)V"⟩, 56), (⟨"OrnamentsOutModel", "noteLine", "()V"⟩, 56), (⟨"OrnamentsOutModel", "readsTone", "()V"⟩, 56), (⟨"OrnamentsOutModel", "isLetter", "()Z"⟩, 56), (⟨"OrnamentsOutModel", "readsSign", "()I"⟩, 56), (⟨"OrnamentsOutModel", "plainOf", "(II)I"⟩, 56), (⟨"OrnamentsOutModel", "alterBy", "(II)I"⟩, 56), (⟨"OrnamentsOutModel", "heldAt", "(II)I"⟩, 56), (⟨"OrnamentsOutModel", "prefix", "(I)V"⟩, 56), (⟨"OrnamentsOutModel", "passes", "(I)Z"⟩, 56), (⟨"OrnamentsOutModel", "grace", "(II)V"⟩, 56), (⟨"OrnamentsOutModel", "readsBody", "(I)V"⟩, 56), (⟨"OrnamentsOutModel", "tieLine", "()V"⟩, 56), (⟨"OrnamentsOutModel", "isNote", "(I)Z"⟩, 56), (⟨"OrnamentsOutModel", "isThere", "(I)Z"⟩, 56)]
theorem lw_r7 : ∀ q ∈ lw_privs_7, lw_okq q := List.forall_mem_cons.mpr ⟨lw_p96, List.forall_mem_cons.mpr ⟨lw_p97, List.forall_mem_cons.mpr ⟨lw_p98, List.forall_mem_cons.mpr ⟨lw_p99, List.forall_mem_cons.mpr ⟨lw_p100, List.forall_mem_cons.mpr ⟨lw_p101, List.forall_mem_cons.mpr ⟨lw_p102, List.forall_mem_cons.mpr ⟨lw_p103, List.forall_mem_cons.mpr ⟨lw_p104, List.forall_mem_cons.mpr ⟨lw_p105, List.forall_mem_cons.mpr ⟨lw_p106, List.forall_mem_cons.mpr ⟨lw_p107, List.forall_mem_cons.mpr ⟨lw_p108, List.forall_mem_cons.mpr ⟨lw_p109, List.forall_mem_cons.mpr ⟨lw_p110, List.forall_mem_cons.mpr ⟨lw_p111, fun _ h => absurd h List.not_mem_nil⟩⟩⟩⟩⟩⟩⟩⟩⟩⟩⟩⟩⟩⟩⟩⟩
theorem lw_p112 : lw_okq (⟨"OrnamentsOutModel", "of", "(II)I"⟩, 56) := ⟨⟨by decide +kernel, by decide +kernel⟩, List.mem_of_getElem? (i := 1204) (by decide +kernel), List.mem_of_getElem? (i := 1527) (by decide +kernel), List.mem_of_getElem? (i := 1528) (by decide +kernel)⟩
theorem lw_p113 : lw_okq (⟨"OrnamentsOutModel", "becomes", "(II)V"⟩, 56) := ⟨⟨by decide +kernel, by decide +kernel⟩, List.mem_of_getElem? (i := 1204) (by decide +kernel), List.mem_of_getElem? (i := 1531) (by decide +kernel), List.mem_of_getElem? (i := 1532) (by decide +kernel)⟩
theorem lw_p114 : lw_okq (⟨"OrnamentsOutModel", "lays", "(III)V"⟩, 56) := ⟨⟨by decide +kernel, by decide +kernel⟩, List.mem_of_getElem? (i := 1204) (by decide +kernel), List.mem_of_getElem? (i := 1535) (by decide +kernel), List.mem_of_getElem? (i := 1536) (by decide +kernel)⟩
theorem lw_p115 : lw_okq (⟨"OrnamentsOutModel", "writes", "()V"⟩, 56) := ⟨⟨by decide +kernel, by decide +kernel⟩, List.mem_of_getElem? (i := 1204) (by decide +kernel), List.mem_of_getElem? (i := 1558) (by decide +kernel), List.mem_of_getElem? (i := 1559) (by decide +kernel)⟩
theorem lw_p116 : lw_okq (⟨"OrnamentsOutModel", "writesNote", "()V"⟩, 56) := ⟨⟨by decide +kernel, by decide +kernel⟩, List.mem_of_getElem? (i := 1204) (by decide +kernel), List.mem_of_getElem? (i := 1562) (by decide +kernel), List.mem_of_getElem? (i := 1563) (by decide +kernel)⟩
theorem lw_p117 : lw_okq (⟨"OrnamentsOutModel", "toneOf", "(I)I"⟩, 56) := ⟨⟨by decide +kernel, by decide +kernel⟩, List.mem_of_getElem? (i := 1204) (by decide +kernel), List.mem_of_getElem? (i := 1566) (by decide +kernel), List.mem_of_getElem? (i := 1567) (by decide +kernel)⟩
theorem lw_p118 : lw_okq (⟨"OrnamentsOutModel", "isQuick", "(II)Z"⟩, 56) := ⟨⟨by decide +kernel, by decide +kernel⟩, List.mem_of_getElem? (i := 1204) (by decide +kernel), List.mem_of_getElem? (i := 1570) (by decide +kernel), List.mem_of_getElem? (i := 1571) (by decide +kernel)⟩
theorem lw_p119 : lw_okq (⟨"OrnamentsOutModel", "upper", "(II)I"⟩, 56) := ⟨⟨by decide +kernel, by decide +kernel⟩, List.mem_of_getElem? (i := 1204) (by decide +kernel), List.mem_of_getElem? (i := 1576) (by decide +kernel), List.mem_of_getElem? (i := 1577) (by decide +kernel)⟩
theorem lw_p120 : lw_okq (⟨"OrnamentsOutModel", "upLetter", "(I)I"⟩, 56) := ⟨⟨by decide +kernel, by decide +kernel⟩, List.mem_of_getElem? (i := 1204) (by decide +kernel), List.mem_of_getElem? (i := 1580) (by decide +kernel), List.mem_of_getElem? (i := 1581) (by decide +kernel)⟩
theorem lw_p121 : lw_okq (⟨"OrnamentsOutModel", "upOctave", "(I)I"⟩, 56) := ⟨⟨by decide +kernel, by decide +kernel⟩, List.mem_of_getElem? (i := 1204) (by decide +kernel), List.mem_of_getElem? (i := 1584) (by decide +kernel), List.mem_of_getElem? (i := 1585) (by decide +kernel)⟩
theorem lw_p122 : lw_okq (⟨"OrnamentsOutModel", "neighbour", "(IIIIII)I"⟩, 56) := ⟨⟨by decide +kernel, by decide +kernel⟩, List.mem_of_getElem? (i := 1204) (by decide +kernel), List.mem_of_getElem? (i := 1588) (by decide +kernel), List.mem_of_getElem? (i := 1589) (by decide +kernel)⟩
theorem lw_p123 : lw_okq (⟨"OrnamentsOutModel", "lower", "(II)I"⟩, 56) := ⟨⟨by decide +kernel, by decide +kernel⟩, List.mem_of_getElem? (i := 1204) (by decide +kernel), List.mem_of_getElem? (i := 1592) (by decide +kernel), List.mem_of_getElem? (i := 1593) (by decide +kernel)⟩
theorem lw_p124 : lw_okq (⟨"OrnamentsOutModel", "downLetter", "(II)I"⟩, 56) := ⟨⟨by decide +kernel, by decide +kernel⟩, List.mem_of_getElem? (i := 1204) (by decide +kernel), List.mem_of_getElem? (i := 1596) (by decide +kernel), List.mem_of_getElem? (i := 1597) (by decide +kernel)⟩
theorem lw_p125 : lw_okq (⟨"OrnamentsOutModel", "downOctave", "(II)I"⟩, 56) := ⟨⟨by decide +kernel, by decide +kernel⟩, List.mem_of_getElem? (i := 1204) (by decide +kernel), List.mem_of_getElem? (i := 1600) (by decide +kernel), List.mem_of_getElem? (i := 1601) (by decide +kernel)⟩
theorem lw_p126 : lw_okq (⟨"OrnamentsOutModel", "writesPrefix", "()I"⟩, 56) := ⟨⟨by decide +kernel, by decide +kernel⟩, List.mem_of_getElem? (i := 1204) (by decide +kernel), List.mem_of_getElem? (i := 1604) (by decide +kernel), List.mem_of_getElem? (i := 1605) (by decide +kernel)⟩
theorem lw_p127 : lw_okq (⟨"OrnamentsOutModel", "writesLong", "()I"⟩, 56) := ⟨⟨by decide +kernel, by decide +kernel⟩, List.mem_of_getElem? (i := 1204) (by decide +kernel), List.mem_of_getElem? (i := 1608) (by decide +kernel), List.mem_of_getElem? (i := 1609) (by decide +kernel)⟩
def lw_privs_8 : List (MethodName × Nat) := [(⟨"OrnamentsOutModel", "of", "(II)I"⟩, 56), (⟨"OrnamentsOutModel", "becomes", "(II)V"⟩, 56), (⟨"OrnamentsOutModel", "lays", "(III)V"⟩, 56), (⟨"OrnamentsOutModel", "writes", "()V"⟩, 56), (⟨"OrnamentsOutModel", "writesNote", "()V"⟩, 56), (⟨"OrnamentsOutModel", "toneOf", "(I)I"⟩, 56), (⟨"OrnamentsOutModel", "isQuick", "(II)Z"⟩, 56), (⟨"OrnamentsOutModel", "upper", "(II)I"⟩, 56), (⟨"OrnamentsOutModel", "upLetter", "(I)I"⟩, 56), (⟨"OrnamentsOutModel", "upOctave", "(I)I"⟩, 56), (⟨"OrnamentsOutModel", "neighbour", "(IIIIII)I"⟩, 56), (⟨"OrnamentsOutModel", "lower", "(II)I"⟩, 56), (⟨"OrnamentsOutModel", "downLetter", "(II)I"⟩, 56), (⟨"OrnamentsOutModel", "downOctave", "(II)I"⟩, 56), (⟨"OrnamentsOutModel", "writesPrefix", "()I"⟩, 56), (⟨"OrnamentsOutModel", "writesLong", "()I"⟩, 56)]
theorem lw_r8 : ∀ q ∈ lw_privs_8, lw_okq q := List.forall_mem_cons.mpr ⟨lw_p112, List.forall_mem_cons.mpr ⟨lw_p113, List.forall_mem_cons.mpr ⟨lw_p114, List.forall_mem_cons.mpr ⟨lw_p115, List.forall_mem_cons.mpr ⟨lw_p116, List.forall_mem_cons.mpr ⟨lw_p117, List.forall_mem_cons.mpr ⟨lw_p118, List.forall_mem_cons.mpr ⟨lw_p119, List.forall_mem_cons.mpr ⟨lw_p120, List.forall_mem_cons.mpr ⟨lw_p121, List.forall_mem_cons.mpr ⟨lw_p122, List.forall_mem_cons.mpr ⟨lw_p123, List.forall_mem_cons.mpr ⟨lw_p124, List.forall_mem_cons.mpr ⟨lw_p125, List.forall_mem_cons.mpr ⟨lw_p126, List.forall_mem_cons.mpr ⟨lw_p127, fun _ h => absurd h List.not_mem_nil⟩⟩⟩⟩⟩⟩⟩⟩⟩⟩⟩⟩⟩⟩⟩⟩
theorem lw_p128 : lw_okq (⟨"OrnamentsOutModel", "graces", "(III)V"⟩, 56) := ⟨⟨by decide +kernel, by decide +kernel⟩, List.mem_of_getElem? (i := 1204) (by decide +kernel), List.mem_of_getElem? (i := 1618) (by decide +kernel), List.mem_of_getElem? (i := 1619) (by decide +kernel)⟩
theorem lw_p129 : lw_okq (⟨"OrnamentsOutModel", "putsAs", "(IIIII)V"⟩, 56) := ⟨⟨by decide +kernel, by decide +kernel⟩, List.mem_of_getElem? (i := 1204) (by decide +kernel), List.mem_of_getElem? (i := 1622) (by decide +kernel), List.mem_of_getElem? (i := 1623) (by decide +kernel)⟩
theorem lw_p130 : lw_okq (⟨"OrnamentsOutModel", "comes", "(I)V"⟩, 56) := ⟨⟨by decide +kernel, by decide +kernel⟩, List.mem_of_getElem? (i := 1204) (by decide +kernel), List.mem_of_getElem? (i := 1626) (by decide +kernel), List.mem_of_getElem? (i := 1627) (by decide +kernel)⟩
theorem lw_p131 : lw_okq (⟨"OrnamentsOutModel", "writesSlide", "()I"⟩, 56) := ⟨⟨by decide +kernel, by decide +kernel⟩, List.mem_of_getElem? (i := 1204) (by decide +kernel), List.mem_of_getElem? (i := 1630) (by decide +kernel), List.mem_of_getElem? (i := 1631) (by decide +kernel)⟩
theorem lw_p132 : lw_okq (⟨"OrnamentsOutModel", "puts", "(II)V"⟩, 56) := ⟨⟨by decide +kernel, by decide +kernel⟩, List.mem_of_getElem? (i := 1204) (by decide +kernel), List.mem_of_getElem? (i := 1634) (by decide +kernel), List.mem_of_getElem? (i := 1635) (by decide +kernel)⟩
theorem lw_p133 : lw_okq (⟨"OrnamentsOutModel", "lowest", "(I)I"⟩, 56) := ⟨⟨by decide +kernel, by decide +kernel⟩, List.mem_of_getElem? (i := 1204) (by decide +kernel), List.mem_of_getElem? (i := 1638) (by decide +kernel), List.mem_of_getElem? (i := 1639) (by decide +kernel)⟩
theorem lw_p134 : lw_okq (⟨"OrnamentsOutModel", "writesGraces", "(I)I"⟩, 56) := ⟨⟨by decide +kernel, by decide +kernel⟩, List.mem_of_getElem? (i := 1204) (by decide +kernel), List.mem_of_getElem? (i := 1642) (by decide +kernel), List.mem_of_getElem? (i := 1643) (by decide +kernel)⟩
theorem lw_p135 : lw_okq (⟨"OrnamentsOutModel", "writesBody", "()I"⟩, 56) := ⟨⟨by decide +kernel, by decide +kernel⟩, List.mem_of_getElem? (i := 1204) (by decide +kernel), List.mem_of_getElem? (i := 1646) (by decide +kernel), List.mem_of_getElem? (i := 1647) (by decide +kernel)⟩
theorem lw_p136 : lw_okq (⟨"OrnamentsOutModel", "writesTrill", "()I"⟩, 56) := ⟨⟨by decide +kernel, by decide +kernel⟩, List.mem_of_getElem? (i := 1204) (by decide +kernel), List.mem_of_getElem? (i := 1650) (by decide +kernel), List.mem_of_getElem? (i := 1651) (by decide +kernel)⟩
theorem lw_p137 : lw_okq (⟨"OrnamentsOutModel", "isBehindUpper", "()Z"⟩, 56) := ⟨⟨by decide +kernel, by decide +kernel⟩, List.mem_of_getElem? (i := 1204) (by decide +kernel), List.mem_of_getElem? (i := 1654) (by decide +kernel), List.mem_of_getElem? (i := 1655) (by decide +kernel)⟩
theorem lw_p138 : lw_okq (⟨"OrnamentsOutModel", "trills", "(Z)Z"⟩, 56) := ⟨⟨by decide +kernel, by decide +kernel⟩, List.mem_of_getElem? (i := 1204) (by decide +kernel), List.mem_of_getElem? (i := 1658) (by decide +kernel), List.mem_of_getElem? (i := 1659) (by decide +kernel)⟩
theorem lw_p139 : lw_okq (⟨"OrnamentsOutModel", "isNextAbove", "()Z"⟩, 56) := ⟨⟨by decide +kernel, by decide +kernel⟩, List.mem_of_getElem? (i := 1204) (by decide +kernel), List.mem_of_getElem? (i := 1662) (by decide +kernel), List.mem_of_getElem? (i := 1663) (by decide +kernel)⟩
theorem lw_p140 : lw_okq (⟨"OrnamentsOutModel", "fit", "(IZ)I"⟩, 56) := ⟨⟨by decide +kernel, by decide +kernel⟩, List.mem_of_getElem? (i := 1204) (by decide +kernel), List.mem_of_getElem? (i := 1666) (by decide +kernel), List.mem_of_getElem? (i := 1667) (by decide +kernel)⟩
theorem lw_p141 : lw_okq (⟨"OrnamentsOutModel", "turns", "(III)V"⟩, 56) := ⟨⟨by decide +kernel, by decide +kernel⟩, List.mem_of_getElem? (i := 1204) (by decide +kernel), List.mem_of_getElem? (i := 1670) (by decide +kernel), List.mem_of_getElem? (i := 1671) (by decide +kernel)⟩
theorem lw_p142 : lw_okq (⟨"OrnamentsOutModel", "writesPrall", "()I"⟩, 56) := ⟨⟨by decide +kernel, by decide +kernel⟩, List.mem_of_getElem? (i := 1204) (by decide +kernel), List.mem_of_getElem? (i := 1674) (by decide +kernel), List.mem_of_getElem? (i := 1675) (by decide +kernel)⟩
theorem lw_p143 : lw_okq (⟨"OrnamentsOutModel", "writesMordent", "()I"⟩, 56) := ⟨⟨by decide +kernel, by decide +kernel⟩, List.mem_of_getElem? (i := 1204) (by decide +kernel), List.mem_of_getElem? (i := 1681) (by decide +kernel), List.mem_of_getElem? (i := 1682) (by decide +kernel)⟩
def lw_privs_9 : List (MethodName × Nat) := [(⟨"OrnamentsOutModel", "graces", "(III)V"⟩, 56), (⟨"OrnamentsOutModel", "putsAs", "(IIIII)V"⟩, 56), (⟨"OrnamentsOutModel", "comes", "(I)V"⟩, 56), (⟨"OrnamentsOutModel", "writesSlide", "()I"⟩, 56), (⟨"OrnamentsOutModel", "puts", "(II)V"⟩, 56), (⟨"OrnamentsOutModel", "lowest", "(I)I"⟩, 56), (⟨"OrnamentsOutModel", "writesGraces", "(I)I"⟩, 56), (⟨"OrnamentsOutModel", "writesBody", "()I"⟩, 56), (⟨"OrnamentsOutModel", "writesTrill", "()I"⟩, 56), (⟨"OrnamentsOutModel", "isBehindUpper", "()Z"⟩, 56), (⟨"OrnamentsOutModel", "trills", "(Z)Z"⟩, 56), (⟨"OrnamentsOutModel", "isNextAbove", "()Z"⟩, 56), (⟨"OrnamentsOutModel", "fit", "(IZ)I"⟩, 56), (⟨"OrnamentsOutModel", "turns", "(III)V"⟩, 56), (⟨"OrnamentsOutModel", "writesPrall", "()I"⟩, 56), (⟨"OrnamentsOutModel", "writesMordent", "()I"⟩, 56)]
theorem lw_r9 : ∀ q ∈ lw_privs_9, lw_okq q := List.forall_mem_cons.mpr ⟨lw_p128, List.forall_mem_cons.mpr ⟨lw_p129, List.forall_mem_cons.mpr ⟨lw_p130, List.forall_mem_cons.mpr ⟨lw_p131, List.forall_mem_cons.mpr ⟨lw_p132, List.forall_mem_cons.mpr ⟨lw_p133, List.forall_mem_cons.mpr ⟨lw_p134, List.forall_mem_cons.mpr ⟨lw_p135, List.forall_mem_cons.mpr ⟨lw_p136, List.forall_mem_cons.mpr ⟨lw_p137, List.forall_mem_cons.mpr ⟨lw_p138, List.forall_mem_cons.mpr ⟨lw_p139, List.forall_mem_cons.mpr ⟨lw_p140, List.forall_mem_cons.mpr ⟨lw_p141, List.forall_mem_cons.mpr ⟨lw_p142, List.forall_mem_cons.mpr ⟨lw_p143, fun _ h => absurd h List.not_mem_nil⟩⟩⟩⟩⟩⟩⟩⟩⟩⟩⟩⟩⟩⟩⟩⟩
theorem lw_p144 : lw_okq (⟨"OrnamentsOutModel", "writesTurn", "(II)I"⟩, 56) := ⟨⟨by decide +kernel, by decide +kernel⟩, List.mem_of_getElem? (i := 1204) (by decide +kernel), List.mem_of_getElem? (i := 1685) (by decide +kernel), List.mem_of_getElem? (i := 1686) (by decide +kernel)⟩
theorem lw_p145 : lw_okq (⟨"OrnamentsOutModel", "quarters", "(III)V"⟩, 56) := ⟨⟨by decide +kernel, by decide +kernel⟩, List.mem_of_getElem? (i := 1204) (by decide +kernel), List.mem_of_getElem? (i := 1689) (by decide +kernel), List.mem_of_getElem? (i := 1690) (by decide +kernel)⟩
theorem lw_p146 : lw_okq (⟨"OrnamentsOutModel", "writesLate", "()I"⟩, 56) := ⟨⟨by decide +kernel, by decide +kernel⟩, List.mem_of_getElem? (i := 1204) (by decide +kernel), List.mem_of_getElem? (i := 1693) (by decide +kernel), List.mem_of_getElem? (i := 1694) (by decide +kernel)⟩
theorem lw_p147 : lw_okq (⟨"OrnamentsOutModel", "writesLongMordent", "()I"⟩, 56) := ⟨⟨by decide +kernel, by decide +kernel⟩, List.mem_of_getElem? (i := 1204) (by decide +kernel), List.mem_of_getElem? (i := 1697) (by decide +kernel), List.mem_of_getElem? (i := 1698) (by decide +kernel)⟩
theorem lw_p148 : lw_okq (⟨"OrnamentsOutModel", "writesFromBelow", "()I"⟩, 56) := ⟨⟨by decide +kernel, by decide +kernel⟩, List.mem_of_getElem? (i := 1204) (by decide +kernel), List.mem_of_getElem? (i := 1701) (by decide +kernel), List.mem_of_getElem? (i := 1702) (by decide +kernel)⟩
theorem lw_p149 : lw_okq (⟨"OrnamentsOutModel", "writesBehind", "()I"⟩, 56) := ⟨⟨by decide +kernel, by decide +kernel⟩, List.mem_of_getElem? (i := 1204) (by decide +kernel), List.mem_of_getElem? (i := 1705) (by decide +kernel), List.mem_of_getElem? (i := 1706) (by decide +kernel)⟩
theorem lw_p150 : lw_okq (⟨"OrnamentsOutModel", "isAsked", "(II)Z"⟩, 56) := ⟨⟨by decide +kernel, by decide +kernel⟩, List.mem_of_getElem? (i := 1204) (by decide +kernel), List.mem_of_getElem? (i := 1713) (by decide +kernel), List.mem_of_getElem? (i := 1714) (by decide +kernel)⟩
theorem lw_p151 : lw_okq (⟨"OrnamentsOutModel", "isTone", "(I)Z"⟩, 56) := ⟨⟨by decide +kernel, by decide +kernel⟩, List.mem_of_getElem? (i := 1204) (by decide +kernel), List.mem_of_getElem? (i := 1738) (by decide +kernel), List.mem_of_getElem? (i := 1739) (by decide +kernel)⟩
theorem lw_p152 : lw_okq (⟨"OrnamentsOutModel", "alterOf", "(I)I"⟩, 56) := ⟨⟨by decide +kernel, by decide +kernel⟩, List.mem_of_getElem? (i := 1204) (by decide +kernel), List.mem_of_getElem? (i := 1742) (by decide +kernel), List.mem_of_getElem? (i := 1743) (by decide +kernel)⟩
theorem lw_p153 : lw_okq (⟨"OrnamentsOutModel", "barAt", "(I)I"⟩, 56) := ⟨⟨by decide +kernel, by decide +kernel⟩, List.mem_of_getElem? (i := 1204) (by decide +kernel), List.mem_of_getElem? (i := 1746) (by decide +kernel), List.mem_of_getElem? (i := 1747) (by decide +kernel)⟩
theorem lw_p154 : lw_okq (⟨"OrnamentsOutModel", "calls", "(I)V"⟩, 56) := ⟨⟨by decide +kernel, by decide +kernel⟩, List.mem_of_getElem? (i := 1204) (by decide +kernel), List.mem_of_getElem? (i := 1758) (by decide +kernel), List.mem_of_getElem? (i := 1759) (by decide +kernel)⟩
theorem lw_p155 : lw_okq (⟨"OrnamentsOutModel", "callsNumber", "(I)V"⟩, 56) := ⟨⟨by decide +kernel, by decide +kernel⟩, List.mem_of_getElem? (i := 1204) (by decide +kernel), List.mem_of_getElem? (i := 1762) (by decide +kernel), List.mem_of_getElem? (i := 1763) (by decide +kernel)⟩
theorem lw_p156 : lw_okq (⟨"OrnamentsOutModel", "verdicts", "(I)I"⟩, 56) := ⟨⟨by decide +kernel, by decide +kernel⟩, List.mem_of_getElem? (i := 1204) (by decide +kernel), List.mem_of_getElem? (i := 1794) (by decide +kernel), List.mem_of_getElem? (i := 1795) (by decide +kernel)⟩
theorem lw_p157 : lw_okq (⟨"OrnamentsOutModel", "whole", "(I)I"⟩, 56) := ⟨⟨by decide +kernel, by decide +kernel⟩, List.mem_of_getElem? (i := 1204) (by decide +kernel), List.mem_of_getElem? (i := 1802) (by decide +kernel), List.mem_of_getElem? (i := 1803) (by decide +kernel)⟩
theorem lw_p158 : lw_okq (⟨"OrnamentsOutModel", "tries", "(II)V"⟩, 56) := ⟨⟨by decide +kernel, by decide +kernel⟩, List.mem_of_getElem? (i := 1204) (by decide +kernel), List.mem_of_getElem? (i := 1814) (by decide +kernel), List.mem_of_getElem? (i := 1815) (by decide +kernel)⟩
theorem lw_p159 : lw_okq (⟨"OrnamentsOutModel", "plainOnes", "()I"⟩, 56) := ⟨⟨by decide +kernel, by decide +kernel⟩, List.mem_of_getElem? (i := 1204) (by decide +kernel), List.mem_of_getElem? (i := 1835) (by decide +kernel), List.mem_of_getElem? (i := 1836) (by decide +kernel)⟩
def lw_privs_10 : List (MethodName × Nat) := [(⟨"OrnamentsOutModel", "writesTurn", "(II)I"⟩, 56), (⟨"OrnamentsOutModel", "quarters", "(III)V"⟩, 56), (⟨"OrnamentsOutModel", "writesLate", "()I"⟩, 56), (⟨"OrnamentsOutModel", "writesLongMordent", "()I"⟩, 56), (⟨"OrnamentsOutModel", "writesFromBelow", "()I"⟩, 56), (⟨"OrnamentsOutModel", "writesBehind", "()I"⟩, 56), (⟨"OrnamentsOutModel", "isAsked", "(II)Z"⟩, 56), (⟨"OrnamentsOutModel", "isTone", "(I)Z"⟩, 56), (⟨"OrnamentsOutModel", "alterOf", "(I)I"⟩, 56), (⟨"OrnamentsOutModel", "barAt", "(I)I"⟩, 56), (⟨"OrnamentsOutModel", "calls", "(I)V"⟩, 56), (⟨"OrnamentsOutModel", "callsNumber", "(I)V"⟩, 56), (⟨"OrnamentsOutModel", "verdicts", "(I)I"⟩, 56), (⟨"OrnamentsOutModel", "whole", "(I)I"⟩, 56), (⟨"OrnamentsOutModel", "tries", "(II)V"⟩, 56), (⟨"OrnamentsOutModel", "plainOnes", "()I"⟩, 56)]
theorem lw_r10 : ∀ q ∈ lw_privs_10, lw_okq q := List.forall_mem_cons.mpr ⟨lw_p144, List.forall_mem_cons.mpr ⟨lw_p145, List.forall_mem_cons.mpr ⟨lw_p146, List.forall_mem_cons.mpr ⟨lw_p147, List.forall_mem_cons.mpr ⟨lw_p148, List.forall_mem_cons.mpr ⟨lw_p149, List.forall_mem_cons.mpr ⟨lw_p150, List.forall_mem_cons.mpr ⟨lw_p151, List.forall_mem_cons.mpr ⟨lw_p152, List.forall_mem_cons.mpr ⟨lw_p153, List.forall_mem_cons.mpr ⟨lw_p154, List.forall_mem_cons.mpr ⟨lw_p155, List.forall_mem_cons.mpr ⟨lw_p156, List.forall_mem_cons.mpr ⟨lw_p157, List.forall_mem_cons.mpr ⟨lw_p158, List.forall_mem_cons.mpr ⟨lw_p159, fun _ h => absurd h List.not_mem_nil⟩⟩⟩⟩⟩⟩⟩⟩⟩⟩⟩⟩⟩⟩⟩⟩
def lw_privs : List (MethodName × Nat) := lw_privs_1 ++ (lw_privs_2 ++ (lw_privs_3 ++ (lw_privs_4 ++ (lw_privs_5 ++ (lw_privs_6 ++ (lw_privs_7 ++ (lw_privs_8 ++ (lw_privs_9 ++ (lw_privs_10)))))))))
def lw_tbl : List Cond := k2_sels lw_privs ++ tables_1
theorem lw_privs_ok : ∀ q ∈ lw_privs, lw_okq q := by
  show ∀ q ∈ lw_privs_1 ++ (lw_privs_2 ++ (lw_privs_3 ++ (lw_privs_4 ++ (lw_privs_5 ++ (lw_privs_6 ++ (lw_privs_7 ++ (lw_privs_8 ++ (lw_privs_9 ++ (lw_privs_10))))))))), lw_okq q
  exact List.forall_mem_append.mpr ⟨lw_r1, List.forall_mem_append.mpr ⟨lw_r2, List.forall_mem_append.mpr ⟨lw_r3, List.forall_mem_append.mpr ⟨lw_r4, List.forall_mem_append.mpr ⟨lw_r5, List.forall_mem_append.mpr ⟨lw_r6, List.forall_mem_append.mpr ⟨lw_r7, List.forall_mem_append.mpr ⟨lw_r8, List.forall_mem_append.mpr ⟨lw_r9, lw_r10⟩⟩⟩⟩⟩⟩⟩⟩⟩
def RJ4 : String := "java/lang/StringBuilder"
def TJ4 : u_T := fun k => match k with
  | 0 => ("java/lang/AbstractStringBuilder", "value", "[B", false)
  | 1 => ("java/lang/AbstractStringBuilder", "coder", "B", false)
  | 2 => ("java/lang/AbstractStringBuilder", "maybeLatin1", "Z", false)
  | _ => ("java/lang/AbstractStringBuilder", "count", "I", false)
def tyJ4 : Nat → FieldType := fun k => match k with
  | 0 => .array .byte
  | 1 => .byte
  | 2 => .boolean
  | _ => .int
abbrev wsJ40 : List Cond := u_ws RJ4 TJ4 4
theorem nmJ4 : ∀ a, a < 4 → ∀ b, b < 4 → a ≠ b → (TJ4 a).2.1 ≠ (TJ4 b).2.1 := by decide +kernel
theorem tyJ4_ok : ∀ k, k < 4 → parseFieldDescriptor (TJ4 k).2.2.1 = some (tyJ4 k) := by decide +kernel
def RX0 : String := "OrnamentsOut$Note"
def TX0 : u_T := fun k => match k with
  | 0 => ("OrnamentsOut$Note", "pitch", "I", false)
  | 1 => ("OrnamentsOut$Note", "begin", "I", false)
  | 2 => ("OrnamentsOut$Note", "length", "I", false)
  | 3 => ("OrnamentsOut$Note", "bar", "I", false)
  | 4 => ("OrnamentsOut$Note", "key", "I", false)
  | 5 => ("OrnamentsOut$Note", "speed", "I", false)
  | 6 => ("OrnamentsOut$Note", "ties", "I", false)
  | 7 => ("OrnamentsOut$Note", "prefix", "I", false)
  | 8 => ("OrnamentsOut$Note", "graces", "[I", true)
  | 9 => ("OrnamentsOut$Note", "body", "I", false)
  | 10 => ("OrnamentsOut$Note", "upSign", "I", false)
  | 11 => ("OrnamentsOut$Note", "downSign", "I", false)
  | 12 => ("OrnamentsOut$Note", "behind", "I", false)
  | 13 => ("OrnamentsOut$Note", "heldUpper", "I", false)
  | 14 => ("OrnamentsOut$Note", "heldLower", "I", false)
  | _ => ("OrnamentsOut$Note", "heldLow", "I", false)
def tyX0 : Nat → FieldType := fun k => match k with
  | 0 => .int
  | 1 => .int
  | 2 => .int
  | 3 => .int
  | 4 => .int
  | 5 => .int
  | 6 => .int
  | 7 => .int
  | 8 => .array .int
  | 9 => .int
  | 10 => .int
  | 11 => .int
  | 12 => .int
  | 13 => .int
  | 14 => .int
  | _ => .int
abbrev wsX00 : List Cond := u_ws RX0 TX0 16
theorem nmX0 : ∀ a, a < 16 → ∀ b, b < 16 → a ≠ b → (TX0 a).2.1 ≠ (TX0 b).2.1 := by decide +kernel
theorem tyX0_ok : ∀ k, k < 16 → parseFieldDescriptor (TX0 k).2.2.1 = some (tyX0 k) := by decide +kernel
def RX1 : String := "OrnamentsOut$Reader"
def TX1 : u_T := fun k => match k with
  | 0 => ("OrnamentsOut$Reader", "tape", "[I", true)
  | 1 => ("OrnamentsOut$Reader", "taped", "I", false)
  | 2 => ("OrnamentsOut$Reader", "size", "I", false)
  | 3 => ("OrnamentsOut$Reader", "next", "I", false)
  | 4 => ("OrnamentsOut$Reader", "token", "I", false)
  | 5 => ("OrnamentsOut$Reader", "start", "I", false)
  | 6 => ("OrnamentsOut$Reader", "value", "I", false)
  | 7 => ("OrnamentsOut$Reader", "lineStart", "I", false)
  | 8 => ("OrnamentsOut$Reader", "read", "I", false)
  | 9 => ("OrnamentsOut$Reader", "song", "LOrnamentsOut$Song;", false)
  | 10 => ("OrnamentsOut$Reader", "key", "I", false)
  | 11 => ("OrnamentsOut$Reader", "speed", "I", false)
  | 12 => ("OrnamentsOut$Reader", "meter", "I", false)
  | 13 => ("OrnamentsOut$Reader", "barEnd", "I", false)
  | 14 => ("OrnamentsOut$Reader", "toldTwice", "Z", false)
  | 15 => ("OrnamentsOut$Reader", "toldSigns", "[I", true)
  | 16 => ("OrnamentsOut$Reader", "fault", "I", false)
  | _ => ("OrnamentsOut$Reader", "faultPlace", "I", false)
def tyX1 : Nat → FieldType := fun k => match k with
  | 0 => .array .int
  | 1 => .int
  | 2 => .int
  | 3 => .int
  | 4 => .int
  | 5 => .int
  | 6 => .int
  | 7 => .int
  | 8 => .int
  | 9 => .object "OrnamentsOut$Song"
  | 10 => .int
  | 11 => .int
  | 12 => .int
  | 13 => .int
  | 14 => .boolean
  | 15 => .array .int
  | 16 => .int
  | _ => .int
abbrev wsX10 : List Cond := u_ws RX1 TX1 18
theorem nmX1 : ∀ a, a < 18 → ∀ b, b < 18 → a ≠ b → (TX1 a).2.1 ≠ (TX1 b).2.1 := by decide +kernel
theorem tyX1_ok : ∀ k, k < 18 → parseFieldDescriptor (TX1 k).2.2.1 = some (tyX1 k) := by decide +kernel
def RX2 : String := "OrnamentsOut$Score"
def TX2 : u_T := fun k => match k with
  | 0 => ("OrnamentsOut$Score", "kept", "Z", true)
  | 1 => ("OrnamentsOut$Score", "tones", "I", false)
  | 2 => ("OrnamentsOut$Score", "pitches", "[I", false)
  | 3 => ("OrnamentsOut$Score", "owners", "[I", false)
  | 4 => ("OrnamentsOut$Score", "begins", "[I", false)
  | 5 => ("OrnamentsOut$Score", "lengths", "[I", false)
  | 6 => ("OrnamentsOut$Score", "cursor", "I", false)
  | 7 => ("OrnamentsOut$Score", "linked", "Z", false)
  | 8 => ("OrnamentsOut$Score", "latestPitch", "I", false)
  | 9 => ("OrnamentsOut$Score", "latestLength", "I", false)
  | 10 => ("OrnamentsOut$Score", "less", "I", false)
  | 11 => ("OrnamentsOut$Score", "away", "I", false)
  | 12 => ("OrnamentsOut$Score", "verdicts", "[I", true)
  | 13 => ("OrnamentsOut$Score", "firsts", "[I", true)
  | 14 => ("OrnamentsOut$Score", "counts", "[I", true)
  | 15 => ("OrnamentsOut$Score", "borrowedOwn", "[I", true)
  | _ => ("OrnamentsOut$Score", "borrowedAhead", "[I", true)
def tyX2 : Nat → FieldType := fun k => match k with
  | 0 => .boolean
  | 1 => .int
  | 2 => .array .int
  | 3 => .array .int
  | 4 => .array .int
  | 5 => .array .int
  | 6 => .int
  | 7 => .boolean
  | 8 => .int
  | 9 => .int
  | 10 => .int
  | 11 => .int
  | 12 => .array .int
  | 13 => .array .int
  | 14 => .array .int
  | 15 => .array .int
  | _ => .array .int
abbrev wsX20 : List Cond := u_ws RX2 TX2 17
theorem nmX2 : ∀ a, a < 17 → ∀ b, b < 17 → a ≠ b → (TX2 a).2.1 ≠ (TX2 b).2.1 := by decide +kernel
theorem tyX2_ok : ∀ k, k < 17 → parseFieldDescriptor (TX2 k).2.2.1 = some (tyX2 k) := by decide +kernel
def RX3 : String := "OrnamentsOut$Song"
def TX3 : u_T := fun k => match k with
  | 0 => ("OrnamentsOut$Song", "notes", "[LOrnamentsOut$Note;", true)
  | 1 => ("OrnamentsOut$Song", "size", "I", false)
  | 2 => ("OrnamentsOut$Song", "barBegins", "[I", true)
  | 3 => ("OrnamentsOut$Song", "bars", "I", false)
  | _ => ("OrnamentsOut$Song", "end", "I", false)
def tyX3 : Nat → FieldType := fun k => match k with
  | 0 => .array (.object "OrnamentsOut$Note")
  | 1 => .int
  | 2 => .array .int
  | 3 => .int
  | _ => .int
abbrev wsX30 : List Cond := u_ws RX3 TX3 5
theorem nmX3 : ∀ a, a < 5 → ∀ b, b < 5 → a ≠ b → (TX3 a).2.1 ≠ (TX3 b).2.1 := by decide +kernel
theorem tyX3_ok : ∀ k, k < 5 → parseFieldDescriptor (TX3 k).2.2.1 = some (tyX3 k) := by decide +kernel
def RX4 : String := "OrnamentsOut$Writer"
def TX4 : u_T := fun k => match k with
  | 0 => ("OrnamentsOut$Writer", "terms", "[I", true)
  | 1 => ("OrnamentsOut$Writer", "standing", "LOrnamentsOut$Score;", true)
  | 2 => ("OrnamentsOut$Writer", "paper", "LOrnamentsOut$Score;", true)
  | 3 => ("OrnamentsOut$Writer", "stale", "Z", false)
  | 4 => ("OrnamentsOut$Writer", "song", "LOrnamentsOut$Song;", false)
  | 5 => ("OrnamentsOut$Writer", "score", "LOrnamentsOut$Score;", false)
  | 6 => ("OrnamentsOut$Writer", "percent", "I", false)
  | 7 => ("OrnamentsOut$Writer", "index", "I", false)
  | 8 => ("OrnamentsOut$Writer", "note", "LOrnamentsOut$Note;", false)
  | 9 => ("OrnamentsOut$Writer", "next", "LOrnamentsOut$Note;", false)
  | 10 => ("OrnamentsOut$Writer", "tone", "I", false)
  | 11 => ("OrnamentsOut$Writer", "left", "I", false)
  | 12 => ("OrnamentsOut$Writer", "pitches", "[I", true)
  | _ => ("OrnamentsOut$Writer", "afterbeatPlayed", "Z", false)
def tyX4 : Nat → FieldType := fun k => match k with
  | 0 => .array .int
  | 1 => .object "OrnamentsOut$Score"
  | 2 => .object "OrnamentsOut$Score"
  | 3 => .boolean
  | 4 => .object "OrnamentsOut$Song"
  | 5 => .object "OrnamentsOut$Score"
  | 6 => .int
  | 7 => .int
  | 8 => .object "OrnamentsOut$Note"
  | 9 => .object "OrnamentsOut$Note"
  | 10 => .int
  | 11 => .int
  | 12 => .array .int
  | _ => .boolean
abbrev wsX40 : List Cond := u_ws RX4 TX4 14
theorem nmX4 : ∀ a, a < 14 → ∀ b, b < 14 → a ≠ b → (TX4 a).2.1 ≠ (TX4 b).2.1 := by decide +kernel
theorem tyX4_ok : ∀ k, k < 14 → parseFieldDescriptor (TX4 k).2.2.1 = some (tyX4 k) := by decide +kernel
def RX5 : String := "OrnamentsOut"
def TX5 : u_T := fun k => match k with
  | 0 => ("OrnamentsOut", "reader", "LOrnamentsOut$Reader;", true)
  | 1 => ("OrnamentsOut", "writer", "LOrnamentsOut$Writer;", true)
  | 2 => ("OrnamentsOut", "song", "LOrnamentsOut$Song;", false)
  | 3 => ("OrnamentsOut", "spare", "LOrnamentsOut$Song;", false)
  | 4 => ("OrnamentsOut", "aside", "LOrnamentsOut$Note;", true)
  | 5 => ("OrnamentsOut", "fault", "I", false)
  | _ => ("OrnamentsOut", "faultPlace", "I", false)
def tyX5 : Nat → FieldType := fun k => match k with
  | 0 => .object "OrnamentsOut$Reader"
  | 1 => .object "OrnamentsOut$Writer"
  | 2 => .object "OrnamentsOut$Song"
  | 3 => .object "OrnamentsOut$Song"
  | 4 => .object "OrnamentsOut$Note"
  | 5 => .int
  | _ => .int
abbrev wsX50 : List Cond := u_ws RX5 TX5 7
theorem nmX5 : ∀ a, a < 7 → ∀ b, b < 7 → a ≠ b → (TX5 a).2.1 ≠ (TX5 b).2.1 := by decide +kernel
theorem tyX5_ok : ∀ k, k < 7 → parseFieldDescriptor (TX5 k).2.2.1 = some (tyX5 k) := by decide +kernel
def RX6 : String := "OrnamentsOutModel"
def TX6 : u_T := fun k => match k with
  | 0 => ("OrnamentsOutModel", "thrown", "I", false)
  | 1 => ("OrnamentsOutModel", "term", "[I", true)
  | 2 => ("OrnamentsOutModel", "lowTerm", "[I", true)
  | 3 => ("OrnamentsOutModel", "highTerm", "[I", true)
  | 4 => ("OrnamentsOutModel", "base", "[I", true)
  | 5 => ("OrnamentsOutModel", "sharps", "[I", true)
  | 6 => ("OrnamentsOutModel", "all", "[I", true)
  | 7 => ("OrnamentsOutModel", "read", "[I", true)
  | 8 => ("OrnamentsOutModel", "tape", "[B", true)
  | 9 => ("OrnamentsOutModel", "taped", "I", false)
  | 10 => ("OrnamentsOutModel", "size", "I", false)
  | 11 => ("OrnamentsOutModel", "spot", "I", false)
  | 12 => ("OrnamentsOutModel", "wrong", "I", false)
  | 13 => ("OrnamentsOutModel", "wrongAt", "I", false)
  | 14 => ("OrnamentsOutModel", "sort", "I", false)
  | 15 => ("OrnamentsOutModel", "place", "I", false)
  | 16 => ("OrnamentsOutModel", "long0", "I", false)
  | 17 => ("OrnamentsOutModel", "value", "I", false)
  | 18 => ("OrnamentsOutModel", "words", "[B", true)
  | 19 => ("OrnamentsOutModel", "at", "I", false)
  | 20 => ("OrnamentsOutModel", "barEnd", "I", false)
  | 21 => ("OrnamentsOutModel", "meter", "I", false)
  | 22 => ("OrnamentsOutModel", "key", "I", false)
  | 23 => ("OrnamentsOutModel", "speed", "I", false)
  | 24 => ("OrnamentsOutModel", "isBehindNote", "Z", false)
  | 25 => ("OrnamentsOutModel", "told", "[I", true)
  | 26 => ("OrnamentsOutModel", "wordAt", "I", false)
  | 27 => ("OrnamentsOutModel", "letter", "I", false)
  | 28 => ("OrnamentsOutModel", "octave", "I", false)
  | 29 => ("OrnamentsOutModel", "num", "I", false)
  | 30 => ("OrnamentsOutModel", "isTwice", "Z", false)
  | 31 => ("OrnamentsOutModel", "t_num", "[I", true)
  | 32 => ("OrnamentsOutModel", "t_kind", "[I", true)
  | 33 => ("OrnamentsOutModel", "t_note", "[I", true)
  | 34 => ("OrnamentsOutModel", "t_letter", "[I", true)
  | 35 => ("OrnamentsOutModel", "t_octave", "[I", true)
  | 36 => ("OrnamentsOutModel", "t_begin", "[I", true)
  | 37 => ("OrnamentsOutModel", "t_long", "[I", true)
  | 38 => ("OrnamentsOutModel", "first", "[I", true)
  | 39 => ("OrnamentsOutModel", "many", "[I", true)
  | 40 => ("OrnamentsOutModel", "verdict", "[I", true)
  | 41 => ("OrnamentsOutModel", "self0", "[I", true)
  | 42 => ("OrnamentsOutModel", "ahead0", "[I", true)
  | 43 => ("OrnamentsOutModel", "toneMany", "I", false)
  | 44 => ("OrnamentsOutModel", "now", "I", false)
  | 45 => ("OrnamentsOutModel", "t", "I", false)
  | 46 => ("OrnamentsOutModel", "its0", "I", false)
  | 47 => ("OrnamentsOutModel", "up0", "I", false)
  | 48 => ("OrnamentsOutModel", "down0", "I", false)
  | 49 => ("OrnamentsOutModel", "last", "I", false)
  | 50 => ("OrnamentsOutModel", "goesOn", "I", false)
  | 51 => ("OrnamentsOutModel", "left", "I", false)
  | 52 => ("OrnamentsOutModel", "hasAfterbeat", "Z", false)
  | 53 => ("OrnamentsOutModel", "called", "[I", true)
  | 54 => ("OrnamentsOutModel", "calledLong", "I", false)
  | _ => ("OrnamentsOutModel", "aside", "[I", true)
def tyX6 : Nat → FieldType := fun k => match k with
  | 0 => .int
  | 1 => .array .int
  | 2 => .array .int
  | 3 => .array .int
  | 4 => .array .int
  | 5 => .array .int
  | 6 => .array .int
  | 7 => .array .int
  | 8 => .array .byte
  | 9 => .int
  | 10 => .int
  | 11 => .int
  | 12 => .int
  | 13 => .int
  | 14 => .int
  | 15 => .int
  | 16 => .int
  | 17 => .int
  | 18 => .array .byte
  | 19 => .int
  | 20 => .int
  | 21 => .int
  | 22 => .int
  | 23 => .int
  | 24 => .boolean
  | 25 => .array .int
  | 26 => .int
  | 27 => .int
  | 28 => .int
  | 29 => .int
  | 30 => .boolean
  | 31 => .array .int
  | 32 => .array .int
  | 33 => .array .int
  | 34 => .array .int
  | 35 => .array .int
  | 36 => .array .int
  | 37 => .array .int
  | 38 => .array .int
  | 39 => .array .int
  | 40 => .array .int
  | 41 => .array .int
  | 42 => .array .int
  | 43 => .int
  | 44 => .int
  | 45 => .int
  | 46 => .int
  | 47 => .int
  | 48 => .int
  | 49 => .int
  | 50 => .int
  | 51 => .int
  | 52 => .boolean
  | 53 => .array .int
  | 54 => .int
  | _ => .array .int
abbrev wsX60 : List Cond := u_ws RX6 TX6 56
theorem nmX6 : ∀ a, a < 56 → ∀ b, b < 56 → a ≠ b → (TX6 a).2.1 ≠ (TX6 b).2.1 := by decide +kernel
theorem tyX6_ok : ∀ k, k < 56 → parseFieldDescriptor (TX6 k).2.2.1 = some (tyX6 k) := by decide +kernel
abbrev vwCl : List vw_C := [(RJ4, TJ4, 4), (RX0, TX0, 16), (RX1, TX1, 18), (RX2, TX2, 17), (RX3, TX3, 5), (RX4, TX4, 14), (RX5, TX5, 7), (RX6, TX6, 56)]
