section
/-- a private method of a class that the tables say can be made, by its rows of tables_1 -/
def lw_okq (q : MethodName × Nat) : Prop := (q.1.cls ≠ "java/lang/invoke/MethodHandle" ∧ q.1.cls ≠ "java/lang/invoke/VarHandle") ∧ Cond.instantiable q.1.cls q.2 ∈ tables_1 ∧ Cond.privateMethod q.1 ∈ tables_1 ∧ Cond.instanceMethod q.1 ∈ tables_1
theorem lw_p0 : lw_okq (⟨"OrnamentsOut$Reader", "putBytes", "(I)V"⟩, 18) := ⟨⟨by decide +kernel, by decide +kernel⟩, List.mem_of_getElem? (i := 30) (by decide +kernel), List.mem_of_getElem? (i := 375) (by decide +kernel), List.mem_of_getElem? (i := 376) (by decide +kernel)⟩
theorem lw_p1 : lw_okq (⟨"OrnamentsOut$Reader", "start", "(LOrnamentsOut$Song;I)V"⟩, 18) := ⟨⟨by decide +kernel, by decide +kernel⟩, List.mem_of_getElem? (i := 30) (by decide +kernel), List.mem_of_getElem? (i := 383) (by decide +kernel), List.mem_of_getElem? (i := 384) (by decide +kernel)⟩
theorem lw_p2 : lw_okq (⟨"OrnamentsOut$Song", "clear", "()V"⟩, 5) := ⟨⟨by decide +kernel, by decide +kernel⟩, List.mem_of_getElem? (i := 222) (by decide +kernel), List.mem_of_getElem? (i := 387) (by decide +kernel), List.mem_of_getElem? (i := 388) (by decide +kernel)⟩
theorem lw_p3 : lw_okq (⟨"OrnamentsOut$Reader", "advance", "()V"⟩, 18) := ⟨⟨by decide +kernel, by decide +kernel⟩, List.mem_of_getElem? (i := 30) (by decide +kernel), List.mem_of_getElem? (i := 394) (by decide +kernel), List.mem_of_getElem? (i := 395) (by decide +kernel)⟩
theorem lw_p4 : lw_okq (⟨"OrnamentsOut$Reader", "hasMore", "()Z"⟩, 18) := ⟨⟨by decide +kernel, by decide +kernel⟩, List.mem_of_getElem? (i := 30) (by decide +kernel), List.mem_of_getElem? (i := 398) (by decide +kernel), List.mem_of_getElem? (i := 399) (by decide +kernel)⟩
theorem lw_p5 : lw_okq (⟨"OrnamentsOut$Reader", "readLine", "()Z"⟩, 18) := ⟨⟨by decide +kernel, by decide +kernel⟩, List.mem_of_getElem? (i := 30) (by decide +kernel), List.mem_of_getElem? (i := 402) (by decide +kernel), List.mem_of_getElem? (i := 403) (by decide +kernel)⟩
theorem lw_p6 : lw_okq (⟨"OrnamentsOut$Reader", "takeWord", "(Ljava/lang/String;)Z"⟩, 18) := ⟨⟨by decide +kernel, by decide +kernel⟩, List.mem_of_getElem? (i := 30) (by decide +kernel), List.mem_of_getElem? (i := 407) (by decide +kernel), List.mem_of_getElem? (i := 408) (by decide +kernel)⟩
theorem lw_p7 : lw_okq (⟨"OrnamentsOut$Reader", "readNote", "()Z"⟩, 18) := ⟨⟨by decide +kernel, by decide +kernel⟩, List.mem_of_getElem? (i := 30) (by decide +kernel), List.mem_of_getElem? (i := 459) (by decide +kernel), List.mem_of_getElem? (i := 460) (by decide +kernel)⟩
theorem lw_p8 : lw_okq (⟨"OrnamentsOut$Reader", "openBar", "()V"⟩, 18) := ⟨⟨by decide +kernel, by decide +kernel⟩, List.mem_of_getElem? (i := 30) (by decide +kernel), List.mem_of_getElem? (i := 463) (by decide +kernel), List.mem_of_getElem? (i := 464) (by decide +kernel)⟩
theorem lw_p9 : lw_okq (⟨"OrnamentsOut$Song", "addBar", "()V"⟩, 5) := ⟨⟨by decide +kernel, by decide +kernel⟩, List.mem_of_getElem? (i := 222) (by decide +kernel), List.mem_of_getElem? (i := 467) (by decide +kernel), List.mem_of_getElem? (i := 468) (by decide +kernel)⟩
theorem lw_p10 : lw_okq (⟨"OrnamentsOut$Reader", "fail", "(II)Z"⟩, 18) := ⟨⟨by decide +kernel, by decide +kernel⟩, List.mem_of_getElem? (i := 30) (by decide +kernel), List.mem_of_getElem? (i := 474) (by decide +kernel), List.mem_of_getElem? (i := 475) (by decide +kernel)⟩
theorem lw_p11 : lw_okq (⟨"OrnamentsOut$Note", "clear", "()V"⟩, 16) := ⟨⟨by decide +kernel, by decide +kernel⟩, List.mem_of_getElem? (i := 229) (by decide +kernel), List.mem_of_getElem? (i := 478) (by decide +kernel), List.mem_of_getElem? (i := 479) (by decide +kernel)⟩
theorem lw_p12 : lw_okq (⟨"OrnamentsOut$Note", "putBody", "(I)V"⟩, 16) := ⟨⟨by decide +kernel, by decide +kernel⟩, List.mem_of_getElem? (i := 229) (by decide +kernel), List.mem_of_getElem? (i := 482) (by decide +kernel), List.mem_of_getElem? (i := 483) (by decide +kernel)⟩
theorem lw_p13 : lw_okq (⟨"OrnamentsOut$Reader", "readPitch", "()Z"⟩, 18) := ⟨⟨by decide +kernel, by decide +kernel⟩, List.mem_of_getElem? (i := 30) (by decide +kernel), List.mem_of_getElem? (i := 489) (by decide +kernel), List.mem_of_getElem? (i := 490) (by decide +kernel)⟩
theorem lw_p14 : lw_okq (⟨"OrnamentsOut$Reader", "letterHere", "()I"⟩, 18) := ⟨⟨by decide +kernel, by decide +kernel⟩, List.mem_of_getElem? (i := 30) (by decide +kernel), List.mem_of_getElem? (i := 493) (by decide +kernel), List.mem_of_getElem? (i := 494) (by decide +kernel)⟩
theorem lw_p15 : lw_okq (⟨"OrnamentsOut$Reader", "signHere", "()I"⟩, 18) := ⟨⟨by decide +kernel, by decide +kernel⟩, List.mem_of_getElem? (i := 30) (by decide +kernel), List.mem_of_getElem? (i := 555) (by decide +kernel), List.mem_of_getElem? (i := 556) (by decide +kernel)⟩
def lw_privs_1 : List (MethodName × Nat) := [(⟨"OrnamentsOut$Reader", "putBytes", "(I)V"⟩, 18), (⟨"OrnamentsOut$Reader", "start", "(LOrnamentsOut$Song;I)V"⟩, 18), (⟨"OrnamentsOut$Song", "clear", "()V"⟩, 5), (⟨"OrnamentsOut$Reader", "advance", "()V"⟩, 18), (⟨"OrnamentsOut$Reader", "hasMore", "()Z"⟩, 18), (⟨"OrnamentsOut$Reader", "readLine", "()Z"⟩, 18), (⟨"OrnamentsOut$Reader", "takeWord", "(Ljava/lang/String;)Z"⟩, 18), (⟨"OrnamentsOut$Reader", "readNote", "()Z"⟩, 18), (⟨"OrnamentsOut$Reader", "openBar", "()V"⟩, 18), (⟨"OrnamentsOut$Song", "addBar", "()V"⟩, 5), (⟨"OrnamentsOut$Reader", "fail", "(II)Z"⟩, 18), (⟨"OrnamentsOut$Note", "clear", "()V"⟩, 16), (⟨"OrnamentsOut$Note", "putBody", "(I)V"⟩, 16), (⟨"OrnamentsOut$Reader", "readPitch", "()Z"⟩, 18), (⟨"OrnamentsOut$Reader", "letterHere", "()I"⟩, 18), (⟨"OrnamentsOut$Reader", "signHere", "()I"⟩, 18)]
theorem lw_r1 : ∀ q ∈ lw_privs_1, lw_okq q := List.forall_mem_cons.mpr ⟨lw_p0, List.forall_mem_cons.mpr ⟨lw_p1, List.forall_mem_cons.mpr ⟨lw_p2, List.forall_mem_cons.mpr ⟨lw_p3, List.forall_mem_cons.mpr ⟨lw_p4, List.forall_mem_cons.mpr ⟨lw_p5, List.forall_mem_cons.mpr ⟨lw_p6, List.forall_mem_cons.mpr ⟨lw_p7, List.forall_mem_cons.mpr ⟨lw_p8, List.forall_mem_cons.mpr ⟨lw_p9, List.forall_mem_cons.mpr ⟨lw_p10, List.forall_mem_cons.mpr ⟨lw_p11, List.forall_mem_cons.mpr ⟨lw_p12, List.forall_mem_cons.mpr ⟨lw_p13, List.forall_mem_cons.mpr ⟨lw_p14, List.forall_mem_cons.mpr ⟨lw_p15, fun _ h => absurd h List.not_mem_nil⟩⟩⟩⟩⟩⟩⟩⟩⟩⟩⟩⟩⟩⟩⟩⟩
theorem lw_p16 : lw_okq (⟨"OrnamentsOut$Reader", "readNumber", "(II)Z"⟩, 18) := ⟨⟨by decide +kernel, by decide +kernel⟩, List.mem_of_getElem? (i := 30) (by decide +kernel), List.mem_of_getElem? (i := 559) (by decide +kernel), List.mem_of_getElem? (i := 560) (by decide +kernel)⟩
theorem lw_p17 : lw_okq (⟨"OrnamentsOut$Reader", "toldSign", "(I)I"⟩, 18) := ⟨⟨by decide +kernel, by decide +kernel⟩, List.mem_of_getElem? (i := 30) (by decide +kernel), List.mem_of_getElem? (i := 563) (by decide +kernel), List.mem_of_getElem? (i := 564) (by decide +kernel)⟩
theorem lw_p18 : lw_okq (⟨"OrnamentsOut$Reader", "holdSigns", "(LOrnamentsOut$Note;)V"⟩, 18) := ⟨⟨by decide +kernel, by decide +kernel⟩, List.mem_of_getElem? (i := 30) (by decide +kernel), List.mem_of_getElem? (i := 591) (by decide +kernel), List.mem_of_getElem? (i := 592) (by decide +kernel)⟩
theorem lw_p19 : lw_okq (⟨"OrnamentsOut$Reader", "readFraction", "(II)Z"⟩, 18) := ⟨⟨by decide +kernel, by decide +kernel⟩, List.mem_of_getElem? (i := 30) (by decide +kernel), List.mem_of_getElem? (i := 598) (by decide +kernel), List.mem_of_getElem? (i := 599) (by decide +kernel)⟩
theorem lw_p20 : lw_okq (⟨"OrnamentsOut$Reader", "takeByte", "(C)Z"⟩, 18) := ⟨⟨by decide +kernel, by decide +kernel⟩, List.mem_of_getElem? (i := 30) (by decide +kernel), List.mem_of_getElem? (i := 602) (by decide +kernel), List.mem_of_getElem? (i := 603) (by decide +kernel)⟩
theorem lw_p21 : lw_okq (⟨"OrnamentsOut$Reader", "readPrefix", "(LOrnamentsOut$Note;)Z"⟩, 18) := ⟨⟨by decide +kernel, by decide +kernel⟩, List.mem_of_getElem? (i := 30) (by decide +kernel), List.mem_of_getElem? (i := 609) (by decide +kernel), List.mem_of_getElem? (i := 610) (by decide +kernel)⟩
theorem lw_p22 : lw_okq (⟨"OrnamentsOut$Reader", "readBody", "(LOrnamentsOut$Note;)Z"⟩, 18) := ⟨⟨by decide +kernel, by decide +kernel⟩, List.mem_of_getElem? (i := 30) (by decide +kernel), List.mem_of_getElem? (i := 616) (by decide +kernel), List.mem_of_getElem? (i := 617) (by decide +kernel)⟩
theorem lw_p23 : lw_okq (⟨"OrnamentsOut$Reader", "bodyHere", "()I"⟩, 18) := ⟨⟨by decide +kernel, by decide +kernel⟩, List.mem_of_getElem? (i := 30) (by decide +kernel), List.mem_of_getElem? (i := 620) (by decide +kernel), List.mem_of_getElem? (i := 621) (by decide +kernel)⟩
theorem lw_p24 : lw_okq (⟨"OrnamentsOut$Reader", "tellSign", "(LOrnamentsOut$Note;ZI)V"⟩, 18) := ⟨⟨by decide +kernel, by decide +kernel⟩, List.mem_of_getElem? (i := 30) (by decide +kernel), List.mem_of_getElem? (i := 627) (by decide +kernel), List.mem_of_getElem? (i := 628) (by decide +kernel)⟩
theorem lw_p25 : lw_okq (⟨"OrnamentsOut$Reader", "readBehind", "(LOrnamentsOut$Note;)V"⟩, 18) := ⟨⟨by decide +kernel, by decide +kernel⟩, List.mem_of_getElem? (i := 30) (by decide +kernel), List.mem_of_getElem? (i := 631) (by decide +kernel), List.mem_of_getElem? (i := 632) (by decide +kernel)⟩
theorem lw_p26 : lw_okq (⟨"OrnamentsOut$Reader", "addNote", "(LOrnamentsOut$Note;I)V"⟩, 18) := ⟨⟨by decide +kernel, by decide +kernel⟩, List.mem_of_getElem? (i := 30) (by decide +kernel), List.mem_of_getElem? (i := 638) (by decide +kernel), List.mem_of_getElem? (i := 639) (by decide +kernel)⟩
theorem lw_p27 : lw_okq (⟨"OrnamentsOut$Reader", "readRest", "()Z"⟩, 18) := ⟨⟨by decide +kernel, by decide +kernel⟩, List.mem_of_getElem? (i := 30) (by decide +kernel), List.mem_of_getElem? (i := 643) (by decide +kernel), List.mem_of_getElem? (i := 644) (by decide +kernel)⟩
theorem lw_p28 : lw_okq (⟨"OrnamentsOut$Reader", "readTie", "()Z"⟩, 18) := ⟨⟨by decide +kernel, by decide +kernel⟩, List.mem_of_getElem? (i := 30) (by decide +kernel), List.mem_of_getElem? (i := 648) (by decide +kernel), List.mem_of_getElem? (i := 649) (by decide +kernel)⟩
theorem lw_p29 : lw_okq (⟨"OrnamentsOut$Song", "playedNote", "(I)LOrnamentsOut$Note;"⟩, 5) := ⟨⟨by decide +kernel, by decide +kernel⟩, List.mem_of_getElem? (i := 222) (by decide +kernel), List.mem_of_getElem? (i := 652) (by decide +kernel), List.mem_of_getElem? (i := 653) (by decide +kernel)⟩
theorem lw_p30 : lw_okq (⟨"OrnamentsOut$Song", "anyNote", "(I)LOrnamentsOut$Note;"⟩, 5) := ⟨⟨by decide +kernel, by decide +kernel⟩, List.mem_of_getElem? (i := 222) (by decide +kernel), List.mem_of_getElem? (i := 656) (by decide +kernel), List.mem_of_getElem? (i := 657) (by decide +kernel)⟩
theorem lw_p31 : lw_okq (⟨"OrnamentsOut$Note", "isRest", "()Z"⟩, 16) := ⟨⟨by decide +kernel, by decide +kernel⟩, List.mem_of_getElem? (i := 229) (by decide +kernel), List.mem_of_getElem? (i := 660) (by decide +kernel), List.mem_of_getElem? (i := 661) (by decide +kernel)⟩
def lw_privs_2 : List (MethodName × Nat) := [(⟨"OrnamentsOut$Reader", "readNumber", "(II)Z"⟩, 18), (⟨"OrnamentsOut$Reader", "toldSign", "(I)I"⟩, 18), (⟨"OrnamentsOut$Reader", "holdSigns", "(LOrnamentsOut$Note;)V"⟩, 18), (⟨"OrnamentsOut$Reader", "readFraction", "(II)Z"⟩, 18), (⟨"OrnamentsOut$Reader", "takeByte", "(C)Z"⟩, 18), (⟨"OrnamentsOut$Reader", "readPrefix", "(LOrnamentsOut$Note;)Z"⟩, 18), (⟨"OrnamentsOut$Reader", "readBody", "(LOrnamentsOut$Note;)Z"⟩, 18), (⟨"OrnamentsOut$Reader", "bodyHere", "()I"⟩, 18), (⟨"OrnamentsOut$Reader", "tellSign", "(LOrnamentsOut$Note;ZI)V"⟩, 18), (⟨"OrnamentsOut$Reader", "readBehind", "(LOrnamentsOut$Note;)V"⟩, 18), (⟨"OrnamentsOut$Reader", "addNote", "(LOrnamentsOut$Note;I)V"⟩, 18), (⟨"OrnamentsOut$Reader", "readRest", "()Z"⟩, 18), (⟨"OrnamentsOut$Reader", "readTie", "()Z"⟩, 18), (⟨"OrnamentsOut$Song", "playedNote", "(I)LOrnamentsOut$Note;"⟩, 5), (⟨"OrnamentsOut$Song", "anyNote", "(I)LOrnamentsOut$Note;"⟩, 5), (⟨"OrnamentsOut$Note", "isRest", "()Z"⟩, 16)]
theorem lw_r2 : ∀ q ∈ lw_privs_2, lw_okq q := List.forall_mem_cons.mpr ⟨lw_p16, List.forall_mem_cons.mpr ⟨lw_p17, List.forall_mem_cons.mpr ⟨lw_p18, List.forall_mem_cons.mpr ⟨lw_p19, List.forall_mem_cons.mpr ⟨lw_p20, List.forall_mem_cons.mpr ⟨lw_p21, List.forall_mem_cons.mpr ⟨lw_p22, List.forall_mem_cons.mpr ⟨lw_p23, List.forall_mem_cons.mpr ⟨lw_p24, List.forall_mem_cons.mpr ⟨lw_p25, List.forall_mem_cons.mpr ⟨lw_p26, List.forall_mem_cons.mpr ⟨lw_p27, List.forall_mem_cons.mpr ⟨lw_p28, List.forall_mem_cons.mpr ⟨lw_p29, List.forall_mem_cons.mpr ⟨lw_p30, List.forall_mem_cons.mpr ⟨lw_p31, fun _ h => absurd h List.not_mem_nil⟩⟩⟩⟩⟩⟩⟩⟩⟩⟩⟩⟩⟩⟩⟩⟩
theorem lw_p32 : lw_okq (⟨"OrnamentsOut$Reader", "readKey", "()Z"⟩, 18) := ⟨⟨by decide +kernel, by decide +kernel⟩, List.mem_of_getElem? (i := 30) (by decide +kernel), List.mem_of_getElem? (i := 665) (by decide +kernel), List.mem_of_getElem? (i := 666) (by decide +kernel)⟩
theorem lw_p33 : lw_okq (⟨"OrnamentsOut$Reader", "readMeter", "()Z"⟩, 18) := ⟨⟨by decide +kernel, by decide +kernel⟩, List.mem_of_getElem? (i := 30) (by decide +kernel), List.mem_of_getElem? (i := 670) (by decide +kernel), List.mem_of_getElem? (i := 671) (by decide +kernel)⟩
theorem lw_p34 : lw_okq (⟨"OrnamentsOut$Reader", "readSpeed", "()Z"⟩, 18) := ⟨⟨by decide +kernel, by decide +kernel⟩, List.mem_of_getElem? (i := 30) (by decide +kernel), List.mem_of_getElem? (i := 675) (by decide +kernel), List.mem_of_getElem? (i := 676) (by decide +kernel)⟩
theorem lw_p35 : lw_okq (⟨"OrnamentsOut$Reader", "closeLine", "()Z"⟩, 18) := ⟨⟨by decide +kernel, by decide +kernel⟩, List.mem_of_getElem? (i := 30) (by decide +kernel), List.mem_of_getElem? (i := 679) (by decide +kernel), List.mem_of_getElem? (i := 680) (by decide +kernel)⟩
theorem lw_p36 : lw_okq (⟨"OrnamentsOut", "neighbourNumber", "(LOrnamentsOut$Note;I)I"⟩, 7) := ⟨⟨by decide +kernel, by decide +kernel⟩, List.mem_of_getElem? (i := 22) (by decide +kernel), List.mem_of_getElem? (i := 728) (by decide +kernel), List.mem_of_getElem? (i := 729) (by decide +kernel)⟩
theorem lw_p37 : lw_okq (⟨"OrnamentsOut$Note", "upperIn", "(II)I"⟩, 16) := ⟨⟨by decide +kernel, by decide +kernel⟩, List.mem_of_getElem? (i := 229) (by decide +kernel), List.mem_of_getElem? (i := 732) (by decide +kernel), List.mem_of_getElem? (i := 733) (by decide +kernel)⟩
theorem lw_p38 : lw_okq (⟨"OrnamentsOut$Note", "lowerIn", "(II)I"⟩, 16) := ⟨⟨by decide +kernel, by decide +kernel⟩, List.mem_of_getElem? (i := 229) (by decide +kernel), List.mem_of_getElem? (i := 741) (by decide +kernel), List.mem_of_getElem? (i := 742) (by decide +kernel)⟩
theorem lw_p39 : lw_okq (⟨"OrnamentsOut$Note", "lowIn", "(II)I"⟩, 16) := ⟨⟨by decide +kernel, by decide +kernel⟩, List.mem_of_getElem? (i := 229) (by decide +kernel), List.mem_of_getElem? (i := 746) (by decide +kernel), List.mem_of_getElem? (i := 747) (by decide +kernel)⟩
theorem lw_p40 : lw_okq (⟨"OrnamentsOut$Writer", "written", "(LOrnamentsOut$Song;)LOrnamentsOut$Score;"⟩, 14) := ⟨⟨by decide +kernel, by decide +kernel⟩, List.mem_of_getElem? (i := 95) (by decide +kernel), List.mem_of_getElem? (i := 750) (by decide +kernel), List.mem_of_getElem? (i := 751) (by decide +kernel)⟩
theorem lw_p41 : lw_okq (⟨"OrnamentsOut$Writer", "start", "(LOrnamentsOut$Song;LOrnamentsOut$Score;I)V"⟩, 14) := ⟨⟨by decide +kernel, by decide +kernel⟩, List.mem_of_getElem? (i := 95) (by decide +kernel), List.mem_of_getElem? (i := 754) (by decide +kernel), List.mem_of_getElem? (i := 755) (by decide +kernel)⟩
theorem lw_p42 : lw_okq (⟨"OrnamentsOut$Score", "clear", "()V"⟩, 17) := ⟨⟨by decide +kernel, by decide +kernel⟩, List.mem_of_getElem? (i := 101) (by decide +kernel), List.mem_of_getElem? (i := 758) (by decide +kernel), List.mem_of_getElem? (i := 759) (by decide +kernel)⟩
theorem lw_p43 : lw_okq (⟨"OrnamentsOut$Writer", "writeNote", "(I)V"⟩, 14) := ⟨⟨by decide +kernel, by decide +kernel⟩, List.mem_of_getElem? (i := 95) (by decide +kernel), List.mem_of_getElem? (i := 762) (by decide +kernel), List.mem_of_getElem? (i := 763) (by decide +kernel)⟩
theorem lw_p44 : lw_okq (⟨"OrnamentsOut$Score", "openNote", "(I)V"⟩, 17) := ⟨⟨by decide +kernel, by decide +kernel⟩, List.mem_of_getElem? (i := 101) (by decide +kernel), List.mem_of_getElem? (i := 767) (by decide +kernel), List.mem_of_getElem? (i := 768) (by decide +kernel)⟩
theorem lw_p45 : lw_okq (⟨"OrnamentsOut$Score", "addRest", "(I)V"⟩, 17) := ⟨⟨by decide +kernel, by decide +kernel⟩, List.mem_of_getElem? (i := 101) (by decide +kernel), List.mem_of_getElem? (i := 787) (by decide +kernel), List.mem_of_getElem? (i := 788) (by decide +kernel)⟩
theorem lw_p46 : lw_okq (⟨"OrnamentsOut$Score", "closeNote", "(IIII)V"⟩, 17) := ⟨⟨by decide +kernel, by decide +kernel⟩, List.mem_of_getElem? (i := 101) (by decide +kernel), List.mem_of_getElem? (i := 791) (by decide +kernel), List.mem_of_getElem? (i := 792) (by decide +kernel)⟩
theorem lw_p47 : lw_okq (⟨"OrnamentsOut$Score", "putVerdict", "(II)V"⟩, 17) := ⟨⟨by decide +kernel, by decide +kernel⟩, List.mem_of_getElem? (i := 101) (by decide +kernel), List.mem_of_getElem? (i := 795) (by decide +kernel), List.mem_of_getElem? (i := 796) (by decide +kernel)⟩
def lw_privs_3 : List (MethodName × Nat) := [(⟨"OrnamentsOut$Reader", "readKey", "()Z"⟩, 18), (⟨"OrnamentsOut$Reader", "readMeter", "()Z"⟩, 18), (⟨"OrnamentsOut$Reader", "readSpeed", "()Z"⟩, 18), (⟨"OrnamentsOut$Reader", "closeLine", "()Z"⟩, 18), (⟨"OrnamentsOut", "neighbourNumber", "(LOrnamentsOut$Note;I)I"⟩, 7), (⟨"OrnamentsOut$Note", "upperIn", "(II)I"⟩, 16), (⟨"OrnamentsOut$Note", "lowerIn", "(II)I"⟩, 16), (⟨"OrnamentsOut$Note", "lowIn", "(II)I"⟩, 16), (⟨"OrnamentsOut$Writer", "written", "(LOrnamentsOut$Song;)LOrnamentsOut$Score;"⟩, 14), (⟨"OrnamentsOut$Writer", "start", "(LOrnamentsOut$Song;LOrnamentsOut$Score;I)V"⟩, 14), (⟨"OrnamentsOut$Score", "clear", "()V"⟩, 17), (⟨"OrnamentsOut$Writer", "writeNote", "(I)V"⟩, 14), (⟨"OrnamentsOut$Score", "openNote", "(I)V"⟩, 17), (⟨"OrnamentsOut$Score", "addRest", "(I)V"⟩, 17), (⟨"OrnamentsOut$Score", "closeNote", "(IIII)V"⟩, 17), (⟨"OrnamentsOut$Score", "putVerdict", "(II)V"⟩, 17)]
theorem lw_r3 : ∀ q ∈ lw_privs_3, lw_okq q := List.forall_mem_cons.mpr ⟨lw_p32, List.forall_mem_cons.mpr ⟨lw_p33, List.forall_mem_cons.mpr ⟨lw_p34, List.forall_mem_cons.mpr ⟨lw_p35, List.forall_mem_cons.mpr ⟨lw_p36, List.forall_mem_cons.mpr ⟨lw_p37, List.forall_mem_cons.mpr ⟨lw_p38, List.forall_mem_cons.mpr ⟨lw_p39, List.forall_mem_cons.mpr ⟨lw_p40, List.forall_mem_cons.mpr ⟨lw_p41, List.forall_mem_cons.mpr ⟨lw_p42, List.forall_mem_cons.mpr ⟨lw_p43, List.forall_mem_cons.mpr ⟨lw_p44, List.forall_mem_cons.mpr ⟨lw_p45, List.forall_mem_cons.mpr ⟨lw_p46, List.forall_mem_cons.mpr ⟨lw_p47, fun _ h => absurd h List.not_mem_nil⟩⟩⟩⟩⟩⟩⟩⟩⟩⟩⟩⟩⟩⟩⟩⟩
theorem lw_p48 : lw_okq (⟨"OrnamentsOut$Writer", "toneAt", "(II)I"⟩, 14) := ⟨⟨by decide +kernel, by decide +kernel⟩, List.mem_of_getElem? (i := 95) (by decide +kernel), List.mem_of_getElem? (i := 799) (by decide +kernel), List.mem_of_getElem? (i := 800) (by decide +kernel)⟩
theorem lw_p49 : lw_okq (⟨"OrnamentsOut$Writer", "isQuick", "(III)Z"⟩, 14) := ⟨⟨by decide +kernel, by decide +kernel⟩, List.mem_of_getElem? (i := 95) (by decide +kernel), List.mem_of_getElem? (i := 803) (by decide +kernel), List.mem_of_getElem? (i := 804) (by decide +kernel)⟩
theorem lw_p50 : lw_okq (⟨"OrnamentsOut$Writer", "playPrefix", "()I"⟩, 14) := ⟨⟨by decide +kernel, by decide +kernel⟩, List.mem_of_getElem? (i := 95) (by decide +kernel), List.mem_of_getElem? (i := 812) (by decide +kernel), List.mem_of_getElem? (i := 813) (by decide +kernel)⟩
theorem lw_p51 : lw_okq (⟨"OrnamentsOut$Writer", "playAppoggiatura", "()I"⟩, 14) := ⟨⟨by decide +kernel, by decide +kernel⟩, List.mem_of_getElem? (i := 95) (by decide +kernel), List.mem_of_getElem? (i := 816) (by decide +kernel), List.mem_of_getElem? (i := 817) (by decide +kernel)⟩
theorem lw_p52 : lw_okq (⟨"OrnamentsOut$Writer", "takeOfNote", "(I)V"⟩, 14) := ⟨⟨by decide +kernel, by decide +kernel⟩, List.mem_of_getElem? (i := 95) (by decide +kernel), List.mem_of_getElem? (i := 826) (by decide +kernel), List.mem_of_getElem? (i := 827) (by decide +kernel)⟩
theorem lw_p53 : lw_okq (⟨"OrnamentsOut$Writer", "addGraces", "(III)V"⟩, 14) := ⟨⟨by decide +kernel, by decide +kernel⟩, List.mem_of_getElem? (i := 95) (by decide +kernel), List.mem_of_getElem? (i := 830) (by decide +kernel), List.mem_of_getElem? (i := 831) (by decide +kernel)⟩
theorem lw_p54 : lw_okq (⟨"OrnamentsOut$Score", "addTone", "(IIII)V"⟩, 17) := ⟨⟨by decide +kernel, by decide +kernel⟩, List.mem_of_getElem? (i := 101) (by decide +kernel), List.mem_of_getElem? (i := 835) (by decide +kernel), List.mem_of_getElem? (i := 836) (by decide +kernel)⟩
theorem lw_p55 : lw_okq (⟨"OrnamentsOut$Writer", "playSlide", "()I"⟩, 14) := ⟨⟨by decide +kernel, by decide +kernel⟩, List.mem_of_getElem? (i := 95) (by decide +kernel), List.mem_of_getElem? (i := 839) (by decide +kernel), List.mem_of_getElem? (i := 840) (by decide +kernel)⟩
theorem lw_p56 : lw_okq (⟨"OrnamentsOut$Writer", "play", "(II)V"⟩, 14) := ⟨⟨by decide +kernel, by decide +kernel⟩, List.mem_of_getElem? (i := 95) (by decide +kernel), List.mem_of_getElem? (i := 843) (by decide +kernel), List.mem_of_getElem? (i := 844) (by decide +kernel)⟩
theorem lw_p57 : lw_okq (⟨"OrnamentsOut$Writer", "playGraces", "(I)I"⟩, 14) := ⟨⟨by decide +kernel, by decide +kernel⟩, List.mem_of_getElem? (i := 95) (by decide +kernel), List.mem_of_getElem? (i := 847) (by decide +kernel), List.mem_of_getElem? (i := 848) (by decide +kernel)⟩
theorem lw_p58 : lw_okq (⟨"OrnamentsOut$Score", "shortenLatest", "(I)V"⟩, 17) := ⟨⟨by decide +kernel, by decide +kernel⟩, List.mem_of_getElem? (i := 101) (by decide +kernel), List.mem_of_getElem? (i := 851) (by decide +kernel), List.mem_of_getElem? (i := 852) (by decide +kernel)⟩
theorem lw_p59 : lw_okq (⟨"OrnamentsOut$Writer", "playBody", "()I"⟩, 14) := ⟨⟨by decide +kernel, by decide +kernel⟩, List.mem_of_getElem? (i := 95) (by decide +kernel), List.mem_of_getElem? (i := 855) (by decide +kernel), List.mem_of_getElem? (i := 856) (by decide +kernel)⟩
theorem lw_p60 : lw_okq (⟨"OrnamentsOut$Writer", "playTurns", "()Z"⟩, 14) := ⟨⟨by decide +kernel, by decide +kernel⟩, List.mem_of_getElem? (i := 95) (by decide +kernel), List.mem_of_getElem? (i := 859) (by decide +kernel), List.mem_of_getElem? (i := 860) (by decide +kernel)⟩
theorem lw_p61 : lw_okq (⟨"OrnamentsOut$Writer", "isBehindUpper", "()Z"⟩, 14) := ⟨⟨by decide +kernel, by decide +kernel⟩, List.mem_of_getElem? (i := 95) (by decide +kernel), List.mem_of_getElem? (i := 863) (by decide +kernel), List.mem_of_getElem? (i := 864) (by decide +kernel)⟩
theorem lw_p62 : lw_okq (⟨"OrnamentsOut$Writer", "wantsAfterbeat", "()Z"⟩, 14) := ⟨⟨by decide +kernel, by decide +kernel⟩, List.mem_of_getElem? (i := 95) (by decide +kernel), List.mem_of_getElem? (i := 868) (by decide +kernel), List.mem_of_getElem? (i := 869) (by decide +kernel)⟩
theorem lw_p63 : lw_okq (⟨"OrnamentsOut$Writer", "addTurns", "(ZI)Z"⟩, 14) := ⟨⟨by decide +kernel, by decide +kernel⟩, List.mem_of_getElem? (i := 95) (by decide +kernel), List.mem_of_getElem? (i := 872) (by decide +kernel), List.mem_of_getElem? (i := 873) (by decide +kernel)⟩
def lw_privs_4 : List (MethodName × Nat) := [(⟨"OrnamentsOut$Writer", "toneAt", "(II)I"⟩, 14), (⟨"OrnamentsOut$Writer", "isQuick", "(III)Z"⟩, 14), (⟨"OrnamentsOut$Writer", "playPrefix", "()I"⟩, 14), (⟨"OrnamentsOut$Writer", "playAppoggiatura", "()I"⟩, 14), (⟨"OrnamentsOut$Writer", "takeOfNote", "(I)V"⟩, 14), (⟨"OrnamentsOut$Writer", "addGraces", "(III)V"⟩, 14), (⟨"OrnamentsOut$Score", "addTone", "(IIII)V"⟩, 17), (⟨"OrnamentsOut$Writer", "playSlide", "()I"⟩, 14), (⟨"OrnamentsOut$Writer", "play", "(II)V"⟩, 14), (⟨"OrnamentsOut$Writer", "playGraces", "(I)I"⟩, 14), (⟨"OrnamentsOut$Score", "shortenLatest", "(I)V"⟩, 17), (⟨"OrnamentsOut$Writer", "playBody", "()I"⟩, 14), (⟨"OrnamentsOut$Writer", "playTurns", "()Z"⟩, 14), (⟨"OrnamentsOut$Writer", "isBehindUpper", "()Z"⟩, 14), (⟨"OrnamentsOut$Writer", "wantsAfterbeat", "()Z"⟩, 14), (⟨"OrnamentsOut$Writer", "addTurns", "(ZI)Z"⟩, 14)]
theorem lw_r4 : ∀ q ∈ lw_privs_4, lw_okq q := List.forall_mem_cons.mpr ⟨lw_p48, List.forall_mem_cons.mpr ⟨lw_p49, List.forall_mem_cons.mpr ⟨lw_p50, List.forall_mem_cons.mpr ⟨lw_p51, List.forall_mem_cons.mpr ⟨lw_p52, List.forall_mem_cons.mpr ⟨lw_p53, List.forall_mem_cons.mpr ⟨lw_p54, List.forall_mem_cons.mpr ⟨lw_p55, List.forall_mem_cons.mpr ⟨lw_p56, List.forall_mem_cons.mpr ⟨lw_p57, List.forall_mem_cons.mpr ⟨lw_p58, List.forall_mem_cons.mpr ⟨lw_p59, List.forall_mem_cons.mpr ⟨lw_p60, List.forall_mem_cons.mpr ⟨lw_p61, List.forall_mem_cons.mpr ⟨lw_p62, List.forall_mem_cons.mpr ⟨lw_p63, fun _ h => absurd h List.not_mem_nil⟩⟩⟩⟩⟩⟩⟩⟩⟩⟩⟩⟩⟩⟩⟩⟩
theorem lw_p64 : lw_okq (⟨"OrnamentsOut$Writer", "turnsIn", "(IZ)I"⟩, 14) := ⟨⟨by decide +kernel, by decide +kernel⟩, List.mem_of_getElem? (i := 95) (by decide +kernel), List.mem_of_getElem? (i := 876) (by decide +kernel), List.mem_of_getElem? (i := 877) (by decide +kernel)⟩
theorem lw_p65 : lw_okq (⟨"OrnamentsOut$Score", "countTones", "(II)V"⟩, 17) := ⟨⟨by decide +kernel, by decide +kernel⟩, List.mem_of_getElem? (i := 101) (by decide +kernel), List.mem_of_getElem? (i := 881) (by decide +kernel), List.mem_of_getElem? (i := 882) (by decide +kernel)⟩
theorem lw_p66 : lw_okq (⟨"OrnamentsOut$Writer", "playPrall", "()I"⟩, 14) := ⟨⟨by decide +kernel, by decide +kernel⟩, List.mem_of_getElem? (i := 95) (by decide +kernel), List.mem_of_getElem? (i := 885) (by decide +kernel), List.mem_of_getElem? (i := 886) (by decide +kernel)⟩
theorem lw_p67 : lw_okq (⟨"OrnamentsOut$Writer", "playShape", "([II)Z"⟩, 14) := ⟨⟨by decide +kernel, by decide +kernel⟩, List.mem_of_getElem? (i := 95) (by decide +kernel), List.mem_of_getElem? (i := 891) (by decide +kernel), List.mem_of_getElem? (i := 892) (by decide +kernel)⟩
theorem lw_p68 : lw_okq (⟨"OrnamentsOut$Writer", "playTurn", "([I)Z"⟩, 14) := ⟨⟨by decide +kernel, by decide +kernel⟩, List.mem_of_getElem? (i := 95) (by decide +kernel), List.mem_of_getElem? (i := 904) (by decide +kernel), List.mem_of_getElem? (i := 905) (by decide +kernel)⟩
theorem lw_p69 : lw_okq (⟨"OrnamentsOut$Writer", "playDelayedTurn", "()Z"⟩, 14) := ⟨⟨by decide +kernel, by decide +kernel⟩, List.mem_of_getElem? (i := 95) (by decide +kernel), List.mem_of_getElem? (i := 908) (by decide +kernel), List.mem_of_getElem? (i := 909) (by decide +kernel)⟩
theorem lw_p70 : lw_okq (⟨"OrnamentsOut$Writer", "playJoin", "()Z"⟩, 14) := ⟨⟨by decide +kernel, by decide +kernel⟩, List.mem_of_getElem? (i := 95) (by decide +kernel), List.mem_of_getElem? (i := 916) (by decide +kernel), List.mem_of_getElem? (i := 917) (by decide +kernel)⟩
theorem lw_p71 : lw_okq (⟨"OrnamentsOut$Writer", "playBehind", "()I"⟩, 14) := ⟨⟨by decide +kernel, by decide +kernel⟩, List.mem_of_getElem? (i := 95) (by decide +kernel), List.mem_of_getElem? (i := 920) (by decide +kernel), List.mem_of_getElem? (i := 921) (by decide +kernel)⟩
theorem lw_p72 : lw_okq (⟨"OrnamentsOut$Score", "hasTone", "(I)Z"⟩, 17) := ⟨⟨by decide +kernel, by decide +kernel⟩, List.mem_of_getElem? (i := 101) (by decide +kernel), List.mem_of_getElem? (i := 956) (by decide +kernel), List.mem_of_getElem? (i := 957) (by decide +kernel)⟩
theorem lw_p73 : lw_okq (⟨"OrnamentsOut$Song", "barAt", "(I)I"⟩, 5) := ⟨⟨by decide +kernel, by decide +kernel⟩, List.mem_of_getElem? (i := 222) (by decide +kernel), List.mem_of_getElem? (i := 967) (by decide +kernel), List.mem_of_getElem? (i := 968) (by decide +kernel)⟩
theorem lw_p74 : lw_okq (⟨"OrnamentsOut$Song", "barEnd", "(I)I"⟩, 5) := ⟨⟨by decide +kernel, by decide +kernel⟩, List.mem_of_getElem? (i := 222) (by decide +kernel), List.mem_of_getElem? (i := 1128) (by decide +kernel), List.mem_of_getElem? (i := 1129) (by decide +kernel)⟩
theorem lw_p75 : lw_okq (⟨"OrnamentsOut$Score", "tonesBetween", "(II)I"⟩, 17) := ⟨⟨by decide +kernel, by decide +kernel⟩, List.mem_of_getElem? (i := 101) (by decide +kernel), List.mem_of_getElem? (i := 1132) (by decide +kernel), List.mem_of_getElem? (i := 1133) (by decide +kernel)⟩
theorem lw_p76 : lw_okq (⟨"OrnamentsOut$Song", "notesInBar", "(I)I"⟩, 5) := ⟨⟨by decide +kernel, by decide +kernel⟩, List.mem_of_getElem? (i := 222) (by decide +kernel), List.mem_of_getElem? (i := 1136) (by decide +kernel), List.mem_of_getElem? (i := 1137) (by decide +kernel)⟩
theorem lw_p77 : lw_okq (⟨"OrnamentsOut$Score", "soundingBetween", "(II)I"⟩, 17) := ⟨⟨by decide +kernel, by decide +kernel⟩, List.mem_of_getElem? (i := 101) (by decide +kernel), List.mem_of_getElem? (i := 1140) (by decide +kernel), List.mem_of_getElem? (i := 1141) (by decide +kernel)⟩
theorem lw_p78 : lw_okq (⟨"OrnamentsOut$Writer", "onPaper", "(LOrnamentsOut$Song;II)LOrnamentsOut$Score;"⟩, 14) := ⟨⟨by decide +kernel, by decide +kernel⟩, List.mem_of_getElem? (i := 95) (by decide +kernel), List.mem_of_getElem? (i := 1153) (by decide +kernel), List.mem_of_getElem? (i := 1154) (by decide +kernel)⟩
theorem lw_p79 : lw_okq (⟨"OrnamentsOut$Writer", "isAllAsTold", "(LOrnamentsOut$Song;I)Z"⟩, 14) := ⟨⟨by decide +kernel, by decide +kernel⟩, List.mem_of_getElem? (i := 95) (by decide +kernel), List.mem_of_getElem? (i := 1161) (by decide +kernel), List.mem_of_getElem? (i := 1162) (by decide +kernel)⟩
def lw_privs_5 : List (MethodName × Nat) := [(⟨"OrnamentsOut$Writer", "turnsIn", "(IZ)I"⟩, 14), (⟨"OrnamentsOut$Score", "countTones", "(II)V"⟩, 17), (⟨"OrnamentsOut$Writer", "playPrall", "()I"⟩, 14), (⟨"OrnamentsOut$Writer", "playShape", "([II)Z"⟩, 14), (⟨"OrnamentsOut$Writer", "playTurn", "([I)Z"⟩, 14), (⟨"OrnamentsOut$Writer", "playDelayedTurn", "()Z"⟩, 14), (⟨"OrnamentsOut$Writer", "playJoin", "()Z"⟩, 14), (⟨"OrnamentsOut$Writer", "playBehind", "()I"⟩, 14), (⟨"OrnamentsOut$Score", "hasTone", "(I)Z"⟩, 17), (⟨"OrnamentsOut$Song", "barAt", "(I)I"⟩, 5), (⟨"OrnamentsOut$Song", "barEnd", "(I)I"⟩, 5), (⟨"OrnamentsOut$Score", "tonesBetween", "(II)I"⟩, 17), (⟨"OrnamentsOut$Song", "notesInBar", "(I)I"⟩, 5), (⟨"OrnamentsOut$Score", "soundingBetween", "(II)I"⟩, 17), (⟨"OrnamentsOut$Writer", "onPaper", "(LOrnamentsOut$Song;II)LOrnamentsOut$Score;"⟩, 14), (⟨"OrnamentsOut$Writer", "isAllAsTold", "(LOrnamentsOut$Song;I)Z"⟩, 14)]
theorem lw_r5 : ∀ q ∈ lw_privs_5, lw_okq q := List.forall_mem_cons.mpr ⟨lw_p64, List.forall_mem_cons.mpr ⟨lw_p65, List.forall_mem_cons.mpr ⟨lw_p66, List.forall_mem_cons.mpr ⟨lw_p67, List.forall_mem_cons.mpr ⟨lw_p68, List.forall_mem_cons.mpr ⟨lw_p69, List.forall_mem_cons.mpr ⟨lw_p70, List.forall_mem_cons.mpr ⟨lw_p71, List.forall_mem_cons.mpr ⟨lw_p72, List.forall_mem_cons.mpr ⟨lw_p73, List.forall_mem_cons.mpr ⟨lw_p74, List.forall_mem_cons.mpr ⟨lw_p75, List.forall_mem_cons.mpr ⟨lw_p76, List.forall_mem_cons.mpr ⟨lw_p77, List.forall_mem_cons.mpr ⟨lw_p78, List.forall_mem_cons.mpr ⟨lw_p79, fun _ h => absurd h List.not_mem_nil⟩⟩⟩⟩⟩⟩⟩⟩⟩⟩⟩⟩⟩⟩⟩⟩
theorem lw_p80 : lw_okq (⟨"OrnamentsOut$Score", "isAsTold", "(I)Z"⟩, 17) := ⟨⟨by decide +kernel, by decide +kernel⟩, List.mem_of_getElem? (i := 101) (by decide +kernel), List.mem_of_getElem? (i := 1165) (by decide +kernel), List.mem_of_getElem? (i := 1166) (by decide +kernel)⟩
theorem lw_p81 : lw_okq (⟨"OrnamentsOut$Note", "takeBodyOf", "(LOrnamentsOut$Note;)V"⟩, 16) := ⟨⟨by decide +kernel, by decide +kernel⟩, List.mem_of_getElem? (i := 229) (by decide +kernel), List.mem_of_getElem? (i := 1178) (by decide +kernel), List.mem_of_getElem? (i := 1179) (by decide +kernel)⟩
theorem lw_p82 : lw_okq (⟨"OrnamentsOut$Song", "plainNotes", "()I"⟩, 5) := ⟨⟨by decide +kernel, by decide +kernel⟩, List.mem_of_getElem? (i := 222) (by decide +kernel), List.mem_of_getElem? (i := 1199) (by decide +kernel), List.mem_of_getElem? (i := 1200) (by decide +kernel)⟩
theorem lw_p83 : lw_okq (⟨"OrnamentsOutModel", "goes", "()V"⟩, 56) := ⟨⟨by decide +kernel, by decide +kernel⟩, List.mem_of_getElem? (i := 1204) (by decide +kernel), List.mem_of_getElem? (i := 1390) (by decide +kernel), List.mem_of_getElem? (i := 1391) (by decide +kernel)⟩
theorem lw_p84 : lw_okq (⟨"OrnamentsOutModel", "peek", "()I"⟩, 56) := ⟨⟨by decide +kernel, by decide +kernel⟩, List.mem_of_getElem? (i := 1204) (by decide +kernel), List.mem_of_getElem? (i := 1394) (by decide +kernel), List.mem_of_getElem? (i := 1395) (by decide +kernel)⟩
theorem lw_p85 : lw_okq (⟨"OrnamentsOutModel", "line", "()V"⟩, 56) := ⟨⟨by decide +kernel, by decide +kernel⟩, List.mem_of_getElem? (i := 1204) (by decide +kernel), List.mem_of_getElem? (i := 1402) (by decide +kernel), List.mem_of_getElem? (i := 1403) (by decide +kernel)⟩
theorem lw_p86 : lw_okq (⟨"OrnamentsOutModel", "word", "()I"⟩, 56) := ⟨⟨by decide +kernel, by decide +kernel⟩, List.mem_of_getElem? (i := 1204) (by decide +kernel), List.mem_of_getElem? (i := 1406) (by decide +kernel), List.mem_of_getElem? (i := 1407) (by decide +kernel)⟩
theorem lw_p87 : lw_okq (⟨"OrnamentsOutModel", "fails", "(II)V"⟩, 56) := ⟨⟨by decide +kernel, by decide +kernel⟩, List.mem_of_getElem? (i := 1204) (by decide +kernel), List.mem_of_getElem? (i := 1410) (by decide +kernel), List.mem_of_getElem? (i := 1411) (by decide +kernel)⟩
theorem lw_p88 : lw_okq (⟨"OrnamentsOutModel", "passesSign", "(I)Z"⟩, 56) := ⟨⟨by decide +kernel, by decide +kernel⟩, List.mem_of_getElem? (i := 1204) (by decide +kernel), List.mem_of_getElem? (i := 1414) (by decide +kernel), List.mem_of_getElem? (i := 1415) (by decide +kernel)⟩
theorem lw_p89 : lw_okq (⟨"OrnamentsOutModel", "isSign", "(I)Z"⟩, 56) := ⟨⟨by decide +kernel, by decide +kernel⟩, List.mem_of_getElem? (i := 1204) (by decide +kernel), List.mem_of_getElem? (i := 1418) (by decide +kernel), List.mem_of_getElem? (i := 1419) (by decide +kernel)⟩
theorem lw_p90 : lw_okq (⟨"OrnamentsOutModel", "number", "(II)I"⟩, 56) := ⟨⟨by decide +kernel, by decide +kernel⟩, List.mem_of_getElem? (i := 1204) (by decide +kernel), List.mem_of_getElem? (i := 1422) (by decide +kernel), List.mem_of_getElem? (i := 1423) (by decide +kernel)⟩
theorem lw_p91 : lw_okq (⟨"OrnamentsOutModel", "must", "(I)V"⟩, 56) := ⟨⟨by decide +kernel, by decide +kernel⟩, List.mem_of_getElem? (i := 1204) (by decide +kernel), List.mem_of_getElem? (i := 1426) (by decide +kernel), List.mem_of_getElem? (i := 1427) (by decide +kernel)⟩
theorem lw_p92 : lw_okq (⟨"OrnamentsOutModel", "power", "(I)I"⟩, 56) := ⟨⟨by decide +kernel, by decide +kernel⟩, List.mem_of_getElem? (i := 1204) (by decide +kernel), List.mem_of_getElem? (i := 1430) (by decide +kernel), List.mem_of_getElem? (i := 1431) (by decide +kernel)⟩
theorem lw_p93 : lw_okq (⟨"OrnamentsOutModel", "restLine", "()V"⟩, 56) := ⟨⟨by decide +kernel, by decide +kernel⟩, List.mem_of_getElem? (i := 1204) (by decide +kernel), List.mem_of_getElem? (i := 1434) (by decide +kernel), List.mem_of_getElem? (i := 1435) (by decide +kernel)⟩
theorem lw_p94 : lw_okq (⟨"OrnamentsOutModel", "opens", "()V"⟩, 56) := ⟨⟨by decide +kernel, by decide +kernel⟩, List.mem_of_getElem? (i := 1204) (by decide +kernel), List.mem_of_getElem? (i := 1438) (by decide +kernel), List.mem_of_getElem? (i := 1439) (by decide +kernel)⟩
theorem lw_p95 : lw_okq (⟨"OrnamentsOutModel", "fraction", "()I"⟩, 56) := ⟨⟨by decide +kernel, by decide +kernel⟩, List.mem_of_getElem? (i := 1204) (by decide +kernel), List.mem_of_getElem? (i := 1442) (by decide +kernel), List.mem_of_getElem? (i := 1443) (by decide +kernel)⟩
def lw_privs_6 : List (MethodName × Nat) := [(⟨"OrnamentsOut$Score", "isAsTold", "(I)Z"⟩, 17), (⟨"OrnamentsOut$Note", "takeBodyOf", "(LOrnamentsOut$Note;)V"⟩, 16), (⟨"OrnamentsOut$Song", "plainNotes", "()I"⟩, 5), (⟨"OrnamentsOutModel", "goes", "()V"⟩, 56), (⟨"OrnamentsOutModel", "peek", "()I"⟩, 56), (⟨"OrnamentsOutModel", "line", "()V"⟩, 56), (⟨"OrnamentsOutModel", "word", "()I"⟩, 56), (⟨"OrnamentsOutModel", "fails", "(II)V"⟩, 56), (⟨"OrnamentsOutModel", "passesSign", "(I)Z"⟩, 56), (⟨"OrnamentsOutModel", "isSign", "(I)Z"⟩, 56), (⟨"OrnamentsOutModel", "number", "(II)I"⟩, 56), (⟨"OrnamentsOutModel", "must", "(I)V"⟩, 56), (⟨"OrnamentsOutModel", "power", "(I)I"⟩, 56), (⟨"OrnamentsOutModel", "restLine", "()V"⟩, 56), (⟨"OrnamentsOutModel", "opens", "()V"⟩, 56), (⟨"OrnamentsOutModel", "fraction", "()I"⟩, 56)]
theorem lw_r6 : ∀ q ∈ lw_privs_6, lw_okq q := List.forall_mem_cons.mpr ⟨lw_p80, List.forall_mem_cons.mpr ⟨lw_p81, List.forall_mem_cons.mpr ⟨lw_p82, List.forall_mem_cons.mpr ⟨lw_p83, List.forall_mem_cons.mpr ⟨lw_p84, List.forall_mem_cons.mpr ⟨lw_p85, List.forall_mem_cons.mpr ⟨lw_p86, List.forall_mem_cons.mpr ⟨lw_p87, List.forall_mem_cons.mpr ⟨lw_p88, List.forall_mem_cons.mpr ⟨lw_p89, List.forall_mem_cons.mpr ⟨lw_p90, List.forall_mem_cons.mpr ⟨lw_p91, List.forall_mem_cons.mpr ⟨lw_p92, List.forall_mem_cons.mpr ⟨lw_p93, List.forall_mem_cons.mpr ⟨lw_p94, List.forall_mem_cons.mpr ⟨lw_p95, fun _ h => absurd h List.not_mem_nil⟩⟩⟩⟩⟩⟩⟩⟩⟩⟩⟩⟩⟩⟩⟩⟩
theorem lw_p96 : lw_okq (⟨"OrnamentsOutModel", "lasts", "(II)V"⟩, 56) := ⟨⟨by decide +kernel, by decide +kernel⟩, List.mem_of_getElem? (i := 1204) (by decide +kernel), List.mem_of_getElem? (i := 1446) (by decide +kernel), List.mem_of_getElem? (i := 1447) (by decide +kernel)⟩
theorem lw_p97 : lw_okq (⟨"OrnamentsOutModel", "takes", "(III)V"⟩, 56) := ⟨⟨by decide +kernel, by decide +kernel⟩, List.mem_of_getElem? (i := 1204) (by decide +kernel), List.mem_of_getElem? (i := 1450) (by decide +kernel), List.mem_of_getElem? (i := 1451) (by decide +kernel)⟩
theorem lw_p98 : lw_okq (⟨"OrnamentsOutModel", "noteLine", "()V"⟩, 56) := ⟨⟨by decide +kernel, by decide +kernel⟩, List.mem_of_getElem? (i := 1204) (by decide +kernel), List.mem_of_getElem? (i := 1454) (by decide +kernel), List.mem_of_getElem? (i := 1455) (by decide +kernel)⟩
theorem lw_p99 : lw_okq (⟨"OrnamentsOutModel", "readsTone", "()V"⟩, 56) := ⟨⟨by decide +kernel, by decide +kernel⟩, List.mem_of_getElem? (i := 1204) (by decide +kernel), List.mem_of_getElem? (i := 1458) (by decide +kernel), List.mem_of_getElem? (i := 1459) (by decide +kernel)⟩
theorem lw_p100 : lw_okq (⟨"OrnamentsOutModel", "isLetter", "()Z"⟩, 56) := ⟨⟨by decide +kernel, by decide +kernel⟩, List.mem_of_getElem? (i := 1204) (by decide +kernel), List.mem_of_getElem? (i := 1462) (by decide +kernel), List.mem_of_getElem? (i := 1463) (by decide +kernel)⟩
theorem lw_p101 : lw_okq (⟨"OrnamentsOutModel", "readsSign", "()I"⟩, 56) := ⟨⟨by decide +kernel, by decide +kernel⟩, List.mem_of_getElem? (i := 1204) (by decide +kernel), List.mem_of_getElem? (i := 1467) (by decide +kernel), List.mem_of_getElem? (i := 1468) (by decide +kernel)⟩
theorem lw_p102 : lw_okq (⟨"OrnamentsOutModel", "plainOf", "(II)I"⟩, 56) := ⟨⟨by decide +kernel, by decide +kernel⟩, List.mem_of_getElem? (i := 1204) (by decide +kernel), List.mem_of_getElem? (i := 1471) (by decide +kernel), List.mem_of_getElem? (i := 1472) (by decide +kernel)⟩
theorem lw_p103 : lw_okq (⟨"OrnamentsOutModel", "alterBy", "(II)I"⟩, 56) := ⟨⟨by decide +kernel, by decide +kernel⟩, List.mem_of_getElem? (i := 1204) (by decide +kernel), List.mem_of_getElem? (i := 1475) (by decide +kernel), List.mem_of_getElem? (i := 1476) (by decide +kernel)⟩
theorem lw_p104 : lw_okq (⟨"OrnamentsOutModel", "heldAt", "(II)I"⟩, 56) := ⟨⟨by decide +kernel, by decide +kernel⟩, List.mem_of_getElem? (i := 1204) (by decide +kernel), List.mem_of_getElem? (i := 1479) (by decide +kernel), List.mem_of_getElem? (i := 1480) (by decide +kernel)⟩
theorem lw_p105 : lw_okq (⟨"OrnamentsOutModel", "prefix", "(I)V"⟩, 56) := ⟨⟨by decide +kernel, by decide +kernel⟩, List.mem_of_getElem? (i := 1204) (by decide +kernel), List.mem_of_getElem? (i := 1484) (by decide +kernel), List.mem_of_getElem? (i := 1485) (by decide +kernel)⟩
theorem lw_p106 : lw_okq (⟨"OrnamentsOutModel", "passes", "(I)Z"⟩, 56) := ⟨⟨by decide +kernel, by decide +kernel⟩, List.mem_of_getElem? (i := 1204) (by decide +kernel), List.mem_of_getElem? (i := 1488) (by decide +kernel), List.mem_of_getElem? (i := 1489) (by decide +kernel)⟩
theorem lw_p107 : lw_okq (⟨"OrnamentsOutModel", "grace", "(II)V"⟩, 56) := ⟨⟨by decide +kernel, by decide +kernel⟩, List.mem_of_getElem? (i := 1204) (by decide +kernel), List.mem_of_getElem? (i := 1492) (by decide +kernel), List.mem_of_getElem? (i := 1493) (by decide +kernel)⟩
theorem lw_p108 : lw_okq (⟨"OrnamentsOutModel", "readsBody", "(I)V"⟩, 56) := ⟨⟨by decide +kernel, by decide +kernel⟩, List.mem_of_getElem? (i := 1204) (by decide +kernel), List.mem_of_getElem? (i := 1496) (by decide +kernel), List.mem_of_getElem? (i := 1497) (by decide +kernel)⟩
theorem lw_p109 : lw_okq (⟨"OrnamentsOutModel", "tieLine", "()V"⟩, 56) := ⟨⟨by decide +kernel, by decide +kernel⟩, List.mem_of_getElem? (i := 1204) (by decide +kernel), List.mem_of_getElem? (i := 1502) (by decide +kernel), List.mem_of_getElem? (i := 1503) (by decide +kernel)⟩
theorem lw_p110 : lw_okq (⟨"OrnamentsOutModel", "isNote", "(I)Z"⟩, 56) := ⟨⟨by decide +kernel, by decide +kernel⟩, List.mem_of_getElem? (i := 1204) (by decide +kernel), List.mem_of_getElem? (i := 1519) (by decide +kernel), List.mem_of_getElem? (i := 1520) (by decide +kernel)⟩
theorem lw_p111 : lw_okq (⟨"OrnamentsOutModel", "isThere", "(I)Z"⟩, 56) := ⟨⟨by decide +kernel, by decide +kernel⟩, List.mem_of_getElem? (i := 1204) (by decide +kernel), List.mem_of_getElem? (i := 1523) (by decide +kernel), List.mem_of_getElem? (i := 1524) (by decide +kernel)⟩
def lw_privs_7 : List (MethodName × Nat) := [(⟨"OrnamentsOutModel", "lasts", "(II)V"⟩, 56), (⟨"OrnamentsOutModel", "takes", "(III)V"⟩, 56), (⟨"OrnamentsOutModel", "noteLine", "()V"⟩, 56), (⟨"OrnamentsOutModel", "readsTone", "()V"⟩, 56), (⟨"OrnamentsOutModel", "isLetter", "()Z"⟩, 56), (⟨"OrnamentsOutModel", "readsSign", "()I"⟩, 56), (⟨"OrnamentsOutModel", "plainOf", "(II)I"⟩, 56), (⟨"OrnamentsOutModel", "alterBy", "(II)I"⟩, 56), (⟨"OrnamentsOutModel", "heldAt", "(II)I"⟩, 56), (⟨"OrnamentsOutModel", "prefix", "(I)V"⟩, 56), (⟨"OrnamentsOutModel", "passes", "(I)Z"⟩, 56), (⟨"OrnamentsOutModel", "grace", "(II)V"⟩, 56), (⟨"OrnamentsOutModel", "readsBody", "(I)V"⟩, 56), (⟨"OrnamentsOutModel", "tieLine", "()V"⟩, 56), (⟨"OrnamentsOutModel", "isNote", "(I)Z"⟩, 56), (⟨"OrnamentsOutModel", "isThere", "(I)Z"⟩, 56)]
theorem lw_r7 : ∀ q ∈ lw_privs_7, lw_okq q := List.forall_mem_cons.mpr ⟨lw_p96, List.forall_mem_cons.mpr ⟨lw_p97, List.forall_mem_cons.mpr ⟨lw_p98, List.forall_mem_cons.mpr ⟨lw_p99, List.forall_mem_cons.mpr ⟨lw_p100, List.forall_mem_cons.mpr ⟨lw_p101, List.forall_mem_cons.mpr ⟨lw_p102, List.forall_mem_cons.mpr ⟨lw_p103, List.forall_mem_cons.mpr ⟨lw_p104, List.forall_mem_cons.mpr ⟨lw_p105, List.forall_mem_cons.mpr ⟨lw_p106, List.forall_mem_cons.mpr ⟨lw_p107, List.forall_mem_cons.mpr ⟨lw_p108, List.forall_mem_cons.mpr ⟨lw_p109, List.forall_mem_cons.mpr ⟨lw_p110, List.forall_mem_cons.mpr ⟨lw_p111, fun _ h => absurd h List.not_mem_nil⟩⟩⟩⟩⟩⟩⟩⟩⟩⟩⟩⟩⟩⟩⟩⟩
theorem lw_p112 : lw_okq (⟨"OrnamentsOutModel", "of", "(II)I"⟩, 56) := ⟨⟨by decide +kernel, by decide +kernel⟩, List.mem_of_getElem? (i := 1204) (by decide +kernel), List.mem_of_getElem? (i := 1527) (by decide +kernel), List.mem_of_getElem? (i := 1528) (by decide +kernel)⟩
theorem lw_p113 : lw_okq (⟨"OrnamentsOutModel", "becomes", "(II)V"⟩, 56) := ⟨⟨by decide +kernel, by decide +kernel⟩, List.mem_of_getElem? (i := 1204) (by decide +kernel), List.mem_of_getElem? (i := 1531) (by decide +kernel), List.mem_of_getElem? (i := 1532) (by decide +kernel)⟩
theorem lw_p114 : lw_okq (⟨"OrnamentsOutModel", "lays", "(III)V"⟩, 56) := ⟨⟨by decide +kernel, by decide +kernel⟩, List.mem_of_getElem? (i := 1204) (by decide +kernel), List.mem_of_getElem? (i := 1535) (by decide +kernel), List.mem_of_getElem? (i := 1536) (by decide +kernel)⟩
theorem lw_p115 : lw_okq (⟨"OrnamentsOutModel", "writes", "()V"⟩, 56) := ⟨⟨by decide +kernel, by decide +kernel⟩, List.mem_of_getElem? (i := 1204) (by decide +kernel), List.mem_of_getElem? (i := 1558) (by decide +kernel), List.mem_of_getElem? (i := 1559) (by decide +kernel)⟩
theorem lw_p116 : lw_okq (⟨"OrnamentsOutModel", "writesNote", "()V"⟩, 56) := ⟨⟨by decide +kernel, by decide +kernel⟩, List.mem_of_getElem? (i := 1204) (by decide +kernel), List.mem_of_getElem? (i := 1562) (by decide +kernel), List.mem_of_getElem? (i := 1563) (by decide +kernel)⟩
theorem lw_p117 : lw_okq (⟨"OrnamentsOutModel", "toneOf", "(I)I"⟩, 56) := ⟨⟨by decide +kernel, by decide +kernel⟩, List.mem_of_getElem? (i := 1204) (by decide +kernel), List.mem_of_getElem? (i := 1566) (by decide +kernel), List.mem_of_getElem? (i := 1567) (by decide +kernel)⟩
theorem lw_p118 : lw_okq (⟨"OrnamentsOutModel", "isQuick", "(II)Z"⟩, 56) := ⟨⟨by decide +kernel, by decide +kernel⟩, List.mem_of_getElem? (i := 1204) (by decide +kernel), List.mem_of_getElem? (i := 1570) (by decide +kernel), List.mem_of_getElem? (i := 1571) (by decide +kernel)⟩
theorem lw_p119 : lw_okq (⟨"OrnamentsOutModel", "upper", "(II)I"⟩, 56) := ⟨⟨by decide +kernel, by decide +kernel⟩, List.mem_of_getElem? (i := 1204) (by decide +kernel), List.mem_of_getElem? (i := 1576) (by decide +kernel), List.mem_of_getElem? (i := 1577) (by decide +kernel)⟩
theorem lw_p120 : lw_okq (⟨"OrnamentsOutModel", "upLetter", "(I)I"⟩, 56) := ⟨⟨by decide +kernel, by decide +kernel⟩, List.mem_of_getElem? (i := 1204) (by decide +kernel), List.mem_of_getElem? (i := 1580) (by decide +kernel), List.mem_of_getElem? (i := 1581) (by decide +kernel)⟩
theorem lw_p121 : lw_okq (⟨"OrnamentsOutModel", "upOctave", "(I)I"⟩, 56) := ⟨⟨by decide +kernel, by decide +kernel⟩, List.mem_of_getElem? (i := 1204) (by decide +kernel), List.mem_of_getElem? (i := 1584) (by decide +kernel), List.mem_of_getElem? (i := 1585) (by decide +kernel)⟩
theorem lw_p122 : lw_okq (⟨"OrnamentsOutModel", "neighbour", "(IIIIII)I"⟩, 56) := ⟨⟨by decide +kernel, by decide +kernel⟩, List.mem_of_getElem? (i := 1204) (by decide +kernel), List.mem_of_getElem? (i := 1588) (by decide +kernel), List.mem_of_getElem? (i := 1589) (by decide +kernel)⟩
theorem lw_p123 : lw_okq (⟨"OrnamentsOutModel", "lower", "(II)I"⟩, 56) := ⟨⟨by decide +kernel, by decide +kernel⟩, List.mem_of_getElem? (i := 1204) (by decide +kernel), List.mem_of_getElem? (i := 1592) (by decide +kernel), List.mem_of_getElem? (i := 1593) (by decide +kernel)⟩
theorem lw_p124 : lw_okq (⟨"OrnamentsOutModel", "downLetter", "(II)I"⟩, 56) := ⟨⟨by decide +kernel, by decide +kernel⟩, List.mem_of_getElem? (i := 1204) (by decide +kernel), List.mem_of_getElem? (i := 1596) (by decide +kernel), List.mem_of_getElem? (i := 1597) (by decide +kernel)⟩
theorem lw_p125 : lw_okq (⟨"OrnamentsOutModel", "downOctave", "(II)I"⟩, 56) := ⟨⟨by decide +kernel, by decide +kernel⟩, List.mem_of_getElem? (i := 1204) (by decide +kernel), List.mem_of_getElem? (i := 1600) (by decide +kernel), List.mem_of_getElem? (i := 1601) (by decide +kernel)⟩
theorem lw_p126 : lw_okq (⟨"OrnamentsOutModel", "writesPrefix", "()I"⟩, 56) := ⟨⟨by decide +kernel, by decide +kernel⟩, List.mem_of_getElem? (i := 1204) (by decide +kernel), List.mem_of_getElem? (i := 1604) (by decide +kernel), List.mem_of_getElem? (i := 1605) (by decide +kernel)⟩
theorem lw_p127 : lw_okq (⟨"OrnamentsOutModel", "writesLong", "()I"⟩, 56) := ⟨⟨by decide +kernel, by decide +kernel⟩, List.mem_of_getElem? (i := 1204) (by decide +kernel), List.mem_of_getElem? (i := 1608) (by decide +kernel), List.mem_of_getElem? (i := 1609) (by decide +kernel)⟩
def lw_privs_8 : List (MethodName × Nat) := [(⟨"OrnamentsOutModel", "of", "(II)I"⟩, 56), (⟨"OrnamentsOutModel", "becomes", "(II)V"⟩, 56), (⟨"OrnamentsOutModel", "lays", "(III)V"⟩, 56), (⟨"OrnamentsOutModel", "writes", "()V"⟩, 56), (⟨"OrnamentsOutModel", "writesNote", "()V"⟩, 56), (⟨"OrnamentsOutModel", "toneOf", "(I)I"⟩, 56), (⟨"OrnamentsOutModel", "isQuick", "(II)Z"⟩, 56), (⟨"OrnamentsOutModel", "upper", "(II)I"⟩, 56), (⟨"OrnamentsOutModel", "upLetter", "(I)I"⟩, 56), (⟨"OrnamentsOutModel", "upOctave", "(I)I"⟩, 56), (⟨"OrnamentsOutModel", "neighbour", "(IIIIII)I"⟩, 56), (⟨"OrnamentsOutModel", "lower", "(II)I"⟩, 56), (⟨"OrnamentsOutModel", "downLetter", "(II)I"⟩, 56), (⟨"OrnamentsOutModel", "downOctave", "(II)I"⟩, 56), (⟨"OrnamentsOutModel", "writesPrefix", "()I"⟩, 56), (⟨"OrnamentsOutModel", "writesLong", "()I"⟩, 56)]
theorem lw_r8 : ∀ q ∈ lw_privs_8, lw_okq q := List.forall_mem_cons.mpr ⟨lw_p112, List.forall_mem_cons.mpr ⟨lw_p113, List.forall_mem_cons.mpr ⟨lw_p114, List.forall_mem_cons.mpr ⟨lw_p115, List.forall_mem_cons.mpr ⟨lw_p116, List.forall_mem_cons.mpr ⟨lw_p117, List.forall_mem_cons.mpr ⟨lw_p118, List.forall_mem_cons.mpr ⟨lw_p119, List.forall_mem_cons.mpr ⟨lw_p120, List.forall_mem_cons.mpr ⟨lw_p121, List.forall_mem_cons.mpr ⟨lw_p122, List.forall_mem_cons.mpr ⟨lw_p123, List.forall_mem_cons.mpr ⟨lw_p124, List.forall_mem_cons.mpr ⟨lw_p125, List.forall_mem_cons.mpr ⟨lw_p126, List.forall_mem_cons.mpr ⟨lw_p127, fun _ h => absurd h List.not_mem_nil⟩⟩⟩⟩⟩⟩⟩⟩⟩⟩⟩⟩⟩⟩⟩⟩
theorem lw_p128 : lw_okq (⟨"OrnamentsOutModel", "graces", "(III)V"⟩, 56) := ⟨⟨by decide +kernel, by decide +kernel⟩, List.mem_of_getElem? (i := 1204) (by decide +kernel), List.mem_of_getElem? (i := 1618) (by decide +kernel), List.mem_of_getElem? (i := 1619) (by decide +kernel)⟩
theorem lw_p129 : lw_okq (⟨"OrnamentsOutModel", "putsAs", "(IIIII)V"⟩, 56) := ⟨⟨by decide +kernel, by decide +kernel⟩, List.mem_of_getElem? (i := 1204) (by decide +kernel), List.mem_of_getElem? (i := 1622) (by decide +kernel), List.mem_of_getElem? (i := 1623) (by decide +kernel)⟩
theorem lw_p130 : lw_okq (⟨"OrnamentsOutModel", "comes", "(I)V"⟩, 56) := ⟨⟨by decide +kernel, by decide +kernel⟩, List.mem_of_getElem? (i := 1204) (by decide +kernel), List.mem_of_getElem? (i := 1626) (by decide +kernel), List.mem_of_getElem? (i := 1627) (by decide +kernel)⟩
theorem lw_p131 : lw_okq (⟨"OrnamentsOutModel", "writesSlide", "()I"⟩, 56) := ⟨⟨by decide +kernel, by decide +kernel⟩, List.mem_of_getElem? (i := 1204) (by decide +kernel), List.mem_of_getElem? (i := 1630) (by decide +kernel), List.mem_of_getElem? (i := 1631) (by decide +kernel)⟩
theorem lw_p132 : lw_okq (⟨"OrnamentsOutModel", "puts", "(II)V"⟩, 56) := ⟨⟨by decide +kernel, by decide +kernel⟩, List.mem_of_getElem? (i := 1204) (by decide +kernel), List.mem_of_getElem? (i := 1634) (by decide +kernel), List.mem_of_getElem? (i := 1635) (by decide +kernel)⟩
theorem lw_p133 : lw_okq (⟨"OrnamentsOutModel", "lowest", "(I)I"⟩, 56) := ⟨⟨by decide +kernel, by decide +kernel⟩, List.mem_of_getElem? (i := 1204) (by decide +kernel), List.mem_of_getElem? (i := 1638) (by decide +kernel), List.mem_of_getElem? (i := 1639) (by decide +kernel)⟩
theorem lw_p134 : lw_okq (⟨"OrnamentsOutModel", "writesGraces", "(I)I"⟩, 56) := ⟨⟨by decide +kernel, by decide +kernel⟩, List.mem_of_getElem? (i := 1204) (by decide +kernel), List.mem_of_getElem? (i := 1642) (by decide +kernel), List.mem_of_getElem? (i := 1643) (by decide +kernel)⟩
theorem lw_p135 : lw_okq (⟨"OrnamentsOutModel", "writesBody", "()I"⟩, 56) := ⟨⟨by decide +kernel, by decide +kernel⟩, List.mem_of_getElem? (i := 1204) (by decide +kernel), List.mem_of_getElem? (i := 1646) (by decide +kernel), List.mem_of_getElem? (i := 1647) (by decide +kernel)⟩
theorem lw_p136 : lw_okq (⟨"OrnamentsOutModel", "writesTrill", "()I"⟩, 56) := ⟨⟨by decide +kernel, by decide +kernel⟩, List.mem_of_getElem? (i := 1204) (by decide +kernel), List.mem_of_getElem? (i := 1650) (by decide +kernel), List.mem_of_getElem? (i := 1651) (by decide +kernel)⟩
theorem lw_p137 : lw_okq (⟨"OrnamentsOutModel", "isBehindUpper", "()Z"⟩, 56) := ⟨⟨by decide +kernel, by decide +kernel⟩, List.mem_of_getElem? (i := 1204) (by decide +kernel), List.mem_of_getElem? (i := 1654) (by decide +kernel), List.mem_of_getElem? (i := 1655) (by decide +kernel)⟩
theorem lw_p138 : lw_okq (⟨"OrnamentsOutModel", "trills", "(Z)Z"⟩, 56) := ⟨⟨by decide +kernel, by decide +kernel⟩, List.mem_of_getElem? (i := 1204) (by decide +kernel), List.mem_of_getElem? (i := 1658) (by decide +kernel), List.mem_of_getElem? (i := 1659) (by decide +kernel)⟩
theorem lw_p139 : lw_okq (⟨"OrnamentsOutModel", "isNextAbove", "()Z"⟩, 56) := ⟨⟨by decide +kernel, by decide +kernel⟩, List.mem_of_getElem? (i := 1204) (by decide +kernel), List.mem_of_getElem? (i := 1662) (by decide +kernel), List.mem_of_getElem? (i := 1663) (by decide +kernel)⟩
theorem lw_p140 : lw_okq (⟨"OrnamentsOutModel", "fit", "(IZ)I"⟩, 56) := ⟨⟨by decide +kernel, by decide +kernel⟩, List.mem_of_getElem? (i := 1204) (by decide +kernel), List.mem_of_getElem? (i := 1666) (by decide +kernel), List.mem_of_getElem? (i := 1667) (by decide +kernel)⟩
theorem lw_p141 : lw_okq (⟨"OrnamentsOutModel", "turns", "(III)V"⟩, 56) := ⟨⟨by decide +kernel, by decide +kernel⟩, List.mem_of_getElem? (i := 1204) (by decide +kernel), List.mem_of_getElem? (i := 1670) (by decide +kernel), List.mem_of_getElem? (i := 1671) (by decide +kernel)⟩
theorem lw_p142 : lw_okq (⟨"OrnamentsOutModel", "writesPrall", "()I"⟩, 56) := ⟨⟨by decide +kernel, by decide +kernel⟩, List.mem_of_getElem? (i := 1204) (by decide +kernel), List.mem_of_getElem? (i := 1674) (by decide +kernel), List.mem_of_getElem? (i := 1675) (by decide +kernel)⟩
theorem lw_p143 : lw_okq (⟨"OrnamentsOutModel", "writesMordent", "()I"⟩, 56) := ⟨⟨by decide +kernel, by decide +kernel⟩, List.mem_of_getElem? (i := 1204) (by decide +kernel), List.mem_of_getElem? (i := 1681) (by decide +kernel), List.mem_of_getElem? (i := 1682) (by decide +kernel)⟩
def lw_privs_9 : List (MethodName × Nat) := [(⟨"OrnamentsOutModel", "graces", "(III)V"⟩, 56), (⟨"OrnamentsOutModel", "putsAs", "(IIIII)V"⟩, 56), (⟨"OrnamentsOutModel", "comes", "(I)V"⟩, 56), (⟨"OrnamentsOutModel", "writesSlide", "()I"⟩, 56), (⟨"OrnamentsOutModel", "puts", "(II)V"⟩, 56), (⟨"OrnamentsOutModel", "lowest", "(I)I"⟩, 56), (⟨"OrnamentsOutModel", "writesGraces", "(I)I"⟩, 56), (⟨"OrnamentsOutModel", "writesBody", "()I"⟩, 56), (⟨"OrnamentsOutModel", "writesTrill", "()I"⟩, 56), (⟨"OrnamentsOutModel", "isBehindUpper", "()Z"⟩, 56), (⟨"OrnamentsOutModel", "trills", "(Z)Z"⟩, 56), (⟨"OrnamentsOutModel", "isNextAbove", "()Z"⟩, 56), (⟨"OrnamentsOutModel", "fit", "(IZ)I"⟩, 56), (⟨"OrnamentsOutModel", "turns", "(III)V"⟩, 56), (⟨"OrnamentsOutModel", "writesPrall", "()I"⟩, 56), (⟨"OrnamentsOutModel", "writesMordent", "()I"⟩, 56)]
theorem lw_r9 : ∀ q ∈ lw_privs_9, lw_okq q := List.forall_mem_cons.mpr ⟨lw_p128, List.forall_mem_cons.mpr ⟨lw_p129, List.forall_mem_cons.mpr ⟨lw_p130, List.forall_mem_cons.mpr ⟨lw_p131, List.forall_mem_cons.mpr ⟨lw_p132, List.forall_mem_cons.mpr ⟨lw_p133, List.forall_mem_cons.mpr ⟨lw_p134, List.forall_mem_cons.mpr ⟨lw_p135, List.forall_mem_cons.mpr ⟨lw_p136, List.forall_mem_cons.mpr ⟨lw_p137, List.forall_mem_cons.mpr ⟨lw_p138, List.forall_mem_cons.mpr ⟨lw_p139, List.forall_mem_cons.mpr ⟨lw_p140, List.forall_mem_cons.mpr ⟨lw_p141, List.forall_mem_cons.mpr ⟨lw_p142, List.forall_mem_cons.mpr ⟨lw_p143, fun _ h => absurd h List.not_mem_nil⟩⟩⟩⟩⟩⟩⟩⟩⟩⟩⟩⟩⟩⟩⟩⟩
theorem lw_p144 : lw_okq (⟨"OrnamentsOutModel", "writesTurn", "(II)I"⟩, 56) := ⟨⟨by decide +kernel, by decide +kernel⟩, List.mem_of_getElem? (i := 1204) (by decide +kernel), List.mem_of_getElem? (i := 1685) (by decide +kernel), List.mem_of_getElem? (i := 1686) (by decide +kernel)⟩
theorem lw_p145 : lw_okq (⟨"OrnamentsOutModel", "quarters", "(III)V"⟩, 56) := ⟨⟨by decide +kernel, by decide +kernel⟩, List.mem_of_getElem? (i := 1204) (by decide +kernel), List.mem_of_getElem? (i := 1689) (by decide +kernel), List.mem_of_getElem? (i := 1690) (by decide +kernel)⟩
theorem lw_p146 : lw_okq (⟨"OrnamentsOutModel", "writesLate", "()I"⟩, 56) := ⟨⟨by decide +kernel, by decide +kernel⟩, List.mem_of_getElem? (i := 1204) (by decide +kernel), List.mem_of_getElem? (i := 1693) (by decide +kernel), List.mem_of_getElem? (i := 1694) (by decide +kernel)⟩
theorem lw_p147 : lw_okq (⟨"OrnamentsOutModel", "writesLongMordent", "()I"⟩, 56) := ⟨⟨by decide +kernel, by decide +kernel⟩, List.mem_of_getElem? (i := 1204) (by decide +kernel), List.mem_of_getElem? (i := 1697) (by decide +kernel), List.mem_of_getElem? (i := 1698) (by decide +kernel)⟩
theorem lw_p148 : lw_okq (⟨"OrnamentsOutModel", "writesFromBelow", "()I"⟩, 56) := ⟨⟨by decide +kernel, by decide +kernel⟩, List.mem_of_getElem? (i := 1204) (by decide +kernel), List.mem_of_getElem? (i := 1701) (by decide +kernel), List.mem_of_getElem? (i := 1702) (by decide +kernel)⟩
theorem lw_p149 : lw_okq (⟨"OrnamentsOutModel", "writesBehind", "()I"⟩, 56) := ⟨⟨by decide +kernel, by decide +kernel⟩, List.mem_of_getElem? (i := 1204) (by decide +kernel), List.mem_of_getElem? (i := 1705) (by decide +kernel), List.mem_of_getElem? (i := 1706) (by decide +kernel)⟩
theorem lw_p150 : lw_okq (⟨"OrnamentsOutModel", "isAsked", "(II)Z"⟩, 56) := ⟨⟨by decide +kernel, by decide +kernel⟩, List.mem_of_getElem? (i := 1204) (by decide +kernel), List.mem_of_getElem? (i := 1713) (by decide +kernel), List.mem_of_getElem? (i := 1714) (by decide +kernel)⟩
theorem lw_p151 : lw_okq (⟨"OrnamentsOutModel", "isTone", "(I)Z"⟩, 56) := ⟨⟨by decide +kernel, by decide +kernel⟩, List.mem_of_getElem? (i := 1204) (by decide +kernel), List.mem_of_getElem? (i := 1738) (by decide +kernel), List.mem_of_getElem? (i := 1739) (by decide +kernel)⟩
theorem lw_p152 : lw_okq (⟨"OrnamentsOutModel", "alterOf", "(I)I"⟩, 56) := ⟨⟨by decide +kernel, by decide +kernel⟩, List.mem_of_getElem? (i := 1204) (by decide +kernel), List.mem_of_getElem? (i := 1742) (by decide +kernel), List.mem_of_getElem? (i := 1743) (by decide +kernel)⟩
theorem lw_p153 : lw_okq (⟨"OrnamentsOutModel", "barAt", "(I)I"⟩, 56) := ⟨⟨by decide +kernel, by decide +kernel⟩, List.mem_of_getElem? (i := 1204) (by decide +kernel), List.mem_of_getElem? (i := 1746) (by decide +kernel), List.mem_of_getElem? (i := 1747) (by decide +kernel)⟩
theorem lw_p154 : lw_okq (⟨"OrnamentsOutModel", "calls", "(I)V"⟩, 56) := ⟨⟨by decide +kernel, by decide +kernel⟩, List.mem_of_getElem? (i := 1204) (by decide +kernel), List.mem_of_getElem? (i := 1758) (by decide +kernel), List.mem_of_getElem? (i := 1759) (by decide +kernel)⟩
theorem lw_p155 : lw_okq (⟨"OrnamentsOutModel", "callsNumber", "(I)V"⟩, 56) := ⟨⟨by decide +kernel, by decide +kernel⟩, List.mem_of_getElem? (i := 1204) (by decide +kernel), List.mem_of_getElem? (i := 1762) (by decide +kernel), List.mem_of_getElem? (i := 1763) (by decide +kernel)⟩
theorem lw_p156 : lw_okq (⟨"OrnamentsOutModel", "verdicts", "(I)I"⟩, 56) := ⟨⟨by decide +kernel, by decide +kernel⟩, List.mem_of_getElem? (i := 1204) (by decide +kernel), List.mem_of_getElem? (i := 1794) (by decide +kernel), List.mem_of_getElem? (i := 1795) (by decide +kernel)⟩
theorem lw_p157 : lw_okq (⟨"OrnamentsOutModel", "whole", "(I)I"⟩, 56) := ⟨⟨by decide +kernel, by decide +kernel⟩, List.mem_of_getElem? (i := 1204) (by decide +kernel), List.mem_of_getElem? (i := 1802) (by decide +kernel), List.mem_of_getElem? (i := 1803) (by decide +kernel)⟩
theorem lw_p158 : lw_okq (⟨"OrnamentsOutModel", "tries", "(II)V"⟩, 56) := ⟨⟨by decide +kernel, by decide +kernel⟩, List.mem_of_getElem? (i := 1204) (by decide +kernel), List.mem_of_getElem? (i := 1814) (by decide +kernel), List.mem_of_getElem? (i := 1815) (by decide +kernel)⟩
theorem lw_p159 : lw_okq (⟨"OrnamentsOutModel", "plainOnes", "()I"⟩, 56) := ⟨⟨by decide +kernel, by decide +kernel⟩, List.mem_of_getElem? (i := 1204) (by decide +kernel), List.mem_of_getElem? (i := 1835) (by decide +kernel), List.mem_of_getElem? (i := 1836) (by decide +kernel)⟩
def lw_privs_10 : List (MethodName × Nat) := [(⟨"OrnamentsOutModel", "writesTurn", "(II)I"⟩, 56), (⟨"OrnamentsOutModel", "quarters", "(III)V"⟩, 56), (⟨"OrnamentsOutModel", "writesLate", "()I"⟩, 56), (⟨"OrnamentsOutModel", "writesLongMordent", "()I"⟩, 56), (⟨"OrnamentsOutModel", "writesFromBelow", "()I"⟩, 56), (⟨"OrnamentsOutModel", "writesBehind", "()I"⟩, 56), (⟨"OrnamentsOutModel", "isAsked", "(II)Z"⟩, 56), (⟨"OrnamentsOutModel", "isTone", "(I)Z"⟩, 56), (⟨"OrnamentsOutModel", "alterOf", "(I)I"⟩, 56), (⟨"OrnamentsOutModel", "barAt", "(I)I"⟩, 56), (⟨"OrnamentsOutModel", "calls", "(I)V"⟩, 56), (⟨"OrnamentsOutModel", "callsNumber", "(I)V"⟩, 56), (⟨"OrnamentsOutModel", "verdicts", "(I)I"⟩, 56), (⟨"OrnamentsOutModel", "whole", "(I)I"⟩, 56), (⟨"OrnamentsOutModel", "tries", "(II)V"⟩, 56), (⟨"OrnamentsOutModel", "plainOnes", "()I"⟩, 56)]
theorem lw_r10 : ∀ q ∈ lw_privs_10, lw_okq q := List.forall_mem_cons.mpr ⟨lw_p144, List.forall_mem_cons.mpr ⟨lw_p145, List.forall_mem_cons.mpr ⟨lw_p146, List.forall_mem_cons.mpr ⟨lw_p147, List.forall_mem_cons.mpr ⟨lw_p148, List.forall_mem_cons.mpr ⟨lw_p149, List.forall_mem_cons.mpr ⟨lw_p150, List.forall_mem_cons.mpr ⟨lw_p151, List.forall_mem_cons.mpr ⟨lw_p152, List.forall_mem_cons.mpr ⟨lw_p153, List.forall_mem_cons.mpr ⟨lw_p154, List.forall_mem_cons.mpr ⟨lw_p155, List.forall_mem_cons.mpr ⟨lw_p156, List.forall_mem_cons.mpr ⟨lw_p157, List.forall_mem_cons.mpr ⟨lw_p158, List.forall_mem_cons.mpr ⟨lw_p159, fun _ h => absurd h List.not_mem_nil⟩⟩⟩⟩⟩⟩⟩⟩⟩⟩⟩⟩⟩⟩⟩⟩
def lw_privs : List (MethodName × Nat) := lw_privs_1 ++ (lw_privs_2 ++ (lw_privs_3 ++ (lw_privs_4 ++ (lw_privs_5 ++ (lw_privs_6 ++ (lw_privs_7 ++ (lw_privs_8 ++ (lw_privs_9 ++ (lw_privs_10)))))))))
def lw_tbl : List Cond := k2_sels lw_privs ++ tables_1
theorem lw_privs_ok : ∀ q ∈ lw_privs, lw_okq q := by
  show ∀ q ∈ lw_privs_1 ++ (lw_privs_2 ++ (lw_privs_3 ++ (lw_privs_4 ++ (lw_privs_5 ++ (lw_privs_6 ++ (lw_privs_7 ++ (lw_privs_8 ++ (lw_privs_9 ++ (lw_privs_10))))))))), lw_okq q
  exact List.forall_mem_append.mpr ⟨lw_r1, List.forall_mem_append.mpr ⟨lw_r2, List.forall_mem_append.mpr ⟨lw_r3, List.forall_mem_append.mpr ⟨lw_r4, List.forall_mem_append.mpr ⟨lw_r5, List.forall_mem_append.mpr ⟨lw_r6, List.forall_mem_append.mpr ⟨lw_r7, List.forall_mem_append.mpr ⟨lw_r8, List.forall_mem_append.mpr ⟨lw_r9, lw_r10⟩⟩⟩⟩⟩⟩⟩⟩⟩
def RJ4 : String := "java/lang/StringBuilder"
def TJ4 : u_T := fun k => match k with
  | 0 => ("java/lang/AbstractStringBuilder", "value", "[B", false)
  | 1 => ("java/lang/AbstractStringBuilder", "coder", "B", false)
  | 2 => ("java/lang/AbstractStringBuilder", "maybeLatin1", "Z", false)
  | _ => ("java/lang/AbstractStringBuilder", "count", "I", false)
def tyJ4 : Nat → FieldType := fun k => match k with
  | 0 => .array .byte
  | 1 => .byte
  | 2 => .boolean
  | _ => .int
abbrev wsJ40 : List Cond := u_ws RJ4 TJ4 4
theorem nmJ4 : ∀ a, a < 4 → ∀ b, b < 4 → a ≠ b → (TJ4 a).2.1 ≠ (TJ4 b).2.1 := by decide +kernel
theorem tyJ4_ok : ∀ k, k < 4 → parseFieldDescriptor (TJ4 k).2.2.1 = some (tyJ4 k) := by decide +kernel
def RX0 : String := "OrnamentsOut$Note"
def TX0 : u_T := fun k => match k with
  | 0 => ("OrnamentsOut$Note", "pitch", "I", false)
  | 1 => ("OrnamentsOut$Note", "begin", "I", false)
  | 2 => ("OrnamentsOut$Note", "length", "I", false)
  | 3 => ("OrnamentsOut$Note", "bar", "I", false)
  | 4 => ("OrnamentsOut$Note", "key", "I", false)
  | 5 => ("OrnamentsOut$Note", "speed", "I", false)
  | 6 => ("OrnamentsOut$Note", "ties", "I", false)
  | 7 => ("OrnamentsOut$Note", "prefix", "I", false)
  | 8 => ("OrnamentsOut$Note", "graces", "[I", true)
  | 9 => ("OrnamentsOut$Note", "body", "I", false)
  | 10 => ("OrnamentsOut$Note", "upSign", "I", false)
  | 11 => ("OrnamentsOut$Note", "downSign", "I", false)
  | 12 => ("OrnamentsOut$Note", "behind", "I", false)
  | 13 => ("OrnamentsOut$Note", "heldUpper", "I", false)
  | 14 => ("OrnamentsOut$Note", "heldLower", "I", false)
  | _ => ("OrnamentsOut$Note", "heldLow", "I", false)
def tyX0 : Nat → FieldType := fun k => match k with
  | 0 => .int
  | 1 => .int
  | 2 => .int
  | 3 => .int
  | 4 => .int
  | 5 => .int
  | 6 => .int
  | 7 => .int
  | 8 => .array .int
  | 9 => .int
  | 10 => .int
  | 11 => .int
  | 12 => .int
  | 13 => .int
  | 14 => .int
  | _ => .int
abbrev wsX00 : List Cond := u_ws RX0 TX0 16
theorem nmX0 : ∀ a, a < 16 → ∀ b, b < 16 → a ≠ b → (TX0 a).2.1 ≠ (TX0 b).2.1 := by decide +kernel
theorem tyX0_ok : ∀ k, k < 16 → parseFieldDescriptor (TX0 k).2.2.1 = some (tyX0 k) := by decide +kernel
def RX1 : String := "OrnamentsOut$Reader"
def TX1 : u_T := fun k => match k with
  | 0 => ("OrnamentsOut$Reader", "tape", "[I", true)
  | 1 => ("OrnamentsOut$Reader", "taped", "I", false)
  | 2 => ("OrnamentsOut$Reader", "size", "I", false)
  | 3 => ("OrnamentsOut$Reader", "next", "I", false)
  | 4 => ("OrnamentsOut$Reader", "token", "I", false)
  | 5 => ("OrnamentsOut$Reader", "start", "I", false)
  | 6 => ("OrnamentsOut$Reader", "value", "I", false)
  | 7 => ("OrnamentsOut$Reader", "lineStart", "I", false)
  | 8 => ("OrnamentsOut$Reader", "read", "I", false)
  | 9 => ("OrnamentsOut$Reader", "song", "LOrnamentsOut$Song;", false)
  | 10 => ("OrnamentsOut$Reader", "key", "I", false)
  | 11 => ("OrnamentsOut$Reader", "speed", "I", false)
  | 12 => ("OrnamentsOut$Reader", "meter", "I", false)
  | 13 => ("OrnamentsOut$Reader", "barEnd", "I", false)
  | 14 => ("OrnamentsOut$Reader", "toldTwice", "Z", false)
  | 15 => ("OrnamentsOut$Reader", "toldSigns", "[I", true)
  | 16 => ("OrnamentsOut$Reader", "fault", "I", false)
  | _ => ("OrnamentsOut$Reader", "faultPlace", "I", false)
def tyX1 : Nat → FieldType := fun k => match k with
  | 0 => .array .int
  | 1 => .int
  | 2 => .int
  | 3 => .int
  | 4 => .int
  | 5 => .int
  | 6 => .int
  | 7 => .int
  | 8 => .int
  | 9 => .object "OrnamentsOut$Song"
  | 10 => .int
  | 11 => .int
  | 12 => .int
  | 13 => .int
  | 14 => .boolean
  | 15 => .array .int
  | 16 => .int
  | _ => .int
abbrev wsX10 : List Cond := u_ws RX1 TX1 18
theorem nmX1 : ∀ a, a < 18 → ∀ b, b < 18 → a ≠ b → (TX1 a).2.1 ≠ (TX1 b).2.1 := by decide +kernel
theorem tyX1_ok : ∀ k, k < 18 → parseFieldDescriptor (TX1 k).2.2.1 = some (tyX1 k) := by decide +kernel
def RX2 : String := "OrnamentsOut$Score"
def TX2 : u_T := fun k => match k with
  | 0 => ("OrnamentsOut$Score", "kept", "Z", true)
  | 1 => ("OrnamentsOut$Score", "tones", "I", false)
  | 2 => ("OrnamentsOut$Score", "pitches", "[I", false)
  | 3 => ("OrnamentsOut$Score", "owners", "[I", false)
  | 4 => ("OrnamentsOut$Score", "begins", "[I", false)
  | 5 => ("OrnamentsOut$Score", "lengths", "[I", false)
  | 6 => ("OrnamentsOut$Score", "cursor", "I", false)
  | 7 => ("OrnamentsOut$Score", "linked", "Z", false)
  | 8 => ("OrnamentsOut$Score", "latestPitch", "I", false)
  | 9 => ("OrnamentsOut$Score", "latestLength", "I", false)
  | 10 => ("OrnamentsOut$Score", "less", "I", false)
  | 11 => ("OrnamentsOut$Score", "away", "I", false)
  | 12 => ("OrnamentsOut$Score", "verdicts", "[I", true)
  | 13 => ("OrnamentsOut$Score", "firsts", "[I", true)
  | 14 => ("OrnamentsOut$Score", "counts", "[I", true)
  | 15 => ("OrnamentsOut$Score", "borrowedOwn", "[I", true)
  | _ => ("OrnamentsOut$Score", "borrowedAhead", "[I", true)
def tyX2 : Nat → FieldType := fun k => match k with
  | 0 => .boolean
  | 1 => .int
  | 2 => .array .int
  | 3 => .array .int
  | 4 => .array .int
  | 5 => .array .int
  | 6 => .int
  | 7 => .boolean
  | 8 => .int
  | 9 => .int
  | 10 => .int
  | 11 => .int
  | 12 => .array .int
  | 13 => .array .int
  | 14 => .array .int
  | 15 => .array .int
  | _ => .array .int
abbrev wsX20 : List Cond := u_ws RX2 TX2 17
theorem nmX2 : ∀ a, a < 17 → ∀ b, b < 17 → a ≠ b → (TX2 a).2.1 ≠ (TX2 b).2.1 := by decide +kernel
theorem tyX2_ok : ∀ k, k < 17 → parseFieldDescriptor (TX2 k).2.2.1 = some (tyX2 k) := by decide +kernel
def RX3 : String := "OrnamentsOut$Song"
def TX3 : u_T := fun k => match k with
  | 0 => ("OrnamentsOut$Song", "notes", "[LOrnamentsOut$Note;", true)
  | 1 => ("OrnamentsOut$Song", "size", "I", false)
  | 2 => ("OrnamentsOut$Song", "barBegins", "[I", true)
  | 3 => ("OrnamentsOut$Song", "bars", "I", false)
  | _ => ("OrnamentsOut$Song", "end", "I", false)
def tyX3 : Nat → FieldType := fun k => match k with
  | 0 => .array (.object "OrnamentsOut$Note")
  | 1 => .int
  | 2 => .array .int
  | 3 => .int
  | _ => .int
abbrev wsX30 : List Cond := u_ws RX3 TX3 5
theorem nmX3 : ∀ a, a < 5 → ∀ b, b < 5 → a ≠ b → (TX3 a).2.1 ≠ (TX3 b).2.1 := by decide +kernel
theorem tyX3_ok : ∀ k, k < 5 → parseFieldDescriptor (TX3 k).2.2.1 = some (tyX3 k) := by decide +kernel
def RX4 : String := "OrnamentsOut$Writer"
def TX4 : u_T := fun k => match k with
  | 0 => ("OrnamentsOut$Writer", "terms", "[I", true)
  | 1 => ("OrnamentsOut$Writer", "standing", "LOrnamentsOut$Score;", true)
  | 2 => ("OrnamentsOut$Writer", "paper", "LOrnamentsOut$Score;", true)
  | 3 => ("OrnamentsOut$Writer", "stale", "Z", false)
  | 4 => ("OrnamentsOut$Writer", "song", "LOrnamentsOut$Song;", false)
  | 5 => ("OrnamentsOut$Writer", "score", "LOrnamentsOut$Score;", false)
  | 6 => ("OrnamentsOut$Writer", "percent", "I", false)
  | 7 => ("OrnamentsOut$Writer", "index", "I", false)
  | 8 => ("OrnamentsOut$Writer", "note", "LOrnamentsOut$Note;", false)
  | 9 => ("OrnamentsOut$Writer", "next", "LOrnamentsOut$Note;", false)
  | 10 => ("OrnamentsOut$Writer", "tone", "I", false)
  | 11 => ("OrnamentsOut$Writer", "left", "I", false)
  | 12 => ("OrnamentsOut$Writer", "pitches", "[I", true)
  | _ => ("OrnamentsOut$Writer", "afterbeatPlayed", "Z", false)
def tyX4 : Nat → FieldType := fun k => match k with
  | 0 => .array .int
  | 1 => .object "OrnamentsOut$Score"
  | 2 => .object "OrnamentsOut$Score"
  | 3 => .boolean
  | 4 => .object "OrnamentsOut$Song"
  | 5 => .object "OrnamentsOut$Score"
  | 6 => .int
  | 7 => .int
  | 8 => .object "OrnamentsOut$Note"
  | 9 => .object "OrnamentsOut$Note"
  | 10 => .int
  | 11 => .int
  | 12 => .array .int
  | _ => .boolean
abbrev wsX40 : List Cond := u_ws RX4 TX4 14
theorem nmX4 : ∀ a, a < 14 → ∀ b, b < 14 → a ≠ b → (TX4 a).2.1 ≠ (TX4 b).2.1 := by decide +kernel
theorem tyX4_ok : ∀ k, k < 14 → parseFieldDescriptor (TX4 k).2.2.1 = some (tyX4 k) := by decide +kernel
def RX5 : String := "OrnamentsOut"
def TX5 : u_T := fun k => match k with
  | 0 => ("OrnamentsOut", "reader", "LOrnamentsOut$Reader;", true)
  | 1 => ("OrnamentsOut", "writer", "LOrnamentsOut$Writer;", true)
  | 2 => ("OrnamentsOut", "song", "LOrnamentsOut$Song;", false)
  | 3 => ("OrnamentsOut", "spare", "LOrnamentsOut$Song;", false)
  | 4 => ("OrnamentsOut", "aside", "LOrnamentsOut$Note;", true)
  | 5 => ("OrnamentsOut", "fault", "I", false)
  | _ => ("OrnamentsOut", "faultPlace", "I", false)
def tyX5 : Nat → FieldType := fun k => match k with
  | 0 => .object "OrnamentsOut$Reader"
  | 1 => .object "OrnamentsOut$Writer"
  | 2 => .object "OrnamentsOut$Song"
  | 3 => .object "OrnamentsOut$Song"
  | 4 => .object "OrnamentsOut$Note"
  | 5 => .int
  | _ => .int
abbrev wsX50 : List Cond := u_ws RX5 TX5 7
theorem nmX5 : ∀ a, a < 7 → ∀ b, b < 7 → a ≠ b → (TX5 a).2.1 ≠ (TX5 b).2.1 := by decide +kernel
theorem tyX5_ok : ∀ k, k < 7 → parseFieldDescriptor (TX5 k).2.2.1 = some (tyX5 k) := by decide +kernel
def RX6 : String := "OrnamentsOutModel"
def TX6 : u_T := fun k => match k with
  | 0 => ("OrnamentsOutModel", "thrown", "I", false)
  | 1 => ("OrnamentsOutModel", "term", "[I", true)
  | 2 => ("OrnamentsOutModel", "lowTerm", "[I", true)
  | 3 => ("OrnamentsOutModel", "highTerm", "[I", true)
  | 4 => ("OrnamentsOutModel", "base", "[I", true)
  | 5 => ("OrnamentsOutModel", "sharps", "[I", true)
  | 6 => ("OrnamentsOutModel", "all", "[I", true)
  | 7 => ("OrnamentsOutModel", "read", "[I", true)
  | 8 => ("OrnamentsOutModel", "tape", "[B", true)
  | 9 => ("OrnamentsOutModel", "taped", "I", false)
  | 10 => ("OrnamentsOutModel", "size", "I", false)
  | 11 => ("OrnamentsOutModel", "spot", "I", false)
  | 12 => ("OrnamentsOutModel", "wrong", "I", false)
  | 13 => ("OrnamentsOutModel", "wrongAt", "I", false)
  | 14 => ("OrnamentsOutModel", "sort", "I", false)
  | 15 => ("OrnamentsOutModel", "place", "I", false)
  | 16 => ("OrnamentsOutModel", "long0", "I", false)
  | 17 => ("OrnamentsOutModel", "value", "I", false)
  | 18 => ("OrnamentsOutModel", "words", "[B", true)
  | 19 => ("OrnamentsOutModel", "at", "I", false)
  | 20 => ("OrnamentsOutModel", "barEnd", "I", false)
  | 21 => ("OrnamentsOutModel", "meter", "I", false)
  | 22 => ("OrnamentsOutModel", "key", "I", false)
  | 23 => ("OrnamentsOutModel", "speed", "I", false)
  | 24 => ("OrnamentsOutModel", "isBehindNote", "Z", false)
  | 25 => ("OrnamentsOutModel", "told", "[I", true)
  | 26 => ("OrnamentsOutModel", "wordAt", "I", false)
  | 27 => ("OrnamentsOutModel", "letter", "I", false)
  | 28 => ("OrnamentsOutModel", "octave", "I", false)
  | 29 => ("OrnamentsOutModel", "num", "I", false)
  | 30 => ("OrnamentsOutModel", "isTwice", "Z", false)
  | 31 => ("OrnamentsOutModel", "t_num", "[I", true)
  | 32 => ("OrnamentsOutModel", "t_kind", "[I", true)
  | 33 => ("OrnamentsOutModel", "t_note", "[I", true)
  | 34 => ("OrnamentsOutModel", "t_letter", "[I", true)
  | 35 => ("OrnamentsOutModel", "t_octave", "[I", true)
  | 36 => ("OrnamentsOutModel", "t_begin", "[I", true)
  | 37 => ("OrnamentsOutModel", "t_long", "[I", true)
  | 38 => ("OrnamentsOutModel", "first", "[I", true)
  | 39 => ("OrnamentsOutModel", "many", "[I", true)
  | 40 => ("OrnamentsOutModel", "verdict", "[I", true)
  | 41 => ("OrnamentsOutModel", "self0", "[I", true)
  | 42 => ("OrnamentsOutModel", "ahead0", "[I", true)
  | 43 => ("OrnamentsOutModel", "toneMany", "I", false)
  | 44 => ("OrnamentsOutModel", "now", "I", false)
  | 45 => ("OrnamentsOutModel", "t", "I", false)
  | 46 => ("OrnamentsOutModel", "its0", "I", false)
  | 47 => ("OrnamentsOutModel", "up0", "I", false)
  | 48 => ("OrnamentsOutModel", "down0", "I", false)
  | 49 => ("OrnamentsOutModel", "last", "I", false)
  | 50 => ("OrnamentsOutModel", "goesOn", "I", false)
  | 51 => ("OrnamentsOutModel", "left", "I", false)
  | 52 => ("OrnamentsOutModel", "hasAfterbeat", "Z", false)
  | 53 => ("OrnamentsOutModel", "called", "[I", true)
  | 54 => ("OrnamentsOutModel", "calledLong", "I", false)
  | _ => ("OrnamentsOutModel", "aside", "[I", true)
def tyX6 : Nat → FieldType := fun k => match k with
  | 0 => .int
  | 1 => .array .int
  | 2 => .array .int
  | 3 => .array .int
  | 4 => .array .int
  | 5 => .array .int
  | 6 => .array .int
  | 7 => .array .int
  | 8 => .array .byte
  | 9 => .int
  | 10 => .int
  | 11 => .int
  | 12 => .int
  | 13 => .int
  | 14 => .int
  | 15 => .int
  | 16 => .int
  | 17 => .int
  | 18 => .array .byte
  | 19 => .int
  | 20 => .int
  | 21 => .int
  | 22 => .int
  | 23 => .int
  | 24 => .boolean
  | 25 => .array .int
  | 26 => .int
  | 27 => .int
  | 28 => .int
  | 29 => .int
  | 30 => .boolean
  | 31 => .array .int
  | 32 => .array .int
  | 33 => .array .int
  | 34 => .array .int
  | 35 => .array .int
  | 36 => .array .int
  | 37 => .array .int
  | 38 => .array .int
  | 39 => .array .int
  | 40 => .array .int
  | 41 => .array .int
  | 42 => .array .int
  | 43 => .int
  | 44 => .int
  | 45 => .int
  | 46 => .int
  | 47 => .int
  | 48 => .int
  | 49 => .int
  | 50 => .int
  | 51 => .int
  | 52 => .boolean
  | 53 => .array .int
  | 54 => .int
  | _ => .array .int
abbrev wsX60 : List Cond := u_ws RX6 TX6 56
theorem nmX6 : ∀ a, a < 56 → ∀ b, b < 56 → a ≠ b → (TX6 a).2.1 ≠ (TX6 b).2.1 := by decide +kernel
theorem tyX6_ok : ∀ k, k < 56 → parseFieldDescriptor (TX6 k).2.2.1 = some (tyX6 k) := by decide +kernel
abbrev vwCl : List vw_C := [(RJ4, TJ4, 4), (RX0, TX0, 16), (RX1, TX1, 18), (RX2, TX2, 17), (RX3, TX3, 5), (RX4, TX4, 14), (RX5, TX5, 7), (RX6, TX6, 56)]
end
section
/-! the methods: name, code, locals, return, rank (a method calls only methods of lower rank) -/
def mN (y : Nat) : MethodName := (bif Nat.ble 141 y then (bif Nat.ble 211 y then (bif Nat.ble 246 y then (bif Nat.ble 264 y then (bif Nat.ble 273 y then (bif Nat.ble 277 y then (bif Nat.ble 279 y then (bif Nat.ble 280 y then (bif Nat.ble 281 y then ⟨"java/lang/Integer", "getChars", "(II[B)I"⟩ else ⟨"java/lang/Integer", "stringSize", "(I)I"⟩) else ⟨"jdk/internal/util/ArraysSupport", "newLength", "(III)I"⟩) else (bif Nat.ble 278 y then ⟨"java/lang/AbstractStringBuilder", "charAt", "(I)C"⟩ else ⟨"java/lang/AbstractStringBuilder", "length", "()I"⟩)) else (bif Nat.ble 275 y then (bif Nat.ble 276 y then ⟨"java/lang/AbstractStringBuilder", "append", "(I)Ljava/lang/AbstractStringBuilder;"⟩ else ⟨"java/lang/AbstractStringBuilder", "isLatin1", "()Z"⟩) else (bif Nat.ble 274 y then ⟨"java/lang/AbstractStringBuilder", "newCapacity", "(I)I"⟩ else ⟨"java/lang/AbstractStringBuilder", "ensureCapacityInternal", "(I)V"⟩))) else (bif Nat.ble 268 y then (bif Nat.ble 270 y then (bif Nat.ble 271 y then (bif Nat.ble 272 y then ⟨"java/lang/AbstractStringBuilder", "append", "(C)Ljava/lang/AbstractStringBuilder;"⟩ else ⟨"java/lang/AbstractStringBuilder", "<init>", "(I)V"⟩) else ⟨"java/lang/StringBuilder", "charAt", "(I)C"⟩) else (bif Nat.ble 269 y then ⟨"java/lang/StringBuilder", "length", "()I"⟩ else ⟨"java/lang/StringBuilder", "append", "(I)Ljava/lang/StringBuilder;"⟩)) else (bif Nat.ble 266 y then (bif Nat.ble 267 y then ⟨"java/lang/StringBuilder", "append", "(C)Ljava/lang/StringBuilder;"⟩ else ⟨"java/lang/StringBuilder", "<init>", "()V"⟩) else (bif Nat.ble 265 y then ⟨"java/lang/StringLatin1", "canEncode", "(C)Z"⟩ else ⟨"java/lang/StringLatin1", "indexOfChar", "([BIII)I"⟩)))) else (bif Nat.ble 255 y then (bif Nat.ble 259 y then (bif Nat.ble 261 y then (bif Nat.ble 262 y then (bif Nat.ble 263 y then ⟨"java/lang/StringLatin1", "canEncode", "(I)Z"⟩ else ⟨"java/lang/StringLatin1", "indexOf", "([BIII)I"⟩) else ⟨"java/lang/StringLatin1", "charAt", "([BI)C"⟩) else (bif Nat.ble 260 y then ⟨"jdk/internal/util/Preconditions", "checkIndex", "(IILjava/util/function/BiFunction;)I"⟩ else ⟨"java/lang/String", "indexOf", "(II)I"⟩)) else (bif Nat.ble 257 y then (bif Nat.ble 258 y then ⟨"java/lang/String", "indexOf", "(I)I"⟩ else ⟨"java/lang/String", "checkIndex", "(II)V"⟩) else (bif Nat.ble 256 y then ⟨"java/lang/String", "isLatin1", "()Z"⟩ else ⟨"java/lang/String", "charAt", "(I)C"⟩))) else (bif Nat.ble 250 y then (bif Nat.ble 252 y then (bif Nat.ble 253 y then (bif Nat.ble 254 y then ⟨"java/lang/String", "coder", "()B"⟩ else ⟨"java/lang/String", "length", "()I"⟩) else ⟨"java/util/Arrays", "copyOf", "([BI)[B"⟩) else (bif Nat.ble 251 y then ⟨"java/util/Arrays", "copyOf", "([II)[I"⟩ else ⟨"java/util/Arrays", "fill", "([II)V"⟩)) else (bif Nat.ble 248 y then (bif Nat.ble 249 y then ⟨"java/lang/Math", "abs", "(I)I"⟩ else ⟨"java/lang/Math", "floorMod", "(II)I"⟩) else (bif Nat.ble 247 y then ⟨"java/lang/Math", "floorDiv", "(II)I"⟩ else ⟨"java/lang/Math", "max", "(II)I"⟩))))) else (bif Nat.ble 228 y then (bif Nat.ble 237 y then (bif Nat.ble 241 y then (bif Nat.ble 243 y then (bif Nat.ble 244 y then (bif Nat.ble 245 y then ⟨"java/lang/Math", "min", "(II)I"⟩ else ⟨"OrnamentsOutLaw", "law", "([I)Z"⟩) else ⟨"OrnamentsOutModel", "plainOnes", "()I"⟩) else (bif Nat.ble 242 y then ⟨"OrnamentsOutModel", "count", "(I)J"⟩ else ⟨"OrnamentsOutModel", "greediest", "()I"⟩)) else (bif Nat.ble 239 y then (bif Nat.ble 240 y then ⟨"OrnamentsOutModel", "quick", "()I"⟩ else ⟨"OrnamentsOutModel", "richest", "(I)I"⟩) else (bif Nat.ble 238 y then ⟨"OrnamentsOutModel", "tries", "(II)V"⟩ else ⟨"OrnamentsOutModel", "instead", "(II)I"⟩))) else (bif Nat.ble 232 y then (bif Nat.ble 234 y then (bif Nat.ble 235 y then (bif Nat.ble 236 y then ⟨"OrnamentsOutModel", "bears", "(I)I"⟩ else ⟨"OrnamentsOutModel", "whole", "(I)I"⟩) else ⟨"OrnamentsOutModel", "fastest", "()I"⟩) else (bif Nat.ble 233 y then ⟨"OrnamentsOutModel", "verdicts", "(I)I"⟩ else ⟨"OrnamentsOutModel", "would", "(II)I"⟩)) else (bif Nat.ble 230 y then (bif Nat.ble 231 y then ⟨"OrnamentsOutModel", "inKey", "(III)I"⟩ else ⟨"OrnamentsOutModel", "greater", "(II)I"⟩) else (bif Nat.ble 229 y then ⟨"OrnamentsOutModel", "lesser", "(II)I"⟩ else ⟨"OrnamentsOutModel", "bar", "(II)J"⟩)))) else (bif Nat.ble 219 y then (bif Nat.ble 223 y then (bif Nat.ble 225 y then (bif Nat.ble 226 y then (bif Nat.ble 227 y then ⟨"OrnamentsOutModel", "at", "(II)I"⟩ else ⟨"OrnamentsOutModel", "callsNumber", "(I)V"⟩) else ⟨"OrnamentsOutModel", "calls", "(I)V"⟩) else (bif Nat.ble 224 y then ⟨"OrnamentsOutModel", "called", "(II)I"⟩ else ⟨"OrnamentsOutModel", "when", "(III)J"⟩)) else (bif Nat.ble 221 y then (bif Nat.ble 222 y then ⟨"OrnamentsOutModel", "barAt", "(I)I"⟩ else ⟨"OrnamentsOutModel", "alterOf", "(I)I"⟩) else (bif Nat.ble 220 y then ⟨"OrnamentsOutModel", "isTone", "(I)Z"⟩ else ⟨"OrnamentsOutModel", "sounds", "(II)I"⟩))) else (bif Nat.ble 215 y then (bif Nat.ble 217 y then (bif Nat.ble 218 y then ⟨"OrnamentsOutModel", "milliseconds", "(I)I"⟩ else ⟨"OrnamentsOutModel", "tone", "(II)J"⟩) else (bif Nat.ble 216 y then ⟨"OrnamentsOutModel", "borrowed", "(III)J"⟩ else ⟨"OrnamentsOutModel", "length", "(II)J"⟩)) else (bif Nat.ble 213 y then (bif Nat.ble 214 y then ⟨"OrnamentsOutModel", "isAsked", "(II)Z"⟩ else ⟨"OrnamentsOutModel", "begin", "(II)J"⟩) else (bif Nat.ble 212 y then ⟨"OrnamentsOutModel", "writesBehind", "()I"⟩ else ⟨"OrnamentsOutModel", "writesFromBelow", "()I"⟩)))))) else (bif Nat.ble 176 y then (bif Nat.ble 193 y then (bif Nat.ble 202 y then (bif Nat.ble 206 y then (bif Nat.ble 208 y then (bif Nat.ble 209 y then (bif Nat.ble 210 y then ⟨"OrnamentsOutModel", "writesLongMordent", "()I"⟩ else ⟨"OrnamentsOutModel", "writesLate", "()I"⟩) else ⟨"OrnamentsOutModel", "quarters", "(III)V"⟩) else (bif Nat.ble 207 y then ⟨"OrnamentsOutModel", "writesTurn", "(II)I"⟩ else ⟨"OrnamentsOutModel", "writesMordent", "()I"⟩)) else (bif Nat.ble 204 y then (bif Nat.ble 205 y then ⟨"OrnamentsOutModel", "less", "(I)I"⟩ else ⟨"OrnamentsOutModel", "writesPrall", "()I"⟩) else (bif Nat.ble 203 y then ⟨"OrnamentsOutModel", "turns", "(III)V"⟩ else ⟨"OrnamentsOutModel", "fit", "(IZ)I"⟩))) else (bif Nat.ble 197 y then (bif Nat.ble 199 y then (bif Nat.ble 200 y then (bif Nat.ble 201 y then ⟨"OrnamentsOutModel", "isNextAbove", "()Z"⟩ else ⟨"OrnamentsOutModel", "trills", "(Z)Z"⟩) else ⟨"OrnamentsOutModel", "isBehindUpper", "()Z"⟩) else (bif Nat.ble 198 y then ⟨"OrnamentsOutModel", "writesTrill", "()I"⟩ else ⟨"OrnamentsOutModel", "writesBody", "()I"⟩)) else (bif Nat.ble 195 y then (bif Nat.ble 196 y then ⟨"OrnamentsOutModel", "writesGraces", "(I)I"⟩ else ⟨"OrnamentsOutModel", "lowest", "(I)I"⟩) else (bif Nat.ble 194 y then ⟨"OrnamentsOutModel", "puts", "(II)V"⟩ else ⟨"OrnamentsOutModel", "writesSlide", "()I"⟩)))) else (bif Nat.ble 184 y then (bif Nat.ble 188 y then (bif Nat.ble 190 y then (bif Nat.ble 191 y then (bif Nat.ble 192 y then ⟨"OrnamentsOutModel", "comes", "(I)V"⟩ else ⟨"OrnamentsOutModel", "putsAs", "(IIIII)V"⟩) else ⟨"OrnamentsOutModel", "graces", "(III)V"⟩) else (bif Nat.ble 189 y then ⟨"OrnamentsOutModel", "common", "(II)I"⟩ else ⟨"OrnamentsOutModel", "part", "(II)I"⟩)) else (bif Nat.ble 186 y then (bif Nat.ble 187 y then ⟨"OrnamentsOutModel", "writesLong", "()I"⟩ else ⟨"OrnamentsOutModel", "writesPrefix", "()I"⟩) else (bif Nat.ble 185 y then ⟨"OrnamentsOutModel", "downOctave", "(II)I"⟩ else ⟨"OrnamentsOutModel", "downLetter", "(II)I"⟩))) else (bif Nat.ble 180 y then (bif Nat.ble 182 y then (bif Nat.ble 183 y then ⟨"OrnamentsOutModel", "lower", "(II)I"⟩ else ⟨"OrnamentsOutModel", "neighbour", "(IIIIII)I"⟩) else (bif Nat.ble 181 y then ⟨"OrnamentsOutModel", "upOctave", "(I)I"⟩ else ⟨"OrnamentsOutModel", "upLetter", "(I)I"⟩)) else (bif Nat.ble 178 y then (bif Nat.ble 179 y then ⟨"OrnamentsOutModel", "upper", "(II)I"⟩ else ⟨"OrnamentsOutModel", "isQuick", "(II)Z"⟩) else (bif Nat.ble 177 y then ⟨"OrnamentsOutModel", "toneOf", "(I)I"⟩ else ⟨"OrnamentsOutModel", "writesNote", "()V"⟩))))) else (bif Nat.ble 158 y then (bif Nat.ble 167 y then (bif Nat.ble 171 y then (bif Nat.ble 173 y then (bif Nat.ble 174 y then (bif Nat.ble 175 y then ⟨"OrnamentsOutModel", "writes", "()V"⟩ else ⟨"OrnamentsOutModel", "note", "(II)I"⟩) else ⟨"OrnamentsOutModel", "after", "(II)I"⟩) else (bif Nat.ble 172 y then ⟨"OrnamentsOutModel", "bare", "(I)I"⟩ else ⟨"OrnamentsOutModel", "sign", "(III)I"⟩)) else (bif Nat.ble 169 y then (bif Nat.ble 170 y then ⟨"OrnamentsOutModel", "lays", "(III)V"⟩ else ⟨"OrnamentsOutModel", "becomes", "(II)V"⟩) else (bif Nat.ble 168 y then ⟨"OrnamentsOutModel", "of", "(II)I"⟩ else ⟨"OrnamentsOutModel", "isThere", "(I)Z"⟩))) else (bif Nat.ble 162 y then (bif Nat.ble 164 y then (bif Nat.ble 165 y then (bif Nat.ble 166 y then ⟨"OrnamentsOutModel", "isNote", "(I)Z"⟩ else ⟨"OrnamentsOutModel", "body", "(II)I"⟩) else ⟨"OrnamentsOutModel", "terms", "(II)I"⟩) else (bif Nat.ble 163 y then ⟨"OrnamentsOutModel", "fault", "(I)I"⟩ else ⟨"OrnamentsOutModel", "tieLine", "()V"⟩)) else (bif Nat.ble 160 y then (bif Nat.ble 161 y then ⟨"OrnamentsOutModel", "readsBody", "(I)V"⟩ else ⟨"OrnamentsOutModel", "grace", "(II)V"⟩) else (bif Nat.ble 159 y then ⟨"OrnamentsOutModel", "passes", "(I)Z"⟩ else ⟨"OrnamentsOutModel", "prefix", "(I)V"⟩)))) else (bif Nat.ble 149 y then (bif Nat.ble 153 y then (bif Nat.ble 155 y then (bif Nat.ble 156 y then (bif Nat.ble 157 y then ⟨"OrnamentsOutModel", "heldAt", "(II)I"⟩ else ⟨"OrnamentsOutModel", "alterBy", "(II)I"⟩) else ⟨"OrnamentsOutModel", "plainOf", "(II)I"⟩) else (bif Nat.ble 154 y then ⟨"OrnamentsOutModel", "readsSign", "()I"⟩ else ⟨"OrnamentsOutModel", "isLetter", "()Z"⟩)) else (bif Nat.ble 151 y then (bif Nat.ble 152 y then ⟨"OrnamentsOutModel", "readsTone", "()V"⟩ else ⟨"OrnamentsOutModel", "noteLine", "()V"⟩) else (bif Nat.ble 150 y then ⟨"OrnamentsOutModel", "takes", "(III)V"⟩ else ⟨"OrnamentsOutModel", "lasts", "(II)V"⟩))) else (bif Nat.ble 145 y then (bif Nat.ble 147 y then (bif Nat.ble 148 y then ⟨"OrnamentsOutModel", "fraction", "()I"⟩ else ⟨"OrnamentsOutModel", "opens", "()V"⟩) else (bif Nat.ble 146 y then ⟨"OrnamentsOutModel", "restLine", "()V"⟩ else ⟨"OrnamentsOutModel", "power", "(I)I"⟩)) else (bif Nat.ble 143 y then (bif Nat.ble 144 y then ⟨"OrnamentsOutModel", "must", "(I)V"⟩ else ⟨"OrnamentsOutModel", "number", "(II)I"⟩) else (bif Nat.ble 142 y then ⟨"OrnamentsOutModel", "isSign", "(I)Z"⟩ else ⟨"OrnamentsOutModel", "passesSign", "(I)Z"⟩))))))) else (bif Nat.ble 70 y then (bif Nat.ble 105 y then (bif Nat.ble 123 y then (bif Nat.ble 132 y then (bif Nat.ble 136 y then (bif Nat.ble 138 y then (bif Nat.ble 139 y then (bif Nat.ble 140 y then ⟨"OrnamentsOutModel", "fails", "(II)V"⟩ else ⟨"OrnamentsOutModel", "word", "()I"⟩) else ⟨"OrnamentsOutModel", "line", "()V"⟩) else (bif Nat.ble 137 y then ⟨"OrnamentsOutModel", "peek", "()I"⟩ else ⟨"OrnamentsOutModel", "goes", "()V"⟩)) else (bif Nat.ble 134 y then (bif Nat.ble 135 y then ⟨"OrnamentsOutModel", "isIn", "(JJJ)Z"⟩ else ⟨"OrnamentsOutModel", "text", "(I)I"⟩) else (bif Nat.ble 133 y then ⟨"OrnamentsOutModel", "feed", "(IIIII)I"⟩ else ⟨"OrnamentsOutModel", "<init>", "()V"⟩))) else (bif Nat.ble 127 y then (bif Nat.ble 129 y then (bif Nat.ble 130 y then (bif Nat.ble 131 y then ⟨"OrnamentsOut", "count", "(I)J"⟩ else ⟨"OrnamentsOut", "greediest", "()I"⟩) else ⟨"OrnamentsOut", "quick", "()I"⟩) else (bif Nat.ble 128 y then ⟨"OrnamentsOut", "richest", "(I)I"⟩ else ⟨"OrnamentsOut", "instead", "(II)I"⟩)) else (bif Nat.ble 125 y then (bif Nat.ble 126 y then ⟨"OrnamentsOut", "bears", "(I)I"⟩ else ⟨"OrnamentsOut", "fastest", "()I"⟩) else (bif Nat.ble 124 y then ⟨"OrnamentsOut", "would", "(II)I"⟩ else ⟨"OrnamentsOut", "inKey", "(III)I"⟩)))) else (bif Nat.ble 114 y then (bif Nat.ble 118 y then (bif Nat.ble 120 y then (bif Nat.ble 121 y then (bif Nat.ble 122 y then ⟨"OrnamentsOut", "bar", "(II)J"⟩ else ⟨"OrnamentsOut", "at", "(II)I"⟩) else ⟨"OrnamentsOut", "called", "(II)I"⟩) else (bif Nat.ble 119 y then ⟨"OrnamentsOut", "when", "(III)J"⟩ else ⟨"OrnamentsOut", "octaveOf", "(I)I"⟩)) else (bif Nat.ble 116 y then (bif Nat.ble 117 y then ⟨"OrnamentsOut", "letterOf", "(I)I"⟩ else ⟨"OrnamentsOut", "sounds", "(II)I"⟩) else (bif Nat.ble 115 y then ⟨"OrnamentsOut", "milliseconds", "(I)I"⟩ else ⟨"OrnamentsOut", "tone", "(II)J"⟩))) else (bif Nat.ble 109 y then (bif Nat.ble 111 y then (bif Nat.ble 112 y then (bif Nat.ble 113 y then ⟨"OrnamentsOut", "borrowed", "(III)J"⟩ else ⟨"OrnamentsOut", "length", "(II)J"⟩) else ⟨"OrnamentsOut", "partOf", "(II)J"⟩) else (bif Nat.ble 110 y then ⟨"OrnamentsOut", "begin", "(II)J"⟩ else ⟨"OrnamentsOut", "lowerNumber", "(I)I"⟩)) else (bif Nat.ble 107 y then (bif Nat.ble 108 y then ⟨"OrnamentsOut", "upperNumber", "(I)I"⟩ else ⟨"OrnamentsOut", "neighbourNumber", "(LOrnamentsOut$Note;I)I"⟩) else (bif Nat.ble 106 y then ⟨"OrnamentsOut", "numberOf", "(I)I"⟩ else ⟨"OrnamentsOut", "note", "(II)I"⟩))))) else (bif Nat.ble 87 y then (bif Nat.ble 96 y then (bif Nat.ble 100 y then (bif Nat.ble 102 y then (bif Nat.ble 103 y then (bif Nat.ble 104 y then ⟨"OrnamentsOut", "after", "(II)I"⟩ else ⟨"OrnamentsOut", "bare", "(I)I"⟩) else ⟨"OrnamentsOut", "sign", "(III)I"⟩) else (bif Nat.ble 101 y then ⟨"OrnamentsOut", "isBody", "(I)Z"⟩ else ⟨"OrnamentsOut", "body", "(II)I"⟩)) else (bif Nat.ble 98 y then (bif Nat.ble 99 y then ⟨"OrnamentsOut", "terms", "(II)I"⟩ else ⟨"OrnamentsOut", "fault", "(I)I"⟩) else (bif Nat.ble 97 y then ⟨"OrnamentsOut", "isPowerOfTwo", "(I)Z"⟩ else ⟨"OrnamentsOut", "stepOf", "(I)I"⟩))) else (bif Nat.ble 91 y then (bif Nat.ble 93 y then (bif Nat.ble 94 y then (bif Nat.ble 95 y then ⟨"OrnamentsOut", "pitchOf", "(II)I"⟩ else ⟨"OrnamentsOut", "keySign", "(II)I"⟩) else ⟨"OrnamentsOut", "naturalNumber", "(I)I"⟩) else (bif Nat.ble 92 y then ⟨"OrnamentsOut", "numberBy", "(III)I"⟩ else ⟨"OrnamentsOut", "takesAfterbeat", "(I)Z"⟩)) else (bif Nat.ble 89 y then (bif Nat.ble 90 y then ⟨"OrnamentsOut", "text", "(I)I"⟩ else ⟨"OrnamentsOut", "feed", "(IIIII)I"⟩) else (bif Nat.ble 88 y then ⟨"OrnamentsOut", "<init>", "()V"⟩ else ⟨"OrnamentsOut$Writer", "isAllAsTold", "(LOrnamentsOut$Song;I)Z"⟩)))) else (bif Nat.ble 78 y then (bif Nat.ble 82 y then (bif Nat.ble 84 y then (bif Nat.ble 85 y then (bif Nat.ble 86 y then ⟨"OrnamentsOut$Writer", "onPaper", "(LOrnamentsOut$Song;II)LOrnamentsOut$Score;"⟩ else ⟨"OrnamentsOut$Writer", "playBehind", "()I"⟩) else ⟨"OrnamentsOut$Writer", "playJoin", "()Z"⟩) else (bif Nat.ble 83 y then ⟨"OrnamentsOut$Writer", "playDelayedTurn", "()Z"⟩ else ⟨"OrnamentsOut$Writer", "playTurn", "([I)Z"⟩)) else (bif Nat.ble 80 y then (bif Nat.ble 81 y then ⟨"OrnamentsOut$Writer", "lessUnlessAway", "(I)I"⟩ else ⟨"OrnamentsOut$Writer", "playShape", "([II)Z"⟩) else (bif Nat.ble 79 y then ⟨"OrnamentsOut$Writer", "playPrall", "()I"⟩ else ⟨"OrnamentsOut$Writer", "turnsIn", "(IZ)I"⟩))) else (bif Nat.ble 74 y then (bif Nat.ble 76 y then (bif Nat.ble 77 y then ⟨"OrnamentsOut$Writer", "addTurns", "(ZI)Z"⟩ else ⟨"OrnamentsOut$Writer", "wantsAfterbeat", "()Z"⟩) else (bif Nat.ble 75 y then ⟨"OrnamentsOut$Writer", "isBehindUpper", "()Z"⟩ else ⟨"OrnamentsOut$Writer", "playTurns", "()Z"⟩)) else (bif Nat.ble 72 y then (bif Nat.ble 73 y then ⟨"OrnamentsOut$Writer", "playBody", "()I"⟩ else ⟨"OrnamentsOut$Writer", "playGraces", "(I)I"⟩) else (bif Nat.ble 71 y then ⟨"OrnamentsOut$Writer", "play", "(II)V"⟩ else ⟨"OrnamentsOut$Writer", "playSlide", "()I"⟩)))))) else (bif Nat.ble 35 y then (bif Nat.ble 52 y then (bif Nat.ble 61 y then (bif Nat.ble 65 y then (bif Nat.ble 67 y then (bif Nat.ble 68 y then (bif Nat.ble 69 y then ⟨"OrnamentsOut$Writer", "addGraces", "(III)V"⟩ else ⟨"OrnamentsOut$Writer", "takeOfNote", "(I)V"⟩) else ⟨"OrnamentsOut$Writer", "playAppoggiatura", "()I"⟩) else (bif Nat.ble 66 y then ⟨"OrnamentsOut$Writer", "playPrefix", "()I"⟩ else ⟨"OrnamentsOut$Writer", "isQuick", "(III)Z"⟩)) else (bif Nat.ble 63 y then (bif Nat.ble 64 y then ⟨"OrnamentsOut$Writer", "toneAt", "(II)I"⟩ else ⟨"OrnamentsOut$Writer", "writeNote", "(I)V"⟩) else (bif Nat.ble 62 y then ⟨"OrnamentsOut$Writer", "start", "(LOrnamentsOut$Song;LOrnamentsOut$Score;I)V"⟩ else ⟨"OrnamentsOut$Writer", "written", "(LOrnamentsOut$Song;)LOrnamentsOut$Score;"⟩))) else (bif Nat.ble 56 y then (bif Nat.ble 58 y then (bif Nat.ble 59 y then (bif Nat.ble 60 y then ⟨"OrnamentsOut$Writer", "<init>", "()V"⟩ else ⟨"OrnamentsOut$Song", "plainNotes", "()I"⟩) else ⟨"OrnamentsOut$Song", "notesInBar", "(I)I"⟩) else (bif Nat.ble 57 y then ⟨"OrnamentsOut$Song", "barEnd", "(I)I"⟩ else ⟨"OrnamentsOut$Song", "barAt", "(I)I"⟩)) else (bif Nat.ble 54 y then (bif Nat.ble 55 y then ⟨"OrnamentsOut$Song", "anyNote", "(I)LOrnamentsOut$Note;"⟩ else ⟨"OrnamentsOut$Song", "playedNote", "(I)LOrnamentsOut$Note;"⟩) else (bif Nat.ble 53 y then ⟨"OrnamentsOut$Song", "addBar", "()V"⟩ else ⟨"OrnamentsOut$Song", "clear", "()V"⟩)))) else (bif Nat.ble 43 y then (bif Nat.ble 47 y then (bif Nat.ble 49 y then (bif Nat.ble 50 y then (bif Nat.ble 51 y then ⟨"OrnamentsOut$Song", "<init>", "()V"⟩ else ⟨"OrnamentsOut$Score", "isAsTold", "(I)Z"⟩) else ⟨"OrnamentsOut$Score", "soundingBetween", "(II)I"⟩) else (bif Nat.ble 48 y then ⟨"OrnamentsOut$Score", "tonesBetween", "(II)I"⟩ else ⟨"OrnamentsOut$Score", "hasTone", "(I)Z"⟩)) else (bif Nat.ble 45 y then (bif Nat.ble 46 y then ⟨"OrnamentsOut$Score", "countTones", "(II)V"⟩ else ⟨"OrnamentsOut$Score", "shortenLatest", "(I)V"⟩) else (bif Nat.ble 44 y then ⟨"OrnamentsOut$Score", "addTone", "(IIII)V"⟩ else ⟨"OrnamentsOut$Score", "putVerdict", "(II)V"⟩))) else (bif Nat.ble 39 y then (bif Nat.ble 41 y then (bif Nat.ble 42 y then ⟨"OrnamentsOut$Score", "closeNote", "(IIII)V"⟩ else ⟨"OrnamentsOut$Score", "addRest", "(I)V"⟩) else (bif Nat.ble 40 y then ⟨"OrnamentsOut$Score", "openNote", "(I)V"⟩ else ⟨"OrnamentsOut$Score", "clear", "()V"⟩)) else (bif Nat.ble 37 y then (bif Nat.ble 38 y then ⟨"OrnamentsOut$Score", "<init>", "(Z)V"⟩ else ⟨"OrnamentsOut$Reader", "closeLine", "()Z"⟩) else (bif Nat.ble 36 y then ⟨"OrnamentsOut$Reader", "readSpeed", "()Z"⟩ else ⟨"OrnamentsOut$Reader", "readMeter", "()Z"⟩))))) else (bif Nat.ble 17 y then (bif Nat.ble 26 y then (bif Nat.ble 30 y then (bif Nat.ble 32 y then (bif Nat.ble 33 y then (bif Nat.ble 34 y then ⟨"OrnamentsOut$Reader", "readKey", "()Z"⟩ else ⟨"OrnamentsOut$Reader", "readTie", "()Z"⟩) else ⟨"OrnamentsOut$Reader", "readRest", "()Z"⟩) else (bif Nat.ble 31 y then ⟨"OrnamentsOut$Reader", "addNote", "(LOrnamentsOut$Note;I)V"⟩ else ⟨"OrnamentsOut$Reader", "readBehind", "(LOrnamentsOut$Note;)V"⟩)) else (bif Nat.ble 28 y then (bif Nat.ble 29 y then ⟨"OrnamentsOut$Reader", "tellSign", "(LOrnamentsOut$Note;ZI)V"⟩ else ⟨"OrnamentsOut$Reader", "bodyHere", "()I"⟩) else (bif Nat.ble 27 y then ⟨"OrnamentsOut$Reader", "readBody", "(LOrnamentsOut$Note;)Z"⟩ else ⟨"OrnamentsOut$Reader", "readPrefix", "(LOrnamentsOut$Note;)Z"⟩))) else (bif Nat.ble 21 y then (bif Nat.ble 23 y then (bif Nat.ble 24 y then (bif Nat.ble 25 y then ⟨"OrnamentsOut$Reader", "takeByte", "(C)Z"⟩ else ⟨"OrnamentsOut$Reader", "readFraction", "(II)Z"⟩) else ⟨"OrnamentsOut$Reader", "holdSigns", "(LOrnamentsOut$Note;)V"⟩) else (bif Nat.ble 22 y then ⟨"OrnamentsOut$Reader", "toldSign", "(I)I"⟩ else ⟨"OrnamentsOut$Reader", "readNumber", "(II)Z"⟩)) else (bif Nat.ble 19 y then (bif Nat.ble 20 y then ⟨"OrnamentsOut$Reader", "signHere", "()I"⟩ else ⟨"OrnamentsOut$Reader", "letterHere", "()I"⟩) else (bif Nat.ble 18 y then ⟨"OrnamentsOut$Reader", "readPitch", "()Z"⟩ else ⟨"OrnamentsOut$Reader", "fail", "(II)Z"⟩)))) else (bif Nat.ble 8 y then (bif Nat.ble 12 y then (bif Nat.ble 14 y then (bif Nat.ble 15 y then (bif Nat.ble 16 y then ⟨"OrnamentsOut$Reader", "openBar", "()V"⟩ else ⟨"OrnamentsOut$Reader", "readNote", "()Z"⟩) else ⟨"OrnamentsOut$Reader", "takeWord", "(Ljava/lang/String;)Z"⟩) else (bif Nat.ble 13 y then ⟨"OrnamentsOut$Reader", "readLine", "()Z"⟩ else ⟨"OrnamentsOut$Reader", "hasMore", "()Z"⟩)) else (bif Nat.ble 10 y then (bif Nat.ble 11 y then ⟨"OrnamentsOut$Reader", "advance", "()V"⟩ else ⟨"OrnamentsOut$Reader", "start", "(LOrnamentsOut$Song;I)V"⟩) else (bif Nat.ble 9 y then ⟨"OrnamentsOut$Reader", "putBytes", "(I)V"⟩ else ⟨"OrnamentsOut$Reader", "<init>", "()V"⟩))) else (bif Nat.ble 4 y then (bif Nat.ble 6 y then (bif Nat.ble 7 y then ⟨"OrnamentsOut$Note", "takeBodyOf", "(LOrnamentsOut$Note;)V"⟩ else ⟨"OrnamentsOut$Note", "lowIn", "(II)I"⟩) else (bif Nat.ble 5 y then ⟨"OrnamentsOut$Note", "lowerIn", "(II)I"⟩ else ⟨"OrnamentsOut$Note", "upperIn", "(II)I"⟩)) else (bif Nat.ble 2 y then (bif Nat.ble 3 y then ⟨"OrnamentsOut$Note", "isRest", "()Z"⟩ else ⟨"OrnamentsOut$Note", "putBody", "(I)V"⟩) else (bif Nat.ble 1 y then ⟨"OrnamentsOut$Note", "clear", "()V"⟩ else ⟨"OrnamentsOut$Note", "<init>", "()V"⟩))))))))
def mB (y : Nat) : ByteArray := (bif Nat.ble 141 y then (bif Nat.ble 211 y then (bif Nat.ble 246 y then (bif Nat.ble 264 y then (bif Nat.ble 273 y then (bif Nat.ble 277 y then (bif Nat.ble 279 y then (bif Nat.ble 280 y then (bif Nat.ble 281 y then prog_12_method_12_code else prog_12_method_13_code) else prog_21_method_27_code) else (bif Nat.ble 278 y then prog_9_method_14_code else prog_9_method_6_code)) else (bif Nat.ble 275 y then (bif Nat.ble 276 y then prog_9_method_32_code else prog_9_method_68_code) else (bif Nat.ble 274 y then prog_9_method_10_code else prog_9_method_9_code))) else (bif Nat.ble 268 y then (bif Nat.ble 270 y then (bif Nat.ble 271 y then (bif Nat.ble 272 y then prog_9_method_31_code else prog_9_method_2_code) else prog_16_method_88_code) else (bif Nat.ble 269 y then prog_16_method_93_code else prog_16_method_15_code)) else (bif Nat.ble 266 y then (bif Nat.ble 267 y then prog_16_method_14_code else prog_16_method_1_code) else (bif Nat.ble 265 y then prog_17_method_3_code else prog_17_method_23_code)))) else (bif Nat.ble 255 y then (bif Nat.ble 259 y then (bif Nat.ble 261 y then (bif Nat.ble 262 y then (bif Nat.ble 263 y then prog_17_method_4_code else prog_17_method_22_code) else prog_17_method_2_code) else (bif Nat.ble 260 y then prog_22_method_11_code else prog_15_method_80_code)) else (bif Nat.ble 257 y then (bif Nat.ble 258 y then prog_15_method_79_code else prog_15_method_155_code) else (bif Nat.ble 256 y then prog_15_method_154_code else prog_15_method_56_code))) else (bif Nat.ble 250 y then (bif Nat.ble 252 y then (bif Nat.ble 253 y then (bif Nat.ble 254 y then prog_15_method_152_code else prog_15_method_54_code) else prog_20_method_121_code) else (bif Nat.ble 251 y then prog_20_method_123_code else prog_20_method_103_code)) else (bif Nat.ble 248 y then (bif Nat.ble 249 y then prog_13_method_59_code else prog_13_method_50_code) else (bif Nat.ble 247 y then prog_13_method_47_code else prog_13_method_65_code))))) else (bif Nat.ble 228 y then (bif Nat.ble 237 y then (bif Nat.ble 241 y then (bif Nat.ble 243 y then (bif Nat.ble 244 y then (bif Nat.ble 245 y then prog_13_method_69_code else code) else prog_8_method_112_code) else (bif Nat.ble 242 y then prog_8_method_113_code else prog_8_method_111_code)) else (bif Nat.ble 239 y then (bif Nat.ble 240 y then prog_8_method_110_code else prog_8_method_109_code) else (bif Nat.ble 238 y then prog_8_method_107_code else prog_8_method_108_code))) else (bif Nat.ble 232 y then (bif Nat.ble 234 y then (bif Nat.ble 235 y then (bif Nat.ble 236 y then prog_8_method_106_code else prog_8_method_104_code) else prog_8_method_105_code) else (bif Nat.ble 233 y then prog_8_method_102_code else prog_8_method_103_code)) else (bif Nat.ble 230 y then (bif Nat.ble 231 y then prog_8_method_101_code else prog_8_method_99_code) else (bif Nat.ble 229 y then prog_8_method_98_code else prog_8_method_100_code)))) else (bif Nat.ble 219 y then (bif Nat.ble 223 y then (bif Nat.ble 225 y then (bif Nat.ble 226 y then (bif Nat.ble 227 y then prog_8_method_97_code else prog_8_method_95_code) else prog_8_method_94_code) else (bif Nat.ble 224 y then prog_8_method_96_code else prog_8_method_93_code)) else (bif Nat.ble 221 y then (bif Nat.ble 222 y then prog_8_method_90_code else prog_8_method_91_code) else (bif Nat.ble 220 y then prog_8_method_89_code else prog_8_method_92_code))) else (bif Nat.ble 215 y then (bif Nat.ble 217 y then (bif Nat.ble 218 y then prog_8_method_88_code else prog_8_method_87_code) else (bif Nat.ble 216 y then prog_8_method_86_code else prog_8_method_85_code)) else (bif Nat.ble 213 y then (bif Nat.ble 214 y then prog_8_method_83_code else prog_8_method_84_code) else (bif Nat.ble 212 y then prog_8_method_79_code else prog_8_method_77_code)))))) else (bif Nat.ble 176 y then (bif Nat.ble 193 y then (bif Nat.ble 202 y then (bif Nat.ble 206 y then (bif Nat.ble 208 y then (bif Nat.ble 209 y then (bif Nat.ble 210 y then prog_8_method_76_code else prog_8_method_75_code) else prog_8_method_74_code) else (bif Nat.ble 207 y then prog_8_method_73_code else prog_8_method_66_code)) else (bif Nat.ble 204 y then (bif Nat.ble 205 y then prog_8_method_71_code else prog_8_method_67_code) else (bif Nat.ble 203 y then prog_8_method_64_code else prog_8_method_68_code))) else (bif Nat.ble 197 y then (bif Nat.ble 199 y then (bif Nat.ble 200 y then (bif Nat.ble 201 y then prog_8_method_69_code else prog_8_method_70_code) else prog_8_method_65_code) else (bif Nat.ble 198 y then prog_8_method_72_code else prog_8_method_78_code)) else (bif Nat.ble 195 y then (bif Nat.ble 196 y then prog_8_method_60_code else prog_8_method_53_code) else (bif Nat.ble 194 y then prog_8_method_56_code else prog_8_method_62_code)))) else (bif Nat.ble 184 y then (bif Nat.ble 188 y then (bif Nat.ble 190 y then (bif Nat.ble 191 y then (bif Nat.ble 192 y then prog_8_method_57_code else prog_8_method_58_code) else prog_8_method_59_code) else (bif Nat.ble 189 y then prog_8_method_3_code else prog_8_method_4_code)) else (bif Nat.ble 186 y then (bif Nat.ble 187 y then prog_8_method_61_code else prog_8_method_63_code) else (bif Nat.ble 185 y then prog_8_method_50_code else prog_8_method_49_code))) else (bif Nat.ble 180 y then (bif Nat.ble 182 y then (bif Nat.ble 183 y then prog_8_method_52_code else prog_8_method_46_code) else (bif Nat.ble 181 y then prog_8_method_48_code else prog_8_method_47_code)) else (bif Nat.ble 178 y then (bif Nat.ble 179 y then prog_8_method_51_code else prog_8_method_54_code) else (bif Nat.ble 177 y then prog_8_method_55_code else prog_8_method_80_code))))) else (bif Nat.ble 158 y then (bif Nat.ble 167 y then (bif Nat.ble 171 y then (bif Nat.ble 173 y then (bif Nat.ble 174 y then (bif Nat.ble 175 y then prog_8_method_81_code else prog_8_method_82_code) else prog_8_method_45_code) else (bif Nat.ble 172 y then prog_8_method_44_code else prog_8_method_43_code)) else (bif Nat.ble 169 y then (bif Nat.ble 170 y then prog_8_method_9_code else prog_8_method_41_code) else (bif Nat.ble 168 y then prog_8_method_8_code else prog_8_method_10_code))) else (bif Nat.ble 162 y then (bif Nat.ble 164 y then (bif Nat.ble 165 y then (bif Nat.ble 166 y then prog_8_method_11_code else prog_8_method_42_code) else prog_8_method_40_code) else (bif Nat.ble 163 y then prog_8_method_39_code else prog_8_method_36_code)) else (bif Nat.ble 160 y then (bif Nat.ble 161 y then prog_8_method_32_code else prog_8_method_30_code) else (bif Nat.ble 159 y then prog_8_method_18_code else prog_8_method_31_code)))) else (bif Nat.ble 149 y then (bif Nat.ble 153 y then (bif Nat.ble 155 y then (bif Nat.ble 156 y then (bif Nat.ble 157 y then prog_8_method_26_code else prog_8_method_6_code) else prog_8_method_7_code) else (bif Nat.ble 154 y then prog_8_method_24_code else prog_8_method_27_code)) else (bif Nat.ble 151 y then (bif Nat.ble 152 y then prog_8_method_28_code else prog_8_method_34_code) else (bif Nat.ble 150 y then prog_8_method_29_code else prog_8_method_33_code))) else (bif Nat.ble 145 y then (bif Nat.ble 147 y then (bif Nat.ble 148 y then prog_8_method_23_code else prog_8_method_25_code) else (bif Nat.ble 146 y then prog_8_method_35_code else prog_8_method_22_code)) else (bif Nat.ble 143 y then (bif Nat.ble 144 y then prog_8_method_20_code else prog_8_method_21_code) else (bif Nat.ble 142 y then prog_8_method_17_code else prog_8_method_19_code))))))) else (bif Nat.ble 70 y then (bif Nat.ble 105 y then (bif Nat.ble 123 y then (bif Nat.ble 132 y then (bif Nat.ble 136 y then (bif Nat.ble 138 y then (bif Nat.ble 139 y then (bif Nat.ble 140 y then prog_8_method_14_code else prog_8_method_16_code) else prog_8_method_37_code) else (bif Nat.ble 137 y then prog_8_method_13_code else prog_8_method_15_code)) else (bif Nat.ble 134 y then (bif Nat.ble 135 y then prog_8_method_2_code else prog_8_method_38_code) else (bif Nat.ble 133 y then prog_8_method_12_code else prog_8_method_5_code))) else (bif Nat.ble 127 y then (bif Nat.ble 129 y then (bif Nat.ble 130 y then (bif Nat.ble 131 y then prog_1_method_30_code else prog_1_method_29_code) else prog_1_method_28_code) else (bif Nat.ble 128 y then prog_1_method_27_code else prog_1_method_26_code)) else (bif Nat.ble 125 y then (bif Nat.ble 126 y then prog_1_method_25_code else prog_1_method_24_code) else (bif Nat.ble 124 y then prog_1_method_23_code else prog_1_method_22_code)))) else (bif Nat.ble 114 y then (bif Nat.ble 118 y then (bif Nat.ble 120 y then (bif Nat.ble 121 y then (bif Nat.ble 122 y then prog_1_method_21_code else prog_1_method_20_code) else prog_1_method_19_code) else (bif Nat.ble 119 y then prog_1_method_18_code else prog_1_method_41_code)) else (bif Nat.ble 116 y then (bif Nat.ble 117 y then prog_1_method_40_code else prog_1_method_17_code) else (bif Nat.ble 115 y then prog_1_method_16_code else prog_1_method_15_code))) else (bif Nat.ble 109 y then (bif Nat.ble 111 y then (bif Nat.ble 112 y then (bif Nat.ble 113 y then prog_1_method_14_code else prog_1_method_13_code) else prog_1_method_34_code) else (bif Nat.ble 110 y then prog_1_method_12_code else prog_1_method_36_code)) else (bif Nat.ble 107 y then (bif Nat.ble 108 y then prog_1_method_35_code else prog_1_method_11_code) else (bif Nat.ble 106 y then prog_1_method_38_code else prog_1_method_10_code))))) else (bif Nat.ble 87 y then (bif Nat.ble 96 y then (bif Nat.ble 100 y then (bif Nat.ble 102 y then (bif Nat.ble 103 y then (bif Nat.ble 104 y then prog_1_method_9_code else prog_1_method_8_code) else prog_1_method_7_code) else (bif Nat.ble 101 y then prog_1_method_31_code else prog_1_method_6_code)) else (bif Nat.ble 98 y then (bif Nat.ble 99 y then prog_1_method_5_code else prog_1_method_4_code) else (bif Nat.ble 97 y then prog_1_method_33_code else prog_1_method_39_code))) else (bif Nat.ble 91 y then (bif Nat.ble 93 y then (bif Nat.ble 94 y then (bif Nat.ble 95 y then prog_1_method_37_code else prog_1_method_43_code) else prog_1_method_42_code) else (bif Nat.ble 92 y then prog_1_method_44_code else prog_1_method_32_code)) else (bif Nat.ble 89 y then (bif Nat.ble 90 y then prog_1_method_3_code else prog_1_method_2_code) else (bif Nat.ble 88 y then prog_1_method_1_code else prog_6_method_4_code)))) else (bif Nat.ble 78 y then (bif Nat.ble 82 y then (bif Nat.ble 84 y then (bif Nat.ble 85 y then (bif Nat.ble 86 y then prog_6_method_3_code else prog_6_method_28_code) else prog_6_method_23_code) else (bif Nat.ble 83 y then prog_6_method_22_code else prog_6_method_21_code)) else (bif Nat.ble 80 y then (bif Nat.ble 81 y then prog_6_method_17_code else prog_6_method_18_code) else (bif Nat.ble 79 y then prog_6_method_20_code else prog_6_method_26_code))) else (bif Nat.ble 74 y then (bif Nat.ble 76 y then (bif Nat.ble 77 y then prog_6_method_27_code else prog_6_method_25_code) else (bif Nat.ble 75 y then prog_6_method_19_code else prog_6_method_24_code)) else (bif Nat.ble 72 y then (bif Nat.ble 73 y then prog_6_method_16_code else prog_6_method_11_code) else (bif Nat.ble 71 y then prog_6_method_9_code else prog_6_method_13_code)))))) else (bif Nat.ble 35 y then (bif Nat.ble 52 y then (bif Nat.ble 61 y then (bif Nat.ble 65 y then (bif Nat.ble 67 y then (bif Nat.ble 68 y then (bif Nat.ble 69 y then prog_6_method_15_code else prog_6_method_14_code) else prog_6_method_12_code) else (bif Nat.ble 66 y then prog_6_method_10_code else prog_6_method_6_code)) else (bif Nat.ble 63 y then (bif Nat.ble 64 y then prog_6_method_7_code else prog_6_method_8_code) else (bif Nat.ble 62 y then prog_6_method_5_code else prog_6_method_2_code))) else (bif Nat.ble 56 y then (bif Nat.ble 58 y then (bif Nat.ble 59 y then (bif Nat.ble 60 y then prog_6_method_1_code else prog_5_method_9_code) else prog_5_method_8_code) else (bif Nat.ble 57 y then prog_5_method_6_code else prog_5_method_7_code)) else (bif Nat.ble 54 y then (bif Nat.ble 55 y then prog_5_method_3_code else prog_5_method_4_code) else (bif Nat.ble 53 y then prog_5_method_5_code else prog_5_method_2_code)))) else (bif Nat.ble 43 y then (bif Nat.ble 47 y then (bif Nat.ble 49 y then (bif Nat.ble 50 y then (bif Nat.ble 51 y then prog_5_method_1_code else prog_4_method_6_code) else prog_4_method_13_code) else (bif Nat.ble 48 y then prog_4_method_12_code else prog_4_method_11_code)) else (bif Nat.ble 45 y then (bif Nat.ble 46 y then prog_4_method_8_code else prog_4_method_10_code) else (bif Nat.ble 44 y then prog_4_method_7_code else prog_4_method_5_code))) else (bif Nat.ble 39 y then (bif Nat.ble 41 y then (bif Nat.ble 42 y then prog_4_method_4_code else prog_4_method_9_code) else (bif Nat.ble 40 y then prog_4_method_3_code else prog_4_method_2_code)) else (bif Nat.ble 37 y then (bif Nat.ble 38 y then prog_4_method_1_code else prog_3_method_5_code) else (bif Nat.ble 36 y then prog_3_method_9_code else prog_3_method_8_code))))) else (bif Nat.ble 17 y then (bif Nat.ble 26 y then (bif Nat.ble 30 y then (bif Nat.ble 32 y then (bif Nat.ble 33 y then (bif Nat.ble 34 y then prog_3_method_7_code else prog_3_method_11_code) else prog_3_method_10_code) else (bif Nat.ble 31 y then prog_3_method_13_code else prog_3_method_20_code)) else (bif Nat.ble 28 y then (bif Nat.ble 29 y then prog_3_method_19_code else prog_3_method_28_code) else (bif Nat.ble 27 y then prog_3_method_18_code else prog_3_method_17_code))) else (bif Nat.ble 21 y then (bif Nat.ble 23 y then (bif Nat.ble 24 y then (bif Nat.ble 25 y then prog_3_method_24_code else prog_3_method_22_code) else prog_3_method_15_code) else (bif Nat.ble 22 y then prog_3_method_16_code else prog_3_method_23_code)) else (bif Nat.ble 19 y then (bif Nat.ble 20 y then prog_3_method_27_code else prog_3_method_26_code) else (bif Nat.ble 18 y then prog_3_method_21_code else prog_3_method_30_code)))) else (bif Nat.ble 8 y then (bif Nat.ble 12 y then (bif Nat.ble 14 y then (bif Nat.ble 15 y then (bif Nat.ble 16 y then prog_3_method_14_code else prog_3_method_12_code) else prog_3_method_25_code) else (bif Nat.ble 13 y then prog_3_method_6_code else prog_3_method_4_code)) else (bif Nat.ble 10 y then (bif Nat.ble 11 y then prog_3_method_29_code else prog_3_method_3_code) else (bif Nat.ble 9 y then prog_3_method_2_code else prog_3_method_1_code))) else (bif Nat.ble 4 y then (bif Nat.ble 6 y then (bif Nat.ble 7 y then prog_2_method_5_code else prog_2_method_8_code) else (bif Nat.ble 5 y then prog_2_method_7_code else prog_2_method_6_code)) else (bif Nat.ble 2 y then (bif Nat.ble 3 y then prog_2_method_3_code else prog_2_method_4_code) else (bif Nat.ble 1 y then prog_2_method_2_code else prog_2_method_1_code))))))))
def mL (y : Nat) : Nat := (bif Nat.ble 141 y then (bif Nat.ble 211 y then (bif Nat.ble 246 y then (bif Nat.ble 264 y then (bif Nat.ble 273 y then (bif Nat.ble 277 y then (bif Nat.ble 279 y then (bif Nat.ble 280 y then (bif Nat.ble 281 y then 7 else 4) else 4) else (bif Nat.ble 278 y then 5 else 1)) else (bif Nat.ble 275 y then (bif Nat.ble 276 y then 4 else 1) else (bif Nat.ble 274 y then 6 else 3))) else (bif Nat.ble 268 y then (bif Nat.ble 270 y then (bif Nat.ble 271 y then (bif Nat.ble 272 y then 2 else 2) else 2) else (bif Nat.ble 269 y then 1 else 2)) else (bif Nat.ble 266 y then (bif Nat.ble 267 y then 2 else 1) else (bif Nat.ble 265 y then 1 else 6)))) else (bif Nat.ble 255 y then (bif Nat.ble 259 y then (bif Nat.ble 261 y then (bif Nat.ble 262 y then (bif Nat.ble 263 y then 1 else 4) else 2) else (bif Nat.ble 260 y then 3 else 3)) else (bif Nat.ble 257 y then (bif Nat.ble 258 y then 2 else 2) else (bif Nat.ble 256 y then 1 else 2))) else (bif Nat.ble 250 y then (bif Nat.ble 252 y then (bif Nat.ble 253 y then (bif Nat.ble 254 y then 1 else 1) else 3) else (bif Nat.ble 251 y then 3 else 4)) else (bif Nat.ble 248 y then (bif Nat.ble 249 y then 1 else 3) else (bif Nat.ble 247 y then 3 else 2))))) else (bif Nat.ble 228 y then (bif Nat.ble 237 y then (bif Nat.ble 241 y then (bif Nat.ble 243 y then (bif Nat.ble 244 y then (bif Nat.ble 245 y then 2 else 4) else 3) else (bif Nat.ble 242 y then 2 else 4)) else (bif Nat.ble 239 y then (bif Nat.ble 240 y then 3 else 5) else (bif Nat.ble 238 y then 4 else 3))) else (bif Nat.ble 232 y then (bif Nat.ble 234 y then (bif Nat.ble 235 y then (bif Nat.ble 236 y then 2 else 7) else 1) else (bif Nat.ble 233 y then 4 else 4)) else (bif Nat.ble 230 y then (bif Nat.ble 231 y then 4 else 2) else (bif Nat.ble 229 y then 2 else 7)))) else (bif Nat.ble 219 y then (bif Nat.ble 223 y then (bif Nat.ble 225 y then (bif Nat.ble 226 y then (bif Nat.ble 227 y then 6 else 3) else 2) else (bif Nat.ble 224 y then 5 else 4)) else (bif Nat.ble 221 y then (bif Nat.ble 222 y then 3 else 2) else (bif Nat.ble 220 y then 2 else 3))) else (bif Nat.ble 215 y then (bif Nat.ble 217 y then (bif Nat.ble 218 y then 2 else 3) else (bif Nat.ble 216 y then 5 else 3)) else (bif Nat.ble 213 y then (bif Nat.ble 214 y then 3 else 3) else (bif Nat.ble 212 y then 1 else 2)))))) else (bif Nat.ble 176 y then (bif Nat.ble 193 y then (bif Nat.ble 202 y then (bif Nat.ble 206 y then (bif Nat.ble 208 y then (bif Nat.ble 209 y then (bif Nat.ble 210 y then 1 else 2) else 4) else (bif Nat.ble 207 y then 4 else 1)) else (bif Nat.ble 204 y then (bif Nat.ble 205 y then 1 else 2) else (bif Nat.ble 203 y then 5 else 4))) else (bif Nat.ble 197 y then (bif Nat.ble 199 y then (bif Nat.ble 200 y then (bif Nat.ble 201 y then 1 else 4) else 1) else (bif Nat.ble 198 y then 1 else 1)) else (bif Nat.ble 195 y then (bif Nat.ble 196 y then 3 else 4) else (bif Nat.ble 194 y then 4 else 2)))) else (bif Nat.ble 184 y then (bif Nat.ble 188 y then (bif Nat.ble 190 y then (bif Nat.ble 191 y then (bif Nat.ble 192 y then 2 else 7) else 5) else (bif Nat.ble 189 y then 5 else 2)) else (bif Nat.ble 186 y then (bif Nat.ble 187 y then 2 else 2) else (bif Nat.ble 185 y then 3 else 3))) else (bif Nat.ble 180 y then (bif Nat.ble 182 y then (bif Nat.ble 183 y then 4 else 8) else (bif Nat.ble 181 y then 2 else 2)) else (bif Nat.ble 178 y then (bif Nat.ble 179 y then 4 else 3) else (bif Nat.ble 177 y then 3 else 2))))) else (bif Nat.ble 158 y then (bif Nat.ble 167 y then (bif Nat.ble 171 y then (bif Nat.ble 173 y then (bif Nat.ble 174 y then (bif Nat.ble 175 y then 2 else 4) else 4) else (bif Nat.ble 172 y then 3 else 6)) else (bif Nat.ble 169 y then (bif Nat.ble 170 y then 4 else 3) else (bif Nat.ble 168 y then 3 else 2))) else (bif Nat.ble 162 y then (bif Nat.ble 164 y then (bif Nat.ble 165 y then (bif Nat.ble 166 y then 2 else 4) else 4) else (bif Nat.ble 163 y then 2 else 3)) else (bif Nat.ble 160 y then (bif Nat.ble 161 y then 5 else 3) else (bif Nat.ble 159 y then 2 else 3)))) else (bif Nat.ble 149 y then (bif Nat.ble 153 y then (bif Nat.ble 155 y then (bif Nat.ble 156 y then (bif Nat.ble 157 y then 3 else 4) else 3) else (bif Nat.ble 154 y then 1 else 1)) else (bif Nat.ble 151 y then (bif Nat.ble 152 y then 3 else 4) else (bif Nat.ble 150 y then 4 else 3))) else (bif Nat.ble 145 y then (bif Nat.ble 147 y then (bif Nat.ble 148 y then 3 else 2) else (bif Nat.ble 146 y then 3 else 2)) else (bif Nat.ble 143 y then (bif Nat.ble 144 y then 2 else 4) else (bif Nat.ble 142 y then 2 else 2))))))) else (bif Nat.ble 70 y then (bif Nat.ble 105 y then (bif Nat.ble 123 y then (bif Nat.ble 132 y then (bif Nat.ble 136 y then (bif Nat.ble 138 y then (bif Nat.ble 139 y then (bif Nat.ble 140 y then 3 else 6) else 4) else (bif Nat.ble 137 y then 1 else 2)) else (bif Nat.ble 134 y then (bif Nat.ble 135 y then 6 else 3) else (bif Nat.ble 133 y then 8 else 1))) else (bif Nat.ble 127 y then (bif Nat.ble 129 y then (bif Nat.ble 130 y then (bif Nat.ble 131 y then 2 else 6) else 5) else (bif Nat.ble 128 y then 7 else 5)) else (bif Nat.ble 125 y then (bif Nat.ble 126 y then 3 else 2) else (bif Nat.ble 124 y then 4 else 6)))) else (bif Nat.ble 114 y then (bif Nat.ble 118 y then (bif Nat.ble 120 y then (bif Nat.ble 121 y then (bif Nat.ble 122 y then 5 else 11) else 8) else (bif Nat.ble 119 y then 5 else 1)) else (bif Nat.ble 116 y then (bif Nat.ble 117 y then 1 else 5) else (bif Nat.ble 115 y then 5 else 4))) else (bif Nat.ble 109 y then (bif Nat.ble 111 y then (bif Nat.ble 112 y then (bif Nat.ble 113 y then 6 else 4) else 2) else (bif Nat.ble 110 y then 4 else 3)) else (bif Nat.ble 107 y then (bif Nat.ble 108 y then 1 else 5) else (bif Nat.ble 106 y then 1 else 4))))) else (bif Nat.ble 87 y then (bif Nat.ble 96 y then (bif Nat.ble 100 y then (bif Nat.ble 102 y then (bif Nat.ble 103 y then (bif Nat.ble 104 y then 5 else 4) else 6) else (bif Nat.ble 101 y then 1 else 5)) else (bif Nat.ble 98 y then (bif Nat.ble 99 y then 4 else 2) else (bif Nat.ble 97 y then 1 else 1))) else (bif Nat.ble 91 y then (bif Nat.ble 93 y then (bif Nat.ble 94 y then (bif Nat.ble 95 y then 2 else 3) else 1) else (bif Nat.ble 92 y then 3 else 1)) else (bif Nat.ble 89 y then (bif Nat.ble 90 y then 4 else 6) else (bif Nat.ble 88 y then 1 else 4)))) else (bif Nat.ble 78 y then (bif Nat.ble 82 y then (bif Nat.ble 84 y then (bif Nat.ble 85 y then (bif Nat.ble 86 y then 5 else 1) else 1) else (bif Nat.ble 83 y then 2 else 2)) else (bif Nat.ble 80 y then (bif Nat.ble 81 y then 1 else 4) else (bif Nat.ble 79 y then 1 else 6))) else (bif Nat.ble 74 y then (bif Nat.ble 76 y then (bif Nat.ble 77 y then 5 else 1) else (bif Nat.ble 75 y then 2 else 2)) else (bif Nat.ble 72 y then (bif Nat.ble 73 y then 2 else 3) else (bif Nat.ble 71 y then 3 else 2)))))) else (bif Nat.ble 35 y then (bif Nat.ble 52 y then (bif Nat.ble 61 y then (bif Nat.ble 65 y then (bif Nat.ble 67 y then (bif Nat.ble 68 y then (bif Nat.ble 69 y then 5 else 2) else 2) else (bif Nat.ble 66 y then 1 else 4)) else (bif Nat.ble 63 y then (bif Nat.ble 64 y then 5 else 4) else (bif Nat.ble 62 y then 4 else 3))) else (bif Nat.ble 56 y then (bif Nat.ble 58 y then (bif Nat.ble 59 y then (bif Nat.ble 60 y then 1 else 4) else 4) else (bif Nat.ble 57 y then 2 else 4)) else (bif Nat.ble 54 y then (bif Nat.ble 55 y then 2 else 3) else (bif Nat.ble 53 y then 1 else 1)))) else (bif Nat.ble 43 y then (bif Nat.ble 47 y then (bif Nat.ble 49 y then (bif Nat.ble 50 y then (bif Nat.ble 51 y then 2 else 3) else 5) else (bif Nat.ble 48 y then 5 else 2)) else (bif Nat.ble 45 y then (bif Nat.ble 46 y then 3 else 2) else (bif Nat.ble 44 y then 5 else 3))) else (bif Nat.ble 39 y then (bif Nat.ble 41 y then (bif Nat.ble 42 y then 5 else 2) else (bif Nat.ble 40 y then 3 else 1)) else (bif Nat.ble 37 y then (bif Nat.ble 38 y then 3 else 1) else (bif Nat.ble 36 y then 1 else 1))))) else (bif Nat.ble 17 y then (bif Nat.ble 26 y then (bif Nat.ble 30 y then (bif Nat.ble 32 y then (bif Nat.ble 33 y then (bif Nat.ble 34 y then 2 else 2) else 2) else (bif Nat.ble 31 y then 3 else 2)) else (bif Nat.ble 28 y then (bif Nat.ble 29 y then 4 else 3) else (bif Nat.ble 27 y then 5 else 4))) else (bif Nat.ble 21 y then (bif Nat.ble 23 y then (bif Nat.ble 24 y then (bif Nat.ble 25 y then 2 else 4) else 3) else (bif Nat.ble 22 y then 2 else 3)) else (bif Nat.ble 19 y then (bif Nat.ble 20 y then 1 else 1) else (bif Nat.ble 18 y then 4 else 3)))) else (bif Nat.ble 8 y then (bif Nat.ble 12 y then (bif Nat.ble 14 y then (bif Nat.ble 15 y then (bif Nat.ble 16 y then 1 else 4) else 3) else (bif Nat.ble 13 y then 1 else 1)) else (bif Nat.ble 10 y then (bif Nat.ble 11 y then 1 else 3) else (bif Nat.ble 9 y then 3 else 1))) else (bif Nat.ble 4 y then (bif Nat.ble 6 y then (bif Nat.ble 7 y then 2 else 5) else (bif Nat.ble 5 y then 5 else 5)) else (bif Nat.ble 2 y then (bif Nat.ble 3 y then 1 else 2) else (bif Nat.ble 1 y then 1 else 1))))))))
def mR (y : Nat) : Option FieldType := (bif Nat.ble 141 y then (bif Nat.ble 211 y then (bif Nat.ble 246 y then (bif Nat.ble 264 y then (bif Nat.ble 273 y then (bif Nat.ble 277 y then (bif Nat.ble 279 y then (bif Nat.ble 280 y then (bif Nat.ble 281 y then (some .int) else (some .int)) else (some .int)) else (bif Nat.ble 278 y then (some .char) else (some .int))) else (bif Nat.ble 275 y then (bif Nat.ble 276 y then (some (.object "java/lang/AbstractStringBuilder")) else (some .boolean)) else (bif Nat.ble 274 y then (some .int) else none))) else (bif Nat.ble 268 y then (bif Nat.ble 270 y then (bif Nat.ble 271 y then (bif Nat.ble 272 y then (some (.object "java/lang/AbstractStringBuilder")) else none) else (some .char)) else (bif Nat.ble 269 y then (some .int) else (some (.object "java/lang/StringBuilder")))) else (bif Nat.ble 266 y then (bif Nat.ble 267 y then (some (.object "java/lang/StringBuilder")) else none) else (bif Nat.ble 265 y then (some .boolean) else (some .int))))) else (bif Nat.ble 255 y then (bif Nat.ble 259 y then (bif Nat.ble 261 y then (bif Nat.ble 262 y then (bif Nat.ble 263 y then (some .boolean) else (some .int)) else (some .char)) else (bif Nat.ble 260 y then (some .int) else (some .int))) else (bif Nat.ble 257 y then (bif Nat.ble 258 y then (some .int) else none) else (bif Nat.ble 256 y then (some .boolean) else (some .char)))) else (bif Nat.ble 250 y then (bif Nat.ble 252 y then (bif Nat.ble 253 y then (bif Nat.ble 254 y then (some .byte) else (some .int)) else (some (.array .byte))) else (bif Nat.ble 251 y then (some (.array .int)) else none)) else (bif Nat.ble 248 y then (bif Nat.ble 249 y then (some .int) else (some .int)) else (bif Nat.ble 247 y then (some .int) else (some .int)))))) else (bif Nat.ble 228 y then (bif Nat.ble 237 y then (bif Nat.ble 241 y then (bif Nat.ble 243 y then (bif Nat.ble 244 y then (bif Nat.ble 245 y then (some .int) else (some .boolean)) else (some .int)) else (bif Nat.ble 242 y then (some .long) else (some .int))) else (bif Nat.ble 239 y then (bif Nat.ble 240 y then (some .int) else (some .int)) else (bif Nat.ble 238 y then none else (some .int)))) else (bif Nat.ble 232 y then (bif Nat.ble 234 y then (bif Nat.ble 235 y then (bif Nat.ble 236 y then (some .int) else (some .int)) else (some .int)) else (bif Nat.ble 233 y then (some .int) else (some .int))) else (bif Nat.ble 230 y then (bif Nat.ble 231 y then (some .int) else (some .int)) else (bif Nat.ble 229 y then (some .int) else (some .long))))) else (bif Nat.ble 219 y then (bif Nat.ble 223 y then (bif Nat.ble 225 y then (bif Nat.ble 226 y then (bif Nat.ble 227 y then (some .int) else none) else none) else (bif Nat.ble 224 y then (some .int) else (some .long))) else (bif Nat.ble 221 y then (bif Nat.ble 222 y then (some .int) else (some .int)) else (bif Nat.ble 220 y then (some .boolean) else (some .int)))) else (bif Nat.ble 215 y then (bif Nat.ble 217 y then (bif Nat.ble 218 y then (some .int) else (some .long)) else (bif Nat.ble 216 y then (some .long) else (some .long))) else (bif Nat.ble 213 y then (bif Nat.ble 214 y then (some .boolean) else (some .long)) else (bif Nat.ble 212 y then (some .int) else (some .int))))))) else (bif Nat.ble 176 y then (bif Nat.ble 193 y then (bif Nat.ble 202 y then (bif Nat.ble 206 y then (bif Nat.ble 208 y then (bif Nat.ble 209 y then (bif Nat.ble 210 y then (some .int) else (some .int)) else none) else (bif Nat.ble 207 y then (some .int) else (some .int))) else (bif Nat.ble 204 y then (bif Nat.ble 205 y then (some .int) else (some .int)) else (bif Nat.ble 203 y then none else (some .int)))) else (bif Nat.ble 197 y then (bif Nat.ble 199 y then (bif Nat.ble 200 y then (bif Nat.ble 201 y then (some .boolean) else (some .boolean)) else (some .boolean)) else (bif Nat.ble 198 y then (some .int) else (some .int))) else (bif Nat.ble 195 y then (bif Nat.ble 196 y then (some .int) else (some .int)) else (bif Nat.ble 194 y then none else (some .int))))) else (bif Nat.ble 184 y then (bif Nat.ble 188 y then (bif Nat.ble 190 y then (bif Nat.ble 191 y then (bif Nat.ble 192 y then none else none) else none) else (bif Nat.ble 189 y then (some .int) else (some .int))) else (bif Nat.ble 186 y then (bif Nat.ble 187 y then (some .int) else (some .int)) else (bif Nat.ble 185 y then (some .int) else (some .int)))) else (bif Nat.ble 180 y then (bif Nat.ble 182 y then (bif Nat.ble 183 y then (some .int) else (some .int)) else (bif Nat.ble 181 y then (some .int) else (some .int))) else (bif Nat.ble 178 y then (bif Nat.ble 179 y then (some .int) else (some .boolean)) else (bif Nat.ble 177 y then (some .int) else none))))) else (bif Nat.ble 158 y then (bif Nat.ble 167 y then (bif Nat.ble 171 y then (bif Nat.ble 173 y then (bif Nat.ble 174 y then (bif Nat.ble 175 y then none else (some .int)) else (some .int)) else (bif Nat.ble 172 y then (some .int) else (some .int))) else (bif Nat.ble 169 y then (bif Nat.ble 170 y then none else none) else (bif Nat.ble 168 y then (some .int) else (some .boolean)))) else (bif Nat.ble 162 y then (bif Nat.ble 164 y then (bif Nat.ble 165 y then (bif Nat.ble 166 y then (some .boolean) else (some .int)) else (some .int)) else (bif Nat.ble 163 y then (some .int) else none)) else (bif Nat.ble 160 y then (bif Nat.ble 161 y then none else none) else (bif Nat.ble 159 y then (some .boolean) else none)))) else (bif Nat.ble 149 y then (bif Nat.ble 153 y then (bif Nat.ble 155 y then (bif Nat.ble 156 y then (bif Nat.ble 157 y then (some .int) else (some .int)) else (some .int)) else (bif Nat.ble 154 y then (some .int) else (some .boolean))) else (bif Nat.ble 151 y then (bif Nat.ble 152 y then none else none) else (bif Nat.ble 150 y then none else none))) else (bif Nat.ble 145 y then (bif Nat.ble 147 y then (bif Nat.ble 148 y then (some .int) else none) else (bif Nat.ble 146 y then none else (some .int))) else (bif Nat.ble 143 y then (bif Nat.ble 144 y then none else (some .int)) else (bif Nat.ble 142 y then (some .boolean) else (some .boolean)))))))) else (bif Nat.ble 70 y then (bif Nat.ble 105 y then (bif Nat.ble 123 y then (bif Nat.ble 132 y then (bif Nat.ble 136 y then (bif Nat.ble 138 y then (bif Nat.ble 139 y then (bif Nat.ble 140 y then none else (some .int)) else none) else (bif Nat.ble 137 y then (some .int) else none)) else (bif Nat.ble 134 y then (bif Nat.ble 135 y then (some .boolean) else (some .int)) else (bif Nat.ble 133 y then (some .int) else none))) else (bif Nat.ble 127 y then (bif Nat.ble 129 y then (bif Nat.ble 130 y then (bif Nat.ble 131 y then (some .long) else (some .int)) else (some .int)) else (bif Nat.ble 128 y then (some .int) else (some .int))) else (bif Nat.ble 125 y then (bif Nat.ble 126 y then (some .int) else (some .int)) else (bif Nat.ble 124 y then (some .int) else (some .int))))) else (bif Nat.ble 114 y then (bif Nat.ble 118 y then (bif Nat.ble 120 y then (bif Nat.ble 121 y then (bif Nat.ble 122 y then (some .long) else (some .int)) else (some .int)) else (bif Nat.ble 119 y then (some .long) else (some .int))) else (bif Nat.ble 116 y then (bif Nat.ble 117 y then (some .int) else (some .int)) else (bif Nat.ble 115 y then (some .int) else (some .long)))) else (bif Nat.ble 109 y then (bif Nat.ble 111 y then (bif Nat.ble 112 y then (bif Nat.ble 113 y then (some .long) else (some .long)) else (some .long)) else (bif Nat.ble 110 y then (some .long) else (some .int))) else (bif Nat.ble 107 y then (bif Nat.ble 108 y then (some .int) else (some .int)) else (bif Nat.ble 106 y then (some .int) else (some .int)))))) else (bif Nat.ble 87 y then (bif Nat.ble 96 y then (bif Nat.ble 100 y then (bif Nat.ble 102 y then (bif Nat.ble 103 y then (bif Nat.ble 104 y then (some .int) else (some .int)) else (some .int)) else (bif Nat.ble 101 y then (some .boolean) else (some .int))) else (bif Nat.ble 98 y then (bif Nat.ble 99 y then (some .int) else (some .int)) else (bif Nat.ble 97 y then (some .boolean) else (some .int)))) else (bif Nat.ble 91 y then (bif Nat.ble 93 y then (bif Nat.ble 94 y then (bif Nat.ble 95 y then (some .int) else (some .int)) else (some .int)) else (bif Nat.ble 92 y then (some .int) else (some .boolean))) else (bif Nat.ble 89 y then (bif Nat.ble 90 y then (some .int) else (some .int)) else (bif Nat.ble 88 y then none else (some .boolean))))) else (bif Nat.ble 78 y then (bif Nat.ble 82 y then (bif Nat.ble 84 y then (bif Nat.ble 85 y then (bif Nat.ble 86 y then (some (.object "OrnamentsOut$Score")) else (some .int)) else (some .boolean)) else (bif Nat.ble 83 y then (some .boolean) else (some .boolean))) else (bif Nat.ble 80 y then (bif Nat.ble 81 y then (some .int) else (some .boolean)) else (bif Nat.ble 79 y then (some .int) else (some .int)))) else (bif Nat.ble 74 y then (bif Nat.ble 76 y then (bif Nat.ble 77 y then (some .boolean) else (some .boolean)) else (bif Nat.ble 75 y then (some .boolean) else (some .boolean))) else (bif Nat.ble 72 y then (bif Nat.ble 73 y then (some .int) else (some .int)) else (bif Nat.ble 71 y then none else (some .int))))))) else (bif Nat.ble 35 y then (bif Nat.ble 52 y then (bif Nat.ble 61 y then (bif Nat.ble 65 y then (bif Nat.ble 67 y then (bif Nat.ble 68 y then (bif Nat.ble 69 y then none else none) else (some .int)) else (bif Nat.ble 66 y then (some .int) else (some .boolean))) else (bif Nat.ble 63 y then (bif Nat.ble 64 y then (some .int) else none) else (bif Nat.ble 62 y then none else (some (.object "OrnamentsOut$Score"))))) else (bif Nat.ble 56 y then (bif Nat.ble 58 y then (bif Nat.ble 59 y then (bif Nat.ble 60 y then none else (some .int)) else (some .int)) else (bif Nat.ble 57 y then (some .int) else (some .int))) else (bif Nat.ble 54 y then (bif Nat.ble 55 y then (some (.object "OrnamentsOut$Note")) else (some (.object "OrnamentsOut$Note"))) else (bif Nat.ble 53 y then none else none)))) else (bif Nat.ble 43 y then (bif Nat.ble 47 y then (bif Nat.ble 49 y then (bif Nat.ble 50 y then (bif Nat.ble 51 y then none else (some .boolean)) else (some .int)) else (bif Nat.ble 48 y then (some .int) else (some .boolean))) else (bif Nat.ble 45 y then (bif Nat.ble 46 y then none else none) else (bif Nat.ble 44 y then none else none))) else (bif Nat.ble 39 y then (bif Nat.ble 41 y then (bif Nat.ble 42 y then none else none) else (bif Nat.ble 40 y then none else none)) else (bif Nat.ble 37 y then (bif Nat.ble 38 y then none else (some .boolean)) else (bif Nat.ble 36 y then (some .boolean) else (some .boolean)))))) else (bif Nat.ble 17 y then (bif Nat.ble 26 y then (bif Nat.ble 30 y then (bif Nat.ble 32 y then (bif Nat.ble 33 y then (bif Nat.ble 34 y then (some .boolean) else (some .boolean)) else (some .boolean)) else (bif Nat.ble 31 y then none else none)) else (bif Nat.ble 28 y then (bif Nat.ble 29 y then none else (some .int)) else (bif Nat.ble 27 y then (some .boolean) else (some .boolean)))) else (bif Nat.ble 21 y then (bif Nat.ble 23 y then (bif Nat.ble 24 y then (bif Nat.ble 25 y then (some .boolean) else (some .boolean)) else none) else (bif Nat.ble 22 y then (some .int) else (some .boolean))) else (bif Nat.ble 19 y then (bif Nat.ble 20 y then (some .int) else (some .int)) else (bif Nat.ble 18 y then (some .boolean) else (some .boolean))))) else (bif Nat.ble 8 y then (bif Nat.ble 12 y then (bif Nat.ble 14 y then (bif Nat.ble 15 y then (bif Nat.ble 16 y then none else (some .boolean)) else (some .boolean)) else (bif Nat.ble 13 y then (some .boolean) else (some .boolean))) else (bif Nat.ble 10 y then (bif Nat.ble 11 y then none else none) else (bif Nat.ble 9 y then none else none))) else (bif Nat.ble 4 y then (bif Nat.ble 6 y then (bif Nat.ble 7 y then none else (some .int)) else (bif Nat.ble 5 y then (some .int) else (some .int))) else (bif Nat.ble 2 y then (bif Nat.ble 3 y then (some .boolean) else none) else (bif Nat.ble 1 y then none else none))))))))
def lq (y : Nat) : Nat := (bif Nat.ble 141 y then (bif Nat.ble 211 y then (bif Nat.ble 246 y then (bif Nat.ble 264 y then (bif Nat.ble 273 y then (bif Nat.ble 277 y then (bif Nat.ble 279 y then (bif Nat.ble 280 y then (bif Nat.ble 281 y then 40 else 40) else 61) else (bif Nat.ble 278 y then 83 else 40)) else (bif Nat.ble 275 y then (bif Nat.ble 276 y then 131 else 40) else (bif Nat.ble 274 y then 84 else 109))) else (bif Nat.ble 268 y then (bif Nat.ble 270 y then (bif Nat.ble 271 y then (bif Nat.ble 272 y then 131 else 40) else 107) else (bif Nat.ble 269 y then 60 else 154)) else (bif Nat.ble 266 y then (bif Nat.ble 267 y then 152 else 61) else (bif Nat.ble 265 y then 40 else 40)))) else (bif Nat.ble 255 y then (bif Nat.ble 259 y then (bif Nat.ble 261 y then (bif Nat.ble 262 y then (bif Nat.ble 263 y then 40 else 65) else 83) else (bif Nat.ble 260 y then 40 else 88)) else (bif Nat.ble 257 y then (bif Nat.ble 258 y then 110 else 62) else (bif Nat.ble 256 y then 40 else 104))) else (bif Nat.ble 250 y then (bif Nat.ble 252 y then (bif Nat.ble 253 y then (bif Nat.ble 254 y then 40 else 60) else 61) else (bif Nat.ble 251 y then 61 else 40)) else (bif Nat.ble 248 y then (bif Nat.ble 249 y then 40 else 40) else (bif Nat.ble 247 y then 40 else 40))))) else (bif Nat.ble 228 y then (bif Nat.ble 237 y then (bif Nat.ble 241 y then (bif Nat.ble 243 y then (bif Nat.ble 244 y then (bif Nat.ble 245 y then 40 else 356) else 107) else (bif Nat.ble 242 y then 309 else 309)) else (bif Nat.ble 239 y then (bif Nat.ble 240 y then 309 else 332) else (bif Nat.ble 238 y then 309 else 332))) else (bif Nat.ble 232 y then (bif Nat.ble 234 y then (bif Nat.ble 235 y then (bif Nat.ble 236 y then 335 else 309) else 335) else (bif Nat.ble 233 y then 40 else 309)) else (bif Nat.ble 230 y then (bif Nat.ble 231 y then 113 else 40) else (bif Nat.ble 229 y then 40 else 309)))) else (bif Nat.ble 219 y then (bif Nat.ble 223 y then (bif Nat.ble 225 y then (bif Nat.ble 226 y then (bif Nat.ble 227 y then 309 else 61) else 40) else (bif Nat.ble 224 y then 309 else 309)) else (bif Nat.ble 221 y then (bif Nat.ble 222 y then 40 else 62) else (bif Nat.ble 220 y then 65 else 309))) else (bif Nat.ble 215 y then (bif Nat.ble 217 y then (bif Nat.ble 218 y then 86 else 108) else (bif Nat.ble 216 y then 309 else 108)) else (bif Nat.ble 213 y then (bif Nat.ble 214 y then 86 else 108) else (bif Nat.ble 212 y then 107 else 226)))))) else (bif Nat.ble 176 y then (bif Nat.ble 193 y then (bif Nat.ble 202 y then (bif Nat.ble 206 y then (bif Nat.ble 208 y then (bif Nat.ble 209 y then (bif Nat.ble 210 y then 203 else 205) else 159) else (bif Nat.ble 207 y then 182 else 183)) else (bif Nat.ble 204 y then (bif Nat.ble 205 y then 40 else 183) else (bif Nat.ble 203 y then 159 else 40))) else (bif Nat.ble 197 y then (bif Nat.ble 199 y then (bif Nat.ble 200 y then (bif Nat.ble 201 y then 107 else 183) else 40) else (bif Nat.ble 198 y then 206 else 247)) else (bif Nat.ble 195 y then (bif Nat.ble 196 y then 111 else 113) else (bif Nat.ble 194 y then 136 else 159)))) else (bif Nat.ble 184 y then (bif Nat.ble 188 y then (bif Nat.ble 190 y then (bif Nat.ble 191 y then (bif Nat.ble 192 y then 40 else 61) else 87) else (bif Nat.ble 189 y then 40 else 64)) else (bif Nat.ble 186 y then (bif Nat.ble 187 y then 111 else 180) else (bif Nat.ble 185 y then 62 else 62))) else (bif Nat.ble 180 y then (bif Nat.ble 182 y then (bif Nat.ble 183 y then 90 else 63) else (bif Nat.ble 181 y then 62 else 62)) else (bif Nat.ble 178 y then (bif Nat.ble 179 y then 90 else 40) else (bif Nat.ble 177 y then 62 else 267))))) else (bif Nat.ble 158 y then (bif Nat.ble 167 y then (bif Nat.ble 171 y then (bif Nat.ble 173 y then (bif Nat.ble 174 y then (bif Nat.ble 175 y then 288 else 309) else 107) else (bif Nat.ble 172 y then 107 else 107)) else (bif Nat.ble 169 y then (bif Nat.ble 170 y then 40 else 63) else (bif Nat.ble 168 y then 40 else 65))) else (bif Nat.ble 162 y then (bif Nat.ble 164 y then (bif Nat.ble 165 y then (bif Nat.ble 166 y then 86 else 107) else 65) else (bif Nat.ble 163 y then 40 else 152)) else (bif Nat.ble 160 y then (bif Nat.ble 161 y then 127 else 149) else (bif Nat.ble 159 y then 86 else 171)))) else (bif Nat.ble 149 y then (bif Nat.ble 153 y then (bif Nat.ble 155 y then (bif Nat.ble 156 y then (bif Nat.ble 157 y then 65 else 40) else 40) else (bif Nat.ble 154 y then 107 else 65)) else (bif Nat.ble 151 y then (bif Nat.ble 152 y then 127 else 193) else (bif Nat.ble 150 y then 40 else 63))) else (bif Nat.ble 145 y then (bif Nat.ble 147 y then (bif Nat.ble 148 y then 130 else 40) else (bif Nat.ble 146 y then 152 else 109)) else (bif Nat.ble 143 y then (bif Nat.ble 144 y then 107 else 86) else (bif Nat.ble 142 y then 40 else 86))))))) else (bif Nat.ble 70 y then (bif Nat.ble 105 y then (bif Nat.ble 123 y then (bif Nat.ble 132 y then (bif Nat.ble 136 y then (bif Nat.ble 138 y then (bif Nat.ble 139 y then (bif Nat.ble 140 y then 40 else 40) else 216) else (bif Nat.ble 137 y then 40 else 65)) else (bif Nat.ble 134 y then (bif Nat.ble 135 y then 40 else 239) else (bif Nat.ble 133 y then 40 else 40))) else (bif Nat.ble 127 y then (bif Nat.ble 129 y then (bif Nat.ble 130 y then (bif Nat.ble 131 y then 197 else 197) else 197) else (bif Nat.ble 128 y then 199 else 199)) else (bif Nat.ble 125 y then (bif Nat.ble 126 y then 199 else 198) else (bif Nat.ble 124 y then 199 else 130)))) else (bif Nat.ble 114 y then (bif Nat.ble 118 y then (bif Nat.ble 120 y then (bif Nat.ble 121 y then (bif Nat.ble 122 y then 197 else 197) else 197) else (bif Nat.ble 119 y then 197 else 62)) else (bif Nat.ble 116 y then (bif Nat.ble 117 y then 62 else 197) else (bif Nat.ble 115 y then 61 else 103))) else (bif Nat.ble 109 y then (bif Nat.ble 111 y then (bif Nat.ble 112 y then (bif Nat.ble 113 y then 197 else 103) else 82) else (bif Nat.ble 110 y then 103 else 40)) else (bif Nat.ble 107 y then (bif Nat.ble 108 y then 62 else 130) else (bif Nat.ble 106 y then 40 else 197))))) else (bif Nat.ble 87 y then (bif Nat.ble 96 y then (bif Nat.ble 100 y then (bif Nat.ble 102 y then (bif Nat.ble 103 y then (bif Nat.ble 104 y then 83 else 83) else 83) else (bif Nat.ble 101 y then 40 else 83)) else (bif Nat.ble 98 y then (bif Nat.ble 99 y then 60 else 40) else (bif Nat.ble 97 y then 40 else 40))) else (bif Nat.ble 91 y then (bif Nat.ble 93 y then (bif Nat.ble 94 y then (bif Nat.ble 95 y then 40 else 62) else 62) else (bif Nat.ble 92 y then 84 else 40)) else (bif Nat.ble 89 y then (bif Nat.ble 90 y then 240 else 62) else (bif Nat.ble 88 y then 82 else 175)))) else (bif Nat.ble 78 y then (bif Nat.ble 82 y then (bif Nat.ble 84 y then (bif Nat.ble 85 y then (bif Nat.ble 86 y then 175 else 64) else 86) else (bif Nat.ble 83 y then 87 else 87)) else (bif Nat.ble 80 y then (bif Nat.ble 81 y then 40 else 64) else (bif Nat.ble 79 y then 87 else 61))) else (bif Nat.ble 74 y then (bif Nat.ble 76 y then (bif Nat.ble 77 y then 86 else 60) else (bif Nat.ble 75 y then 60 else 110)) else (bif Nat.ble 72 y then (bif Nat.ble 73 y then 131 else 88) else (bif Nat.ble 71 y then 64 else 86)))))) else (bif Nat.ble 35 y then (bif Nat.ble 52 y then (bif Nat.ble 61 y then (bif Nat.ble 65 y then (bif Nat.ble 67 y then (bif Nat.ble 68 y then (bif Nat.ble 69 y then 64 else 40) else 88) else (bif Nat.ble 66 y then 110 else 40)) else (bif Nat.ble 63 y then (bif Nat.ble 64 y then 63 else 152) else (bif Nat.ble 62 y then 60 else 175))) else (bif Nat.ble 56 y then (bif Nat.ble 58 y then (bif Nat.ble 59 y then (bif Nat.ble 60 y then 62 else 60) else 40) else (bif Nat.ble 57 y then 40 else 40)) else (bif Nat.ble 54 y then (bif Nat.ble 55 y then 40 else 61) else (bif Nat.ble 53 y then 40 else 40)))) else (bif Nat.ble 43 y then (bif Nat.ble 47 y then (bif Nat.ble 49 y then (bif Nat.ble 50 y then (bif Nat.ble 51 y then 60 else 40) else 61) else (bif Nat.ble 48 y then 40 else 40)) else (bif Nat.ble 45 y then (bif Nat.ble 46 y then 40 else 40) else (bif Nat.ble 44 y then 40 else 40))) else (bif Nat.ble 39 y then (bif Nat.ble 41 y then (bif Nat.ble 42 y then 62 else 40) else (bif Nat.ble 40 y then 83 else 40)) else (bif Nat.ble 37 y then (bif Nat.ble 38 y then 40 else 81) else (bif Nat.ble 36 y then 84 else 107))))) else (bif Nat.ble 17 y then (bif Nat.ble 26 y then (bif Nat.ble 30 y then (bif Nat.ble 32 y then (bif Nat.ble 33 y then (bif Nat.ble 34 y then 84 else 107) else 107) else (bif Nat.ble 31 y then 40 else 147)) else (bif Nat.ble 28 y then (bif Nat.ble 29 y then 40 else 125) else (bif Nat.ble 27 y then 147 else 174))) else (bif Nat.ble 21 y then (bif Nat.ble 23 y then (bif Nat.ble 24 y then (bif Nat.ble 25 y then 60 else 84) else 61) else (bif Nat.ble 22 y then 40 else 62)) else (bif Nat.ble 19 y then (bif Nat.ble 20 y then 40 else 131) else (bif Nat.ble 18 y then 151 else 40)))) else (bif Nat.ble 8 y then (bif Nat.ble 12 y then (bif Nat.ble 14 y then (bif Nat.ble 15 y then (bif Nat.ble 16 y then 63 else 197) else 125) else (bif Nat.ble 13 y then 220 else 40)) else (bif Nat.ble 10 y then (bif Nat.ble 11 y then 40 else 61) else (bif Nat.ble 9 y then 40 else 40))) else (bif Nat.ble 4 y then (bif Nat.ble 6 y then (bif Nat.ble 7 y then 40 else 106) else (bif Nat.ble 5 y then 106 else 106)) else (bif Nat.ble 2 y then (bif Nat.ble 3 y then 40 else 60) else (bif Nat.ble 1 y then 81 else 40))))))))
def rk (y : Nat) : Nat := (bif Nat.ble 141 y then (bif Nat.ble 211 y then (bif Nat.ble 246 y then (bif Nat.ble 264 y then (bif Nat.ble 273 y then (bif Nat.ble 277 y then (bif Nat.ble 279 y then (bif Nat.ble 280 y then (bif Nat.ble 281 y then 1 else 1) else 2) else (bif Nat.ble 278 y then 3 else 1)) else (bif Nat.ble 275 y then (bif Nat.ble 276 y then 5 else 1) else (bif Nat.ble 274 y then 3 else 4))) else (bif Nat.ble 268 y then (bif Nat.ble 270 y then (bif Nat.ble 271 y then (bif Nat.ble 272 y then 5 else 1) else 4) else (bif Nat.ble 269 y then 2 else 6)) else (bif Nat.ble 266 y then (bif Nat.ble 267 y then 6 else 2) else (bif Nat.ble 265 y then 1 else 1)))) else (bif Nat.ble 255 y then (bif Nat.ble 259 y then (bif Nat.ble 261 y then (bif Nat.ble 262 y then (bif Nat.ble 263 y then 1 else 2) else 3) else (bif Nat.ble 260 y then 1 else 3)) else (bif Nat.ble 257 y then (bif Nat.ble 258 y then 4 else 2) else (bif Nat.ble 256 y then 1 else 4))) else (bif Nat.ble 250 y then (bif Nat.ble 252 y then (bif Nat.ble 253 y then (bif Nat.ble 254 y then 1 else 2) else 2) else (bif Nat.ble 251 y then 2 else 1)) else (bif Nat.ble 248 y then (bif Nat.ble 249 y then 1 else 1) else (bif Nat.ble 247 y then 1 else 1))))) else (bif Nat.ble 228 y then (bif Nat.ble 237 y then (bif Nat.ble 241 y then (bif Nat.ble 243 y then (bif Nat.ble 244 y then (bif Nat.ble 245 y then 1 else 15) else 4) else (bif Nat.ble 242 y then 13 else 13)) else (bif Nat.ble 239 y then (bif Nat.ble 240 y then 13 else 14) else (bif Nat.ble 238 y then 13 else 14))) else (bif Nat.ble 232 y then (bif Nat.ble 234 y then (bif Nat.ble 235 y then (bif Nat.ble 236 y then 14 else 13) else 14) else (bif Nat.ble 233 y then 1 else 13)) else (bif Nat.ble 230 y then (bif Nat.ble 231 y then 4 else 1) else (bif Nat.ble 229 y then 1 else 13)))) else (bif Nat.ble 219 y then (bif Nat.ble 223 y then (bif Nat.ble 225 y then (bif Nat.ble 226 y then (bif Nat.ble 227 y then 13 else 2) else 1) else (bif Nat.ble 224 y then 13 else 13)) else (bif Nat.ble 221 y then (bif Nat.ble 222 y then 1 else 2) else (bif Nat.ble 220 y then 2 else 13))) else (bif Nat.ble 215 y then (bif Nat.ble 217 y then (bif Nat.ble 218 y then 3 else 4) else (bif Nat.ble 216 y then 13 else 4)) else (bif Nat.ble 213 y then (bif Nat.ble 214 y then 3 else 4) else (bif Nat.ble 212 y then 4 else 9)))))) else (bif Nat.ble 176 y then (bif Nat.ble 193 y then (bif Nat.ble 202 y then (bif Nat.ble 206 y then (bif Nat.ble 208 y then (bif Nat.ble 209 y then (bif Nat.ble 210 y then 8 else 8) else 6) else (bif Nat.ble 207 y then 7 else 7)) else (bif Nat.ble 204 y then (bif Nat.ble 205 y then 1 else 7) else (bif Nat.ble 203 y then 6 else 1))) else (bif Nat.ble 197 y then (bif Nat.ble 199 y then (bif Nat.ble 200 y then (bif Nat.ble 201 y then 4 else 7) else 1) else (bif Nat.ble 198 y then 8 else 10)) else (bif Nat.ble 195 y then (bif Nat.ble 196 y then 4 else 4) else (bif Nat.ble 194 y then 5 else 6)))) else (bif Nat.ble 184 y then (bif Nat.ble 188 y then (bif Nat.ble 190 y then (bif Nat.ble 191 y then (bif Nat.ble 192 y then 1 else 2) else 3) else (bif Nat.ble 189 y then 1 else 2)) else (bif Nat.ble 186 y then (bif Nat.ble 187 y then 4 else 7) else (bif Nat.ble 185 y then 2 else 2))) else (bif Nat.ble 180 y then (bif Nat.ble 182 y then (bif Nat.ble 183 y then 3 else 2) else (bif Nat.ble 181 y then 2 else 2)) else (bif Nat.ble 178 y then (bif Nat.ble 179 y then 3 else 1) else (bif Nat.ble 177 y then 2 else 11))))) else (bif Nat.ble 158 y then (bif Nat.ble 167 y then (bif Nat.ble 171 y then (bif Nat.ble 173 y then (bif Nat.ble 174 y then (bif Nat.ble 175 y then 12 else 13) else 4) else (bif Nat.ble 172 y then 4 else 4)) else (bif Nat.ble 169 y then (bif Nat.ble 170 y then 1 else 2) else (bif Nat.ble 168 y then 1 else 2))) else (bif Nat.ble 162 y then (bif Nat.ble 164 y then (bif Nat.ble 165 y then (bif Nat.ble 166 y then 3 else 4) else 2) else (bif Nat.ble 163 y then 1 else 6)) else (bif Nat.ble 160 y then (bif Nat.ble 161 y then 5 else 6) else (bif Nat.ble 159 y then 3 else 7)))) else (bif Nat.ble 149 y then (bif Nat.ble 153 y then (bif Nat.ble 155 y then (bif Nat.ble 156 y then (bif Nat.ble 157 y then 2 else 1) else 1) else (bif Nat.ble 154 y then 4 else 2)) else (bif Nat.ble 151 y then (bif Nat.ble 152 y then 5 else 8) else (bif Nat.ble 150 y then 1 else 2))) else (bif Nat.ble 145 y then (bif Nat.ble 147 y then (bif Nat.ble 148 y then 5 else 1) else (bif Nat.ble 146 y then 6 else 4)) else (bif Nat.ble 143 y then (bif Nat.ble 144 y then 4 else 3) else (bif Nat.ble 142 y then 1 else 3))))))) else (bif Nat.ble 70 y then (bif Nat.ble 105 y then (bif Nat.ble 123 y then (bif Nat.ble 132 y then (bif Nat.ble 136 y then (bif Nat.ble 138 y then (bif Nat.ble 139 y then (bif Nat.ble 140 y then 1 else 1) else 9) else (bif Nat.ble 137 y then 1 else 2)) else (bif Nat.ble 134 y then (bif Nat.ble 135 y then 1 else 10) else (bif Nat.ble 133 y then 1 else 1))) else (bif Nat.ble 127 y then (bif Nat.ble 129 y then (bif Nat.ble 130 y then (bif Nat.ble 131 y then 8 else 8) else 8) else (bif Nat.ble 128 y then 8 else 8)) else (bif Nat.ble 125 y then (bif Nat.ble 126 y then 8 else 8) else (bif Nat.ble 124 y then 8 else 5)))) else (bif Nat.ble 114 y then (bif Nat.ble 118 y then (bif Nat.ble 120 y then (bif Nat.ble 121 y then (bif Nat.ble 122 y then 8 else 8) else 8) else (bif Nat.ble 119 y then 8 else 2)) else (bif Nat.ble 116 y then (bif Nat.ble 117 y then 2 else 8) else (bif Nat.ble 115 y then 2 else 4))) else (bif Nat.ble 109 y then (bif Nat.ble 111 y then (bif Nat.ble 112 y then (bif Nat.ble 113 y then 8 else 4) else 3) else (bif Nat.ble 110 y then 4 else 1)) else (bif Nat.ble 107 y then (bif Nat.ble 108 y then 2 else 5) else (bif Nat.ble 106 y then 1 else 8))))) else (bif Nat.ble 87 y then (bif Nat.ble 96 y then (bif Nat.ble 100 y then (bif Nat.ble 102 y then (bif Nat.ble 103 y then (bif Nat.ble 104 y then 3 else 3) else 3) else (bif Nat.ble 101 y then 1 else 3)) else (bif Nat.ble 98 y then (bif Nat.ble 99 y then 2 else 1) else (bif Nat.ble 97 y then 1 else 1))) else (bif Nat.ble 91 y then (bif Nat.ble 93 y then (bif Nat.ble 94 y then (bif Nat.ble 95 y then 1 else 2) else 2) else (bif Nat.ble 92 y then 3 else 1)) else (bif Nat.ble 89 y then (bif Nat.ble 90 y then 10 else 2) else (bif Nat.ble 88 y then 3 else 7)))) else (bif Nat.ble 78 y then (bif Nat.ble 82 y then (bif Nat.ble 84 y then (bif Nat.ble 85 y then (bif Nat.ble 86 y then 7 else 2) else 3) else (bif Nat.ble 83 y then 3 else 3)) else (bif Nat.ble 80 y then (bif Nat.ble 81 y then 1 else 2) else (bif Nat.ble 79 y then 3 else 2))) else (bif Nat.ble 74 y then (bif Nat.ble 76 y then (bif Nat.ble 77 y then 3 else 2) else (bif Nat.ble 75 y then 2 else 4)) else (bif Nat.ble 72 y then (bif Nat.ble 73 y then 5 else 3) else (bif Nat.ble 71 y then 2 else 3)))))) else (bif Nat.ble 35 y then (bif Nat.ble 52 y then (bif Nat.ble 61 y then (bif Nat.ble 65 y then (bif Nat.ble 67 y then (bif Nat.ble 68 y then (bif Nat.ble 69 y then 2 else 1) else 3) else (bif Nat.ble 66 y then 4 else 1)) else (bif Nat.ble 63 y then (bif Nat.ble 64 y then 2 else 6) else (bif Nat.ble 62 y then 2 else 7))) else (bif Nat.ble 56 y then (bif Nat.ble 58 y then (bif Nat.ble 59 y then (bif Nat.ble 60 y then 2 else 2) else 1) else (bif Nat.ble 57 y then 1 else 1)) else (bif Nat.ble 54 y then (bif Nat.ble 55 y then 1 else 2) else (bif Nat.ble 53 y then 1 else 1)))) else (bif Nat.ble 43 y then (bif Nat.ble 47 y then (bif Nat.ble 49 y then (bif Nat.ble 50 y then (bif Nat.ble 51 y then 2 else 1) else 2) else (bif Nat.ble 48 y then 1 else 1)) else (bif Nat.ble 45 y then (bif Nat.ble 46 y then 1 else 1) else (bif Nat.ble 44 y then 1 else 1))) else (bif Nat.ble 39 y then (bif Nat.ble 41 y then (bif Nat.ble 42 y then 2 else 1) else (bif Nat.ble 40 y then 3 else 1)) else (bif Nat.ble 37 y then (bif Nat.ble 38 y then 1 else 3) else (bif Nat.ble 36 y then 3 else 4))))) else (bif Nat.ble 17 y then (bif Nat.ble 26 y then (bif Nat.ble 30 y then (bif Nat.ble 32 y then (bif Nat.ble 33 y then (bif Nat.ble 34 y then 3 else 4) else 4) else (bif Nat.ble 31 y then 1 else 6)) else (bif Nat.ble 28 y then (bif Nat.ble 29 y then 1 else 5) else (bif Nat.ble 27 y then 6 else 7))) else (bif Nat.ble 21 y then (bif Nat.ble 23 y then (bif Nat.ble 24 y then (bif Nat.ble 25 y then 2 else 3) else 2) else (bif Nat.ble 22 y then 1 else 2)) else (bif Nat.ble 19 y then (bif Nat.ble 20 y then 1 else 5) else (bif Nat.ble 18 y then 6 else 1)))) else (bif Nat.ble 8 y then (bif Nat.ble 12 y then (bif Nat.ble 14 y then (bif Nat.ble 15 y then (bif Nat.ble 16 y then 2 else 8) else 5) else (bif Nat.ble 13 y then 9 else 1)) else (bif Nat.ble 10 y then (bif Nat.ble 11 y then 1 else 2) else (bif Nat.ble 9 y then 1 else 1))) else (bif Nat.ble 4 y then (bif Nat.ble 6 y then (bif Nat.ble 7 y then 1 else 4) else (bif Nat.ble 5 y then 4 else 4)) else (bif Nat.ble 2 y then (bif Nat.ble 3 y then 1 else 2) else (bif Nat.ble 1 y then 3 else 1))))))))
end
section
/-! THE SIMPLE MACHINE. A reference is (tag, n): the kind of the cell, its number since the law's entry (tags from 60 on: what stood there before). -/
abbrev Rf := Nat × Nat
abbrev SV := Int32 ⊕ (Int64 ⊕ Option Rf)
abbrev vI (x : Int32) : SV := .inl x
abbrev vL (x : Int64) : SV := .inr (.inl x)
abbrev vR (r : Option Rf) : SV := .inr (.inr r)
/-- numbers, references (by tag, cell, slot), the cells' tags, lengths of arrays (by tag, cell), how many cells, how many slots -/
abbrev Mem := (Nat → Nat → Nat → Int32) × (Nat → Nat → Nat → Option Rf) × (Nat → Nat) × (Nat → Nat → Nat) × Nat × Nat
def gI (m : Mem) (t n k : Nat) : Int32 := m.1 t n k
def gP (m : Mem) (t n k : Nat) : Option Rf := m.2.1 t n k
def rgn (m : Mem) (n : Nat) : Nat := m.2.2.1 n
def gL (m : Mem) (t n : Nat) : Nat := m.2.2.2.1 t n
def nX (m : Mem) : Nat := m.2.2.2.2.1
def nS (m : Mem) : Nat := m.2.2.2.2.2
def sI (m : Mem) (t n k : Nat) (v : Int32) : Mem := (fun t' n' k' => if k' = k then (if n' = n then (if t' = t then v else gI m t' n' k') else gI m t' n' k') else gI m t' n' k', m.2)
def sP (m : Mem) (t n k : Nat) (v : Option Rf) : Mem := (m.1, fun t' n' k' => if k' = k then (if n' = n then (if t' = t then v else gP m t' n' k') else gP m t' n' k') else gP m t' n' k', m.2.2)
/-- a whole row of numbers -/
def sA (m : Mem) (t n : Nat) (f : Nat → Int32) : Mem := (fun t' n' k' => if n' = n then (if t' = t then f k' else gI m t' n' k') else gI m t' n' k', m.2)
/-- a new cell of tag t, of length z -/
def al (m : Mem) (t z : Nat) : Mem :=
  (fun t' n' k' => if n' = nX m then (if t' < 60 then 0 else gI m t' n' k') else gI m t' n' k', fun t' n' k' => if n' = nX m then none else gP m t' n' k', fun n' => if n' = nX m then t else rgn m n',
    fun t' n' => if n' = nX m then (if t' < 60 then z else gL m t' n') else gL m t' n', nX m + 1, nS m + z)
/-- an instruction: place, what, the next place, four numbers, constants, a switch's targets -/
abbrev Ent := Nat × Instr × Nat × Nat × Nat × Nat × Nat × Int32 × Int64 × List (Int32 × Nat)
abbrev e0 (p : Nat) (i : Instr) (n : Nat) : Ent := (p, i, n, 0, 0, 0, 0, 0, 0, [])
abbrev eC (p : Nat) (i : Instr) (n : Nat) (c : Int32) : Ent := (p, i, n, 0, 0, 0, 0, c, 0, [])
abbrev eL (p : Nat) (i : Instr) (n : Nat) (c : Int64) (w : Nat) : Ent := (p, i, n, 0, 0, 0, w, 0, c, [])
abbrev eK (p : Nat) (i : Instr) (n : Nat) (c : Int32) (w : Nat) : Ent := (p, i, n, 0, 0, 0, w, c, 0, [])
abbrev eJ (p : Nat) (i : Instr) (n t : Nat) : Ent := (p, i, n, t, 0, 0, 0, 0, 0, [])
abbrev eF (p : Nat) (i : Instr) (n a b c w : Nat) : Ent := (p, i, n, a, b, c, w, 0, 0, [])
abbrev eM (p : Nat) (i : Instr) (n y k w : Nat) : Ent := (p, i, n, y, k, 0, w, 0, 0, [])
abbrev eT (p : Nat) (i : Instr) (n d : Nat) (c : Int32) (ts : List (Int32 × Nat)) : Ent := (p, i, n, d, 0, 0, 0, c, 0, ts)
def fnd : List Ent → Nat → Option Ent
  | [], _ => none
  | e :: r, p => match Nat.beq e.1 p with
    | true => some e
    | false => fnd r p
def fnd2 : List (Nat × List Ent) → Nat → Option Ent
  | [], _ => none
  | (b, l) :: r, p => match Nat.ble b p with
    | true => fnd2 r p
    | false => fnd l p
/-- kinds of tags: 0 an object, 1 numbers, 2 bytes, 3 references, 9 none -/
def tk (t : Nat) : Nat := match t with
  | 0 => 0 | 1 => 0 | 4 => 0 | 6 => 0 | 8 => 0 | 10 => 0 | 22 => 0 | 23 => 0 | 11 => 3 | 21 => 2 | 31 => 2 | 32 => 2
  | 2 => 1 | 3 => 1 | 5 => 1 | 7 => 1 | 9 => 1 | 12 => 1 | 13 => 1 | 14 => 1 | 15 => 1 | 16 => 1 | 17 => 1 | 20 => 1
  | 24 => 1 | 25 => 1 | 26 => 1 | 27 => 1 | 28 => 1 | 29 => 1 | 30 => 1 | 33 => 1 | 34 => 1 | 35 => 1 | 36 => 1 | 37 => 1 | 38 => 1 | 39 => 1 | 40 => 1 | 41 => 1 | 42 => 1 | 43 => 1 | 44 => 1 | 45 => 1 | 46 => 1 | 47 => 1
  | 60 => 1 | 61 => 0 | 62 => 2 | 63 => 1 | 64 => 2
  | _ => 9
/-- the class of an object's tag -/
def tc (t : Nat) : Nat := match t with
  | 22 => 0 | 8 => 1 | 1 => 2 | 6 => 3 | 10 => 4 | 4 => 5 | 0 => 6 | 23 => 7 | 61 => 61
  | _ => 99
/-- how long an array of a tag is, where the tag says it -/
def tl (t : Nat) : Option Nat := match t with
  | 2 => some 800 | 3 => some 63 | 5 => some 7 | 7 => some 144 | 9 => some 4 | 11 => some 49 | 12 => some 120 | 13 => some 48 | 14 => some 48 | 15 => some 48 | 16 => some 48 | 17 => some 5 | 24 => some 7 | 25 => some 7 | 26 => some 7 | 27 => some 7 | 28 => some 7 | 29 => some 1604 | 30 => some 1634 | 31 => some 800 | 32 => some 77 | 33 => some 63 | 34 => some 3600 | 35 => some 3600 | 36 => some 3600 | 37 => some 3600 | 38 => some 3600 | 39 => some 3600 | 40 => some 3600 | 41 => some 48 | 42 => some 48 | 43 => some 144 | 44 => some 48 | 45 => some 48 | 46 => some 60 | 47 => some 30
  | _ => none
/-- references that never change behind the constructors: by tag, slot, cell -/
def FR (t k n : Nat) : Option Rf := match t with
  | 0 => (match k with | 0 => some (1, 1) | 1 => some (4, 4) | 4 => some (8, 229) | _ => none)
  | 1 => (match k with | 0 => some (2, 2) | 15 => some (3, 3) | _ => none)
  | 4 => (match k with | 0 => some (5, 5) | 1 => some (6, 6) | 2 => some (6, 16) | 12 => some (17, 26) | _ => none)
  | 6 => (match k with | 12 => some (7, n + 1) | 13 => some (13, n + 2) | 14 => some (14, n + 3) | 15 => some (15, n + 4) | 16 => some (16, n + 5) | _ => none)
  | 8 => (match k with | 8 => some (9, n + 1) | _ => none)
  | 10 => (match k with | 0 => some (11, n + 1) | 2 => some (12, n + 2) | _ => none)
  | 23 => (match k with | 1 => some (24, 232) | 2 => some (25, 233) | 3 => some (26, 234) | 4 => some (27, 235) | 5 => some (28, 236) | 6 => some (29, 237) | 7 => some (30, 238) | 8 => some (31, 239) | 18 => some (32, 240) | 25 => some (33, 241) | 31 => some (34, 242) | 32 => some (35, 243) | 33 => some (36, 244) | 34 => some (37, 245) | 35 => some (38, 246) | 36 => some (39, 247) | 37 => some (40, 248) | 38 => some (41, 249) | 39 => some (42, 250) | 40 => some (43, 251) | 41 => some (44, 252) | 42 => some (45, 253) | 53 => some (46, 254) | 55 => some (47, 255) | _ => none)
  | 11 => some (8, n + 2 + 2 * k)
  | _ => none
def stI (n : Nat) : List Int32 := match n with
  | 0 => [0, 2, 0] | 1 => [1, 0, 2, 0] | 2 => [2, 0, 1, 0] | 3 => [0, 2, 0, 2, 0] | 4 => [0, 1, 0] | 5 => [1, 0, 1, 0] | 6 => [0, 2, 4, 5, 7, 9, 11] | 7 => [1, 3, 5, 0, 2, 4, 6] | 8 => [5, 3, 1, 6, 4, 2, 0] | 9 => [20, 8, 0, 0, 0, 25, 0] | 10 => [250, 64, 1, 1, 1, 400, 1]
  | _ => []
def stS (n : Nat) : List Int32 := match n with
  | 0 => [110, 111, 116, 101] | 1 => [114, 101, 115, 116] | 2 => [116, 105, 101] | 3 => [107, 101, 121] | 4 => [109, 101, 116, 101, 114] | 5 => [115, 112, 101, 101, 100] | 6 => [99, 100, 101, 102, 103, 97, 98] | 7 => [115, 108] | 8 => [103, 114] | 9 => [97, 112] | 10 => [117, 112] | 11 => [100, 111, 119, 110] | 12 => [116, 114, 109, 111, 112, 114, 116, 117, 100, 116, 105, 116, 108, 109, 100, 99] | 13 => [110, 98] | 14 => [97, 110] | 15 => [99, 100, 101, 102, 103, 97, 98]
  | _ => []
def stD (n : Nat) : List Int32 := match n with
  | 0 => (List.range 100).map (fun k => nI (48 + k % 10))
  | _ => (List.range 100).map (fun k => nI (48 + k / 10))
def nf (c : Nat) : Nat := match c with
  | 0 => 4 | 1 => 16 | 2 => 18 | 3 => 17 | 4 => 5 | 5 => 14 | 6 => 7 | 7 => 56
  | _ => 0
/-- a field: 0 int, 1 boolean, 2 byte, 3 a reference -/
def ft (c k : Nat) : Nat := match c with
  | 0 => (match k with | 0 => 3 | 1 => 2 | 2 => 1 | _ => 0)
  | 1 => (match k with | 8 => 3 | _ => 0)
  | 2 => (match k with | 0 => 3 | 9 => 3 | 14 => 1 | 15 => 3 | _ => 0)
  | 3 => (match k with | 0 => 1 | 2 => 3 | 3 => 3 | 4 => 3 | 5 => 3 | 7 => 1 | 12 => 3 | 13 => 3 | 14 => 3 | 15 => 3 | 16 => 3 | _ => 0)
  | 4 => (match k with | 0 => 3 | 2 => 3 | _ => 0)
  | 5 => (match k with | 0 => 3 | 1 => 3 | 2 => 3 | 3 => 1 | 4 => 3 | 5 => 3 | 8 => 3 | 9 => 3 | 12 => 3 | 13 => 1 | _ => 0)
  | 6 => (match k with | 0 => 3 | 1 => 3 | 2 => 3 | 3 => 3 | 4 => 3 | _ => 0)
  | 7 => (match k with | 1 => 3 | 2 => 3 | 3 => 3 | 4 => 3 | 5 => 3 | 6 => 3 | 7 => 3 | 8 => 3 | 18 => 3 | 24 => 1 | 25 => 3 | 30 => 1 | 31 => 3 | 32 => 3 | 33 => 3 | 34 => 3 | 35 => 3 | 36 => 3 | 37 => 3 | 38 => 3 | 39 => 3 | 40 => 3 | 41 => 3 | 42 => 3 | 52 => 1 | 53 => 3 | 55 => 3 | _ => 0)
  | _ => 0
def mcl (y : Nat) : Nat := (bif Nat.ble 141 y then (bif Nat.ble 211 y then (bif Nat.ble 246 y then (bif Nat.ble 264 y then (bif Nat.ble 273 y then (bif Nat.ble 277 y then (bif Nat.ble 279 y then (bif Nat.ble 280 y then (bif Nat.ble 281 y then 98 else 98) else 98) else (bif Nat.ble 278 y then 0 else 0)) else (bif Nat.ble 275 y then (bif Nat.ble 276 y then 0 else 0) else (bif Nat.ble 274 y then 0 else 0))) else (bif Nat.ble 268 y then (bif Nat.ble 270 y then (bif Nat.ble 271 y then (bif Nat.ble 272 y then 0 else 0) else 0) else (bif Nat.ble 269 y then 0 else 0)) else (bif Nat.ble 266 y then (bif Nat.ble 267 y then 0 else 0) else (bif Nat.ble 265 y then 98 else 98)))) else (bif Nat.ble 255 y then (bif Nat.ble 259 y then (bif Nat.ble 261 y then (bif Nat.ble 262 y then (bif Nat.ble 263 y then 98 else 98) else 98) else (bif Nat.ble 260 y then 98 else 61)) else (bif Nat.ble 257 y then (bif Nat.ble 258 y then 61 else 61) else (bif Nat.ble 256 y then 61 else 61))) else (bif Nat.ble 250 y then (bif Nat.ble 252 y then (bif Nat.ble 253 y then (bif Nat.ble 254 y then 61 else 61) else 98) else (bif Nat.ble 251 y then 98 else 98)) else (bif Nat.ble 248 y then (bif Nat.ble 249 y then 98 else 98) else (bif Nat.ble 247 y then 98 else 98))))) else (bif Nat.ble 228 y then (bif Nat.ble 237 y then (bif Nat.ble 241 y then (bif Nat.ble 243 y then (bif Nat.ble 244 y then (bif Nat.ble 245 y then 98 else 98) else 7) else (bif Nat.ble 242 y then 7 else 7)) else (bif Nat.ble 239 y then (bif Nat.ble 240 y then 7 else 7) else (bif Nat.ble 238 y then 7 else 7))) else (bif Nat.ble 232 y then (bif Nat.ble 234 y then (bif Nat.ble 235 y then (bif Nat.ble 236 y then 7 else 7) else 7) else (bif Nat.ble 233 y then 7 else 7)) else (bif Nat.ble 230 y then (bif Nat.ble 231 y then 7 else 7) else (bif Nat.ble 229 y then 7 else 7)))) else (bif Nat.ble 219 y then (bif Nat.ble 223 y then (bif Nat.ble 225 y then (bif Nat.ble 226 y then (bif Nat.ble 227 y then 7 else 7) else 7) else (bif Nat.ble 224 y then 7 else 7)) else (bif Nat.ble 221 y then (bif Nat.ble 222 y then 7 else 7) else (bif Nat.ble 220 y then 7 else 7))) else (bif Nat.ble 215 y then (bif Nat.ble 217 y then (bif Nat.ble 218 y then 7 else 7) else (bif Nat.ble 216 y then 7 else 7)) else (bif Nat.ble 213 y then (bif Nat.ble 214 y then 7 else 7) else (bif Nat.ble 212 y then 7 else 7)))))) else (bif Nat.ble 176 y then (bif Nat.ble 193 y then (bif Nat.ble 202 y then (bif Nat.ble 206 y then (bif Nat.ble 208 y then (bif Nat.ble 209 y then (bif Nat.ble 210 y then 7 else 7) else 7) else (bif Nat.ble 207 y then 7 else 7)) else (bif Nat.ble 204 y then (bif Nat.ble 205 y then 7 else 7) else (bif Nat.ble 203 y then 7 else 7))) else (bif Nat.ble 197 y then (bif Nat.ble 199 y then (bif Nat.ble 200 y then (bif Nat.ble 201 y then 7 else 7) else 7) else (bif Nat.ble 198 y then 7 else 7)) else (bif Nat.ble 195 y then (bif Nat.ble 196 y then 7 else 7) else (bif Nat.ble 194 y then 7 else 7)))) else (bif Nat.ble 184 y then (bif Nat.ble 188 y then (bif Nat.ble 190 y then (bif Nat.ble 191 y then (bif Nat.ble 192 y then 7 else 7) else 7) else (bif Nat.ble 189 y then 7 else 7)) else (bif Nat.ble 186 y then (bif Nat.ble 187 y then 7 else 7) else (bif Nat.ble 185 y then 7 else 7))) else (bif Nat.ble 180 y then (bif Nat.ble 182 y then (bif Nat.ble 183 y then 7 else 7) else (bif Nat.ble 181 y then 7 else 7)) else (bif Nat.ble 178 y then (bif Nat.ble 179 y then 7 else 7) else (bif Nat.ble 177 y then 7 else 7))))) else (bif Nat.ble 158 y then (bif Nat.ble 167 y then (bif Nat.ble 171 y then (bif Nat.ble 173 y then (bif Nat.ble 174 y then (bif Nat.ble 175 y then 7 else 7) else 7) else (bif Nat.ble 172 y then 7 else 7)) else (bif Nat.ble 169 y then (bif Nat.ble 170 y then 7 else 7) else (bif Nat.ble 168 y then 7 else 7))) else (bif Nat.ble 162 y then (bif Nat.ble 164 y then (bif Nat.ble 165 y then (bif Nat.ble 166 y then 7 else 7) else 7) else (bif Nat.ble 163 y then 7 else 7)) else (bif Nat.ble 160 y then (bif Nat.ble 161 y then 7 else 7) else (bif Nat.ble 159 y then 7 else 7)))) else (bif Nat.ble 149 y then (bif Nat.ble 153 y then (bif Nat.ble 155 y then (bif Nat.ble 156 y then (bif Nat.ble 157 y then 7 else 7) else 7) else (bif Nat.ble 154 y then 7 else 7)) else (bif Nat.ble 151 y then (bif Nat.ble 152 y then 7 else 7) else (bif Nat.ble 150 y then 7 else 7))) else (bif Nat.ble 145 y then (bif Nat.ble 147 y then (bif Nat.ble 148 y then 7 else 7) else (bif Nat.ble 146 y then 7 else 7)) else (bif Nat.ble 143 y then (bif Nat.ble 144 y then 7 else 7) else (bif Nat.ble 142 y then 7 else 7))))))) else (bif Nat.ble 70 y then (bif Nat.ble 105 y then (bif Nat.ble 123 y then (bif Nat.ble 132 y then (bif Nat.ble 136 y then (bif Nat.ble 138 y then (bif Nat.ble 139 y then (bif Nat.ble 140 y then 7 else 7) else 7) else (bif Nat.ble 137 y then 7 else 7)) else (bif Nat.ble 134 y then (bif Nat.ble 135 y then 7 else 7) else (bif Nat.ble 133 y then 7 else 7))) else (bif Nat.ble 127 y then (bif Nat.ble 129 y then (bif Nat.ble 130 y then (bif Nat.ble 131 y then 6 else 6) else 6) else (bif Nat.ble 128 y then 6 else 6)) else (bif Nat.ble 125 y then (bif Nat.ble 126 y then 6 else 6) else (bif Nat.ble 124 y then 6 else 6)))) else (bif Nat.ble 114 y then (bif Nat.ble 118 y then (bif Nat.ble 120 y then (bif Nat.ble 121 y then (bif Nat.ble 122 y then 6 else 6) else 6) else (bif Nat.ble 119 y then 6 else 6)) else (bif Nat.ble 116 y then (bif Nat.ble 117 y then 6 else 6) else (bif Nat.ble 115 y then 6 else 6))) else (bif Nat.ble 109 y then (bif Nat.ble 111 y then (bif Nat.ble 112 y then (bif Nat.ble 113 y then 6 else 6) else 6) else (bif Nat.ble 110 y then 6 else 6)) else (bif Nat.ble 107 y then (bif Nat.ble 108 y then 6 else 6) else (bif Nat.ble 106 y then 6 else 6))))) else (bif Nat.ble 87 y then (bif Nat.ble 96 y then (bif Nat.ble 100 y then (bif Nat.ble 102 y then (bif Nat.ble 103 y then (bif Nat.ble 104 y then 6 else 6) else 6) else (bif Nat.ble 101 y then 6 else 6)) else (bif Nat.ble 98 y then (bif Nat.ble 99 y then 6 else 6) else (bif Nat.ble 97 y then 6 else 6))) else (bif Nat.ble 91 y then (bif Nat.ble 93 y then (bif Nat.ble 94 y then (bif Nat.ble 95 y then 6 else 6) else 6) else (bif Nat.ble 92 y then 6 else 6)) else (bif Nat.ble 89 y then (bif Nat.ble 90 y then 6 else 6) else (bif Nat.ble 88 y then 6 else 5)))) else (bif Nat.ble 78 y then (bif Nat.ble 82 y then (bif Nat.ble 84 y then (bif Nat.ble 85 y then (bif Nat.ble 86 y then 5 else 5) else 5) else (bif Nat.ble 83 y then 5 else 5)) else (bif Nat.ble 80 y then (bif Nat.ble 81 y then 5 else 5) else (bif Nat.ble 79 y then 5 else 5))) else (bif Nat.ble 74 y then (bif Nat.ble 76 y then (bif Nat.ble 77 y then 5 else 5) else (bif Nat.ble 75 y then 5 else 5)) else (bif Nat.ble 72 y then (bif Nat.ble 73 y then 5 else 5) else (bif Nat.ble 71 y then 5 else 5)))))) else (bif Nat.ble 35 y then (bif Nat.ble 52 y then (bif Nat.ble 61 y then (bif Nat.ble 65 y then (bif Nat.ble 67 y then (bif Nat.ble 68 y then (bif Nat.ble 69 y then 5 else 5) else 5) else (bif Nat.ble 66 y then 5 else 5)) else (bif Nat.ble 63 y then (bif Nat.ble 64 y then 5 else 5) else (bif Nat.ble 62 y then 5 else 5))) else (bif Nat.ble 56 y then (bif Nat.ble 58 y then (bif Nat.ble 59 y then (bif Nat.ble 60 y then 5 else 4) else 4) else (bif Nat.ble 57 y then 4 else 4)) else (bif Nat.ble 54 y then (bif Nat.ble 55 y then 4 else 4) else (bif Nat.ble 53 y then 4 else 4)))) else (bif Nat.ble 43 y then (bif Nat.ble 47 y then (bif Nat.ble 49 y then (bif Nat.ble 50 y then (bif Nat.ble 51 y then 4 else 3) else 3) else (bif Nat.ble 48 y then 3 else 3)) else (bif Nat.ble 45 y then (bif Nat.ble 46 y then 3 else 3) else (bif Nat.ble 44 y then 3 else 3))) else (bif Nat.ble 39 y then (bif Nat.ble 41 y then (bif Nat.ble 42 y then 3 else 3) else (bif Nat.ble 40 y then 3 else 3)) else (bif Nat.ble 37 y then (bif Nat.ble 38 y then 3 else 2) else (bif Nat.ble 36 y then 2 else 2))))) else (bif Nat.ble 17 y then (bif Nat.ble 26 y then (bif Nat.ble 30 y then (bif Nat.ble 32 y then (bif Nat.ble 33 y then (bif Nat.ble 34 y then 2 else 2) else 2) else (bif Nat.ble 31 y then 2 else 2)) else (bif Nat.ble 28 y then (bif Nat.ble 29 y then 2 else 2) else (bif Nat.ble 27 y then 2 else 2))) else (bif Nat.ble 21 y then (bif Nat.ble 23 y then (bif Nat.ble 24 y then (bif Nat.ble 25 y then 2 else 2) else 2) else (bif Nat.ble 22 y then 2 else 2)) else (bif Nat.ble 19 y then (bif Nat.ble 20 y then 2 else 2) else (bif Nat.ble 18 y then 2 else 2)))) else (bif Nat.ble 8 y then (bif Nat.ble 12 y then (bif Nat.ble 14 y then (bif Nat.ble 15 y then (bif Nat.ble 16 y then 2 else 2) else 2) else (bif Nat.ble 13 y then 2 else 2)) else (bif Nat.ble 10 y then (bif Nat.ble 11 y then 2 else 2) else (bif Nat.ble 9 y then 2 else 2))) else (bif Nat.ble 4 y then (bif Nat.ble 6 y then (bif Nat.ble 7 y then 1 else 1) else (bif Nat.ble 5 y then 1 else 1)) else (bif Nat.ble 2 y then (bif Nat.ble 3 y then 1 else 1) else (bif Nat.ble 1 y then 1 else 1))))))))
def stT (t n k : Nat) : Int32 := match t with
  | 60 => (stI n).getD k 0
  | 62 => (stS n).getD k 0
  | _ => (stD n).getD k 0
def lnK (m : Mem) (t n : Nat) (k : Nat → Prop) : Prop := match tl t with
  | some z => k z
  | none => match t with
    | 60 => k (stI n).length
    | 62 => k (stS n).length
    | 64 => k 100
    | _ => k (gL m t n)
def ln (m : Mem) (t n : Nat) : Nat := match tl t with
  | some z => z
  | none => match t with
    | 60 => (stI n).length
    | 62 => (stS n).length
    | 64 => 100
    | _ => gL m t n
theorem lnK_eq (m : Mem) (t n : Nat) (k : Nat → Prop) : lnK m t n k = k (ln m t n) := by
  unfold lnK ln
  split
  · rfl
  · split <;> rfl
/-- a reference that is there -/
def okR (m : Mem) (a : Rf) : Prop := (a.1 < 60 → a.2 < nX m ∧ rgn m a.2 = a.1) ∧ (60 ≤ a.1 → (a.1 = 60 ∧ a.2 < 11) ∨ (a.1 = 61 ∧ a.2 < 16) ∨ (a.1 = 62 ∧ a.2 < 16) ∨ (a.1 = 63 ∧ a.2 = 0) ∨ (a.1 = 64 ∧ a.2 < 2) ∨ (a.1 = 65 ∧ a.2 = 0))
def okV (m : Mem) : SV → Prop
  | .inr (.inr (some a)) => okR m a
  | _ => True
def okS (m : Mem) (st : List SV) : Prop := ∀ v ∈ st, okV m v
def okL (m : Mem) (sl : List (Option SV)) : Prop := ∀ v, some v ∈ sl → okV m v
/-- references in the memory are there; the tags are tags of cells -/
def okM (m : Mem) : Prop := (∀ t n k a, gP m t n k = some a → okR m a) ∧ ∀ n, n < nX m → rgn m n < 48 ∧ tk (rgn m n) < 9
/-- behind the constructors -/
def FRok (m : Mem) : Prop := ∀ n k a, n < nX m → FR (rgn m n) k n = some a → (rgn m n = 11 → k < 49) → gP m (rgn m n) n k = some a
/-! THE MACHINE's side: class numbers, the classes of int[], byte[], Note[], the first new address, the addresses of what stood there before, SIOOBE_FORMATTER -/
abbrev Ctx := va_G × ClassId × ClassId × ClassId × Nat × (Nat → Nat → Nat) × Value
abbrev cD (C : Ctx) : va_G := C.1
abbrev cIA (C : Ctx) : ClassId := C.2.1
abbrev cBA (C : Ctx) : ClassId := C.2.2.1
abbrev cNA (C : Ctx) : ClassId := C.2.2.2.1
abbrev cB0 (C : Ctx) : Nat := C.2.2.2.2.1
abbrev cSA (C : Ctx) : Nat → Nat → Nat := C.2.2.2.2.2.1
abbrev cSQ (C : Ctx) : Value := C.2.2.2.2.2.2
def adr (C : Ctx) (a : Rf) : Nat := if a.1 < 60 then cB0 C + a.2 else cSA C a.1 a.2
def tv (C : Ctx) : SV → Value
  | .inl x => .int x
  | .inr (.inl x) => .long x
  | .inr (.inr none) => .null
  | .inr (.inr (some a)) => if a.1 = 65 then cSQ C else .ref (adr C a)
def fv (C : Ctx) (m : Mem) (t n k : Nat) : Value := if ft (tc t) k = 3 then tv C (vR (gP m t n k)) else .int (gI m t n k)
def entC (C : Ctx) (m : Mem) (t n : Nat) : va_E := match tk t with
  | 0 => .inr (tc t, (List.range (nf (tc t))).map (fv C m t n))
  | 1 => .inl (cIA C, (ln m t n, .inl (gI m t n)))
  | 2 => .inl (cBA C, (ln m t n, .inl (gI m t n)))
  | _ => .inl (cNA C, (ln m t n, .inr (.inr (.inr (.inr (fun k => (gP m t n k).map (adr C)))))))
def wsO (C : Ctx) (m : Mem) : va_W := (List.range (nX m)).map (fun n => (cB0 C + n, entC C m (rgn m n) n))
abbrev cA (C : Ctx) : Nat → Prop := fun q => cB0 C ≤ q
abbrev cT (C : Ctx) : List (ClassId × FieldType) := [(cIA C, .int), (cBA C, .byte), (cNA C, .object RX0)]
/-- the heap holds the memory -/
def HR (C : Ctx) (m : Mem) (H : Heap) : Prop := H.size = cB0 C + nX m ∧ va_P (cD C) vwCl (wsO C m) H ∧ okM m
def GW : List Cond := lw_tbl.filter goodWord
def isNest : Cond → Bool
  | .fieldLinkNest .. => true
  | .methodLinkNest .. => true
  | _ => false
def NW : List Cond := tables_1.filter isNest
def stN (k : Nat) : String := match k with
  | 0 => "MORDENT_SHAPE" | 1 => "TURN_SHAPE" | 2 => "INVERTED_TURN_SHAPE" | 3 => "LONG_MORDENT_SHAPE" | 4 => "SHORT_PRALL_SHAPE" | 5 => "PRALL_SHAPE" | 6 => "LETTER_NUMBERS" | 7 => "SHARPS_BEFORE" | 8 => "FLATS_BEFORE" | 9 => "TERMS_LEAST" | _ => "TERMS_MOST"
def stDN (k : Nat) : String := match k with
  | 0 => "DigitOnes" | _ => "DigitTens"
/-- the String constants: whose pool, which entry, the text -/
def stQ (k : Nat) : String × Nat × String := match k with
  | 0 => (RX1, 91, "note") | 1 => (RX1, 101, "rest") | 2 => (RX1, 106, "tie") | 3 => (RX1, 111, "key") | 4 => (RX1, 115, "meter") | 5 => (RX1, 119, "speed") | 6 => (RX1, 281, "cdefgab") | 7 => (RX1, 223, "sl") | 8 => (RX1, 228, "gr") | 9 => (RX1, 230, "ap") | 10 => (RX1, 242, "up") | 11 => (RX1, 244, "down") | 12 => (RX1, 286, "trmoprtudtitlmdc") | 13 => (RX1, 259, "nb") | 14 => (RX1, 261, "an") | _ => (RX5, 231, "cdefgab")
/-- what stood there before, at a state U with its heap: tables, statics, String constants, the script -/
def Sta (C : Ctx) (L : Nat) (xs : Nat → Int32) (U : State) : Prop :=
  va_K (cD C) vwCl (cT C) U ∧ (∀ w ∈ NW, va_Nw w U) ∧ va_AO RX0 U ∧
  (∀ k, k < 11 → va_Z RX5 (stN k) "[I" (.ref (cSA C 60 k)) (cA C) U U.heap ∧ va_T .int (cSA C 60 k) (stI k).length (fun j => .int ((stI k).getD j 0)) (cA C) U U.heap) ∧
  (∀ k, k < 2 → va_Z "java/lang/Integer" (stDN k) "[B" (.ref (cSA C 64 k)) (cA C) U U.heap ∧ va_T .byte (cSA C 64 k) 100 (fun j => .int ((stD k).getD j 0)) (cA C) U U.heap) ∧
  va_Z "java/lang/String" "COMPACT_STRINGS" "Z" (.int 1) (cA C) U U.heap ∧
  (va_Z "jdk/internal/util/Preconditions" "SIOOBE_FORMATTER" "Ljava/util/function/BiFunction;" (cSQ C) (cA C) U U.heap ∧ (cSQ C = .null ∨ ∃ a, cSQ C = .ref a)) ∧
  (∀ k, k < 16 → va_O "java/lang/String" (cSA C 61 k) (cA C) U U.heap ∧ va_OF "java/lang/String" "coder" "B" (.int 0) (cSA C 61 k) (cA C) U U.heap ∧ va_OF "java/lang/String" "value" "[B" (.ref (cSA C 62 k)) (cSA C 61 k) (cA C) U U.heap ∧ va_T .byte (cSA C 62 k) (stS k).length (fun j => .int ((stS k).getD j 0)) (cA C) U U.heap ∧ vk_R (stQ k).1 (stQ k).2.1 (stQ k).2.2 (cSA C 61 k) U) ∧
  va_X (cSA C 63 0) L xs U U.heap ∧ ¬ cA C (cSA C 63 0)
theorem Sta.move {C : Ctx} {L : Nat} {xs : Nat → Int32} {s U : State} (h : Sta C L xs s) (hq : ∀ q : Nat, q < s.heap.size → ¬ cA C q → U.heap[q]? = s.heap[q]?) (hW : s.WarmedH U.vm) : Sta C L xs U := by
  obtain ⟨h1, h2, h3, h4, h5, h6, h7, h8, h9, h10⟩ := h
  have hv := hW.alike
  refine ⟨h1.moved hv, fun w hw => ?_, h3.moved hv, fun k hk => ⟨((h4 k hk).1.kept hq).moved hv, ((h4 k hk).2.kept hq).moved hv⟩, fun k hk => ⟨((h5 k hk).1.kept hq).moved hv, ((h5 k hk).2.kept hq).moved hv⟩, (h6.kept hq).moved hv, ⟨(h7.1.kept hq).moved hv, h7.2⟩, fun k hk => ?_, ?_, h10⟩
  · have h0 := h2 w hw
    have hn := (List.mem_filter.mp hw).2
    cases w <;> simp only [isNest] at hn <;> first | exact absurd hn (by decide) | exact va_Nw.warmF hW h0 | exact va_Nw.warmM hW h0
  · obtain ⟨a, b, c, d, e⟩ := h8 k hk
    exact ⟨(a.kept hq).moved hv, (b.kept hq).moved hv, (c.kept hq).moved hv, (d.kept hq).moved hv, e.warm hW⟩
  · obtain ⟨scr, a, b, c⟩ := h9
    have hl := (Array.getElem?_eq_some_iff.mp a).1
    exact va_X.moved hv ⟨scr, by rw [hq _ hl h10]; exact a, b, c⟩
end
section
def Fix (i : Nat) (p : Program) (s : State) (m : MethodId) (args : Array Value) (meth : Method) (c : Code) : Prop :=
  p.tables.exec = Jvm.exec ∧ c.code = mB i ∧ c.maxLocals = mL i ∧ meth.sig.returnType = mR i ∧ meth.locks = false ∧ meth.name = (mN i).name ∧ s.vm.findClass (mN i).cls = some m.cls ∧ ∀ w ∈ GW, w.before args s = true
def QcC (C : Ctx) (v : Option SV) (M' : Mem) : Array Value → State → Outcome → State → Prop := fun _ st o t => o = .returned (v.map (tv C)) ∧ HR C M' t.heap ∧ va_F (cA C) st t
def PcC (C : Ctx) (as : List SV) (M : Mem) : Array Value → State → Prop := va_Pc (as.map (tv C)) (fun U => Sta C (gL M 63 0) (gI M 63 0) U ∧ HR C M U.heap)
/-- the machine's locals hold the simple ones -/
def LR (C : Ctx) (nL : Nat) (ls : Array Slot) (sl : List (Option SV)) : Prop := ls.size = nL ∧ lv_wf ls ∧ sl.length = nL ∧ ∀ (j : Nat) (v : SV), sl[j]? = some (some v) → ls[j]? = some (.val (tv C v))
/-- from this place of method i the machine comes to its end with v and the memory M' -/
def Go (i pc : Nat) (sl : List (Option SV)) (st : List SV) (M : Mem) (v : Option SV) (M' : Mem) : Prop :=
  ∀ (l : Launch) (C : Ctx) (p : Program) (e : Env) (R : Room) (s : State) (m : MethodId) (args : Array Value) (below : List Frame) (meth : Method) (c : Code) (H : Heap) (locs : List Loc) (cells slots : Nat) (ls : Array Slot),
    Fix i p s m args meth c → Sta C (gL M 63 0) (gI M 63 0) s → HR C M H → va_S (cA C) s.heap H locs → LR C (mL i) ls sl →
    cells + (nX M' - nX M) ≤ R.cells → slots + (nS M' - nS M) ≤ R.slots → rk i ≤ R.frames → lq i ≤ R.locals →
    W p l e R s m args below meth c H locs cells slots (MQ below (QcC C v M') args s (cells + (nX M' - nX M)) (slots + (nS M' - nS M)) (cA C)) (F0 m pc ls (st.map (tv C)))
/-- what every run keeps -/
def Ext (m m' : Mem) : Prop := nX m ≤ nX m' ∧ nS m ≤ nS m' ∧ (∀ a, okR m a → okR m' a) ∧ gL m' 63 0 = gL m 63 0 ∧ gI m' 63 0 = gI m 63 0
def okO (m : Mem) (v : Option SV) : Prop := ∀ w, v = some w → okV m w
def smE (md : Bool) (i pc : Nat) (sl : List (Option SV)) (st : List SV) (M : Mem) (Q : Option SV → Mem → Prop) : Prop :=
  okL M sl → okS M st → okM M → (md = true → FRok M) → ∃ (v : Option SV) (M' : Mem), Q v M' ∧ Ext M M' ∧ okO M' v ∧ okM M' ∧ (md = true → FRok M') ∧ Go i pc sl st M v M'
def mW (y : Nat) : List Cond := .code (mN y) (mB y) (mL y) (mR y) :: GW
def rmY (y : Nat) (M M' : Mem) : Room := { frames := rk y, cells := nX M' - nX M, slots := nS M' - nS M, locals := lq y }
/-- a call of method y comes back with v and the memory M' -/
def Tr (y : Nat) (as : List SV) (M : Mem) (v : Option SV) (M' : Mem) : Prop :=
  ∀ (l : Launch) (C : Ctx), Met l (mN y) (mW y) (rmY y M M') (PcC C as M) (QcC C v M') (nX M' - nX M) (nS M' - nS M) (cA C)
def smC (md : Bool) (y : Nat) (as : List SV) (M : Mem) (K : Option SV → Mem → Prop) : Prop :=
  okS M as → okM M → (md = true → FRok M) → ∃ (v : Option SV) (M' : Mem), K v M' ∧ Ext M M' ∧ okO M' v ∧ okM M' ∧ (md = true → FRok M') ∧ Tr y as M v M'
/-- a step of the walk: from m to m', dn new cells of dz slots -/
theorem E_gen {md : Bool} {i pc pc' : Nat} {sl sl' : List (Option SV)} {st st' : List SV} {m m' : Mem} {Q : Option SV → Mem → Prop} (dn dz : Nat) (hE : smE md i pc' sl' st' m' Q)
    (hok : okL m sl → okS m st → okM m → (md = true → FRok m) → okL m' sl' ∧ okS m' st' ∧ okM m' ∧ (md = true → FRok m'))
    (hx : Ext m m') (hn : nX m' = nX m + dn) (hz : nS m' = nS m + dz)
    (hW : ∀ (l : Launch) (C : Ctx) (p : Program) (e : Env) (R : Room) (s : State) (mm : MethodId) (args : Array Value) (below : List Frame) (meth : Method) (c : Code) (H : Heap) (locs : List Loc) (cells slots : Nat) (ls : Array Slot) (Qf : State → Prop),
      okL m sl → okS m st → okM m → (md = true → FRok m) → Fix i p s mm args meth c → Sta C (gL m 63 0) (gI m 63 0) s → HR C m H → va_S (cA C) s.heap H locs → LR C (mL i) ls sl → cells + dn ≤ R.cells → slots + dz ≤ R.slots → rk i ≤ R.frames → lq i ≤ R.locals →
      (∀ (H1 : Heap) (locs1 : List Loc) (ls1 : Array Slot), HR C m' H1 → va_S (cA C) s.heap H1 locs1 → LR C (mL i) ls1 sl' → W p l e R s mm args below meth c H1 locs1 (cells + dn) (slots + dz) Qf (F0 mm pc' ls1 (st'.map (tv C)))) →
      W p l e R s mm args below meth c H locs cells slots Qf (F0 mm pc ls (st.map (tv C)))) : smE md i pc sl st m Q := by
  intro h1 h2 h3 h4
  obtain ⟨k1, k2, k3, k4⟩ := hok h1 h2 h3 h4
  obtain ⟨v, M', hQ, hx2, hv, hM, hF, hG⟩ := hE k1 k2 k3 k4
  refine ⟨v, M', hQ, ⟨Nat.le_trans hx.1 hx2.1, Nat.le_trans hx.2.1 hx2.2.1, fun a h => hx2.2.2.1 a (hx.2.2.1 a h), hx2.2.2.2.1.trans hx.2.2.2.1, hx2.2.2.2.2.trans hx.2.2.2.2⟩, hv, hM, hF, ?_⟩
  intro l C p e R s mm args below meth c H locs cells slots ls f1 f2 f3 f4 f5 f6 f7 f8 f9
  have g1 := hx2.1
  have g2 := hx2.2.1
  refine hW l C p e R s mm args below meth c H locs cells slots ls _ h1 h2 h3 h4 f1 f2 f3 f4 f5 (by omega) (by omega) f8 f9 (fun H1 locs1 ls1 q1 q2 q3 => ?_)
  have e1 : cells + (nX M' - nX m) = cells + dn + (nX M' - nX m') := by omega
  have e2 : slots + (nS M' - nS m) = slots + dz + (nS M' - nS m') := by omega
  rw [e1, e2]
  exact hG l C p e R s mm args below meth c H1 locs1 (cells + dn) (slots + dz) ls1 f1 (by rw [hx.2.2.2.1, hx.2.2.2.2]; exact f2) q1 q2 q3 (by omega) (by omega) f8 f9
theorem Ext.rf (m : Mem) : Ext m m := ⟨Nat.le_refl _, Nat.le_refl _, fun _ h => h, rfl, rfl⟩
/-- a step that leaves the memory as it is -/
theorem E_pure {md : Bool} {i pc pc' : Nat} {sl sl' : List (Option SV)} {st st' : List SV} {m : Mem} {Q : Option SV → Mem → Prop} (hE : smE md i pc' sl' st' m Q)
    (hok : okL m sl → okS m st → okL m sl' ∧ okS m st')
    (hW : ∀ (l : Launch) (C : Ctx) (p : Program) (e : Env) (R : Room) (s : State) (mm : MethodId) (args : Array Value) (below : List Frame) (meth : Method) (c : Code) (H : Heap) (locs : List Loc) (cells slots : Nat) (ls : Array Slot) (Qf : State → Prop),
      okL m sl → okS m st → okM m → (md = true → FRok m) → Fix i p s mm args meth c → Sta C (gL m 63 0) (gI m 63 0) s → HR C m H → va_S (cA C) s.heap H locs → LR C (mL i) ls sl → rk i ≤ R.frames → lq i ≤ R.locals →
      (∀ (ls1 : Array Slot), LR C (mL i) ls1 sl' → W p l e R s mm args below meth c H locs cells slots Qf (F0 mm pc' ls1 (st'.map (tv C)))) →
      W p l e R s mm args below meth c H locs cells slots Qf (F0 mm pc ls (st.map (tv C)))) : smE md i pc sl st m Q := by
  refine E_gen 0 0 hE (fun a b c d => ⟨(hok a b).1, (hok a b).2, c, d⟩) (Ext.rf m) rfl rfl ?_
  intro l C p e R s mm args below meth c H locs cells slots ls Qf a1 a2 a3 a4 a5 a6 a7 a8 a9 a10 a11 a12 a13 k
  exact hW l C p e R s mm args below meth c H locs cells slots ls Qf a1 a2 a3 a4 a5 a6 a7 a8 a9 a12 a13 (fun ls1 h => k H locs ls1 a7 a8 h)
end
section
def ldL : List (Option SV) → Nat → Option SV
  | [], _ => none
  | a :: _, 0 => a
  | _ :: l, n + 1 => ldL l n
/-- a store of a value of one word; a long ahead of it goes -/
def stL : List (Option SV) → Nat → SV → (List (Option SV) → Prop) → Prop
  | [], _, _, _ => False
  | _ :: l, 0, v, k => k (some v :: l)
  | a :: l, n + 1, v, k => match n, l, a with
    | 0, _ :: l2, some (.inl x) => k (some (.inl x) :: some v :: l2)
    | 0, _ :: l2, some (.inr (.inr r)) => k (some (.inr (.inr r)) :: some v :: l2)
    | 0, _ :: l2, none => k (none :: some v :: l2)
    | 0, _ :: l2, some (.inr (.inl _)) => k (none :: some v :: l2)
    | 0, [], _ => False
    | n + 1, l, a => stL l (n + 1) v (fun l' => k (a :: l'))
def clL : List (Option SV) → Nat → (List (Option SV) → Prop) → Prop
  | [], _, _ => False
  | _ :: l, 0, k => k (none :: l)
  | a :: l, n + 1, k => clL l n (fun l' => k (a :: l'))
def popK : Nat → List SV → List SV → (List SV → List SV → Prop) → Prop
  | 0, st, acc, k => k acc st
  | n + 1, v :: st, acc, k => popK n st (v :: acc) k
  | _ + 1, [], _, _ => False
def tsw (x : Int32) : List (Int32 × Nat) → (Nat → Prop) → Prop → Prop
  | [], _, d => d
  | q :: ts, k, d => (x = q.1 → k q.2) ∧ tsw x ts k d
abbrev Kt := Nat → List (Option SV) → List SV → Mem → Prop
/-- a conditional jump -/
abbrev brc (c : Prop) (K : Kt) (t n : Nat) (ls : List (Option SV)) (s : List SV) (m : Mem) : Prop := (c → K t ls s m) ∧ (¬ c → K n ls s m)
def sLoad (v : Option SV) (K : Kt) (n : Nat) (ls : List (Option SV)) (st : List SV) (m : Mem) (c : Nat) : Prop := match c, v with
  | 0, some (.inl x) => K n ls (vI x :: st) m
  | 1, some (.inr (.inl x)) => K n ls (vL x :: st) m
  | 2, some (.inr (.inr r)) => K n ls (vR r :: st) m
  | _, _ => False
def sStore (st : List SV) (K : Kt) (n : Nat) (ls : List (Option SV)) (m : Mem) (c j : Nat) : Prop := match c, st with
  | 0, .inl x :: s => stL ls j (vI x) (fun l' => K n l' s m)
  | 1, .inr (.inl x) :: s => stL ls j (vL x) (fun l' => clL l' (j + 1) (fun l2 => K n l2 s m))
  | 2, .inr (.inr r) :: s => stL ls j (vR r) (fun l' => K n l' s m)
  | _, _ => False
def sBin (f : Int32 → Int32 → Int32) (st : List SV) (K : Kt) (n : Nat) (ls : List (Option SV)) (m : Mem) : Prop := match st with
  | .inl y :: .inl x :: s => K n ls (vI (f x y) :: s) m
  | _ => False
def sBinD (f : Int32 → Int32 → Int32) (st : List SV) (K : Kt) (n : Nat) (ls : List (Option SV)) (m : Mem) : Prop := match st with
  | .inl y :: .inl x :: s => ¬ y = 0 ∧ K n ls (vI (f x y) :: s) m
  | _ => False
def sUn (f : Int32 → Int32) (st : List SV) (K : Kt) (n : Nat) (ls : List (Option SV)) (m : Mem) : Prop := match st with
  | .inl x :: s => K n ls (vI (f x) :: s) m
  | _ => False
def sBinL (f : Int64 → Int64 → Int64) (st : List SV) (K : Kt) (n : Nat) (ls : List (Option SV)) (m : Mem) : Prop := match st with
  | .inr (.inl y) :: .inr (.inl x) :: s => K n ls (vL (f x y) :: s) m
  | _ => False
def sIf (c : ClassFile.Cond) (st : List SV) (K : Kt) (t n : Nat) (ls : List (Option SV)) (m : Mem) : Prop := match st with
  | .inl x :: s => (match c with
    | .eq => brc (x = 0) K t n ls s m
    | .ne => brc (¬ x = 0) K t n ls s m
    | .lt => brc (x < 0) K t n ls s m
    | .ge => brc (0 ≤ x) K t n ls s m
    | .gt => brc (0 < x) K t n ls s m
    | .le => brc (x ≤ 0) K t n ls s m)
  | _ => False
def sCmp (c : ClassFile.Cond) (st : List SV) (K : Kt) (t n : Nat) (ls : List (Option SV)) (m : Mem) : Prop := match st with
  | .inl y :: .inl x :: s => (match c with
    | .eq => brc (x = y) K t n ls s m
    | .ne => brc (¬ x = y) K t n ls s m
    | .lt => brc (x < y) K t n ls s m
    | .ge => brc (y ≤ x) K t n ls s m
    | .gt => brc (y < x) K t n ls s m
    | .le => brc (x ≤ y) K t n ls s m)
  | _ => False
def sNull (b : Bool) (st : List SV) (K : Kt) (t n : Nat) (ls : List (Option SV)) (m : Mem) : Prop := match st with
  | .inr (.inr r) :: s => (match b with
    | true => brc (r = none) K t n ls s m
    | false => brc (¬ r = none) K t n ls s m)
  | _ => False
def sDup (st : List SV) (K : Kt) (n : Nat) (ls : List (Option SV)) (m : Mem) : Prop := match st with
  | .inl x :: s => K n ls (vI x :: vI x :: s) m
  | .inr (.inr r) :: s => K n ls (vR r :: vR r :: s) m
  | _ => False
def sPop (st : List SV) (K : Kt) (n : Nat) (ls : List (Option SV)) (m : Mem) : Prop := match st with
  | .inl _ :: s => K n ls s m
  | .inr (.inr _) :: s => K n ls s m
  | _ => False
def sDup2 (st : List SV) (K : Kt) (n : Nat) (ls : List (Option SV)) (m : Mem) : Prop := match st with
  | .inl x :: .inr (.inr r) :: s => K n ls (vI x :: vR r :: vI x :: vR r :: s) m
  | _ => False
def sDupX1 (st : List SV) (K : Kt) (n : Nat) (ls : List (Option SV)) (m : Mem) : Prop := match st with
  | .inl x :: .inr (.inr r) :: s => K n ls (vI x :: vR r :: vI x :: s) m
  | _ => False
def sGet (md : Bool) (st : List SV) (K : Kt) (n : Nat) (ls : List (Option SV)) (m : Mem) (r1 r2 r3 : Nat) : Prop := match st with
  | .inr (.inr (some (t, c))) :: s => (match Nat.beq (tc t) r1 with
    | true => (match Nat.ble 60 t with
      | true => (match r2 with
        | 0 => K n ls (vR (some (62, c)) :: s) m
        | _ => K n ls (vI 0 :: s) m)
      | false => (match r3 with
        | 3 => (match md with
          | true => (match FR t r2 c with
            | some a => K n ls (vR (some a) :: s) m
            | none => ∃ r, gP m t c r2 = r ∧ K n ls (vR r :: s) m)
          | false => ∃ r, gP m t c r2 = r ∧ K n ls (vR r :: s) m)
        | _ => K n ls (vI (gI m t c r2) :: s) m))
    | false => False)
  | _ => False
def sPut (md : Bool) (st : List SV) (K : Kt) (n : Nat) (ls : List (Option SV)) (m : Mem) (r1 r2 r3 : Nat) : Prop := match r3, st with
  | 0, .inl x :: .inr (.inr (some (t, c))) :: s => (match Nat.beq (tc t) r1, Nat.ble 60 t with
    | true, false => K n ls s (sI m t c r2 x)
    | _, _ => False)
  | 1, .inl x :: .inr (.inr (some (t, c))) :: s => (match Nat.beq (tc t) r1, Nat.ble 60 t with
    | true, false => (x = 0 ∨ x = 1) ∧ K n ls s (sI m t c r2 x)
    | _, _ => False)
  | 2, .inl x :: .inr (.inr (some (t, c))) :: s => (match Nat.beq (tc t) r1, Nat.ble 60 t with
    | true, false => x.toInt8.toInt32 = x ∧ K n ls s (sI m t c r2 x)
    | _, _ => False)
  | 3, .inr (.inr r) :: .inr (.inr (some (t, c))) :: s => (match Nat.beq (tc t) r1, Nat.ble 60 t with
    | true, false => (match md with
      | false => K n ls s (sP m t c r2 r)
      | true => (match FR t r2 c with
        | some _ => False
        | none => K n ls s (sP m t c r2 r)))
    | _, _ => False)
  | _, _ => False
def sStat (r1 r2 : Nat) (st : List SV) (K : Kt) (n : Nat) (ls : List (Option SV)) (m : Mem) : Prop := match r1 with
  | 1 => K n ls (vI 1 :: st) m
  | 60 => K n ls (vR (some (60, r2)) :: st) m
  | 64 => K n ls (vR (some (64, r2)) :: st) m
  | 65 => K n ls (vR (some (65, 0)) :: st) m
  | _ => False
def sLen (st : List SV) (K : Kt) (n : Nat) (ls : List (Option SV)) (m : Mem) : Prop := match st with
  | .inr (.inr (some (t, c))) :: s => (match tk t with
    | 0 => False
    | 9 => False
    | _ => lnK m t c (fun z => K n ls (vI (nI z) :: s) m))
  | _ => False
def sAld (b : Nat) (st : List SV) (K : Kt) (n : Nat) (ls : List (Option SV)) (m : Mem) : Prop := match st with
  | .inl i :: .inr (.inr (some (t, c))) :: s => (match Nat.beq (tk t) b with
    | true => (match Nat.ble 60 t, Nat.beq t 63 with
      | true, false => lnK m t c (fun z => vp_in i z ∧ K n ls (vI (stT t c i.toNatClampNeg) :: s) m)
      | _, _ => lnK m t c (fun z => vp_in i z ∧ K n ls (vI (gI m t c i.toNatClampNeg) :: s) m))
    | false => False)
  | _ => False
def sAst (b : Nat) (st : List SV) (K : Kt) (n : Nat) (ls : List (Option SV)) (m : Mem) : Prop := match st with
  | .inl x :: .inl i :: .inr (.inr (some (t, c))) :: s => (match Nat.beq (tk t) b, Nat.ble 60 t with
    | true, false => (match b with
      | 1 => lnK m t c (fun z => vp_in i z ∧ K n ls s (sI m t c i.toNatClampNeg x))
      | _ => lnK m t c (fun z => vp_in i z ∧ K n ls s (sI m t c i.toNatClampNeg x.toInt8.toInt32)))
    | _, _ => False)
  | _ => False
def sAald (md : Bool) (st : List SV) (K : Kt) (n : Nat) (ls : List (Option SV)) (m : Mem) : Prop := match st, md with
  | .inl i :: .inr (.inr (some (t, c))) :: s, true => (match Nat.beq t 11 with
    | true => vp_in i 49 ∧ K n ls (vR (some (8, c + 2 + 2 * i.toNatClampNeg)) :: s) m
    | false => False)
  | _, _ => False
def sAast (md : Bool) (st : List SV) (K : Kt) (n : Nat) (ls : List (Option SV)) (m : Mem) : Prop := match st, md with
  | .inr (.inr (some (8, q))) :: .inl i :: .inr (.inr (some (t, c))) :: s, false => (match Nat.beq t 11 with
    | true => vp_in i 49 ∧ K n ls s (sP m t c i.toNatClampNeg (some (8, q)))
    | false => False)
  | _, _ => False
def okTag (md : Bool) (t : Nat) : Bool := match md with
  | false => true
  | true => Nat.ble 20 t && Nat.ble t 22
def sNew (md : Bool) (r1 r2 : Nat) (st : List SV) (K : Kt) (n : Nat) (ls : List (Option SV)) (m : Mem) : Prop := match okTag md r2 && Nat.beq (tc r2) r1 with
  | true => K n ls (vR (some (r2, nX m)) :: st) (al m r2 (nf r1))
  | false => False
def sNewa (md : Bool) (b r2 : Nat) (st : List SV) (K : Kt) (n : Nat) (ls : List (Option SV)) (m : Mem) : Prop := match st with
  | .inl x :: s => (match okTag md r2 && Nat.beq (tk r2) b with
    | true => (match tl r2 with
      | some z => (¬ x < 0 ∧ x.toNatClampNeg = z) ∧ K n ls (vR (some (r2, nX m)) :: s) (al m r2 z)
      | none => (¬ x < 0 ∧ x.toNatClampNeg ≤ 100000) ∧ K n ls (vR (some (r2, nX m)) :: s) (al m r2 x.toNatClampNeg))
    | false => False)
  | _ => False
def sCall (md : Bool) (i : Nat) (kd : Nat) (y na : Nat) (st : List SV) (K : Kt) (n : Nat) (ls : List (Option SV)) (m : Mem) : Prop := match Nat.ble 2000 y with
  | true => (match kd, y, st with
    | 1, 2000, .inr (.inr (some _)) :: s => K n ls s m
    | 0, 2001, .inl ln' :: .inl dp :: .inr (.inr (some (td, cd'))) :: .inl sp :: .inr (.inr (some (ts, cs'))) :: s =>
      (match Nat.ble 48 td, Nat.ble 48 ts, Nat.beq (tk td) (tk ts), Nat.beq (tk td) 1 || Nat.beq (tk td) 2 with
      | false, false, true, true => (¬ (td, cd') = (ts, cs') ∧ ¬ sp < 0 ∧ ¬ dp < 0 ∧ ¬ ln' < 0 ∧ sp.toNatClampNeg + ln'.toNatClampNeg ≤ ln m ts cs' ∧ dp.toNatClampNeg + ln'.toNatClampNeg ≤ ln m td cd' ∧ (tk td = 2 → ∀ j, (gI m ts cs' j).toInt8.toInt32 = gI m ts cs' j)) ∧
          K n ls s (sA m td cd' (va_cpy (gI m ts cs') (gI m td cd') sp.toNatClampNeg dp.toNatClampNeg ln'.toNatClampNeg))
      | _, _, _, _ => False)
    | _, _, _ => False)
  | false => popK na st [] (fun as s => match kd, as with
    | 2, .inr (.inr (some (t, c))) :: as' => (match Nat.beq (tc t) (mcl y) with
      | true => True ∧ smC md y (.inr (.inr (some (t, c))) :: as') m (fun v m' => match v with
        | some w => K n ls (w :: s) m'
        | none => K n ls s m')
      | false => False)
    | 1, .inr (.inr (some (t, c))) :: as' => True ∧ smC md y (.inr (.inr (some (t, c))) :: as') m (fun v m' => match v with
        | some w => K n ls (w :: s) m'
        | none => K n ls s m')
    | 0, as => True ∧ smC md y as m (fun v m' => match v with
        | some w => K n ls (w :: s) m'
        | none => K n ls s m')
    | _, _ => False)
def sRet (i : Nat) (st : List SV) (Q : Option SV → Mem → Prop) (m : Mem) : Prop := match st with
  | [.inl x] => (match mR i with
    | some .int => True ∧ Q (some (vI x)) m
    | some .boolean => (x = 0 ∨ x = 1) ∧ Q (some (vI x)) m
    | some .byte => x.toInt8.toInt32 = x ∧ Q (some (vI x)) m
    | some .char => (x.toUInt32 % 65536).toInt32 = x ∧ Q (some (vI x)) m
    | _ => False)
  | _ => False
def st1 (md : Bool) (i : Nat) (e : Ent) (ls : List (Option SV)) (st : List SV) (m : Mem) (Q : Option SV → Mem → Prop) (K : Kt) : Prop := match e with
  | (_, ins, n, r1, r2, r3, _, c, cl, ts) => match ins with
    | .aconst_null => K n ls (vR none :: st) m
    | .aload j => sLoad (ldL ls j) K n ls st m 2
    | .aload_n j => sLoad (ldL ls j.val) K n ls st m 2
    | .iload j => sLoad (ldL ls j) K n ls st m 0
    | .iload_n j => sLoad (ldL ls j.val) K n ls st m 0
    | .lload j => sLoad (ldL ls j) K n ls st m 1
    | .lload_n j => sLoad (ldL ls j.val) K n ls st m 1
    | .astore j => sStore st K n ls m 2 j
    | .astore_n j => sStore st K n ls m 2 j.val
    | .istore j => sStore st K n ls m 0 j
    | .istore_n j => sStore st K n ls m 0 j.val
    | .lstore j => sStore st K n ls m 1 j
    | .lstore_n j => sStore st K n ls m 1 j.val
    | .iconst _ => K n ls (vI c :: st) m
    | .bipush _ => K n ls (vI c :: st) m
    | .sipush _ => K n ls (vI c :: st) m
    | .lconst _ => K n ls (vL cl :: st) m
    | .ldc2_w _ => K n ls (vL cl :: st) m
    | .ldc _ => (match r1 with
      | 0 => K n ls (vI c :: st) m
      | _ => K n ls (vR (some (61, r2)) :: st) m)
    | .ldc_w _ => (match r1 with
      | 0 => K n ls (vI c :: st) m
      | _ => K n ls (vR (some (61, r2)) :: st) m)
    | .dup => sDup st K n ls m
    | .dup2 => sDup2 st K n ls m
    | .dup_x1 => sDupX1 st K n ls m
    | .pop => sPop st K n ls m
    | .iadd => sBin (fun x y => x + y) st K n ls m
    | .isub => sBin (fun x y => x - y) st K n ls m
    | .imul => sBin (fun x y => x * y) st K n ls m
    | .iand => sBin (fun x y => x &&& y) st K n ls m
    | .ixor => sBin (fun x y => x ^^^ y) st K n ls m
    | .ishr => sBin (fun x y => x >>> (y &&& 31)) st K n ls m
    | .ishl => sBin (fun x y => x <<< (y &&& 31)) st K n ls m
    | .iushr => sBin (fun x y => (x.toUInt32 >>> (y.toUInt32 &&& Int32.toUInt32 31)).toInt32) st K n ls m
    | .idiv => sBinD (fun x y => x / y) st K n ls m
    | .irem => sBinD (fun x y => x - x / y * y) st K n ls m
    | .ineg => sUn (fun x => -x) st K n ls m
    | .i2b => sUn (fun x => x.toInt8.toInt32) st K n ls m
    | .i2c => sUn (fun x => (x.toUInt32 % 65536).toInt32) st K n ls m
    | .i2l => (match st with
      | .inl x :: s => K n ls (vL x.toInt64 :: s) m
      | _ => False)
    | .l2i => (match st with
      | .inr (.inl x) :: s => K n ls (vI x.toInt32 :: s) m
      | _ => False)
    | .ladd => sBinL (fun x y => x + y) st K n ls m
    | .lmul => sBinL (fun x y => x * y) st K n ls m
    | .ldiv => (match st with
      | .inr (.inl y) :: .inr (.inl x) :: s => ¬ y = 0 ∧ K n ls (vL (x / y) :: s) m
      | _ => False)
    | .lcmp => (match st with
      | .inr (.inl y) :: .inr (.inl x) :: s => K n ls (vI (lg_cmp x y) :: s) m
      | _ => False)
    | .iinc j _ => (match ldL ls j with
      | some (.inl x) => stL ls j (vI (x + c)) (fun l' => K n l' st m)
      | _ => False)
    | .goto _ => K r1 ls st m
    | .ifCond cc _ => sIf cc st K r1 n ls m
    | .if_icmp cc _ => sCmp cc st K r1 n ls m
    | .ifnull _ => sNull true st K r1 n ls m
    | .ifnonnull _ => sNull false st K r1 n ls m
    | .tableswitch _ lo hi _ => (match st with
      | .inl x :: s => tsw x ts (fun p => K p ls s m) (x.toInt < lo ∨ hi < x.toInt → K r1 ls s m)
      | _ => False)
    | .getfield _ => sGet md st K n ls m r1 r2 r3
    | .putfield _ => sPut md st K n ls m r1 r2 r3
    | .getstatic _ => sStat r1 r2 st K n ls m
    | .arraylength => sLen st K n ls m
    | .iaload => sAld 1 st K n ls m
    | .baload => sAld 2 st K n ls m
    | .iastore => sAst 1 st K n ls m
    | .bastore => sAst 2 st K n ls m
    | .aaload => sAald md st K n ls m
    | .aastore => sAast md st K n ls m
    | .new _ => sNew md r1 r2 st K n ls m
    | .newarray .int => sNewa md 1 r2 st K n ls m
    | .newarray .byte => sNewa md 2 r2 st K n ls m
    | .anewarray _ => sNewa md 3 r2 st K n ls m
    | .invokestatic _ => sCall md i 0 r1 r2 st K n ls m
    | .invokespecial _ => sCall md i 1 r1 r2 st K n ls m
    | .invokevirtual _ => sCall md i 2 r1 r2 st K n ls m
    | .ireturn => sRet i st Q m
    | .lreturn => (match st with
      | [.inr (.inl x)] => True ∧ Q (some (vL x)) m
      | _ => False)
    | .areturn => (match st with
      | [.inr (.inr r)] => True ∧ Q (some (vR r)) m
      | _ => False)
    | .return_ => (match st with
      | [] => True ∧ Q none m
      | _ => False)
    | _ => False
/-- the walk: stops at the places of 'stops' and asks there for the judgement itself -/
def wp (md : Bool) (i : Nat) (cc : List (Nat × List Ent)) (stops : List Nat) (Q : Option SV → Mem → Prop) : Nat → Nat → List (Option SV) → List SV → Mem → Prop
  | 0, _, _, _, _ => False
  | f + 1, pc, ls, st, m => match stops.elem pc with
    | true => True ∧ smE md i pc ls st m Q
    | false => (match fnd2 cc pc with
      | some e => st1 md i e ls st m Q (fun p' l' s' m' => wp md i cc stops Q f p' l' s' m')
      | none => False)
/-- its first step, where the place itself is a stop -/
def wp1 (md : Bool) (i : Nat) (cc : List (Nat × List Ent)) (stops : List Nat) (Q : Option SV → Mem → Prop) (f pc : Nat) (ls : List (Option SV)) (st : List SV) (m : Mem) : Prop := match fnd2 cc pc with
  | some e => st1 md i e ls st m Q (fun p' l' s' m' => wp md i cc stops Q f p' l' s' m')
  | none => False
end
