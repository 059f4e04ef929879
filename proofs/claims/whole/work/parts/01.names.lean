/-- a private method of a class that the tables say can be made, by its rows of tables_1 -/
def lw_okq (q : MethodName × Nat) : Prop := (q.1.cls ≠ "java/lang/invoke/MethodHandle" ∧ q.1.cls ≠ "java/lang/invoke/VarHandle") ∧ Cond.instantiable q.1.cls q.2 ∈ tables_1 ∧ Cond.privateMethod q.1 ∈ tables_1 ∧ Cond.instanceMethod q.1 ∈ tables_1
theorem lw_p0 : lw_okq (⟨"SlopeJudge$Ground", "begin", "(II)V"⟩, 15) := ⟨⟨by decide +kernel, by decide +kernel⟩, List.mem_of_getElem? (i := 27) (by decide +kernel), List.mem_of_getElem? (i := 317) (by decide +kernel), List.mem_of_getElem? (i := 318) (by decide +kernel)⟩
theorem lw_p1 : lw_okq (⟨"SlopeJudge$Slip", "drop", "()V"⟩, 4) := ⟨⟨by decide +kernel, by decide +kernel⟩, List.mem_of_getElem? (i := 33) (by decide +kernel), List.mem_of_getElem? (i := 324) (by decide +kernel), List.mem_of_getElem? (i := 325) (by decide +kernel)⟩
theorem lw_p2 : lw_okq (⟨"SlopeJudge", "keepAct", "()V"⟩, 15) := ⟨⟨by decide +kernel, by decide +kernel⟩, List.mem_of_getElem? (i := 19) (by decide +kernel), List.mem_of_getElem? (i := 378) (by decide +kernel), List.mem_of_getElem? (i := 379) (by decide +kernel)⟩
theorem lw_p3 : lw_okq (⟨"SlopeJudge$Ground", "copy", "(LSlopeJudge$Ground;)V"⟩, 15) := ⟨⟨by decide +kernel, by decide +kernel⟩, List.mem_of_getElem? (i := 27) (by decide +kernel), List.mem_of_getElem? (i := 382) (by decide +kernel), List.mem_of_getElem? (i := 383) (by decide +kernel)⟩
theorem lw_p4 : lw_okq (⟨"SlopeJudge$Slip", "copy", "(LSlopeJudge$Slip;)V"⟩, 4) := ⟨⟨by decide +kernel, by decide +kernel⟩, List.mem_of_getElem? (i := 33) (by decide +kernel), List.mem_of_getElem? (i := 389) (by decide +kernel), List.mem_of_getElem? (i := 390) (by decide +kernel)⟩
theorem lw_p5 : lw_okq (⟨"SlopeJudge$Ground", "hasColumn", "(I)Z"⟩, 15) := ⟨⟨by decide +kernel, by decide +kernel⟩, List.mem_of_getElem? (i := 27) (by decide +kernel), List.mem_of_getElem? (i := 398) (by decide +kernel), List.mem_of_getElem? (i := 399) (by decide +kernel)⟩
theorem lw_p6 : lw_okq (⟨"SlopeJudge", "tellRock", "(II)Z"⟩, 15) := ⟨⟨by decide +kernel, by decide +kernel⟩, List.mem_of_getElem? (i := 19) (by decide +kernel), List.mem_of_getElem? (i := 402) (by decide +kernel), List.mem_of_getElem? (i := 403) (by decide +kernel)⟩
theorem lw_p7 : lw_okq (⟨"SlopeJudge$Ground", "canLowe\x72", "(II)Z"⟩, 15) := ⟨⟨by decide +kernel, by decide +kernel⟩, List.mem_of_getElem? (i := 27) (by decide +kernel), List.mem_of_getElem? (i := 414) (by decide +kernel), List.mem_of_getElem? (i := 415) (by decide +kernel)⟩
theorem lw_p8 : lw_okq (⟨"SlopeJudge$Tape", "put", "(I)V"⟩, 8) := ⟨⟨by decide +kernel, by decide +kernel⟩, List.mem_of_getElem? (i := 195) (by decide +kernel), List.mem_of_getElem? (i := 436) (by decide +kernel), List.mem_of_getElem? (i := 437) (by decide +kernel)⟩
theorem lw_p9 : lw_okq (⟨"SlopeJudge$Tape", "read", "(LSlopeJudge$Ground;)I"⟩, 8) := ⟨⟨by decide +kernel, by decide +kernel⟩, List.mem_of_getElem? (i := 195) (by decide +kernel), List.mem_of_getElem? (i := 448) (by decide +kernel), List.mem_of_getElem? (i := 449) (by decide +kernel)⟩
theorem lw_p10 : lw_okq (⟨"SlopeJudge$Tape", "skip", "()V"⟩, 8) := ⟨⟨by decide +kernel, by decide +kernel⟩, List.mem_of_getElem? (i := 195) (by decide +kernel), List.mem_of_getElem? (i := 452) (by decide +kernel), List.mem_of_getElem? (i := 453) (by decide +kernel)⟩
theorem lw_p11 : lw_okq (⟨"SlopeJudge$Tape", "readColumns", "(LSlopeJudge$Ground;)Z"⟩, 8) := ⟨⟨by decide +kernel, by decide +kernel⟩, List.mem_of_getElem? (i := 195) (by decide +kernel), List.mem_of_getElem? (i := 456) (by decide +kernel), List.mem_of_getElem? (i := 457) (by decide +kernel)⟩
theorem lw_p12 : lw_okq (⟨"SlopeJudge$Tape", "readWord", "()V"⟩, 8) := ⟨⟨by decide +kernel, by decide +kernel⟩, List.mem_of_getElem? (i := 195) (by decide +kernel), List.mem_of_getElem? (i := 460) (by decide +kernel), List.mem_of_getElem? (i := 461) (by decide +kernel)⟩
theorem lw_p13 : lw_okq (⟨"SlopeJudge$Tape", "seesFrom", "(II)Z"⟩, 8) := ⟨⟨by decide +kernel, by decide +kernel⟩, List.mem_of_getElem? (i := 195) (by decide +kernel), List.mem_of_getElem? (i := 464) (by decide +kernel), List.mem_of_getElem? (i := 465) (by decide +kernel)⟩
theorem lw_p14 : lw_okq (⟨"SlopeJudge$Tape", "isWord", "(Ljava/lang/String;)Z"⟩, 8) := ⟨⟨by decide +kernel, by decide +kernel⟩, List.mem_of_getElem? (i := 195) (by decide +kernel), List.mem_of_getElem? (i := 469) (by decide +kernel), List.mem_of_getElem? (i := 470) (by decide +kernel)⟩
theorem lw_p15 : lw_okq (⟨"SlopeJudge$Tape", "fail", "(II)I"⟩, 8) := ⟨⟨by decide +kernel, by decide +kernel⟩, List.mem_of_getElem? (i := 195) (by decide +kernel), List.mem_of_getElem? (i := 521) (by decide +kernel), List.mem_of_getElem? (i := 522) (by decide +kernel)⟩
def lw_privs_1 : List (MethodName × Nat) := [(⟨"SlopeJudge$Ground", "begin", "(II)V"⟩, 15), (⟨"SlopeJudge$Slip", "drop", "()V"⟩, 4), (⟨"SlopeJudge", "keepAct", "()V"⟩, 15), (⟨"SlopeJudge$Ground", "copy", "(LSlopeJudge$Ground;)V"⟩, 15), (⟨"SlopeJudge$Slip", "copy", "(LSlopeJudge$Slip;)V"⟩, 4), (⟨"SlopeJudge$Ground", "hasColumn", "(I)Z"⟩, 15), (⟨"SlopeJudge", "tellRock", "(II)Z"⟩, 15), (⟨"SlopeJudge$Ground", "canLowe\x72", "(II)Z"⟩, 15), (⟨"SlopeJudge$Tape", "put", "(I)V"⟩, 8), (⟨"SlopeJudge$Tape", "read", "(LSlopeJudge$Ground;)I"⟩, 8), (⟨"SlopeJudge$Tape", "skip", "()V"⟩, 8), (⟨"SlopeJudge$Tape", "readColumns", "(LSlopeJudge$Ground;)Z"⟩, 8), (⟨"SlopeJudge$Tape", "readWord", "()V"⟩, 8), (⟨"SlopeJudge$Tape", "seesFrom", "(II)Z"⟩, 8), (⟨"SlopeJudge$Tape", "isWord", "(Ljava/lang/String;)Z"⟩, 8), (⟨"SlopeJudge$Tape", "fail", "(II)I"⟩, 8)]
theorem lw_r1 : ∀ q ∈ lw_privs_1, lw_okq q := List.forall_mem_cons.mpr ⟨lw_p0, List.forall_mem_cons.mpr ⟨lw_p1, List.forall_mem_cons.mpr ⟨lw_p2, List.forall_mem_cons.mpr ⟨lw_p3, List.forall_mem_cons.mpr ⟨lw_p4, List.forall_mem_cons.mpr ⟨lw_p5, List.forall_mem_cons.mpr ⟨lw_p6, List.forall_mem_cons.mpr ⟨lw_p7, List.forall_mem_cons.mpr ⟨lw_p8, List.forall_mem_cons.mpr ⟨lw_p9, List.forall_mem_cons.mpr ⟨lw_p10, List.forall_mem_cons.mpr ⟨lw_p11, List.forall_mem_cons.mpr ⟨lw_p12, List.forall_mem_cons.mpr ⟨lw_p13, List.forall_mem_cons.mpr ⟨lw_p14, List.forall_mem_cons.mpr ⟨lw_p15, fun _ h => absurd h List.not_mem_nil⟩⟩⟩⟩⟩⟩⟩⟩⟩⟩⟩⟩⟩⟩⟩⟩
theorem lw_p16 : lw_okq (⟨"SlopeJudge$Tape", "readNumbe\x72", "(II)I"⟩, 8) := ⟨⟨by decide +kernel, by decide +kernel⟩, List.mem_of_getElem? (i := 195) (by decide +kernel), List.mem_of_getElem? (i := 525) (by decide +kernel), List.mem_of_getElem? (i := 526) (by decide +kernel)⟩
theorem lw_p17 : lw_okq (⟨"SlopeJudge$Tape", "readEnd", "()Z"⟩, 8) := ⟨⟨by decide +kernel, by decide +kernel⟩, List.mem_of_getElem? (i := 195) (by decide +kernel), List.mem_of_getElem? (i := 534) (by decide +kernel), List.mem_of_getElem? (i := 535) (by decide +kernel)⟩
theorem lw_p18 : lw_okq (⟨"SlopeJudge$Tape", "sees", "(I)Z"⟩, 8) := ⟨⟨by decide +kernel, by decide +kernel⟩, List.mem_of_getElem? (i := 195) (by decide +kernel), List.mem_of_getElem? (i := 538) (by decide +kernel), List.mem_of_getElem? (i := 539) (by decide +kernel)⟩
theorem lw_p19 : lw_okq (⟨"SlopeJudge$Tape", "readLine", "(LSlopeJudge$Ground;)Z"⟩, 8) := ⟨⟨by decide +kernel, by decide +kernel⟩, List.mem_of_getElem? (i := 195) (by decide +kernel), List.mem_of_getElem? (i := 542) (by decide +kernel), List.mem_of_getElem? (i := 543) (by decide +kernel)⟩
theorem lw_p20 : lw_okq (⟨"SlopeJudge$Tape", "lineKind", "()I"⟩, 8) := ⟨⟨by decide +kernel, by decide +kernel⟩, List.mem_of_getElem? (i := 195) (by decide +kernel), List.mem_of_getElem? (i := 546) (by decide +kernel), List.mem_of_getElem? (i := 547) (by decide +kernel)⟩
theorem lw_p21 : lw_okq (⟨"SlopeJudge$Tape", "isNew", "(I)Z"⟩, 8) := ⟨⟨by decide +kernel, by decide +kernel⟩, List.mem_of_getElem? (i := 195) (by decide +kernel), List.mem_of_getElem? (i := 558) (by decide +kernel), List.mem_of_getElem? (i := 559) (by decide +kernel)⟩
theorem lw_p22 : lw_okq (⟨"SlopeJudge$Tape", "readRow", "([IIII)Z"⟩, 8) := ⟨⟨by decide +kernel, by decide +kernel⟩, List.mem_of_getElem? (i := 195) (by decide +kernel), List.mem_of_getElem? (i := 562) (by decide +kernel), List.mem_of_getElem? (i := 563) (by decide +kernel)⟩
theorem lw_p23 : lw_okq (⟨"SlopeJudge$Tape", "readTimes", "(I)I"⟩, 8) := ⟨⟨by decide +kernel, by decide +kernel⟩, List.mem_of_getElem? (i := 195) (by decide +kernel), List.mem_of_getElem? (i := 566) (by decide +kernel), List.mem_of_getElem? (i := 567) (by decide +kernel)⟩
theorem lw_p24 : lw_okq (⟨"SlopeJudge$Tape", "readQuake", "(LSlopeJudge$Ground;)Z"⟩, 8) := ⟨⟨by decide +kernel, by decide +kernel⟩, List.mem_of_getElem? (i := 195) (by decide +kernel), List.mem_of_getElem? (i := 570) (by decide +kernel), List.mem_of_getElem? (i := 571) (by decide +kernel)⟩
theorem lw_p25 : lw_okq (⟨"SlopeJudge$Tape", "readTop", "(LSlopeJudge$Ground;)Z"⟩, 8) := ⟨⟨by decide +kernel, by decide +kernel⟩, List.mem_of_getElem? (i := 195) (by decide +kernel), List.mem_of_getElem? (i := 574) (by decide +kernel), List.mem_of_getElem? (i := 575) (by decide +kernel)⟩
theorem lw_p26 : lw_okq (⟨"SlopeJudge$Tape", "readSoil", "(LSlopeJudge$Ground;)Z"⟩, 8) := ⟨⟨by decide +kernel, by decide +kernel⟩, List.mem_of_getElem? (i := 195) (by decide +kernel), List.mem_of_getElem? (i := 579) (by decide +kernel), List.mem_of_getElem? (i := 580) (by decide +kernel)⟩
theorem lw_p27 : lw_okq (⟨"SlopeJudge$Tape", "readAncho\x72", "(LSlopeJudge$Ground;)Z"⟩, 8) := ⟨⟨by decide +kernel, by decide +kernel⟩, List.mem_of_getElem? (i := 195) (by decide +kernel), List.mem_of_getElem? (i := 583) (by decide +kernel), List.mem_of_getElem? (i := 584) (by decide +kernel)⟩
theorem lw_p28 : lw_okq (⟨"SlopeJudge$Ground", "rockIsBelow", "()Z"⟩, 15) := ⟨⟨by decide +kernel, by decide +kernel⟩, List.mem_of_getElem? (i := 27) (by decide +kernel), List.mem_of_getElem? (i := 587) (by decide +kernel), List.mem_of_getElem? (i := 588) (by decide +kernel)⟩
theorem lw_p29 : lw_okq (⟨"SlopeJudge$Slip", "cut", "(LSlopeJudge$Ground;IIIZ)Z"⟩, 4) := ⟨⟨by decide +kernel, by decide +kernel⟩, List.mem_of_getElem? (i := 33) (by decide +kernel), List.mem_of_getElem? (i := 603) (by decide +kernel), List.mem_of_getElem? (i := 604) (by decide +kernel)⟩
theorem lw_p30 : lw_okq (⟨"SlopeJudge$Slip", "span", "(LSlopeJudge$Ground;IIZ)V"⟩, 4) := ⟨⟨by decide +kernel, by decide +kernel⟩, List.mem_of_getElem? (i := 33) (by decide +kernel), List.mem_of_getElem? (i := 613) (by decide +kernel), List.mem_of_getElem? (i := 614) (by decide +kernel)⟩
theorem lw_p31 : lw_okq (⟨"SlopeJudge", "takeTrial", "()I"⟩, 15) := ⟨⟨by decide +kernel, by decide +kernel⟩, List.mem_of_getElem? (i := 19) (by decide +kernel), List.mem_of_getElem? (i := 617) (by decide +kernel), List.mem_of_getElem? (i := 618) (by decide +kernel)⟩
def lw_privs_2 : List (MethodName × Nat) := [(⟨"SlopeJudge$Tape", "readNumbe\x72", "(II)I"⟩, 8), (⟨"SlopeJudge$Tape", "readEnd", "()Z"⟩, 8), (⟨"SlopeJudge$Tape", "sees", "(I)Z"⟩, 8), (⟨"SlopeJudge$Tape", "readLine", "(LSlopeJudge$Ground;)Z"⟩, 8), (⟨"SlopeJudge$Tape", "lineKind", "()I"⟩, 8), (⟨"SlopeJudge$Tape", "isNew", "(I)Z"⟩, 8), (⟨"SlopeJudge$Tape", "readRow", "([IIII)Z"⟩, 8), (⟨"SlopeJudge$Tape", "readTimes", "(I)I"⟩, 8), (⟨"SlopeJudge$Tape", "readQuake", "(LSlopeJudge$Ground;)Z"⟩, 8), (⟨"SlopeJudge$Tape", "readTop", "(LSlopeJudge$Ground;)Z"⟩, 8), (⟨"SlopeJudge$Tape", "readSoil", "(LSlopeJudge$Ground;)Z"⟩, 8), (⟨"SlopeJudge$Tape", "readAncho\x72", "(LSlopeJudge$Ground;)Z"⟩, 8), (⟨"SlopeJudge$Ground", "rockIsBelow", "()Z"⟩, 15), (⟨"SlopeJudge$Slip", "cut", "(LSlopeJudge$Ground;IIIZ)Z"⟩, 4), (⟨"SlopeJudge$Slip", "span", "(LSlopeJudge$Ground;IIZ)V"⟩, 4), (⟨"SlopeJudge", "takeTrial", "()I"⟩, 15)]
theorem lw_r2 : ∀ q ∈ lw_privs_2, lw_okq q := List.forall_mem_cons.mpr ⟨lw_p16, List.forall_mem_cons.mpr ⟨lw_p17, List.forall_mem_cons.mpr ⟨lw_p18, List.forall_mem_cons.mpr ⟨lw_p19, List.forall_mem_cons.mpr ⟨lw_p20, List.forall_mem_cons.mpr ⟨lw_p21, List.forall_mem_cons.mpr ⟨lw_p22, List.forall_mem_cons.mpr ⟨lw_p23, List.forall_mem_cons.mpr ⟨lw_p24, List.forall_mem_cons.mpr ⟨lw_p25, List.forall_mem_cons.mpr ⟨lw_p26, List.forall_mem_cons.mpr ⟨lw_p27, List.forall_mem_cons.mpr ⟨lw_p28, List.forall_mem_cons.mpr ⟨lw_p29, List.forall_mem_cons.mpr ⟨lw_p30, List.forall_mem_cons.mpr ⟨lw_p31, fun _ h => absurd h List.not_mem_nil⟩⟩⟩⟩⟩⟩⟩⟩⟩⟩⟩⟩⟩⟩⟩⟩
theorem lw_p32 : lw_okq (⟨"SlopeJudge$Slip", "count", "()I"⟩, 4) := ⟨⟨by decide +kernel, by decide +kernel⟩, List.mem_of_getElem? (i := 33) (by decide +kernel), List.mem_of_getElem? (i := 622) (by decide +kernel), List.mem_of_getElem? (i := 623) (by decide +kernel)⟩
theorem lw_p33 : lw_okq (⟨"SlopeJudge$Slip", "follow", "(LSlopeJudge$Ground;LSlopeJudge$Held;Z)Z"⟩, 4) := ⟨⟨by decide +kernel, by decide +kernel⟩, List.mem_of_getElem? (i := 33) (by decide +kernel), List.mem_of_getElem? (i := 634) (by decide +kernel), List.mem_of_getElem? (i := 635) (by decide +kernel)⟩
theorem lw_p34 : lw_okq (⟨"SlopeJudge", "tableOf", "(IZ)LSlopeJudge$Table;"⟩, 15) := ⟨⟨by decide +kernel, by decide +kernel⟩, List.mem_of_getElem? (i := 19) (by decide +kernel), List.mem_of_getElem? (i := 648) (by decide +kernel), List.mem_of_getElem? (i := 649) (by decide +kernel)⟩
theorem lw_p35 : lw_okq (⟨"SlopeJudge$Table", "judge", "(LSlopeJudge$Ground;IZ)V"⟩, 14) := ⟨⟨by decide +kernel, by decide +kernel⟩, List.mem_of_getElem? (i := 652) (by decide +kernel), List.mem_of_getElem? (i := 705) (by decide +kernel), List.mem_of_getElem? (i := 706) (by decide +kernel)⟩
theorem lw_p36 : lw_okq (⟨"SlopeJudge$Table", "weighAll", "()V"⟩, 14) := ⟨⟨by decide +kernel, by decide +kernel⟩, List.mem_of_getElem? (i := 652) (by decide +kernel), List.mem_of_getElem? (i := 710) (by decide +kernel), List.mem_of_getElem? (i := 711) (by decide +kernel)⟩
theorem lw_p37 : lw_okq (⟨"SlopeJudge$Ground", "weightOn", "(II)I"⟩, 15) := ⟨⟨by decide +kernel, by decide +kernel⟩, List.mem_of_getElem? (i := 27) (by decide +kernel), List.mem_of_getElem? (i := 714) (by decide +kernel), List.mem_of_getElem? (i := 715) (by decide +kernel)⟩
theorem lw_p38 : lw_okq (⟨"SlopeJudge$Table", "sweep", "(IZ)V"⟩, 14) := ⟨⟨by decide +kernel, by decide +kernel⟩, List.mem_of_getElem? (i := 652) (by decide +kernel), List.mem_of_getElem? (i := 721) (by decide +kernel), List.mem_of_getElem? (i := 722) (by decide +kernel)⟩
theorem lw_p39 : lw_okq (⟨"SlopeJudge$Table", "addTops", "(I)V"⟩, 14) := ⟨⟨by decide +kernel, by decide +kernel⟩, List.mem_of_getElem? (i := 652) (by decide +kernel), List.mem_of_getElem? (i := 726) (by decide +kernel), List.mem_of_getElem? (i := 727) (by decide +kernel)⟩
theorem lw_p40 : lw_okq (⟨"SlopeJudge$Ground", "topAt", "(II)I"⟩, 15) := ⟨⟨by decide +kernel, by decide +kernel⟩, List.mem_of_getElem? (i := 27) (by decide +kernel), List.mem_of_getElem? (i := 730) (by decide +kernel), List.mem_of_getElem? (i := 731) (by decide +kernel)⟩
theorem lw_p41 : lw_okq (⟨"SlopeJudge$Table", "stepOn", "(II)V"⟩, 14) := ⟨⟨by decide +kernel, by decide +kernel⟩, List.mem_of_getElem? (i := 652) (by decide +kernel), List.mem_of_getElem? (i := 734) (by decide +kernel), List.mem_of_getElem? (i := 735) (by decide +kernel)⟩
theorem lw_p42 : lw_okq (⟨"SlopeJudge$Table", "leftOve\x72", "(III)J"⟩, 14) := ⟨⟨by decide +kernel, by decide +kernel⟩, List.mem_of_getElem? (i := 652) (by decide +kernel), List.mem_of_getElem? (i := 740) (by decide +kernel), List.mem_of_getElem? (i := 741) (by decide +kernel)⟩
theorem lw_p43 : lw_okq (⟨"SlopeJudge$Ground", "headOn", "(II)I"⟩, 15) := ⟨⟨by decide +kernel, by decide +kernel⟩, List.mem_of_getElem? (i := 27) (by decide +kernel), List.mem_of_getElem? (i := 744) (by decide +kernel), List.mem_of_getElem? (i := 745) (by decide +kernel)⟩
theorem lw_p44 : lw_okq (⟨"SlopeJudge$Table", "close", "(IIJ)V"⟩, 14) := ⟨⟨by decide +kernel, by decide +kernel⟩, List.mem_of_getElem? (i := 652) (by decide +kernel), List.mem_of_getElem? (i := 750) (by decide +kernel), List.mem_of_getElem? (i := 751) (by decide +kernel)⟩
theorem lw_p45 : lw_okq (⟨"SlopeJudge$Table", "pass", "(IIJ)V"⟩, 14) := ⟨⟨by decide +kernel, by decide +kernel⟩, List.mem_of_getElem? (i := 652) (by decide +kernel), List.mem_of_getElem? (i := 754) (by decide +kernel), List.mem_of_getElem? (i := 755) (by decide +kernel)⟩
theorem lw_p46 : lw_okq (⟨"SlopeJudge$Table", "goBack", "()V"⟩, 14) := ⟨⟨by decide +kernel, by decide +kernel⟩, List.mem_of_getElem? (i := 652) (by decide +kernel), List.mem_of_getElem? (i := 758) (by decide +kernel), List.mem_of_getElem? (i := 759) (by decide +kernel)⟩
theorem lw_p47 : lw_okq (⟨"SlopeJudge$Slip", "isNone", "()Z"⟩, 4) := ⟨⟨by decide +kernel, by decide +kernel⟩, List.mem_of_getElem? (i := 33) (by decide +kernel), List.mem_of_getElem? (i := 763) (by decide +kernel), List.mem_of_getElem? (i := 764) (by decide +kernel)⟩
def lw_privs_3 : List (MethodName × Nat) := [(⟨"SlopeJudge$Slip", "count", "()I"⟩, 4), (⟨"SlopeJudge$Slip", "follow", "(LSlopeJudge$Ground;LSlopeJudge$Held;Z)Z"⟩, 4), (⟨"SlopeJudge", "tableOf", "(IZ)LSlopeJudge$Table;"⟩, 15), (⟨"SlopeJudge$Table", "judge", "(LSlopeJudge$Ground;IZ)V"⟩, 14), (⟨"SlopeJudge$Table", "weighAll", "()V"⟩, 14), (⟨"SlopeJudge$Ground", "weightOn", "(II)I"⟩, 15), (⟨"SlopeJudge$Table", "sweep", "(IZ)V"⟩, 14), (⟨"SlopeJudge$Table", "addTops", "(I)V"⟩, 14), (⟨"SlopeJudge$Ground", "topAt", "(II)I"⟩, 15), (⟨"SlopeJudge$Table", "stepOn", "(II)V"⟩, 14), (⟨"SlopeJudge$Table", "leftOve\x72", "(III)J"⟩, 14), (⟨"SlopeJudge$Ground", "headOn", "(II)I"⟩, 15), (⟨"SlopeJudge$Table", "close", "(IIJ)V"⟩, 14), (⟨"SlopeJudge$Table", "pass", "(IIJ)V"⟩, 14), (⟨"SlopeJudge$Table", "goBack", "()V"⟩, 14), (⟨"SlopeJudge$Slip", "isNone", "()Z"⟩, 4)]
theorem lw_r3 : ∀ q ∈ lw_privs_3, lw_okq q := List.forall_mem_cons.mpr ⟨lw_p32, List.forall_mem_cons.mpr ⟨lw_p33, List.forall_mem_cons.mpr ⟨lw_p34, List.forall_mem_cons.mpr ⟨lw_p35, List.forall_mem_cons.mpr ⟨lw_p36, List.forall_mem_cons.mpr ⟨lw_p37, List.forall_mem_cons.mpr ⟨lw_p38, List.forall_mem_cons.mpr ⟨lw_p39, List.forall_mem_cons.mpr ⟨lw_p40, List.forall_mem_cons.mpr ⟨lw_p41, List.forall_mem_cons.mpr ⟨lw_p42, List.forall_mem_cons.mpr ⟨lw_p43, List.forall_mem_cons.mpr ⟨lw_p44, List.forall_mem_cons.mpr ⟨lw_p45, List.forall_mem_cons.mpr ⟨lw_p46, List.forall_mem_cons.mpr ⟨lw_p47, fun _ h => absurd h List.not_mem_nil⟩⟩⟩⟩⟩⟩⟩⟩⟩⟩⟩⟩⟩⟩⟩⟩
theorem lw_p48 : lw_okq (⟨"SlopeJudge$Ground", "turn", "()V"⟩, 15) := ⟨⟨by decide +kernel, by decide +kernel⟩, List.mem_of_getElem? (i := 27) (by decide +kernel), List.mem_of_getElem? (i := 771) (by decide +kernel), List.mem_of_getElem? (i := 772) (by decide +kernel)⟩
theorem lw_p49 : lw_okq (⟨"SlopeJudge$Ground", "turnRow", "([II)V"⟩, 15) := ⟨⟨by decide +kernel, by decide +kernel⟩, List.mem_of_getElem? (i := 27) (by decide +kernel), List.mem_of_getElem? (i := 775) (by decide +kernel), List.mem_of_getElem? (i := 776) (by decide +kernel)⟩
theorem lw_p50 : lw_okq (⟨"SlopeJudge$Held", "copy", "(LSlopeJudge$Held;)V"⟩, 4) := ⟨⟨by decide +kernel, by decide +kernel⟩, List.mem_of_getElem? (i := 153) (by decide +kernel), List.mem_of_getElem? (i := 788) (by decide +kernel), List.mem_of_getElem? (i := 789) (by decide +kernel)⟩
theorem lw_p51 : lw_okq (⟨"SlopeJudge$Ground", "waterAt", "(I)I"⟩, 15) := ⟨⟨by decide +kernel, by decide +kernel⟩, List.mem_of_getElem? (i := 27) (by decide +kernel), List.mem_of_getElem? (i := 797) (by decide +kernel), List.mem_of_getElem? (i := 798) (by decide +kernel)⟩
theorem lw_p52 : lw_okq (⟨"SlopeJudge$Slip", "baseAt", "(I)I"⟩, 4) := ⟨⟨by decide +kernel, by decide +kernel⟩, List.mem_of_getElem? (i := 33) (by decide +kernel), List.mem_of_getElem? (i := 802) (by decide +kernel), List.mem_of_getElem? (i := 803) (by decide +kernel)⟩
theorem lw_p53 : lw_okq (⟨"SlopeJudge$Ground", "anchorCounts", "(ILSlopeJudge$Slip;)Z"⟩, 15) := ⟨⟨by decide +kernel, by decide +kernel⟩, List.mem_of_getElem? (i := 27) (by decide +kernel), List.mem_of_getElem? (i := 815) (by decide +kernel), List.mem_of_getElem? (i := 816) (by decide +kernel)⟩
theorem lw_p54 : lw_okq (⟨"SlopeJudge$Ground", "anchorSet", "()I"⟩, 15) := ⟨⟨by decide +kernel, by decide +kernel⟩, List.mem_of_getElem? (i := 27) (by decide +kernel), List.mem_of_getElem? (i := 823) (by decide +kernel), List.mem_of_getElem? (i := 824) (by decide +kernel)⟩
theorem lw_p55 : lw_okq (⟨"SlopeJudge$Ground", "greatestGround", "()I"⟩, 15) := ⟨⟨by decide +kernel, by decide +kernel⟩, List.mem_of_getElem? (i := 27) (by decide +kernel), List.mem_of_getElem? (i := 827) (by decide +kernel), List.mem_of_getElem? (i := 828) (by decide +kernel)⟩
theorem lw_p56 : lw_okq (⟨"SlopeJudge$Ground", "allSoil", "()I"⟩, 15) := ⟨⟨by decide +kernel, by decide +kernel⟩, List.mem_of_getElem? (i := 27) (by decide +kernel), List.mem_of_getElem? (i := 831) (by decide +kernel), List.mem_of_getElem? (i := 832) (by decide +kernel)⟩
theorem lw_p57 : lw_okq (⟨"SlopeJudge", "cutUp", "()Z"⟩, 15) := ⟨⟨by decide +kernel, by decide +kernel⟩, List.mem_of_getElem? (i := 19) (by decide +kernel), List.mem_of_getElem? (i := 839) (by decide +kernel), List.mem_of_getElem? (i := 840) (by decide +kernel)⟩
theorem lw_p58 : lw_okq (⟨"SlopeJudge$Slices", "weigh", "(LSlopeJudge$Ground;LSlopeJudge$Slip;)V"⟩, 11) := ⟨⟨by decide +kernel, by decide +kernel⟩, List.mem_of_getElem? (i := 229) (by decide +kernel), List.mem_of_getElem? (i := 843) (by decide +kernel), List.mem_of_getElem? (i := 844) (by decide +kernel)⟩
theorem lw_p59 : lw_okq (⟨"SlopeJudge$Ground", "pullsOn", "(LSlopeJudge$Slip;)J"⟩, 15) := ⟨⟨by decide +kernel, by decide +kernel⟩, List.mem_of_getElem? (i := 27) (by decide +kernel), List.mem_of_getElem? (i := 848) (by decide +kernel), List.mem_of_getElem? (i := 849) (by decide +kernel)⟩
theorem lw_p60 : lw_okq (⟨"SlopeJudge$Ground", "layerUnde\x72", "(II)I"⟩, 15) := ⟨⟨by decide +kernel, by decide +kernel⟩, List.mem_of_getElem? (i := 27) (by decide +kernel), List.mem_of_getElem? (i := 857) (by decide +kernel), List.mem_of_getElem? (i := 858) (by decide +kernel)⟩
theorem lw_p61 : lw_okq (⟨"SlopeJudge$Slices", "settle", "(LSlopeJudge$Ground;I)V"⟩, 11) := ⟨⟨by decide +kernel, by decide +kernel⟩, List.mem_of_getElem? (i := 229) (by decide +kernel), List.mem_of_getElem? (i := 862) (by decide +kernel), List.mem_of_getElem? (i := 863) (by decide +kernel)⟩
theorem lw_p62 : lw_okq (⟨"SlopeJudge$Slices", "press", "(I)I"⟩, 11) := ⟨⟨by decide +kernel, by decide +kernel⟩, List.mem_of_getElem? (i := 229) (by decide +kernel), List.mem_of_getElem? (i := 867) (by decide +kernel), List.mem_of_getElem? (i := 868) (by decide +kernel)⟩
theorem lw_p63 : lw_okq (⟨"SlopeJudge$Slices", "rubsOf", "(II)J"⟩, 11) := ⟨⟨by decide +kernel, by decide +kernel⟩, List.mem_of_getElem? (i := 229) (by decide +kernel), List.mem_of_getElem? (i := 883) (by decide +kernel), List.mem_of_getElem? (i := 884) (by decide +kernel)⟩
def lw_privs_4 : List (MethodName × Nat) := [(⟨"SlopeJudge$Ground", "turn", "()V"⟩, 15), (⟨"SlopeJudge$Ground", "turnRow", "([II)V"⟩, 15), (⟨"SlopeJudge$Held", "copy", "(LSlopeJudge$Held;)V"⟩, 4), (⟨"SlopeJudge$Ground", "waterAt", "(I)I"⟩, 15), (⟨"SlopeJudge$Slip", "baseAt", "(I)I"⟩, 4), (⟨"SlopeJudge$Ground", "anchorCounts", "(ILSlopeJudge$Slip;)Z"⟩, 15), (⟨"SlopeJudge$Ground", "anchorSet", "()I"⟩, 15), (⟨"SlopeJudge$Ground", "greatestGround", "()I"⟩, 15), (⟨"SlopeJudge$Ground", "allSoil", "()I"⟩, 15), (⟨"SlopeJudge", "cutUp", "()Z"⟩, 15), (⟨"SlopeJudge$Slices", "weigh", "(LSlopeJudge$Ground;LSlopeJudge$Slip;)V"⟩, 11), (⟨"SlopeJudge$Ground", "pullsOn", "(LSlopeJudge$Slip;)J"⟩, 15), (⟨"SlopeJudge$Ground", "layerUnde\x72", "(II)I"⟩, 15), (⟨"SlopeJudge$Slices", "settle", "(LSlopeJudge$Ground;I)V"⟩, 11), (⟨"SlopeJudge$Slices", "press", "(I)I"⟩, 11), (⟨"SlopeJudge$Slices", "rubsOf", "(II)J"⟩, 11)]
theorem lw_r4 : ∀ q ∈ lw_privs_4, lw_okq q := List.forall_mem_cons.mpr ⟨lw_p48, List.forall_mem_cons.mpr ⟨lw_p49, List.forall_mem_cons.mpr ⟨lw_p50, List.forall_mem_cons.mpr ⟨lw_p51, List.forall_mem_cons.mpr ⟨lw_p52, List.forall_mem_cons.mpr ⟨lw_p53, List.forall_mem_cons.mpr ⟨lw_p54, List.forall_mem_cons.mpr ⟨lw_p55, List.forall_mem_cons.mpr ⟨lw_p56, List.forall_mem_cons.mpr ⟨lw_p57, List.forall_mem_cons.mpr ⟨lw_p58, List.forall_mem_cons.mpr ⟨lw_p59, List.forall_mem_cons.mpr ⟨lw_p60, List.forall_mem_cons.mpr ⟨lw_p61, List.forall_mem_cons.mpr ⟨lw_p62, List.forall_mem_cons.mpr ⟨lw_p63, fun _ h => absurd h List.not_mem_nil⟩⟩⟩⟩⟩⟩⟩⟩⟩⟩⟩⟩⟩⟩⟩⟩
theorem lw_p64 : lw_okq (⟨"SlopeJudge$Slices", "hold", "(I)Z"⟩, 11) := ⟨⟨by decide +kernel, by decide +kernel⟩, List.mem_of_getElem? (i := 229) (by decide +kernel), List.mem_of_getElem? (i := 892) (by decide +kernel), List.mem_of_getElem? (i := 893) (by decide +kernel)⟩
theorem lw_p65 : lw_okq (⟨"SlopeJudge$Slices", "lack", "(I)J"⟩, 11) := ⟨⟨by decide +kernel, by decide +kernel⟩, List.mem_of_getElem? (i := 229) (by decide +kernel), List.mem_of_getElem? (i := 896) (by decide +kernel), List.mem_of_getElem? (i := 897) (by decide +kernel)⟩
theorem lw_p66 : lw_okq (⟨"SlopeJudge$Slices", "leastBound", "(I)I"⟩, 11) := ⟨⟨by decide +kernel, by decide +kernel⟩, List.mem_of_getElem? (i := 229) (by decide +kernel), List.mem_of_getElem? (i := 905) (by decide +kernel), List.mem_of_getElem? (i := 906) (by decide +kernel)⟩
theorem lw_p67 : lw_okq (⟨"SlopeJudge$Slices", "allPushes", "()J"⟩, 11) := ⟨⟨by decide +kernel, by decide +kernel⟩, List.mem_of_getElem? (i := 229) (by decide +kernel), List.mem_of_getElem? (i := 914) (by decide +kernel), List.mem_of_getElem? (i := 915) (by decide +kernel)⟩
theorem lw_p68 : lw_okq (⟨"SlopeJudge$Slices", "allWeights", "()J"⟩, 11) := ⟨⟨by decide +kernel, by decide +kernel⟩, List.mem_of_getElem? (i := 229) (by decide +kernel), List.mem_of_getElem? (i := 918) (by decide +kernel), List.mem_of_getElem? (i := 919) (by decide +kernel)⟩
theorem lw_p69 : lw_okq (⟨"SlopeJudge$Slices", "allLifts", "()J"⟩, 11) := ⟨⟨by decide +kernel, by decide +kernel⟩, List.mem_of_getElem? (i := 229) (by decide +kernel), List.mem_of_getElem? (i := 922) (by decide +kernel), List.mem_of_getElem? (i := 923) (by decide +kernel)⟩
theorem lw_p70 : lw_okq (⟨"SlopeJudge$Slices", "allStrengths", "()J"⟩, 11) := ⟨⟨by decide +kernel, by decide +kernel⟩, List.mem_of_getElem? (i := 229) (by decide +kernel), List.mem_of_getElem? (i := 926) (by decide +kernel), List.mem_of_getElem? (i := 927) (by decide +kernel)⟩
theorem lw_p71 : lw_okq (⟨"SlopeJudge$Ground", "dryUp", "()V"⟩, 15) := ⟨⟨by decide +kernel, by decide +kernel⟩, List.mem_of_getElem? (i := 27) (by decide +kernel), List.mem_of_getElem? (i := 934) (by decide +kernel), List.mem_of_getElem? (i := 935) (by decide +kernel)⟩
theorem lw_p72 : lw_okq (⟨"SlopeJudge$Ground", "raiseWate\x72", "()V"⟩, 15) := ⟨⟨by decide +kernel, by decide +kernel⟩, List.mem_of_getElem? (i := 27) (by decide +kernel), List.mem_of_getElem? (i := 942) (by decide +kernel), List.mem_of_getElem? (i := 943) (by decide +kernel)⟩
theorem lw_p73 : lw_okq (⟨"SlopeJudge$Slices", "burden", "(III)V"⟩, 11) := ⟨⟨by decide +kernel, by decide +kernel⟩, List.mem_of_getElem? (i := 229) (by decide +kernel), List.mem_of_getElem? (i := 961) (by decide +kernel), List.mem_of_getElem? (i := 962) (by decide +kernel)⟩
theorem lw_p74 : lw_okq (⟨"SlopeJudge$Ground", "slipArea", "()I"⟩, 15) := ⟨⟨by decide +kernel, by decide +kernel⟩, List.mem_of_getElem? (i := 27) (by decide +kernel), List.mem_of_getElem? (i := 969) (by decide +kernel), List.mem_of_getElem? (i := 970) (by decide +kernel)⟩
theorem lw_p75 : lw_okq (⟨"SlopeJudge$Ground", "thickAt", "(I)I"⟩, 15) := ⟨⟨by decide +kernel, by decide +kernel⟩, List.mem_of_getElem? (i := 27) (by decide +kernel), List.mem_of_getElem? (i := 973) (by decide +kernel), List.mem_of_getElem? (i := 974) (by decide +kernel)⟩
theorem lw_p76 : lw_okq (⟨"SlopeJudge$Ground", "thickest", "()I"⟩, 15) := ⟨⟨by decide +kernel, by decide +kernel⟩, List.mem_of_getElem? (i := 27) (by decide +kernel), List.mem_of_getElem? (i := 977) (by decide +kernel), List.mem_of_getElem? (i := 978) (by decide +kernel)⟩
theorem lw_p77 : lw_okq (⟨"SlopeJudge$Slip", "leastBase", "()I"⟩, 4) := ⟨⟨by decide +kernel, by decide +kernel⟩, List.mem_of_getElem? (i := 33) (by decide +kernel), List.mem_of_getElem? (i := 982) (by decide +kernel), List.mem_of_getElem? (i := 983) (by decide +kernel)⟩
theorem lw_p78 : lw_okq (⟨"SlopeJudge$Slices", "countFalling", "()I"⟩, 11) := ⟨⟨by decide +kernel, by decide +kernel⟩, List.mem_of_getElem? (i := 229) (by decide +kernel), List.mem_of_getElem? (i := 987) (by decide +kernel), List.mem_of_getElem? (i := 988) (by decide +kernel)⟩
theorem lw_p79 : lw_okq (⟨"SlopeJudge$Slices", "countAfloat", "()I"⟩, 11) := ⟨⟨by decide +kernel, by decide +kernel⟩, List.mem_of_getElem? (i := 229) (by decide +kernel), List.mem_of_getElem? (i := 991) (by decide +kernel), List.mem_of_getElem? (i := 992) (by decide +kernel)⟩
def lw_privs_5 : List (MethodName × Nat) := [(⟨"SlopeJudge$Slices", "hold", "(I)Z"⟩, 11), (⟨"SlopeJudge$Slices", "lack", "(I)J"⟩, 11), (⟨"SlopeJudge$Slices", "leastBound", "(I)I"⟩, 11), (⟨"SlopeJudge$Slices", "allPushes", "()J"⟩, 11), (⟨"SlopeJudge$Slices", "allWeights", "()J"⟩, 11), (⟨"SlopeJudge$Slices", "allLifts", "()J"⟩, 11), (⟨"SlopeJudge$Slices", "allStrengths", "()J"⟩, 11), (⟨"SlopeJudge$Ground", "dryUp", "()V"⟩, 15), (⟨"SlopeJudge$Ground", "raiseWate\x72", "()V"⟩, 15), (⟨"SlopeJudge$Slices", "burden", "(III)V"⟩, 11), (⟨"SlopeJudge$Ground", "slipArea", "()I"⟩, 15), (⟨"SlopeJudge$Ground", "thickAt", "(I)I"⟩, 15), (⟨"SlopeJudge$Ground", "thickest", "()I"⟩, 15), (⟨"SlopeJudge$Slip", "leastBase", "()I"⟩, 4), (⟨"SlopeJudge$Slices", "countFalling", "()I"⟩, 11), (⟨"SlopeJudge$Slices", "countAfloat", "()I"⟩, 11)]
theorem lw_r5 : ∀ q ∈ lw_privs_5, lw_okq q := List.forall_mem_cons.mpr ⟨lw_p64, List.forall_mem_cons.mpr ⟨lw_p65, List.forall_mem_cons.mpr ⟨lw_p66, List.forall_mem_cons.mpr ⟨lw_p67, List.forall_mem_cons.mpr ⟨lw_p68, List.forall_mem_cons.mpr ⟨lw_p69, List.forall_mem_cons.mpr ⟨lw_p70, List.forall_mem_cons.mpr ⟨lw_p71, List.forall_mem_cons.mpr ⟨lw_p72, List.forall_mem_cons.mpr ⟨lw_p73, List.forall_mem_cons.mpr ⟨lw_p74, List.forall_mem_cons.mpr ⟨lw_p75, List.forall_mem_cons.mpr ⟨lw_p76, List.forall_mem_cons.mpr ⟨lw_p77, List.forall_mem_cons.mpr ⟨lw_p78, List.forall_mem_cons.mpr ⟨lw_p79, fun _ h => absurd h List.not_mem_nil⟩⟩⟩⟩⟩⟩⟩⟩⟩⟩⟩⟩⟩⟩⟩⟩
theorem lw_p80 : lw_okq (⟨"SlopeJudge$Slices", "isFast", "(II)Z"⟩, 11) := ⟨⟨by decide +kernel, by decide +kernel⟩, List.mem_of_getElem? (i := 229) (by decide +kernel), List.mem_of_getElem? (i := 1000) (by decide +kernel), List.mem_of_getElem? (i := 1001) (by decide +kernel)⟩
theorem lw_p81 : lw_okq (⟨"SlopeJudge$Slices", "thrustOf", "(II)J"⟩, 11) := ⟨⟨by decide +kernel, by decide +kernel⟩, List.mem_of_getElem? (i := 229) (by decide +kernel), List.mem_of_getElem? (i := 1004) (by decide +kernel), List.mem_of_getElem? (i := 1005) (by decide +kernel)⟩
theorem lw_p82 : lw_okq (⟨"SlopeJudge$Seeke\x72", "ask", "(LSlopeJudge$Ground;IIIZI)I"⟩, 7) := ⟨⟨by decide +kernel, by decide +kernel⟩, List.mem_of_getElem? (i := 278) (by decide +kernel), List.mem_of_getElem? (i := 1020) (by decide +kernel), List.mem_of_getElem? (i := 1021) (by decide +kernel)⟩
theorem lw_p83 : lw_okq (⟨"SlopeJudge$Seeke\x72", "seek", "(LSlopeJudge$Ground;IIIIZ)Z"⟩, 7) := ⟨⟨by decide +kernel, by decide +kernel⟩, List.mem_of_getElem? (i := 278) (by decide +kernel), List.mem_of_getElem? (i := 1033) (by decide +kernel), List.mem_of_getElem? (i := 1034) (by decide +kernel)⟩
theorem lw_p84 : lw_okq (⟨"SlopeJudge$Seeke\x72", "goOn", "(LSlopeJudge$Ground;IZ)Z"⟩, 7) := ⟨⟨by decide +kernel, by decide +kernel⟩, List.mem_of_getElem? (i := 278) (by decide +kernel), List.mem_of_getElem? (i := 1038) (by decide +kernel), List.mem_of_getElem? (i := 1039) (by decide +kernel)⟩
theorem lw_p85 : lw_okq (⟨"SlopeJudge$Held", "draw", "(I)I"⟩, 4) := ⟨⟨by decide +kernel, by decide +kernel⟩, List.mem_of_getElem? (i := 153) (by decide +kernel), List.mem_of_getElem? (i := 1070) (by decide +kernel), List.mem_of_getElem? (i := 1071) (by decide +kernel)⟩
theorem lw_p86 : lw_okq (⟨"SlopeJudge$Report", "writeFacto\x72", "(I)V"⟩, 2) := ⟨⟨by decide +kernel, by decide +kernel⟩, List.mem_of_getElem? (i := 179) (by decide +kernel), List.mem_of_getElem? (i := 1080) (by decide +kernel), List.mem_of_getElem? (i := 1081) (by decide +kernel)⟩
theorem lw_p87 : lw_okq (⟨"SlopeJudge$Report", "writeNumbe\x72", "(I)V"⟩, 2) := ⟨⟨by decide +kernel, by decide +kernel⟩, List.mem_of_getElem? (i := 179) (by decide +kernel), List.mem_of_getElem? (i := 1084) (by decide +kernel), List.mem_of_getElem? (i := 1085) (by decide +kernel)⟩
theorem lw_p88 : lw_okq (⟨"SlopeJudge$Report", "write", "(I)V"⟩, 2) := ⟨⟨by decide +kernel, by decide +kernel⟩, List.mem_of_getElem? (i := 179) (by decide +kernel), List.mem_of_getElem? (i := 1088) (by decide +kernel), List.mem_of_getElem? (i := 1089) (by decide +kernel)⟩
theorem lw_p89 : lw_okq (⟨"SlopeJudgeModel", "begins", "(II)V"⟩, 35) := ⟨⟨by decide +kernel, by decide +kernel⟩, List.mem_of_getElem? (i := 1098) (by decide +kernel), List.mem_of_getElem? (i := 1104) (by decide +kernel), List.mem_of_getElem? (i := 1105) (by decide +kernel)⟩
theorem lw_p90 : lw_okq (⟨"SlopeJudgeModel", "remembers", "([I)V"⟩, 35) := ⟨⟨by decide +kernel, by decide +kernel⟩, List.mem_of_getElem? (i := 1098) (by decide +kernel), List.mem_of_getElem? (i := 1229) (by decide +kernel), List.mem_of_getElem? (i := 1230) (by decide +kernel)⟩
theorem lw_p91 : lw_okq (⟨"SlopeJudgeModel", "isColumn", "(I)Z"⟩, 35) := ⟨⟨by decide +kernel, by decide +kernel⟩, List.mem_of_getElem? (i := 1098) (by decide +kernel), List.mem_of_getElem? (i := 1237) (by decide +kernel), List.mem_of_getElem? (i := 1238) (by decide +kernel)⟩
theorem lw_p92 : lw_okq (⟨"SlopeJudgeModel", "canDig", "(II)Z"⟩, 35) := ⟨⟨by decide +kernel, by decide +kernel⟩, List.mem_of_getElem? (i := 1098) (by decide +kernel), List.mem_of_getElem? (i := 1248) (by decide +kernel), List.mem_of_getElem? (i := 1249) (by decide +kernel)⟩
theorem lw_p93 : lw_okq (⟨"SlopeJudgeModel", "turnsRound", "(I)V"⟩, 35) := ⟨⟨by decide +kernel, by decide +kernel⟩, List.mem_of_getElem? (i := 1098) (by decide +kernel), List.mem_of_getElem? (i := 1256) (by decide +kernel), List.mem_of_getElem? (i := 1257) (by decide +kernel)⟩
theorem lw_p94 : lw_okq (⟨"SlopeJudgeModel", "hasSlip", "()Z"⟩, 35) := ⟨⟨by decide +kernel, by decide +kernel⟩, List.mem_of_getElem? (i := 1098) (by decide +kernel), List.mem_of_getElem? (i := 1260) (by decide +kernel), List.mem_of_getElem? (i := 1261) (by decide +kernel)⟩
theorem lw_p95 : lw_okq (⟨"SlopeJudgeModel", "cuts", "(IIIZ)Z"⟩, 35) := ⟨⟨by decide +kernel, by decide +kernel⟩, List.mem_of_getElem? (i := 1098) (by decide +kernel), List.mem_of_getElem? (i := 1289) (by decide +kernel), List.mem_of_getElem? (i := 1290) (by decide +kernel)⟩
def lw_privs_6 : List (MethodName × Nat) := [(⟨"SlopeJudge$Slices", "isFast", "(II)Z"⟩, 11), (⟨"SlopeJudge$Slices", "thrustOf", "(II)J"⟩, 11), (⟨"SlopeJudge$Seeke\x72", "ask", "(LSlopeJudge$Ground;IIIZI)I"⟩, 7), (⟨"SlopeJudge$Seeke\x72", "seek", "(LSlopeJudge$Ground;IIIIZ)Z"⟩, 7), (⟨"SlopeJudge$Seeke\x72", "goOn", "(LSlopeJudge$Ground;IZ)Z"⟩, 7), (⟨"SlopeJudge$Held", "draw", "(I)I"⟩, 4), (⟨"SlopeJudge$Report", "writeFacto\x72", "(I)V"⟩, 2), (⟨"SlopeJudge$Report", "writeNumbe\x72", "(I)V"⟩, 2), (⟨"SlopeJudge$Report", "write", "(I)V"⟩, 2), (⟨"SlopeJudgeModel", "begins", "(II)V"⟩, 35), (⟨"SlopeJudgeModel", "remembers", "([I)V"⟩, 35), (⟨"SlopeJudgeModel", "isColumn", "(I)Z"⟩, 35), (⟨"SlopeJudgeModel", "canDig", "(II)Z"⟩, 35), (⟨"SlopeJudgeModel", "turnsRound", "(I)V"⟩, 35), (⟨"SlopeJudgeModel", "hasSlip", "()Z"⟩, 35), (⟨"SlopeJudgeModel", "cuts", "(IIIZ)Z"⟩, 35)]
theorem lw_r6 : ∀ q ∈ lw_privs_6, lw_okq q := List.forall_mem_cons.mpr ⟨lw_p80, List.forall_mem_cons.mpr ⟨lw_p81, List.forall_mem_cons.mpr ⟨lw_p82, List.forall_mem_cons.mpr ⟨lw_p83, List.forall_mem_cons.mpr ⟨lw_p84, List.forall_mem_cons.mpr ⟨lw_p85, List.forall_mem_cons.mpr ⟨lw_p86, List.forall_mem_cons.mpr ⟨lw_p87, List.forall_mem_cons.mpr ⟨lw_p88, List.forall_mem_cons.mpr ⟨lw_p89, List.forall_mem_cons.mpr ⟨lw_p90, List.forall_mem_cons.mpr ⟨lw_p91, List.forall_mem_cons.mpr ⟨lw_p92, List.forall_mem_cons.mpr ⟨lw_p93, List.forall_mem_cons.mpr ⟨lw_p94, List.forall_mem_cons.mpr ⟨lw_p95, fun _ h => absurd h List.not_mem_nil⟩⟩⟩⟩⟩⟩⟩⟩⟩⟩⟩⟩⟩⟩⟩⟩
theorem lw_p96 : lw_okq (⟨"SlopeJudgeModel", "isBelow", "(IIII)Z"⟩, 35) := ⟨⟨by decide +kernel, by decide +kernel⟩, List.mem_of_getElem? (i := 1098) (by decide +kernel), List.mem_of_getElem? (i := 1293) (by decide +kernel), List.mem_of_getElem? (i := 1294) (by decide +kernel)⟩
theorem lw_p97 : lw_okq (⟨"SlopeJudgeModel", "keepsSlip", "()I"⟩, 35) := ⟨⟨by decide +kernel, by decide +kernel⟩, List.mem_of_getElem? (i := 1098) (by decide +kernel), List.mem_of_getElem? (i := 1303) (by decide +kernel), List.mem_of_getElem? (i := 1304) (by decide +kernel)⟩
theorem lw_p98 : lw_okq (⟨"SlopeJudgeModel", "factorBy", "(IIIZ)I"⟩, 35) := ⟨⟨by decide +kernel, by decide +kernel⟩, List.mem_of_getElem? (i := 1098) (by decide +kernel), List.mem_of_getElem? (i := 1311) (by decide +kernel), List.mem_of_getElem? (i := 1312) (by decide +kernel)⟩
theorem lw_p99 : lw_okq (⟨"SlopeJudgeModel", "factorOf", "()I"⟩, 35) := ⟨⟨by decide +kernel, by decide +kernel⟩, List.mem_of_getElem? (i := 1098) (by decide +kernel), List.mem_of_getElem? (i := 1315) (by decide +kernel), List.mem_of_getElem? (i := 1316) (by decide +kernel)⟩
theorem lw_p100 : lw_okq (⟨"SlopeJudgeModel", "isStanding", "(I)Z"⟩, 35) := ⟨⟨by decide +kernel, by decide +kernel⟩, List.mem_of_getElem? (i := 1098) (by decide +kernel), List.mem_of_getElem? (i := 1319) (by decide +kernel), List.mem_of_getElem? (i := 1320) (by decide +kernel)⟩
theorem lw_p101 : lw_okq (⟨"SlopeJudgeModel", "standsWith", "(IJ)Z"⟩, 35) := ⟨⟨by decide +kernel, by decide +kernel⟩, List.mem_of_getElem? (i := 1098) (by decide +kernel), List.mem_of_getElem? (i := 1323) (by decide +kernel), List.mem_of_getElem? (i := 1324) (by decide +kernel)⟩
theorem lw_p102 : lw_okq (⟨"SlopeJudgeModel", "pulls", "()J"⟩, 35) := ⟨⟨by decide +kernel, by decide +kernel⟩, List.mem_of_getElem? (i := 1098) (by decide +kernel), List.mem_of_getElem? (i := 1327) (by decide +kernel), List.mem_of_getElem? (i := 1328) (by decide +kernel)⟩
theorem lw_p103 : lw_okq (⟨"SlopeJudgeModel", "isCounting", "(I)Z"⟩, 35) := ⟨⟨by decide +kernel, by decide +kernel⟩, List.mem_of_getElem? (i := 1098) (by decide +kernel), List.mem_of_getElem? (i := 1331) (by decide +kernel), List.mem_of_getElem? (i := 1332) (by decide +kernel)⟩
theorem lw_p104 : lw_okq (⟨"SlopeJudgeModel", "laysAt", "(I)V"⟩, 35) := ⟨⟨by decide +kernel, by decide +kernel⟩, List.mem_of_getElem? (i := 1098) (by decide +kernel), List.mem_of_getElem? (i := 1336) (by decide +kernel), List.mem_of_getElem? (i := 1337) (by decide +kernel)⟩
theorem lw_p105 : lw_okq (⟨"SlopeJudgeModel", "laysSlice", "(IIIZ)V"⟩, 35) := ⟨⟨by decide +kernel, by decide +kernel⟩, List.mem_of_getElem? (i := 1098) (by decide +kernel), List.mem_of_getElem? (i := 1340) (by decide +kernel), List.mem_of_getElem? (i := 1341) (by decide +kernel)⟩
theorem lw_p106 : lw_okq (⟨"SlopeJudgeModel", "thick", "(III)I"⟩, 35) := ⟨⟨by decide +kernel, by decide +kernel⟩, List.mem_of_getElem? (i := 1098) (by decide +kernel), List.mem_of_getElem? (i := 1344) (by decide +kernel), List.mem_of_getElem? (i := 1345) (by decide +kernel)⟩
theorem lw_p107 : lw_okq (⟨"SlopeJudgeModel", "top", "(II)I"⟩, 35) := ⟨⟨by decide +kernel, by decide +kernel⟩, List.mem_of_getElem? (i := 1098) (by decide +kernel), List.mem_of_getElem? (i := 1348) (by decide +kernel), List.mem_of_getElem? (i := 1349) (by decide +kernel)⟩
theorem lw_p108 : lw_okq (⟨"SlopeJudgeModel", "wate\x72", "(I)I"⟩, 35) := ⟨⟨by decide +kernel, by decide +kernel⟩, List.mem_of_getElem? (i := 1098) (by decide +kernel), List.mem_of_getElem? (i := 1355) (by decide +kernel), List.mem_of_getElem? (i := 1356) (by decide +kernel)⟩
theorem lw_p109 : lw_okq (⟨"SlopeJudgeModel", "rubsOf", "(I)J"⟩, 35) := ⟨⟨by decide +kernel, by decide +kernel⟩, List.mem_of_getElem? (i := 1098) (by decide +kernel), List.mem_of_getElem? (i := 1360) (by decide +kernel), List.mem_of_getElem? (i := 1361) (by decide +kernel)⟩
theorem lw_p110 : lw_okq (⟨"SlopeJudgeModel", "pointsCan", "()Z"⟩, 35) := ⟨⟨by decide +kernel, by decide +kernel⟩, List.mem_of_getElem? (i := 1098) (by decide +kernel), List.mem_of_getElem? (i := 1376) (by decide +kernel), List.mem_of_getElem? (i := 1377) (by decide +kernel)⟩
theorem lw_p111 : lw_okq (⟨"SlopeJudgeModel", "searches", "(IIIIZ)I"⟩, 35) := ⟨⟨by decide +kernel, by decide +kernel⟩, List.mem_of_getElem? (i := 1098) (by decide +kernel), List.mem_of_getElem? (i := 1388) (by decide +kernel), List.mem_of_getElem? (i := 1389) (by decide +kernel)⟩
def lw_privs_7 : List (MethodName × Nat) := [(⟨"SlopeJudgeModel", "isBelow", "(IIII)Z"⟩, 35), (⟨"SlopeJudgeModel", "keepsSlip", "()I"⟩, 35), (⟨"SlopeJudgeModel", "factorBy", "(IIIZ)I"⟩, 35), (⟨"SlopeJudgeModel", "factorOf", "()I"⟩, 35), (⟨"SlopeJudgeModel", "isStanding", "(I)Z"⟩, 35), (⟨"SlopeJudgeModel", "standsWith", "(IJ)Z"⟩, 35), (⟨"SlopeJudgeModel", "pulls", "()J"⟩, 35), (⟨"SlopeJudgeModel", "isCounting", "(I)Z"⟩, 35), (⟨"SlopeJudgeModel", "laysAt", "(I)V"⟩, 35), (⟨"SlopeJudgeModel", "laysSlice", "(IIIZ)V"⟩, 35), (⟨"SlopeJudgeModel", "thick", "(III)I"⟩, 35), (⟨"SlopeJudgeModel", "top", "(II)I"⟩, 35), (⟨"SlopeJudgeModel", "wate\x72", "(I)I"⟩, 35), (⟨"SlopeJudgeModel", "rubsOf", "(I)J"⟩, 35), (⟨"SlopeJudgeModel", "pointsCan", "()Z"⟩, 35), (⟨"SlopeJudgeModel", "searches", "(IIIIZ)I"⟩, 35)]
theorem lw_r7 : ∀ q ∈ lw_privs_7, lw_okq q := List.forall_mem_cons.mpr ⟨lw_p96, List.forall_mem_cons.mpr ⟨lw_p97, List.forall_mem_cons.mpr ⟨lw_p98, List.forall_mem_cons.mpr ⟨lw_p99, List.forall_mem_cons.mpr ⟨lw_p100, List.forall_mem_cons.mpr ⟨lw_p101, List.forall_mem_cons.mpr ⟨lw_p102, List.forall_mem_cons.mpr ⟨lw_p103, List.forall_mem_cons.mpr ⟨lw_p104, List.forall_mem_cons.mpr ⟨lw_p105, List.forall_mem_cons.mpr ⟨lw_p106, List.forall_mem_cons.mpr ⟨lw_p107, List.forall_mem_cons.mpr ⟨lw_p108, List.forall_mem_cons.mpr ⟨lw_p109, List.forall_mem_cons.mpr ⟨lw_p110, List.forall_mem_cons.mpr ⟨lw_p111, fun _ h => absurd h List.not_mem_nil⟩⟩⟩⟩⟩⟩⟩⟩⟩⟩⟩⟩⟩⟩⟩⟩
theorem lw_p112 : lw_okq (⟨"SlopeJudgeModel", "isBette\x72", "(IZ)Z"⟩, 35) := ⟨⟨by decide +kernel, by decide +kernel⟩, List.mem_of_getElem? (i := 1098) (by decide +kernel), List.mem_of_getElem? (i := 1392) (by decide +kernel), List.mem_of_getElem? (i := 1393) (by decide +kernel)⟩
theorem lw_p113 : lw_okq (⟨"SlopeJudgeModel", "tableK", "(IZ)I"⟩, 35) := ⟨⟨by decide +kernel, by decide +kernel⟩, List.mem_of_getElem? (i := 1098) (by decide +kernel), List.mem_of_getElem? (i := 1403) (by decide +kernel), List.mem_of_getElem? (i := 1404) (by decide +kernel)⟩
theorem lw_p114 : lw_okq (⟨"SlopeJudgeModel", "goes", "(IZIZI)J"⟩, 35) := ⟨⟨by decide +kernel, by decide +kernel⟩, List.mem_of_getElem? (i := 1098) (by decide +kernel), List.mem_of_getElem? (i := 1407) (by decide +kernel), List.mem_of_getElem? (i := 1408) (by decide +kernel)⟩
theorem lw_p115 : lw_okq (⟨"SlopeJudgeModel", "comes", "(IIIZI)V"⟩, 35) := ⟨⟨by decide +kernel, by decide +kernel⟩, List.mem_of_getElem? (i := 1098) (by decide +kernel), List.mem_of_getElem? (i := 1412) (by decide +kernel), List.mem_of_getElem? (i := 1413) (by decide +kernel)⟩
theorem lw_p116 : lw_okq (⟨"SlopeJudgeModel", "adds", "(IIIZI)J"⟩, 35) := ⟨⟨by decide +kernel, by decide +kernel⟩, List.mem_of_getElem? (i := 1098) (by decide +kernel), List.mem_of_getElem? (i := 1416) (by decide +kernel), List.mem_of_getElem? (i := 1417) (by decide +kernel)⟩
theorem lw_p117 : lw_okq (⟨"SlopeJudgeModel", "findsWorst", "(IZI)Z"⟩, 35) := ⟨⟨by decide +kernel, by decide +kernel⟩, List.mem_of_getElem? (i := 1098) (by decide +kernel), List.mem_of_getElem? (i := 1421) (by decide +kernel), List.mem_of_getElem? (i := 1422) (by decide +kernel)⟩
theorem lw_p118 : lw_okq (⟨"SlopeJudgeModel", "isSlice", "(I)Z"⟩, 35) := ⟨⟨by decide +kernel, by decide +kernel⟩, List.mem_of_getElem? (i := 1098) (by decide +kernel), List.mem_of_getElem? (i := 1433) (by decide +kernel), List.mem_of_getElem? (i := 1434) (by decide +kernel)⟩
theorem lw_p119 : lw_okq (⟨"SlopeJudgeModel", "takesSlip", "()Z"⟩, 35) := ⟨⟨by decide +kernel, by decide +kernel⟩, List.mem_of_getElem? (i := 1098) (by decide +kernel), List.mem_of_getElem? (i := 1437) (by decide +kernel), List.mem_of_getElem? (i := 1438) (by decide +kernel)⟩
theorem lw_p120 : lw_okq (⟨"SlopeJudgeModel", "hasFast", "(II)Z"⟩, 35) := ⟨⟨by decide +kernel, by decide +kernel⟩, List.mem_of_getElem? (i := 1098) (by decide +kernel), List.mem_of_getElem? (i := 1467) (by decide +kernel), List.mem_of_getElem? (i := 1468) (by decide +kernel)⟩
theorem lw_p121 : lw_okq (⟨"SlopeJudgeModel", "thrustOf", "(II)J"⟩, 35) := ⟨⟨by decide +kernel, by decide +kernel⟩, List.mem_of_getElem? (i := 1098) (by decide +kernel), List.mem_of_getElem? (i := 1471) (by decide +kernel), List.mem_of_getElem? (i := 1472) (by decide +kernel)⟩
theorem lw_p122 : lw_okq (⟨"SlopeJudgeModel", "laysAside", "()V"⟩, 35) := ⟨⟨by decide +kernel, by decide +kernel⟩, List.mem_of_getElem? (i := 1098) (by decide +kernel), List.mem_of_getElem? (i := 1484) (by decide +kernel), List.mem_of_getElem? (i := 1485) (by decide +kernel)⟩
theorem lw_p123 : lw_okq (⟨"SlopeJudgeModel", "comesBack", "()V"⟩, 35) := ⟨⟨by decide +kernel, by decide +kernel⟩, List.mem_of_getElem? (i := 1098) (by decide +kernel), List.mem_of_getElem? (i := 1488) (by decide +kernel), List.mem_of_getElem? (i := 1489) (by decide +kernel)⟩
theorem lw_p124 : lw_okq (⟨"SlopeJudgeModel", "bodyOf", "()I"⟩, 35) := ⟨⟨by decide +kernel, by decide +kernel⟩, List.mem_of_getElem? (i := 1098) (by decide +kernel), List.mem_of_getElem? (i := 1508) (by decide +kernel), List.mem_of_getElem? (i := 1509) (by decide +kernel)⟩
theorem lw_p125 : lw_okq (⟨"SlopeJudgeModel", "deepest", "()I"⟩, 35) := ⟨⟨by decide +kernel, by decide +kernel⟩, List.mem_of_getElem? (i := 1098) (by decide +kernel), List.mem_of_getElem? (i := 1512) (by decide +kernel), List.mem_of_getElem? (i := 1513) (by decide +kernel)⟩
theorem lw_p126 : lw_okq (⟨"SlopeJudgeModel", "leastBase", "()I"⟩, 35) := ⟨⟨by decide +kernel, by decide +kernel⟩, List.mem_of_getElem? (i := 1098) (by decide +kernel), List.mem_of_getElem? (i := 1516) (by decide +kernel), List.mem_of_getElem? (i := 1517) (by decide +kernel)⟩
theorem lw_p127 : lw_okq (⟨"SlopeJudgeModel", "slicesOf", "(Z)I"⟩, 35) := ⟨⟨by decide +kernel, by decide +kernel⟩, List.mem_of_getElem? (i := 1098) (by decide +kernel), List.mem_of_getElem? (i := 1520) (by decide +kernel), List.mem_of_getElem? (i := 1521) (by decide +kernel)⟩
def lw_privs_8 : List (MethodName × Nat) := [(⟨"SlopeJudgeModel", "isBette\x72", "(IZ)Z"⟩, 35), (⟨"SlopeJudgeModel", "tableK", "(IZ)I"⟩, 35), (⟨"SlopeJudgeModel", "goes", "(IZIZI)J"⟩, 35), (⟨"SlopeJudgeModel", "comes", "(IIIZI)V"⟩, 35), (⟨"SlopeJudgeModel", "adds", "(IIIZI)J"⟩, 35), (⟨"SlopeJudgeModel", "findsWorst", "(IZI)Z"⟩, 35), (⟨"SlopeJudgeModel", "isSlice", "(I)Z"⟩, 35), (⟨"SlopeJudgeModel", "takesSlip", "()Z"⟩, 35), (⟨"SlopeJudgeModel", "hasFast", "(II)Z"⟩, 35), (⟨"SlopeJudgeModel", "thrustOf", "(II)J"⟩, 35), (⟨"SlopeJudgeModel", "laysAside", "()V"⟩, 35), (⟨"SlopeJudgeModel", "comesBack", "()V"⟩, 35), (⟨"SlopeJudgeModel", "bodyOf", "()I"⟩, 35), (⟨"SlopeJudgeModel", "deepest", "()I"⟩, 35), (⟨"SlopeJudgeModel", "leastBase", "()I"⟩, 35), (⟨"SlopeJudgeModel", "slicesOf", "(Z)I"⟩, 35)]
theorem lw_r8 : ∀ q ∈ lw_privs_8, lw_okq q := List.forall_mem_cons.mpr ⟨lw_p112, List.forall_mem_cons.mpr ⟨lw_p113, List.forall_mem_cons.mpr ⟨lw_p114, List.forall_mem_cons.mpr ⟨lw_p115, List.forall_mem_cons.mpr ⟨lw_p116, List.forall_mem_cons.mpr ⟨lw_p117, List.forall_mem_cons.mpr ⟨lw_p118, List.forall_mem_cons.mpr ⟨lw_p119, List.forall_mem_cons.mpr ⟨lw_p120, List.forall_mem_cons.mpr ⟨lw_p121, List.forall_mem_cons.mpr ⟨lw_p122, List.forall_mem_cons.mpr ⟨lw_p123, List.forall_mem_cons.mpr ⟨lw_p124, List.forall_mem_cons.mpr ⟨lw_p125, List.forall_mem_cons.mpr ⟨lw_p126, List.forall_mem_cons.mpr ⟨lw_p127, fun _ h => absurd h List.not_mem_nil⟩⟩⟩⟩⟩⟩⟩⟩⟩⟩⟩⟩⟩⟩⟩⟩
theorem lw_p128 : lw_okq (⟨"SlopeJudgeModel", "draw", "(I)I"⟩, 35) := ⟨⟨by decide +kernel, by decide +kernel⟩, List.mem_of_getElem? (i := 1098) (by decide +kernel), List.mem_of_getElem? (i := 1548) (by decide +kernel), List.mem_of_getElem? (i := 1549) (by decide +kernel)⟩
theorem lw_p129 : lw_okq (⟨"SlopeJudgeModel", "saysNumbe\x72", "(I)V"⟩, 35) := ⟨⟨by decide +kernel, by decide +kernel⟩, List.mem_of_getElem? (i := 1098) (by decide +kernel), List.mem_of_getElem? (i := 1559) (by decide +kernel), List.mem_of_getElem? (i := 1560) (by decide +kernel)⟩
theorem lw_p130 : lw_okq (⟨"SlopeJudgeModel", "says", "(I)V"⟩, 35) := ⟨⟨by decide +kernel, by decide +kernel⟩, List.mem_of_getElem? (i := 1098) (by decide +kernel), List.mem_of_getElem? (i := 1563) (by decide +kernel), List.mem_of_getElem? (i := 1564) (by decide +kernel)⟩
theorem lw_p131 : lw_okq (⟨"SlopeJudgeModel", "comesWord", "(I)V"⟩, 35) := ⟨⟨by decide +kernel, by decide +kernel⟩, List.mem_of_getElem? (i := 1098) (by decide +kernel), List.mem_of_getElem? (i := 1575) (by decide +kernel), List.mem_of_getElem? (i := 1576) (by decide +kernel)⟩
theorem lw_p132 : lw_okq (⟨"SlopeJudgeModel", "reads", "()I"⟩, 35) := ⟨⟨by decide +kernel, by decide +kernel⟩, List.mem_of_getElem? (i := 1098) (by decide +kernel), List.mem_of_getElem? (i := 1591) (by decide +kernel), List.mem_of_getElem? (i := 1592) (by decide +kernel)⟩
theorem lw_p133 : lw_okq (⟨"SlopeJudgeModel", "blanks", "()V"⟩, 35) := ⟨⟨by decide +kernel, by decide +kernel⟩, List.mem_of_getElem? (i := 1098) (by decide +kernel), List.mem_of_getElem? (i := 1595) (by decide +kernel), List.mem_of_getElem? (i := 1596) (by decide +kernel)⟩
theorem lw_p134 : lw_okq (⟨"SlopeJudgeModel", "spells", "(IIIIIIII)Z"⟩, 35) := ⟨⟨by decide +kernel, by decide +kernel⟩, List.mem_of_getElem? (i := 1098) (by decide +kernel), List.mem_of_getElem? (i := 1599) (by decide +kernel), List.mem_of_getElem? (i := 1600) (by decide +kernel)⟩
theorem lw_p135 : lw_okq (⟨"SlopeJudgeModel", "wordEnd", "()I"⟩, 35) := ⟨⟨by decide +kernel, by decide +kernel⟩, List.mem_of_getElem? (i := 1098) (by decide +kernel), List.mem_of_getElem? (i := 1603) (by decide +kernel), List.mem_of_getElem? (i := 1604) (by decide +kernel)⟩
theorem lw_p136 : lw_okq (⟨"SlopeJudgeModel", "wrong", "(II)V"⟩, 35) := ⟨⟨by decide +kernel, by decide +kernel⟩, List.mem_of_getElem? (i := 1098) (by decide +kernel), List.mem_of_getElem? (i := 1609) (by decide +kernel), List.mem_of_getElem? (i := 1610) (by decide +kernel)⟩
theorem lw_p137 : lw_okq (⟨"SlopeJudgeModel", "numbe\x72", "(II)I"⟩, 35) := ⟨⟨by decide +kernel, by decide +kernel⟩, List.mem_of_getElem? (i := 1098) (by decide +kernel), List.mem_of_getElem? (i := 1613) (by decide +kernel), List.mem_of_getElem? (i := 1614) (by decide +kernel)⟩
theorem lw_p138 : lw_okq (⟨"SlopeJudgeModel", "isDigitNext", "()Z"⟩, 35) := ⟨⟨by decide +kernel, by decide +kernel⟩, List.mem_of_getElem? (i := 1098) (by decide +kernel), List.mem_of_getElem? (i := 1617) (by decide +kernel), List.mem_of_getElem? (i := 1618) (by decide +kernel)⟩
theorem lw_p139 : lw_okq (⟨"SlopeJudgeModel", "must", "(I)V"⟩, 35) := ⟨⟨by decide +kernel, by decide +kernel⟩, List.mem_of_getElem? (i := 1098) (by decide +kernel), List.mem_of_getElem? (i := 1624) (by decide +kernel), List.mem_of_getElem? (i := 1625) (by decide +kernel)⟩
theorem lw_p140 : lw_okq (⟨"SlopeJudgeModel", "isNext", "(I)Z"⟩, 35) := ⟨⟨by decide +kernel, by decide +kernel⟩, List.mem_of_getElem? (i := 1098) (by decide +kernel), List.mem_of_getElem? (i := 1628) (by decide +kernel), List.mem_of_getElem? (i := 1629) (by decide +kernel)⟩
theorem lw_p141 : lw_okq (⟨"SlopeJudgeModel", "line", "()V"⟩, 35) := ⟨⟨by decide +kernel, by decide +kernel⟩, List.mem_of_getElem? (i := 1098) (by decide +kernel), List.mem_of_getElem? (i := 1632) (by decide +kernel), List.mem_of_getElem? (i := 1633) (by decide +kernel)⟩
theorem lw_p142 : lw_okq (⟨"SlopeJudgeModel", "word", "()I"⟩, 35) := ⟨⟨by decide +kernel, by decide +kernel⟩, List.mem_of_getElem? (i := 1098) (by decide +kernel), List.mem_of_getElem? (i := 1636) (by decide +kernel), List.mem_of_getElem? (i := 1637) (by decide +kernel)⟩
theorem lw_p143 : lw_okq (⟨"SlopeJudgeModel", "tells", "(II)V"⟩, 35) := ⟨⟨by decide +kernel, by decide +kernel⟩, List.mem_of_getElem? (i := 1098) (by decide +kernel), List.mem_of_getElem? (i := 1640) (by decide +kernel), List.mem_of_getElem? (i := 1641) (by decide +kernel)⟩
def lw_privs_9 : List (MethodName × Nat) := [(⟨"SlopeJudgeModel", "draw", "(I)I"⟩, 35), (⟨"SlopeJudgeModel", "saysNumbe\x72", "(I)V"⟩, 35), (⟨"SlopeJudgeModel", "says", "(I)V"⟩, 35), (⟨"SlopeJudgeModel", "comesWord", "(I)V"⟩, 35), (⟨"SlopeJudgeModel", "reads", "()I"⟩, 35), (⟨"SlopeJudgeModel", "blanks", "()V"⟩, 35), (⟨"SlopeJudgeModel", "spells", "(IIIIIIII)Z"⟩, 35), (⟨"SlopeJudgeModel", "wordEnd", "()I"⟩, 35), (⟨"SlopeJudgeModel", "wrong", "(II)V"⟩, 35), (⟨"SlopeJudgeModel", "numbe\x72", "(II)I"⟩, 35), (⟨"SlopeJudgeModel", "isDigitNext", "()Z"⟩, 35), (⟨"SlopeJudgeModel", "must", "(I)V"⟩, 35), (⟨"SlopeJudgeModel", "isNext", "(I)Z"⟩, 35), (⟨"SlopeJudgeModel", "line", "()V"⟩, 35), (⟨"SlopeJudgeModel", "word", "()I"⟩, 35), (⟨"SlopeJudgeModel", "tells", "(II)V"⟩, 35)]
theorem lw_r9 : ∀ q ∈ lw_privs_9, lw_okq q := List.forall_mem_cons.mpr ⟨lw_p128, List.forall_mem_cons.mpr ⟨lw_p129, List.forall_mem_cons.mpr ⟨lw_p130, List.forall_mem_cons.mpr ⟨lw_p131, List.forall_mem_cons.mpr ⟨lw_p132, List.forall_mem_cons.mpr ⟨lw_p133, List.forall_mem_cons.mpr ⟨lw_p134, List.forall_mem_cons.mpr ⟨lw_p135, List.forall_mem_cons.mpr ⟨lw_p136, List.forall_mem_cons.mpr ⟨lw_p137, List.forall_mem_cons.mpr ⟨lw_p138, List.forall_mem_cons.mpr ⟨lw_p139, List.forall_mem_cons.mpr ⟨lw_p140, List.forall_mem_cons.mpr ⟨lw_p141, List.forall_mem_cons.mpr ⟨lw_p142, List.forall_mem_cons.mpr ⟨lw_p143, fun _ h => absurd h List.not_mem_nil⟩⟩⟩⟩⟩⟩⟩⟩⟩⟩⟩⟩⟩⟩⟩⟩
theorem lw_p144 : lw_okq (⟨"SlopeJudgeModel", "runs", "(II)V"⟩, 35) := ⟨⟨by decide +kernel, by decide +kernel⟩, List.mem_of_getElem? (i := 1098) (by decide +kernel), List.mem_of_getElem? (i := 1644) (by decide +kernel), List.mem_of_getElem? (i := 1645) (by decide +kernel)⟩
theorem lw_p145 : lw_okq (⟨"SlopeJudgeModel", "soilLine", "()V"⟩, 35) := ⟨⟨by decide +kernel, by decide +kernel⟩, List.mem_of_getElem? (i := 1098) (by decide +kernel), List.mem_of_getElem? (i := 1648) (by decide +kernel), List.mem_of_getElem? (i := 1649) (by decide +kernel)⟩
theorem lw_p146 : lw_okq (⟨"SlopeJudgeModel", "anchorLine", "()V"⟩, 35) := ⟨⟨by decide +kernel, by decide +kernel⟩, List.mem_of_getElem? (i := 1098) (by decide +kernel), List.mem_of_getElem? (i := 1652) (by decide +kernel), List.mem_of_getElem? (i := 1653) (by decide +kernel)⟩
theorem lw_p147 : lw_okq (⟨"SlopeJudgeModel", "isAncho\x72", "(I)Z"⟩, 35) := ⟨⟨by decide +kernel, by decide +kernel⟩, List.mem_of_getElem? (i := 1098) (by decide +kernel), List.mem_of_getElem? (i := 1668) (by decide +kernel), List.mem_of_getElem? (i := 1669) (by decide +kernel)⟩
theorem lw_p148 : lw_okq (⟨"SlopeJudgeModel", "anchorSet", "()I"⟩, 35) := ⟨⟨by decide +kernel, by decide +kernel⟩, List.mem_of_getElem? (i := 1098) (by decide +kernel), List.mem_of_getElem? (i := 1680) (by decide +kernel), List.mem_of_getElem? (i := 1681) (by decide +kernel)⟩
theorem lw_p149 : lw_okq (⟨"SlopeJudgeModel", "highest", "()I"⟩, 35) := ⟨⟨by decide +kernel, by decide +kernel⟩, List.mem_of_getElem? (i := 1098) (by decide +kernel), List.mem_of_getElem? (i := 1684) (by decide +kernel), List.mem_of_getElem? (i := 1685) (by decide +kernel)⟩
theorem lw_p150 : lw_okq (⟨"SlopeJudgeModel", "soilOve\x72", "()I"⟩, 35) := ⟨⟨by decide +kernel, by decide +kernel⟩, List.mem_of_getElem? (i := 1098) (by decide +kernel), List.mem_of_getElem? (i := 1688) (by decide +kernel), List.mem_of_getElem? (i := 1689) (by decide +kernel)⟩
def lw_privs_10 : List (MethodName × Nat) := [(⟨"SlopeJudgeModel", "runs", "(II)V"⟩, 35), (⟨"SlopeJudgeModel", "soilLine", "()V"⟩, 35), (⟨"SlopeJudgeModel", "anchorLine", "()V"⟩, 35), (⟨"SlopeJudgeModel", "isAncho\x72", "(I)Z"⟩, 35), (⟨"SlopeJudgeModel", "anchorSet", "()I"⟩, 35), (⟨"SlopeJudgeModel", "highest", "()I"⟩, 35), (⟨"SlopeJudgeModel", "soilOve\x72", "()I"⟩, 35)]
theorem lw_r10 : ∀ q ∈ lw_privs_10, lw_okq q := List.forall_mem_cons.mpr ⟨lw_p144, List.forall_mem_cons.mpr ⟨lw_p145, List.forall_mem_cons.mpr ⟨lw_p146, List.forall_mem_cons.mpr ⟨lw_p147, List.forall_mem_cons.mpr ⟨lw_p148, List.forall_mem_cons.mpr ⟨lw_p149, List.forall_mem_cons.mpr ⟨lw_p150, fun _ h => absurd h List.not_mem_nil⟩⟩⟩⟩⟩⟩⟩
def lw_privs : List (MethodName × Nat) := lw_privs_1 ++ (lw_privs_2 ++ (lw_privs_3 ++ (lw_privs_4 ++ (lw_privs_5 ++ (lw_privs_6 ++ (lw_privs_7 ++ (lw_privs_8 ++ (lw_privs_9 ++ (lw_privs_10)))))))))
def lw_tbl : List Cond := k2_sels lw_privs ++ tables_1
theorem lw_privs_ok : ∀ q ∈ lw_privs, lw_okq q := by
  show ∀ q ∈ lw_privs_1 ++ (lw_privs_2 ++ (lw_privs_3 ++ (lw_privs_4 ++ (lw_privs_5 ++ (lw_privs_6 ++ (lw_privs_7 ++ (lw_privs_8 ++ (lw_privs_9 ++ (lw_privs_10))))))))), lw_okq q
  exact List.forall_mem_append.mpr ⟨lw_r1, List.forall_mem_append.mpr ⟨lw_r2, List.forall_mem_append.mpr ⟨lw_r3, List.forall_mem_append.mpr ⟨lw_r4, List.forall_mem_append.mpr ⟨lw_r5, List.forall_mem_append.mpr ⟨lw_r6, List.forall_mem_append.mpr ⟨lw_r7, List.forall_mem_append.mpr ⟨lw_r8, List.forall_mem_append.mpr ⟨lw_r9, lw_r10⟩⟩⟩⟩⟩⟩⟩⟩⟩
def RX0 : String := "SlopeJudge$Ground"
def TX0 : u_T := fun k => match k with
  | 0 => ("SlopeJudge$Ground", "n", "I", false)
  | 1 => ("SlopeJudge$Ground", "b", "I", false)
  | 2 => ("SlopeJudge$Ground", "quake", "I", false)
  | 3 => ("SlopeJudge$Ground", "ground", "[I", true)
  | 4 => ("SlopeJudge$Ground", "rock", "[I", true)
  | 5 => ("SlopeJudge$Ground", "wate\x72", "[I", true)
  | 6 => ("SlopeJudge$Ground", "load", "[I", true)
  | 7 => ("SlopeJudge$Ground", "tops", "[I", true)
  | 8 => ("SlopeJudge$Ground", "weight", "[I", true)
  | 9 => ("SlopeJudge$Ground", "hold", "[I", true)
  | 10 => ("SlopeJudge$Ground", "rub", "[I", true)
  | 11 => ("SlopeJudge$Ground", "anchorColumn", "[I", true)
  | 12 => ("SlopeJudge$Ground", "anchorHeight", "[I", true)
  | 13 => ("SlopeJudge$Ground", "anchorPull", "[I", true)
  | _ => ("SlopeJudge$Ground", "slip", "LSlopeJudge$Slip;", true)
def tyX0 : Nat → FieldType := fun k => match k with
  | 0 => .int
  | 1 => .int
  | 2 => .int
  | 3 => .array .int
  | 4 => .array .int
  | 5 => .array .int
  | 6 => .array .int
  | 7 => .array .int
  | 8 => .array .int
  | 9 => .array .int
  | 10 => .array .int
  | 11 => .array .int
  | 12 => .array .int
  | 13 => .array .int
  | _ => .object "SlopeJudge$Slip"
theorem nmX0 : ∀ a, a < 15 → ∀ b, b < 15 → a ≠ b → (TX0 a).2.1 ≠ (TX0 b).2.1 := by decide +kernel
theorem tyX0_ok : ∀ k, k < 15 → parseFieldDescriptor (TX0 k).2.2.1 = some (tyX0 k) := by decide +kernel
abbrev cX0_init : ByteArray := prog_2_method_1_code
def yX0_init : MethodName := ⟨RX0, "<init>", "()V"⟩
abbrev cX0_begin : ByteArray := prog_2_method_2_code
def yX0_begin : MethodName := ⟨RX0, "begin", "(II)V"⟩
abbrev cX0_copy : ByteArray := prog_2_method_3_code
def yX0_copy : MethodName := ⟨RX0, "copy", "(LSlopeJudge$Ground;)V"⟩
abbrev cX0_hasColumn : ByteArray := prog_2_method_4_code
def yX0_hasColumn : MethodName := ⟨RX0, "hasColumn", "(I)Z"⟩
abbrev cX0_canLower : ByteArray := prog_2_method_5_code
def yX0_canLower : MethodName := ⟨RX0, "canLowe\x72", "(II)Z"⟩
abbrev cX0_rockIsBelow : ByteArray := prog_2_method_6_code
def yX0_rockIsBelow : MethodName := ⟨RX0, "rockIsBelow", "()Z"⟩
abbrev cX0_waterAt : ByteArray := prog_2_method_7_code
def yX0_waterAt : MethodName := ⟨RX0, "waterAt", "(I)I"⟩
abbrev cX0_topAt : ByteArray := prog_2_method_8_code
def yX0_topAt : MethodName := ⟨RX0, "topAt", "(II)I"⟩
abbrev cX0_weightOn : ByteArray := prog_2_method_9_code
def yX0_weightOn : MethodName := ⟨RX0, "weightOn", "(II)I"⟩
abbrev cX0_headOn : ByteArray := prog_2_method_10_code
def yX0_headOn : MethodName := ⟨RX0, "headOn", "(II)I"⟩
abbrev cX0_layerUnder : ByteArray := prog_2_method_11_code
def yX0_layerUnder : MethodName := ⟨RX0, "layerUnde\x72", "(II)I"⟩
abbrev cX0_anchorCounts : ByteArray := prog_2_method_12_code
def yX0_anchorCounts : MethodName := ⟨RX0, "anchorCounts", "(ILSlopeJudge$Slip;)Z"⟩
abbrev cX0_pullsOn : ByteArray := prog_2_method_13_code
def yX0_pullsOn : MethodName := ⟨RX0, "pullsOn", "(LSlopeJudge$Slip;)J"⟩
abbrev cX0_anchorSet : ByteArray := prog_2_method_14_code
def yX0_anchorSet : MethodName := ⟨RX0, "anchorSet", "()I"⟩
abbrev cX0_greatestGround : ByteArray := prog_2_method_15_code
def yX0_greatestGround : MethodName := ⟨RX0, "greatestGround", "()I"⟩
abbrev cX0_allSoil : ByteArray := prog_2_method_16_code
def yX0_allSoil : MethodName := ⟨RX0, "allSoil", "()I"⟩
abbrev cX0_thickAt : ByteArray := prog_2_method_17_code
def yX0_thickAt : MethodName := ⟨RX0, "thickAt", "(I)I"⟩
abbrev cX0_thickest : ByteArray := prog_2_method_18_code
def yX0_thickest : MethodName := ⟨RX0, "thickest", "()I"⟩
abbrev cX0_slipArea : ByteArray := prog_2_method_19_code
def yX0_slipArea : MethodName := ⟨RX0, "slipArea", "()I"⟩
abbrev cX0_dryUp : ByteArray := prog_2_method_20_code
def yX0_dryUp : MethodName := ⟨RX0, "dryUp", "()V"⟩
abbrev cX0_raiseWater : ByteArray := prog_2_method_21_code
def yX0_raiseWater : MethodName := ⟨RX0, "raiseWate\x72", "()V"⟩
abbrev cX0_turn : ByteArray := prog_2_method_22_code
def yX0_turn : MethodName := ⟨RX0, "turn", "()V"⟩
abbrev cX0_turnRow : ByteArray := prog_2_method_23_code
def yX0_turnRow : MethodName := ⟨RX0, "turnRow", "([II)V"⟩
def RX1 : String := "SlopeJudge$Held"
def TX1 : u_T := fun k => match k with
  | 0 => ("SlopeJudge$Held", "pointColumn", "[I", true)
  | 1 => ("SlopeJudge$Held", "pointHeight", "[I", true)
  | 2 => ("SlopeJudge$Held", "points", "I", false)
  | _ => ("SlopeJudge$Held", "state", "I", false)
def tyX1 : Nat → FieldType := fun k => match k with
  | 0 => .array .int
  | 1 => .array .int
  | 2 => .int
  | _ => .int
theorem nmX1 : ∀ a, a < 4 → ∀ b, b < 4 → a ≠ b → (TX1 a).2.1 ≠ (TX1 b).2.1 := by decide +kernel
theorem tyX1_ok : ∀ k, k < 4 → parseFieldDescriptor (TX1 k).2.2.1 = some (tyX1 k) := by decide +kernel
abbrev cX1_init : ByteArray := prog_3_method_1_code
def yX1_init : MethodName := ⟨RX1, "<init>", "()V"⟩
abbrev cX1_copy : ByteArray := prog_3_method_2_code
def yX1_copy : MethodName := ⟨RX1, "copy", "(LSlopeJudge$Held;)V"⟩
abbrev cX1_draw : ByteArray := prog_3_method_3_code
def yX1_draw : MethodName := ⟨RX1, "draw", "(I)I"⟩
def RX2 : String := "SlopeJudge$Report"
def TX2 : u_T := fun k => match k with
  | 0 => ("SlopeJudge$Report", "signs", "[I", true)
  | _ => ("SlopeJudge$Report", "length", "I", false)
def tyX2 : Nat → FieldType := fun k => match k with
  | 0 => .array .int
  | _ => .int
theorem nmX2 : ∀ a, a < 2 → ∀ b, b < 2 → a ≠ b → (TX2 a).2.1 ≠ (TX2 b).2.1 := by decide +kernel
theorem tyX2_ok : ∀ k, k < 2 → parseFieldDescriptor (TX2 k).2.2.1 = some (tyX2 k) := by decide +kernel
abbrev cX2_init : ByteArray := prog_4_method_1_code
def yX2_init : MethodName := ⟨RX2, "<init>", "()V"⟩
abbrev cX2_write : ByteArray := prog_4_method_2_code
def yX2_write : MethodName := ⟨RX2, "write", "(I)V"⟩
abbrev cX2_writeFactor : ByteArray := prog_4_method_3_code
def yX2_writeFactor : MethodName := ⟨RX2, "writeFacto\x72", "(I)V"⟩
abbrev cX2_writeNumber : ByteArray := prog_4_method_4_code
def yX2_writeNumber : MethodName := ⟨RX2, "writeNumbe\x72", "(I)V"⟩
def RX3 : String := "SlopeJudge$Seeke\x72"
def TX3 : u_T := fun k => match k with
  | 0 => ("SlopeJudge$Seeke\x72", "trial", "LSlopeJudge$Slip;", true)
  | 1 => ("SlopeJudge$Seeke\x72", "slices", "LSlopeJudge$Slices;", true)
  | 2 => ("SlopeJudge$Seeke\x72", "x", "I", false)
  | 3 => ("SlopeJudge$Seeke\x72", "y", "I", false)
  | 4 => ("SlopeJudge$Seeke\x72", "\x72", "I", false)
  | 5 => ("SlopeJudge$Seeke\x72", "least", "I", false)
  | _ => ("SlopeJudge$Seeke\x72", "rounds", "I", false)
def tyX3 : Nat → FieldType := fun k => match k with
  | 0 => .object "SlopeJudge$Slip"
  | 1 => .object "SlopeJudge$Slices"
  | 2 => .int
  | 3 => .int
  | 4 => .int
  | 5 => .int
  | _ => .int
theorem nmX3 : ∀ a, a < 7 → ∀ b, b < 7 → a ≠ b → (TX3 a).2.1 ≠ (TX3 b).2.1 := by decide +kernel
theorem tyX3_ok : ∀ k, k < 7 → parseFieldDescriptor (TX3 k).2.2.1 = some (tyX3 k) := by decide +kernel
abbrev cX3_init : ByteArray := prog_5_method_1_code
def yX3_init : MethodName := ⟨RX3, "<init>", "()V"⟩
abbrev cX3_ask : ByteArray := prog_5_method_2_code
def yX3_ask : MethodName := ⟨RX3, "ask", "(LSlopeJudge$Ground;IIIZI)I"⟩
abbrev cX3_seek : ByteArray := prog_5_method_3_code
def yX3_seek : MethodName := ⟨RX3, "seek", "(LSlopeJudge$Ground;IIIIZ)Z"⟩
abbrev cX3_goOn : ByteArray := prog_5_method_4_code
def yX3_goOn : MethodName := ⟨RX3, "goOn", "(LSlopeJudge$Ground;IZ)Z"⟩
abbrev cX3_off : ByteArray := prog_5_method_5_code
def yX3_off : MethodName := ⟨RX3, "off", "(II)I"⟩
def RX4 : String := "SlopeJudge$Slices"
def TX4 : u_T := fun k => match k with
  | 0 => ("SlopeJudge$Slices", "rise", "[I", true)
  | 1 => ("SlopeJudge$Slices", "weight", "[I", true)
  | 2 => ("SlopeJudge$Slices", "lift", "[I", true)
  | 3 => ("SlopeJudge$Slices", "layerOf", "[I", true)
  | 4 => ("SlopeJudge$Slices", "strength", "[J", true)
  | 5 => ("SlopeJudge$Slices", "push", "[J", true)
  | 6 => ("SlopeJudge$Slices", "grip", "[J", true)
  | 7 => ("SlopeJudge$Slices", "lean", "[J", true)
  | 8 => ("SlopeJudge$Slices", "count", "I", false)
  | 9 => ("SlopeJudge$Slices", "b", "I", false)
  | _ => ("SlopeJudge$Slices", "pulls", "J", false)
def tyX4 : Nat → FieldType := fun k => match k with
  | 0 => .array .int
  | 1 => .array .int
  | 2 => .array .int
  | 3 => .array .int
  | 4 => .array .long
  | 5 => .array .long
  | 6 => .array .long
  | 7 => .array .long
  | 8 => .int
  | 9 => .int
  | _ => .long
theorem nmX4 : ∀ a, a < 11 → ∀ b, b < 11 → a ≠ b → (TX4 a).2.1 ≠ (TX4 b).2.1 := by decide +kernel
theorem tyX4_ok : ∀ k, k < 11 → parseFieldDescriptor (TX4 k).2.2.1 = some (tyX4 k) := by decide +kernel
abbrev cX4_init : ByteArray := prog_6_method_1_code
def yX4_init : MethodName := ⟨RX4, "<init>", "()V"⟩
abbrev cX4_weigh : ByteArray := prog_6_method_2_code
def yX4_weigh : MethodName := ⟨RX4, "weigh", "(LSlopeJudge$Ground;LSlopeJudge$Slip;)V"⟩
abbrev cX4_settle : ByteArray := prog_6_method_3_code
def yX4_settle : MethodName := ⟨RX4, "settle", "(LSlopeJudge$Ground;I)V"⟩
abbrev cX4_burden : ByteArray := prog_6_method_4_code
def yX4_burden : MethodName := ⟨RX4, "burden", "(III)V"⟩
abbrev cX4_press : ByteArray := prog_6_method_5_code
def yX4_press : MethodName := ⟨RX4, "press", "(I)I"⟩
abbrev cX4_isFast : ByteArray := prog_6_method_6_code
def yX4_isFast : MethodName := ⟨RX4, "isFast", "(II)Z"⟩
abbrev cX4_rubsOf : ByteArray := prog_6_method_7_code
def yX4_rubsOf : MethodName := ⟨RX4, "rubsOf", "(II)J"⟩
abbrev cX4_thrustOf : ByteArray := prog_6_method_8_code
def yX4_thrustOf : MethodName := ⟨RX4, "thrustOf", "(II)J"⟩
abbrev cX4_lack : ByteArray := prog_6_method_9_code
def yX4_lack : MethodName := ⟨RX4, "lack", "(I)J"⟩
abbrev cX4_hold : ByteArray := prog_6_method_10_code
def yX4_hold : MethodName := ⟨RX4, "hold", "(I)Z"⟩
abbrev cX4_leastBound : ByteArray := prog_6_method_11_code
def yX4_leastBound : MethodName := ⟨RX4, "leastBound", "(I)I"⟩
abbrev cX4_allPushes : ByteArray := prog_6_method_12_code
def yX4_allPushes : MethodName := ⟨RX4, "allPushes", "()J"⟩
abbrev cX4_allWeights : ByteArray := prog_6_method_13_code
def yX4_allWeights : MethodName := ⟨RX4, "allWeights", "()J"⟩
abbrev cX4_allLifts : ByteArray := prog_6_method_14_code
def yX4_allLifts : MethodName := ⟨RX4, "allLifts", "()J"⟩
abbrev cX4_allStrengths : ByteArray := prog_6_method_15_code
def yX4_allStrengths : MethodName := ⟨RX4, "allStrengths", "()J"⟩
abbrev cX4_countFalling : ByteArray := prog_6_method_16_code
def yX4_countFalling : MethodName := ⟨RX4, "countFalling", "()I"⟩
abbrev cX4_countAfloat : ByteArray := prog_6_method_17_code
def yX4_countAfloat : MethodName := ⟨RX4, "countAfloat", "()I"⟩
def RX5 : String := "SlopeJudge$Slip"
def TX5 : u_T := fun k => match k with
  | 0 => ("SlopeJudge$Slip", "base", "[I", true)
  | 1 => ("SlopeJudge$Slip", "from", "I", false)
  | 2 => ("SlopeJudge$Slip", "to", "I", false)
  | _ => ("SlopeJudge$Slip", "left", "Z", false)
def tyX5 : Nat → FieldType := fun k => match k with
  | 0 => .array .int
  | 1 => .int
  | 2 => .int
  | _ => .boolean
theorem nmX5 : ∀ a, a < 4 → ∀ b, b < 4 → a ≠ b → (TX5 a).2.1 ≠ (TX5 b).2.1 := by decide +kernel
theorem tyX5_ok : ∀ k, k < 4 → parseFieldDescriptor (TX5 k).2.2.1 = some (tyX5 k) := by decide +kernel
abbrev cX5_init : ByteArray := prog_7_method_1_code
def yX5_init : MethodName := ⟨RX5, "<init>", "()V"⟩
abbrev cX5_isNone : ByteArray := prog_7_method_2_code
def yX5_isNone : MethodName := ⟨RX5, "isNone", "()Z"⟩
abbrev cX5_drop : ByteArray := prog_7_method_3_code
def yX5_drop : MethodName := ⟨RX5, "drop", "()V"⟩
abbrev cX5_count : ByteArray := prog_7_method_4_code
def yX5_count : MethodName := ⟨RX5, "count", "()I"⟩
abbrev cX5_copy : ByteArray := prog_7_method_5_code
def yX5_copy : MethodName := ⟨RX5, "copy", "(LSlopeJudge$Slip;)V"⟩
abbrev cX5_baseAt : ByteArray := prog_7_method_6_code
def yX5_baseAt : MethodName := ⟨RX5, "baseAt", "(I)I"⟩
abbrev cX5_leastBase : ByteArray := prog_7_method_7_code
def yX5_leastBase : MethodName := ⟨RX5, "leastBase", "()I"⟩
abbrev cX5_span : ByteArray := prog_7_method_8_code
def yX5_span : MethodName := ⟨RX5, "span", "(LSlopeJudge$Ground;IIZ)V"⟩
abbrev cX5_cut : ByteArray := prog_7_method_9_code
def yX5_cut : MethodName := ⟨RX5, "cut", "(LSlopeJudge$Ground;IIIZ)Z"⟩
abbrev cX5_follow : ByteArray := prog_7_method_10_code
def yX5_follow : MethodName := ⟨RX5, "follow", "(LSlopeJudge$Ground;LSlopeJudge$Held;Z)Z"⟩
abbrev cX5_heightAt : ByteArray := prog_7_method_11_code
def yX5_heightAt : MethodName := ⟨RX5, "heightAt", "(LSlopeJudge$Held;II)I"⟩
def RX6 : String := "SlopeJudge$Table"
def TX6 : u_T := fun k => match k with
  | 0 => ("SlopeJudge$Table", "ove\x72", "[J", true)
  | 1 => ("SlopeJudge$Table", "first", "[I", true)
  | 2 => ("SlopeJudge$Table", "weightOn", "[I", true)
  | 3 => ("SlopeJudge$Table", "topsOfBoth", "[I", true)
  | 4 => ("SlopeJudge$Table", "found", "LSlopeJudge$Slip;", true)
  | 5 => ("SlopeJudge$Table", "g", "LSlopeJudge$Ground;", false)
  | 6 => ("SlopeJudge$Table", "t", "I", false)
  | 7 => ("SlopeJudge$Table", "left", "Z", false)
  | 8 => ("SlopeJudge$Table", "k", "I", false)
  | 9 => ("SlopeJudge$Table", "allStand", "I", false)
  | 10 => ("SlopeJudge$Table", "leastOve\x72", "J", false)
  | 11 => ("SlopeJudge$Table", "leastFrom", "I", false)
  | 12 => ("SlopeJudge$Table", "leastTo", "I", false)
  | _ => ("SlopeJudge$Table", "fast", "Z", false)
def tyX6 : Nat → FieldType := fun k => match k with
  | 0 => .array .long
  | 1 => .array .int
  | 2 => .array .int
  | 3 => .array .int
  | 4 => .object "SlopeJudge$Slip"
  | 5 => .object "SlopeJudge$Ground"
  | 6 => .int
  | 7 => .boolean
  | 8 => .int
  | 9 => .int
  | 10 => .long
  | 11 => .int
  | 12 => .int
  | _ => .boolean
theorem nmX6 : ∀ a, a < 14 → ∀ b, b < 14 → a ≠ b → (TX6 a).2.1 ≠ (TX6 b).2.1 := by decide +kernel
theorem tyX6_ok : ∀ k, k < 14 → parseFieldDescriptor (TX6 k).2.2.1 = some (tyX6 k) := by decide +kernel
abbrev cX6_init : ByteArray := prog_8_method_1_code
def yX6_init : MethodName := ⟨RX6, "<init>", "()V"⟩
abbrev cX6_judge : ByteArray := prog_8_method_2_code
def yX6_judge : MethodName := ⟨RX6, "judge", "(LSlopeJudge$Ground;IZ)V"⟩
abbrev cX6_weighAll : ByteArray := prog_8_method_3_code
def yX6_weighAll : MethodName := ⟨RX6, "weighAll", "()V"⟩
abbrev cX6_sweep : ByteArray := prog_8_method_4_code
def yX6_sweep : MethodName := ⟨RX6, "sweep", "(IZ)V"⟩
abbrev cX6_addTops : ByteArray := prog_8_method_5_code
def yX6_addTops : MethodName := ⟨RX6, "addTops", "(I)V"⟩
abbrev cX6_stepOn : ByteArray := prog_8_method_6_code
def yX6_stepOn : MethodName := ⟨RX6, "stepOn", "(II)V"⟩
abbrev cX6_close : ByteArray := prog_8_method_7_code
def yX6_close : MethodName := ⟨RX6, "close", "(IIJ)V"⟩
abbrev cX6_pass : ByteArray := prog_8_method_8_code
def yX6_pass : MethodName := ⟨RX6, "pass", "(IIJ)V"⟩
abbrev cX6_leftOver : ByteArray := prog_8_method_9_code
def yX6_leftOver : MethodName := ⟨RX6, "leftOve\x72", "(III)J"⟩
abbrev cX6_goBack : ByteArray := prog_8_method_10_code
def yX6_goBack : MethodName := ⟨RX6, "goBack", "()V"⟩
def RX7 : String := "SlopeJudge$Tape"
def TX7 : u_T := fun k => match k with
  | 0 => ("SlopeJudge$Tape", "bytes", "[I", true)
  | 1 => ("SlopeJudge$Tape", "length", "I", false)
  | 2 => ("SlopeJudge$Tape", "at", "I", false)
  | 3 => ("SlopeJudge$Tape", "fault", "I", false)
  | 4 => ("SlopeJudge$Tape", "place", "I", false)
  | 5 => ("SlopeJudge$Tape", "begin", "I", false)
  | 6 => ("SlopeJudge$Tape", "wordEnd", "I", false)
  | _ => ("SlopeJudge$Tape", "told", "I", false)
def tyX7 : Nat → FieldType := fun k => match k with
  | 0 => .array .int
  | 1 => .int
  | 2 => .int
  | 3 => .int
  | 4 => .int
  | 5 => .int
  | 6 => .int
  | _ => .int
theorem nmX7 : ∀ a, a < 8 → ∀ b, b < 8 → a ≠ b → (TX7 a).2.1 ≠ (TX7 b).2.1 := by decide +kernel
theorem tyX7_ok : ∀ k, k < 8 → parseFieldDescriptor (TX7 k).2.2.1 = some (tyX7 k) := by decide +kernel
abbrev cX7_init : ByteArray := prog_9_method_1_code
def yX7_init : MethodName := ⟨RX7, "<init>", "()V"⟩
abbrev cX7_put : ByteArray := prog_9_method_2_code
def yX7_put : MethodName := ⟨RX7, "put", "(I)V"⟩
abbrev cX7_read : ByteArray := prog_9_method_3_code
def yX7_read : MethodName := ⟨RX7, "read", "(LSlopeJudge$Ground;)I"⟩
abbrev cX7_fail : ByteArray := prog_9_method_4_code
def yX7_fail : MethodName := ⟨RX7, "fail", "(II)I"⟩
abbrev cX7_skip : ByteArray := prog_9_method_5_code
def yX7_skip : MethodName := ⟨RX7, "skip", "()V"⟩
abbrev cX7_sees : ByteArray := prog_9_method_6_code
def yX7_sees : MethodName := ⟨RX7, "sees", "(I)Z"⟩
abbrev cX7_seesFrom : ByteArray := prog_9_method_7_code
def yX7_seesFrom : MethodName := ⟨RX7, "seesFrom", "(II)Z"⟩
abbrev cX7_readEnd : ByteArray := prog_9_method_8_code
def yX7_readEnd : MethodName := ⟨RX7, "readEnd", "()Z"⟩
abbrev cX7_readNumber : ByteArray := prog_9_method_9_code
def yX7_readNumber : MethodName := ⟨RX7, "readNumbe\x72", "(II)I"⟩
abbrev cX7_readWord : ByteArray := prog_9_method_10_code
def yX7_readWord : MethodName := ⟨RX7, "readWord", "()V"⟩
abbrev cX7_isWord : ByteArray := prog_9_method_11_code
def yX7_isWord : MethodName := ⟨RX7, "isWord", "(Ljava/lang/String;)Z"⟩
abbrev cX7_readColumns : ByteArray := prog_9_method_12_code
def yX7_readColumns : MethodName := ⟨RX7, "readColumns", "(LSlopeJudge$Ground;)Z"⟩
abbrev cX7_lineKind : ByteArray := prog_9_method_13_code
def yX7_lineKind : MethodName := ⟨RX7, "lineKind", "()I"⟩
abbrev cX7_readLine : ByteArray := prog_9_method_14_code
def yX7_readLine : MethodName := ⟨RX7, "readLine", "(LSlopeJudge$Ground;)Z"⟩
abbrev cX7_isNew : ByteArray := prog_9_method_15_code
def yX7_isNew : MethodName := ⟨RX7, "isNew", "(I)Z"⟩
abbrev cX7_readQuake : ByteArray := prog_9_method_16_code
def yX7_readQuake : MethodName := ⟨RX7, "readQuake", "(LSlopeJudge$Ground;)Z"⟩
abbrev cX7_readTop : ByteArray := prog_9_method_17_code
def yX7_readTop : MethodName := ⟨RX7, "readTop", "(LSlopeJudge$Ground;)Z"⟩
abbrev cX7_readSoil : ByteArray := prog_9_method_18_code
def yX7_readSoil : MethodName := ⟨RX7, "readSoil", "(LSlopeJudge$Ground;)Z"⟩
abbrev cX7_readAnchor : ByteArray := prog_9_method_19_code
def yX7_readAnchor : MethodName := ⟨RX7, "readAncho\x72", "(LSlopeJudge$Ground;)Z"⟩
abbrev cX7_readRow : ByteArray := prog_9_method_20_code
def yX7_readRow : MethodName := ⟨RX7, "readRow", "([IIII)Z"⟩
abbrev cX7_readTimes : ByteArray := prog_9_method_21_code
def yX7_readTimes : MethodName := ⟨RX7, "readTimes", "(I)I"⟩
def RX8 : String := "SlopeJudge"
def TX8 : u_T := fun k => match k with
  | 0 => ("SlopeJudge", "now", "LSlopeJudge$Ground;", true)
  | 1 => ("SlopeJudge", "thought", "LSlopeJudge$Ground;", true)
  | 2 => ("SlopeJudge", "imageGround", "LSlopeJudge$Ground;", true)
  | 3 => ("SlopeJudge", "held", "LSlopeJudge$Held;", true)
  | 4 => ("SlopeJudge", "imageHeld", "LSlopeJudge$Held;", true)
  | 5 => ("SlopeJudge", "chosen", "LSlopeJudge$Report;", true)
  | 6 => ("SlopeJudge", "acts", "[LSlopeJudge$Ground;", true)
  | 7 => ("SlopeJudge", "tape", "LSlopeJudge$Tape;", true)
  | 8 => ("SlopeJudge", "slices", "LSlopeJudge$Slices;", true)
  | 9 => ("SlopeJudge", "seeke\x72", "LSlopeJudge$Seeker;", true)
  | 10 => ("SlopeJudge", "trial", "LSlopeJudge$Slip;", true)
  | 11 => ("SlopeJudge", "table", "LSlopeJudge$Table;", false)
  | 12 => ("SlopeJudge", "imageTaken", "Z", false)
  | 13 => ("SlopeJudge", "actsKept", "I", false)
  | _ => ("SlopeJudge", "nextAct", "I", false)
def tyX8 : Nat → FieldType := fun k => match k with
  | 0 => .object "SlopeJudge$Ground"
  | 1 => .object "SlopeJudge$Ground"
  | 2 => .object "SlopeJudge$Ground"
  | 3 => .object "SlopeJudge$Held"
  | 4 => .object "SlopeJudge$Held"
  | 5 => .object "SlopeJudge$Report"
  | 6 => .array (.object "SlopeJudge$Ground")
  | 7 => .object "SlopeJudge$Tape"
  | 8 => .object "SlopeJudge$Slices"
  | 9 => .object "SlopeJudge$Seeke\x72"
  | 10 => .object "SlopeJudge$Slip"
  | 11 => .object "SlopeJudge$Table"
  | 12 => .boolean
  | 13 => .int
  | _ => .int
theorem nmX8 : ∀ a, a < 15 → ∀ b, b < 15 → a ≠ b → (TX8 a).2.1 ≠ (TX8 b).2.1 := by decide +kernel
theorem tyX8_ok : ∀ k, k < 15 → parseFieldDescriptor (TX8 k).2.2.1 = some (tyX8 k) := by decide +kernel
abbrev cX8_init : ByteArray := prog_1_method_1_code
def yX8_init : MethodName := ⟨RX8, "<init>", "()V"⟩
abbrev cX8_size : ByteArray := prog_1_method_2_code
def yX8_size : MethodName := ⟨RX8, "size", "(II)Z"⟩
abbrev cX8_tell : ByteArray := prog_1_method_3_code
def yX8_tell : MethodName := ⟨RX8, "tell", "(III)Z"⟩
abbrev cX8_tellRock : ByteArray := prog_1_method_4_code
def yX8_tellRock : MethodName := ⟨RX8, "tellRock", "(II)Z"⟩
abbrev cX8_dig : ByteArray := prog_1_method_5_code
def yX8_dig : MethodName := ⟨RX8, "dig", "(II)I"⟩
abbrev cX8_soil : ByteArray := prog_1_method_6_code
def yX8_soil : MethodName := ⟨RX8, "soil", "(IIII)Z"⟩
abbrev cX8_quake : ByteArray := prog_1_method_7_code
def yX8_quake : MethodName := ⟨RX8, "quake", "(I)Z"⟩
abbrev cX8_anchor : ByteArray := prog_1_method_8_code
def yX8_anchor : MethodName := ⟨RX8, "ancho\x72", "(IIII)Z"⟩
abbrev cX8_feed : ByteArray := prog_1_method_9_code
def yX8_feed : MethodName := ⟨RX8, "feed", "(IIIII)I"⟩
abbrev cX8_end : ByteArray := prog_1_method_10_code
def yX8_end : MethodName := ⟨RX8, "end", "(I)Z"⟩
abbrev cX8_text : ByteArray := prog_1_method_11_code
def yX8_text : MethodName := ⟨RX8, "text", "()I"⟩
abbrev cX8_fault : ByteArray := prog_1_method_12_code
def yX8_fault : MethodName := ⟨RX8, "fault", "(I)I"⟩
abbrev cX8_circle : ByteArray := prog_1_method_13_code
def yX8_circle : MethodName := ⟨RX8, "circle", "(IIIZ)I"⟩
abbrev cX8_point : ByteArray := prog_1_method_14_code
def yX8_point : MethodName := ⟨RX8, "point", "(II)I"⟩
abbrev cX8_points : ByteArray := prog_1_method_15_code
def yX8_points : MethodName := ⟨RX8, "points", "(Z)I"⟩
abbrev cX8_worst : ByteArray := prog_1_method_16_code
def yX8_worst : MethodName := ⟨RX8, "worst", "(IZ)I"⟩
abbrev cX8_takeTrial : ByteArray := prog_1_method_17_code
def yX8_takeTrial : MethodName := ⟨RX8, "takeTrial", "()I"⟩
abbrev cX8_mirror : ByteArray := prog_1_method_18_code
def yX8_mirror : MethodName := ⟨RX8, "mirro\x72", "()Z"⟩
abbrev cX8_keepAct : ByteArray := prog_1_method_19_code
def yX8_keepAct : MethodName := ⟨RX8, "keepAct", "()V"⟩
abbrev cX8_undo : ByteArray := prog_1_method_20_code
def yX8_undo : MethodName := ⟨RX8, "undo", "()I"⟩
abbrev cX8_image : ByteArray := prog_1_method_21_code
def yX8_image : MethodName := ⟨RX8, "image", "(Z)Z"⟩
abbrev cX8_column : ByteArray := prog_1_method_22_code
def yX8_column : MethodName := ⟨RX8, "column", "(II)I"⟩
abbrev cX8_layer : ByteArray := prog_1_method_23_code
def yX8_layer : MethodName := ⟨RX8, "laye\x72", "(II)I"⟩
abbrev cX8_anchored : ByteArray := prog_1_method_24_code
def yX8_anchored : MethodName := ⟨RX8, "anchored", "(II)I"⟩
abbrev cX8_look : ByteArray := prog_1_method_25_code
def yX8_look : MethodName := ⟨RX8, "look", "(I)I"⟩
abbrev cX8_cutUp : ByteArray := prog_1_method_26_code
def yX8_cutUp : MethodName := ⟨RX8, "cutUp", "()Z"⟩
abbrev cX8_isK : ByteArray := prog_1_method_27_code
def yX8_isK : MethodName := ⟨RX8, "isK", "(I)Z"⟩
abbrev cX8_slice : ByteArray := prog_1_method_28_code
def yX8_slice : MethodName := ⟨RX8, "slice", "(II)J"⟩
abbrev cX8_rubs : ByteArray := prog_1_method_29_code
def yX8_rubs : MethodName := ⟨RX8, "rubs", "(II)J"⟩
abbrev cX8_stands : ByteArray := prog_1_method_30_code
def yX8_stands : MethodName := ⟨RX8, "stands", "(I)I"⟩
abbrev cX8_factor : ByteArray := prog_1_method_31_code
def yX8_factor : MethodName := ⟨RX8, "facto\x72", "()I"⟩
abbrev cX8_sum : ByteArray := prog_1_method_32_code
def yX8_sum : MethodName := ⟨RX8, "sum", "(I)J"⟩
abbrev cX8_dry : ByteArray := prog_1_method_33_code
def yX8_dry : MethodName := ⟨RX8, "dry", "()I"⟩
abbrev cX8_bears : ByteArray := prog_1_method_34_code
def yX8_bears : MethodName := ⟨RX8, "bears", "(I)I"⟩
abbrev cX8_needs : ByteArray := prog_1_method_35_code
def yX8_needs : MethodName := ⟨RX8, "needs", "(I)I"⟩
abbrev cX8_pull : ByteArray := prog_1_method_36_code
def yX8_pull : MethodName := ⟨RX8, "pull", "(I)I"⟩
abbrev cX8_berm : ByteArray := prog_1_method_37_code
def yX8_berm : MethodName := ⟨RX8, "berm", "(III)I"⟩
abbrev cX8_shape : ByteArray := prog_1_method_38_code
def yX8_shape : MethodName := ⟨RX8, "shape", "(I)I"⟩
abbrev cX8_thrust : ByteArray := prog_1_method_39_code
def yX8_thrust : MethodName := ⟨RX8, "thrust", "(II)J"⟩
abbrev cX8_crest : ByteArray := prog_1_method_40_code
def yX8_crest : MethodName := ⟨RX8, "crest", "(I)I"⟩
abbrev cX8_isCircle : ByteArray := prog_1_method_41_code
def yX8_isCircle : MethodName := ⟨RX8, "isCircle", "(III)Z"⟩
abbrev cX8_tried : ByteArray := prog_1_method_42_code
def yX8_tried : MethodName := ⟨RX8, "tried", "(IIIZ)I"⟩
abbrev cX8_boxes : ByteArray := prog_1_method_43_code
def yX8_boxes : MethodName := ⟨RX8, "boxes", "(IIIIZI)I"⟩
abbrev cX8_dug : ByteArray := prog_1_method_44_code
def yX8_dug : MethodName := ⟨RX8, "dug", "(IIIIIZ)I"⟩
abbrev cX8_deep : ByteArray := prog_1_method_45_code
def yX8_deep : MethodName := ⟨RX8, "deep", "(IIIIIZ)I"⟩
abbrev cX8_scan : ByteArray := prog_1_method_46_code
def yX8_scan : MethodName := ⟨RX8, "scan", "(IIIIZII)I"⟩
abbrev cX8_tableOf : ByteArray := prog_1_method_47_code
def yX8_tableOf : MethodName := ⟨RX8, "tableOf", "(IZ)LSlopeJudge$Table;"⟩
abbrev cX8_tables : ByteArray := prog_1_method_48_code
def yX8_tables : MethodName := ⟨RX8, "tables", "(IZI)I"⟩
abbrev cX8_state : ByteArray := prog_1_method_49_code
def yX8_state : MethodName := ⟨RX8, "state", "(I)I"⟩
abbrev cX8_chance : ByteArray := prog_1_method_50_code
def yX8_chance : MethodName := ⟨RX8, "chance", "(III)I"⟩
abbrev cX8_report : ByteArray := prog_1_method_51_code
def yX8_report : MethodName := ⟨RX8, "report", "()I"⟩
abbrev cX8_sign : ByteArray := prog_1_method_52_code
def yX8_sign : MethodName := ⟨RX8, "sign", "(I)I"⟩
abbrev cX8_topPlace : ByteArray := prog_1_method_53_code
def yX8_topPlace : MethodName := ⟨RX8, "topPlace", "(II)I"⟩
abbrev cX8_rootOf : ByteArray := prog_1_method_54_code
def yX8_rootOf : MethodName := ⟨RX8, "rootOf", "(I)I"⟩
def RX9 : String := "SlopeJudgeModel"
def TX9 : u_T := fun k => match k with
  | 0 => ("SlopeJudgeModel", "w", "[I", true)
  | 1 => ("SlopeJudgeModel", "aside", "[I", true)
  | 2 => ("SlopeJudgeModel", "kept", "[I", true)
  | 3 => ("SlopeJudgeModel", "undos", "[I", true)
  | 4 => ("SlopeJudgeModel", "undoMany", "I", false)
  | 5 => ("SlopeJudgeModel", "hasImage", "Z", false)
  | 6 => ("SlopeJudgeModel", "rise", "I", false)
  | 7 => ("SlopeJudgeModel", "laye\x72", "I", false)
  | 8 => ("SlopeJudgeModel", "weight", "J", false)
  | 9 => ("SlopeJudgeModel", "lift", "J", false)
  | 10 => ("SlopeJudgeModel", "press", "J", false)
  | 11 => ("SlopeJudgeModel", "strength", "J", false)
  | 12 => ("SlopeJudgeModel", "push", "J", false)
  | 13 => ("SlopeJudgeModel", "from", "I", false)
  | 14 => ("SlopeJudgeModel", "to", "I", false)
  | 15 => ("SlopeJudgeModel", "left", "Z", false)
  | 16 => ("SlopeJudgeModel", "base", "[I", true)
  | 17 => ("SlopeJudgeModel", "handX", "I", false)
  | 18 => ("SlopeJudgeModel", "handY", "I", false)
  | 19 => ("SlopeJudgeModel", "handR", "I", false)
  | 20 => ("SlopeJudgeModel", "hand", "I", false)
  | 21 => ("SlopeJudgeModel", "rounds", "I", false)
  | 22 => ("SlopeJudgeModel", "ove\x72", "[J", true)
  | 23 => ("SlopeJudgeModel", "back", "[I", true)
  | 24 => ("SlopeJudgeModel", "ends", "[J", true)
  | 25 => ("SlopeJudgeModel", "signs", "[I", true)
  | 26 => ("SlopeJudgeModel", "signMany", "I", false)
  | 27 => ("SlopeJudgeModel", "tape", "[B", true)
  | 28 => ("SlopeJudgeModel", "taped", "I", false)
  | 29 => ("SlopeJudgeModel", "at", "I", false)
  | 30 => ("SlopeJudgeModel", "faultKind", "I", false)
  | 31 => ("SlopeJudgeModel", "faultPlace", "I", false)
  | 32 => ("SlopeJudgeModel", "isWrong", "Z", false)
  | 33 => ("SlopeJudgeModel", "numberAt", "I", false)
  | _ => ("SlopeJudgeModel", "isTold", "[Z", true)
def tyX9 : Nat → FieldType := fun k => match k with
  | 0 => .array .int
  | 1 => .array .int
  | 2 => .array .int
  | 3 => .array .int
  | 4 => .int
  | 5 => .boolean
  | 6 => .int
  | 7 => .int
  | 8 => .long
  | 9 => .long
  | 10 => .long
  | 11 => .long
  | 12 => .long
  | 13 => .int
  | 14 => .int
  | 15 => .boolean
  | 16 => .array .int
  | 17 => .int
  | 18 => .int
  | 19 => .int
  | 20 => .int
  | 21 => .int
  | 22 => .array .long
  | 23 => .array .int
  | 24 => .array .long
  | 25 => .array .int
  | 26 => .int
  | 27 => .array .byte
  | 28 => .int
  | 29 => .int
  | 30 => .int
  | 31 => .int
  | 32 => .boolean
  | 33 => .int
  | _ => .array .boolean
theorem nmX9 : ∀ a, a < 35 → ∀ b, b < 35 → a ≠ b → (TX9 a).2.1 ≠ (TX9 b).2.1 := by decide +kernel
theorem tyX9_ok : ∀ k, k < 35 → parseFieldDescriptor (TX9 k).2.2.1 = some (tyX9 k) := by decide +kernel
abbrev cX9_isIn : ByteArray := prog_11_method_1_code
def yX9_isIn : MethodName := ⟨RX9, "isIn", "(JJJ)Z"⟩
abbrev cX9_least : ByteArray := prog_11_method_2_code
def yX9_least : MethodName := ⟨RX9, "least", "(II)I"⟩
abbrev cX9_most : ByteArray := prog_11_method_3_code
def yX9_most : MethodName := ⟨RX9, "most", "(II)I"⟩
abbrev cX9_init : ByteArray := prog_11_method_4_code
def yX9_init : MethodName := ⟨RX9, "<init>", "()V"⟩
abbrev cX9_begins : ByteArray := prog_11_method_5_code
def yX9_begins : MethodName := ⟨RX9, "begins", "(II)V"⟩
abbrev cX9_isColumn : ByteArray := prog_11_method_6_code
def yX9_isColumn : MethodName := ⟨RX9, "isColumn", "(I)Z"⟩
abbrev cX9_hasSlip : ByteArray := prog_11_method_7_code
def yX9_hasSlip : MethodName := ⟨RX9, "hasSlip", "()Z"⟩
abbrev cX9_remembers : ByteArray := prog_11_method_8_code
def yX9_remembers : MethodName := ⟨RX9, "remembers", "([I)V"⟩
abbrev cX9_undo : ByteArray := prog_11_method_9_code
def yX9_undo : MethodName := ⟨RX9, "undo", "()I"⟩
abbrev cX9_size : ByteArray := prog_11_method_10_code
def yX9_size : MethodName := ⟨RX9, "size", "(II)Z"⟩
abbrev cX9_tell : ByteArray := prog_11_method_11_code
def yX9_tell : MethodName := ⟨RX9, "tell", "(III)Z"⟩
abbrev cX9_canDig : ByteArray := prog_11_method_12_code
def yX9_canDig : MethodName := ⟨RX9, "canDig", "(II)Z"⟩
abbrev cX9_dig : ByteArray := prog_11_method_13_code
def yX9_dig : MethodName := ⟨RX9, "dig", "(II)I"⟩
abbrev cX9_turnsRound : ByteArray := prog_11_method_14_code
def yX9_turnsRound : MethodName := ⟨RX9, "turnsRound", "(I)V"⟩
abbrev cX9_mirror : ByteArray := prog_11_method_15_code
def yX9_mirror : MethodName := ⟨RX9, "mirro\x72", "()Z"⟩
abbrev cX9_soil : ByteArray := prog_11_method_16_code
def yX9_soil : MethodName := ⟨RX9, "soil", "(IIII)Z"⟩
abbrev cX9_quake : ByteArray := prog_11_method_17_code
def yX9_quake : MethodName := ⟨RX9, "quake", "(I)Z"⟩
abbrev cX9_anchor : ByteArray := prog_11_method_18_code
def yX9_anchor : MethodName := ⟨RX9, "ancho\x72", "(IIII)Z"⟩
abbrev cX9_top : ByteArray := prog_11_method_19_code
def yX9_top : MethodName := ⟨RX9, "top", "(II)I"⟩
abbrev cX9_water : ByteArray := prog_11_method_20_code
def yX9_water : MethodName := ⟨RX9, "wate\x72", "(I)I"⟩
abbrev cX9_thick : ByteArray := prog_11_method_21_code
def yX9_thick : MethodName := ⟨RX9, "thick", "(III)I"⟩
abbrev cX9_laysSlice : ByteArray := prog_11_method_22_code
def yX9_laysSlice : MethodName := ⟨RX9, "laysSlice", "(IIIZ)V"⟩
abbrev cX9_rubsOf : ByteArray := prog_11_method_23_code
def yX9_rubsOf : MethodName := ⟨RX9, "rubsOf", "(I)J"⟩
abbrev cX9_takesSlip : ByteArray := prog_11_method_24_code
def yX9_takesSlip : MethodName := ⟨RX9, "takesSlip", "()Z"⟩
abbrev cX9_keepsSlip : ByteArray := prog_11_method_25_code
def yX9_keepsSlip : MethodName := ⟨RX9, "keepsSlip", "()I"⟩
abbrev cX9_laysAt : ByteArray := prog_11_method_26_code
def yX9_laysAt : MethodName := ⟨RX9, "laysAt", "(I)V"⟩
abbrev cX9_isCounting : ByteArray := prog_11_method_27_code
def yX9_isCounting : MethodName := ⟨RX9, "isCounting", "(I)Z"⟩
abbrev cX9_pulls : ByteArray := prog_11_method_28_code
def yX9_pulls : MethodName := ⟨RX9, "pulls", "()J"⟩
abbrev cX9_upwards : ByteArray := prog_11_method_29_code
def yX9_upwards : MethodName := ⟨RX9, "upwards", "(JJ)J"⟩
abbrev cX9_downwards : ByteArray := prog_11_method_30_code
def yX9_downwards : MethodName := ⟨RX9, "downwards", "(JJ)J"⟩
abbrev cX9_standsWith : ByteArray := prog_11_method_31_code
def yX9_standsWith : MethodName := ⟨RX9, "standsWith", "(IJ)Z"⟩
abbrev cX9_isStanding : ByteArray := prog_11_method_32_code
def yX9_isStanding : MethodName := ⟨RX9, "isStanding", "(I)Z"⟩
abbrev cX9_factorOf : ByteArray := prog_11_method_33_code
def yX9_factorOf : MethodName := ⟨RX9, "factorOf", "()I"⟩
abbrev cX9_root : ByteArray := prog_11_method_34_code
def yX9_root : MethodName := ⟨RX9, "root", "(I)I"⟩
abbrev cX9_isCircle : ByteArray := prog_11_method_35_code
def yX9_isCircle : MethodName := ⟨RX9, "isCircle", "(III)Z"⟩
abbrev cX9_isBelow : ByteArray := prog_11_method_36_code
def yX9_isBelow : MethodName := ⟨RX9, "isBelow", "(IIII)Z"⟩
abbrev cX9_cuts : ByteArray := prog_11_method_37_code
def yX9_cuts : MethodName := ⟨RX9, "cuts", "(IIIZ)Z"⟩
abbrev cX9_circle : ByteArray := prog_11_method_38_code
def yX9_circle : MethodName := ⟨RX9, "circle", "(IIIZ)I"⟩
abbrev cX9_factorBy : ByteArray := prog_11_method_39_code
def yX9_factorBy : MethodName := ⟨RX9, "factorBy", "(IIIZ)I"⟩
abbrev cX9_tried : ByteArray := prog_11_method_40_code
def yX9_tried : MethodName := ⟨RX9, "tried", "(IIIZ)I"⟩
abbrev cX9_point : ByteArray := prog_11_method_41_code
def yX9_point : MethodName := ⟨RX9, "point", "(II)I"⟩
abbrev cX9_pointsCan : ByteArray := prog_11_method_42_code
def yX9_pointsCan : MethodName := ⟨RX9, "pointsCan", "()Z"⟩
abbrev cX9_points : ByteArray := prog_11_method_43_code
def yX9_points : MethodName := ⟨RX9, "points", "(Z)I"⟩
abbrev cX9_isBetter : ByteArray := prog_11_method_44_code
def yX9_isBetter : MethodName := ⟨RX9, "isBette\x72", "(IZ)Z"⟩
abbrev cX9_searches : ByteArray := prog_11_method_45_code
def yX9_searches : MethodName := ⟨RX9, "searches", "(IIIIZ)I"⟩
abbrev cX9_boxes : ByteArray := prog_11_method_46_code
def yX9_boxes : MethodName := ⟨RX9, "boxes", "(IIIIZI)I"⟩
abbrev cX9_adds : ByteArray := prog_11_method_48_code
def yX9_adds : MethodName := ⟨RX9, "adds", "(IIIZI)J"⟩
abbrev cX9_goes : ByteArray := prog_11_method_49_code
def yX9_goes : MethodName := ⟨RX9, "goes", "(IZIZI)J"⟩
abbrev cX9_comes : ByteArray := prog_11_method_50_code
def yX9_comes : MethodName := ⟨RX9, "comes", "(IIIZI)V"⟩
abbrev cX9_tableK : ByteArray := prog_11_method_51_code
def yX9_tableK : MethodName := ⟨RX9, "tableK", "(IZ)I"⟩
abbrev cX9_findsWorst : ByteArray := prog_11_method_52_code
def yX9_findsWorst : MethodName := ⟨RX9, "findsWorst", "(IZI)Z"⟩
abbrev cX9_tables : ByteArray := prog_11_method_53_code
def yX9_tables : MethodName := ⟨RX9, "tables", "(IZI)I"⟩
abbrev cX9_worst : ByteArray := prog_11_method_54_code
def yX9_worst : MethodName := ⟨RX9, "worst", "(IZ)I"⟩
abbrev cX9_isSlice : ByteArray := prog_11_method_55_code
def yX9_isSlice : MethodName := ⟨RX9, "isSlice", "(I)Z"⟩
abbrev cX9_slice : ByteArray := prog_11_method_56_code
def yX9_slice : MethodName := ⟨RX9, "slice", "(II)J"⟩
abbrev cX9_isK : ByteArray := prog_11_method_57_code
def yX9_isK : MethodName := ⟨RX9, "isK", "(I)Z"⟩
abbrev cX9_rubs : ByteArray := prog_11_method_58_code
def yX9_rubs : MethodName := ⟨RX9, "rubs", "(II)J"⟩
abbrev cX9_stands : ByteArray := prog_11_method_59_code
def yX9_stands : MethodName := ⟨RX9, "stands", "(I)I"⟩
abbrev cX9_factor : ByteArray := prog_11_method_60_code
def yX9_factor : MethodName := ⟨RX9, "facto\x72", "()I"⟩
abbrev cX9_sum : ByteArray := prog_11_method_61_code
def yX9_sum : MethodName := ⟨RX9, "sum", "(I)J"⟩
abbrev cX9_hasFast : ByteArray := prog_11_method_62_code
def yX9_hasFast : MethodName := ⟨RX9, "hasFast", "(II)Z"⟩
abbrev cX9_thrustOf : ByteArray := prog_11_method_63_code
def yX9_thrustOf : MethodName := ⟨RX9, "thrustOf", "(II)J"⟩
abbrev cX9_thrust : ByteArray := prog_11_method_64_code
def yX9_thrust : MethodName := ⟨RX9, "thrust", "(II)J"⟩
abbrev cX9_crest : ByteArray := prog_11_method_65_code
def yX9_crest : MethodName := ⟨RX9, "crest", "(I)I"⟩
abbrev cX9_laysAside : ByteArray := prog_11_method_66_code
def yX9_laysAside : MethodName := ⟨RX9, "laysAside", "()V"⟩
abbrev cX9_comesBack : ByteArray := prog_11_method_67_code
def yX9_comesBack : MethodName := ⟨RX9, "comesBack", "()V"⟩
abbrev cX9_dry : ByteArray := prog_11_method_68_code
def yX9_dry : MethodName := ⟨RX9, "dry", "()I"⟩
abbrev cX9_bears : ByteArray := prog_11_method_69_code
def yX9_bears : MethodName := ⟨RX9, "bears", "(I)I"⟩
abbrev cX9_needs : ByteArray := prog_11_method_70_code
def yX9_needs : MethodName := ⟨RX9, "needs", "(I)I"⟩
abbrev cX9_berm : ByteArray := prog_11_method_71_code
def yX9_berm : MethodName := ⟨RX9, "berm", "(III)I"⟩
abbrev cX9_deepest : ByteArray := prog_11_method_72_code
def yX9_deepest : MethodName := ⟨RX9, "deepest", "()I"⟩
abbrev cX9_bodyOf : ByteArray := prog_11_method_73_code
def yX9_bodyOf : MethodName := ⟨RX9, "bodyOf", "()I"⟩
abbrev cX9_leastBase : ByteArray := prog_11_method_74_code
def yX9_leastBase : MethodName := ⟨RX9, "leastBase", "()I"⟩
abbrev cX9_slicesOf : ByteArray := prog_11_method_75_code
def yX9_slicesOf : MethodName := ⟨RX9, "slicesOf", "(Z)I"⟩
abbrev cX9_shape : ByteArray := prog_11_method_76_code
def yX9_shape : MethodName := ⟨RX9, "shape", "(I)I"⟩
abbrev cX9_pull : ByteArray := prog_11_method_77_code
def yX9_pull : MethodName := ⟨RX9, "pull", "(I)I"⟩
abbrev cX9_dug : ByteArray := prog_11_method_78_code
def yX9_dug : MethodName := ⟨RX9, "dug", "(IIIIIZ)I"⟩
abbrev cX9_deep : ByteArray := prog_11_method_79_code
def yX9_deep : MethodName := ⟨RX9, "deep", "(IIIIIZ)I"⟩
abbrev cX9_scan : ByteArray := prog_11_method_80_code
def yX9_scan : MethodName := ⟨RX9, "scan", "(IIIIZII)I"⟩
abbrev cX9_state : ByteArray := prog_11_method_81_code
def yX9_state : MethodName := ⟨RX9, "state", "(I)I"⟩
abbrev cX9_draw : ByteArray := prog_11_method_82_code
def yX9_draw : MethodName := ⟨RX9, "draw", "(I)I"⟩
abbrev cX9_chance : ByteArray := prog_11_method_83_code
def yX9_chance : MethodName := ⟨RX9, "chance", "(III)I"⟩
abbrev cX9_says : ByteArray := prog_11_method_84_code
def yX9_says : MethodName := ⟨RX9, "says", "(I)V"⟩
abbrev cX9_saysNumber : ByteArray := prog_11_method_85_code
def yX9_saysNumber : MethodName := ⟨RX9, "saysNumbe\x72", "(I)V"⟩
abbrev cX9_report : ByteArray := prog_11_method_86_code
def yX9_report : MethodName := ⟨RX9, "report", "()I"⟩
abbrev cX9_sign : ByteArray := prog_11_method_87_code
def yX9_sign : MethodName := ⟨RX9, "sign", "(I)I"⟩
abbrev cX9_comesWord : ByteArray := prog_11_method_88_code
def yX9_comesWord : MethodName := ⟨RX9, "comesWord", "(I)V"⟩
abbrev cX9_feed : ByteArray := prog_11_method_89_code
def yX9_feed : MethodName := ⟨RX9, "feed", "(IIIII)I"⟩
abbrev cX9_end : ByteArray := prog_11_method_90_code
def yX9_end : MethodName := ⟨RX9, "end", "(I)Z"⟩
abbrev cX9_fault : ByteArray := prog_11_method_91_code
def yX9_fault : MethodName := ⟨RX9, "fault", "(I)I"⟩
abbrev cX9_wrong : ByteArray := prog_11_method_92_code
def yX9_wrong : MethodName := ⟨RX9, "wrong", "(II)V"⟩
abbrev cX9_blanks : ByteArray := prog_11_method_93_code
def yX9_blanks : MethodName := ⟨RX9, "blanks", "()V"⟩
abbrev cX9_isNext : ByteArray := prog_11_method_94_code
def yX9_isNext : MethodName := ⟨RX9, "isNext", "(I)Z"⟩
abbrev cX9_isDigitNext : ByteArray := prog_11_method_95_code
def yX9_isDigitNext : MethodName := ⟨RX9, "isDigitNext", "()Z"⟩
abbrev cX9_must : ByteArray := prog_11_method_96_code
def yX9_must : MethodName := ⟨RX9, "must", "(I)V"⟩
abbrev cX9_number : ByteArray := prog_11_method_97_code
def yX9_number : MethodName := ⟨RX9, "numbe\x72", "(II)I"⟩
abbrev cX9_wordEnd : ByteArray := prog_11_method_98_code
def yX9_wordEnd : MethodName := ⟨RX9, "wordEnd", "()I"⟩
abbrev cX9_spells : ByteArray := prog_11_method_99_code
def yX9_spells : MethodName := ⟨RX9, "spells", "(IIIIIIII)Z"⟩
abbrev cX9_word : ByteArray := prog_11_method_100_code
def yX9_word : MethodName := ⟨RX9, "word", "()I"⟩
abbrev cX9_tells : ByteArray := prog_11_method_101_code
def yX9_tells : MethodName := ⟨RX9, "tells", "(II)V"⟩
abbrev cX9_runs : ByteArray := prog_11_method_102_code
def yX9_runs : MethodName := ⟨RX9, "runs", "(II)V"⟩
abbrev cX9_soilLine : ByteArray := prog_11_method_103_code
def yX9_soilLine : MethodName := ⟨RX9, "soilLine", "()V"⟩
abbrev cX9_anchorLine : ByteArray := prog_11_method_104_code
def yX9_anchorLine : MethodName := ⟨RX9, "anchorLine", "()V"⟩
abbrev cX9_line : ByteArray := prog_11_method_105_code
def yX9_line : MethodName := ⟨RX9, "line", "()V"⟩
abbrev cX9_reads : ByteArray := prog_11_method_106_code
def yX9_reads : MethodName := ⟨RX9, "reads", "()I"⟩
abbrev cX9_text : ByteArray := prog_11_method_107_code
def yX9_text : MethodName := ⟨RX9, "text", "()I"⟩
abbrev cX9_column : ByteArray := prog_11_method_108_code
def yX9_column : MethodName := ⟨RX9, "column", "(II)I"⟩
abbrev cX9_layer : ByteArray := prog_11_method_109_code
def yX9_layer : MethodName := ⟨RX9, "laye\x72", "(II)I"⟩
abbrev cX9_isAnchor : ByteArray := prog_11_method_110_code
def yX9_isAnchor : MethodName := ⟨RX9, "isAncho\x72", "(I)Z"⟩
abbrev cX9_anchored : ByteArray := prog_11_method_111_code
def yX9_anchored : MethodName := ⟨RX9, "anchored", "(II)I"⟩
abbrev cX9_image : ByteArray := prog_11_method_112_code
def yX9_image : MethodName := ⟨RX9, "image", "(Z)Z"⟩
abbrev cX9_anchorSet : ByteArray := prog_11_method_113_code
def yX9_anchorSet : MethodName := ⟨RX9, "anchorSet", "()I"⟩
abbrev cX9_highest : ByteArray := prog_11_method_114_code
def yX9_highest : MethodName := ⟨RX9, "highest", "()I"⟩
abbrev cX9_soilOver : ByteArray := prog_11_method_115_code
def yX9_soilOver : MethodName := ⟨RX9, "soilOve\x72", "()I"⟩
abbrev cX9_look : ByteArray := prog_11_method_116_code
def yX9_look : MethodName := ⟨RX9, "look", "(I)I"⟩
def RJx145de : String := "java/io/Serializable"
def RJx9f9b0 : String := "java/lang/CharSequence"
def RJxb160c : String := "java/lang/Comparable"
def RJ9 : String := "java/lang/Math"
abbrev cJ9_floorDiv_7cf53 : ByteArray := prog_12_method_47_code
def yJ9_floorDiv_7cf53 : MethodName := ⟨RJ9, "floorDiv", "(II)I"⟩
abbrev cJ9_floorDiv_f86c9 : ByteArray := prog_12_method_49_code
def yJ9_floorDiv_f86c9 : MethodName := ⟨RJ9, "floorDiv", "(JJ)J"⟩
abbrev cJ9_max_7cf53 : ByteArray := prog_12_method_65_code
def yJ9_max_7cf53 : MethodName := ⟨RJ9, "max", "(II)I"⟩
abbrev cJ9_min_7cf53 : ByteArray := prog_12_method_69_code
def yJ9_min_7cf53 : MethodName := ⟨RJ9, "min", "(II)I"⟩
def RJ0 : String := "java/lang/String"
abbrev cJ0_length_8abf5 : ByteArray := prog_13_method_54_code
def yJ0_length_8abf5 : MethodName := ⟨RJ0, "length", "()I"⟩
abbrev cJ0_charAt_5068e : ByteArray := prog_13_method_56_code
def yJ0_charAt_5068e : MethodName := ⟨RJ0, "charAt", "(I)C"⟩
abbrev cJ0_coder_7d493 : ByteArray := prog_13_method_152_code
def yJ0_coder_7d493 : MethodName := ⟨RJ0, "code\x72", "()B"⟩
abbrev cJ0_isLatin1_aae02 : ByteArray := prog_13_method_154_code
def yJ0_isLatin1_aae02 : MethodName := ⟨RJ0, "isLatin1", "()Z"⟩
abbrev cJ0_checkIndex_df160 : ByteArray := prog_13_method_155_code
def yJ0_checkIndex_df160 : MethodName := ⟨RJ0, "checkIndex", "(II)V"⟩
def RJ1 : String := "java/lang/StringLatin1"
abbrev cJ1_charAt_3b067 : ByteArray := prog_14_method_2_code
def yJ1_charAt_3b067 : MethodName := ⟨RJ1, "charAt", "([BI)C"⟩
def RJ2 : String := "java/lang/StringUTF16"
abbrev cJ2_getChar_3b067 : ByteArray := prog_15_method_5_code
def yJ2_getChar_3b067 : MethodName := ⟨RJ2, "getCha\x72", "([BI)C"⟩
abbrev cJ2_length_9d52b : ByteArray := prog_15_method_6_code
def yJ2_length_9d52b : MethodName := ⟨RJ2, "length", "([B)I"⟩
abbrev cJ2_charAt_3b067 : ByteArray := prog_15_method_83_code
def yJ2_charAt_3b067 : MethodName := ⟨RJ2, "charAt", "([BI)C"⟩
abbrev cJ2_checkIndex_2214a : ByteArray := prog_15_method_91_code
def yJ2_checkIndex_2214a : MethodName := ⟨RJ2, "checkIndex", "(I[B)V"⟩
def RJ10 : String := "java/lang/System"
def RJxfd54e : String := "java/lang/constant/Constable"
def RJx3cf43 : String := "java/lang/constant/ConstantDesc"
def RJ7 : String := "java/util/Arrays"
abbrev cJ7_fill_53178 : ByteArray := prog_17_method_103_code
def yJ7_fill_53178 : MethodName := ⟨RJ7, "fill", "([II)V"⟩
def RJ3 : String := "jdk/internal/util/Preconditions"
abbrev cJ3_checkIndex_8e157 : ByteArray := prog_18_method_11_code
def yJ3_checkIndex_8e157 : MethodName := ⟨RJ3, "checkIndex", "(IILjava/util/function/BiFunction;)I"⟩
def RL : String := "SlopeJudgeLaw"
abbrev cL_law : ByteArray := code
def yL_law : MethodName := ⟨RL, "law", "([I)Z"⟩
abbrev vwCl : List vw_C := [(RX0, TX0, 15), (RX1, TX1, 4), (RX2, TX2, 2), (RX3, TX3, 7), (RX4, TX4, 11), (RX5, TX5, 4), (RX6, TX6, 14), (RX7, TX7, 8), (RX8, TX8, 15), (RX9, TX9, 35)]
