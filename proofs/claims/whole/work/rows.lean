section
/-- a private method of a class that the tables say can be made, by its rows of tables_1 -/
def lw_okq (q : MethodName × Nat) : Prop := (q.1.cls ≠ "java/lang/invoke/MethodHandle" ∧ q.1.cls ≠ "java/lang/invoke/VarHandle") ∧ Cond.instantiable q.1.cls q.2 ∈ tables_1 ∧ Cond.privateMethod q.1 ∈ tables_1 ∧ Cond.instanceMethod q.1 ∈ tables_1
theorem lw_p0 : lw_okq (⟨"ToppleYard", "faulted", "(I)I"⟩, 12) := ⟨⟨by decide +kernel, by decide +kernel⟩, List.mem_of_getElem? (i := 12) (by decide +kernel), List.mem_of_getElem? (i := 233) (by decide +kernel), List.mem_of_getElem? (i := 234) (by decide +kernel)⟩
theorem lw_p1 : lw_okq (⟨"ToppleYard$TextReader", "code", "(II)I"⟩, 4) := ⟨⟨by decide +kernel, by decide +kernel⟩, List.mem_of_getElem? (i := 71) (by decide +kernel), List.mem_of_getElem? (i := 244) (by decide +kernel), List.mem_of_getElem? (i := 245) (by decide +kernel)⟩
theorem lw_p2 : lw_okq (⟨"ToppleYard$TextReader", "readPaths", "(LToppleYard$Ground;)V"⟩, 4) := ⟨⟨by decide +kernel, by decide +kernel⟩, List.mem_of_getElem? (i := 71) (by decide +kernel), List.mem_of_getElem? (i := 248) (by decide +kernel), List.mem_of_getElem? (i := 249) (by decide +kernel)⟩
theorem lw_p3 : lw_okq (⟨"ToppleYard$TextReader", "kindOfLetter", "()I"⟩, 4) := ⟨⟨by decide +kernel, by decide +kernel⟩, List.mem_of_getElem? (i := 71) (by decide +kernel), List.mem_of_getElem? (i := 252) (by decide +kernel), List.mem_of_getElem? (i := 253) (by decide +kernel)⟩
theorem lw_p4 : lw_okq (⟨"ToppleYard$TextReader", "stepBack", "()I"⟩, 4) := ⟨⟨by decide +kernel, by decide +kernel⟩, List.mem_of_getElem? (i := 71) (by decide +kernel), List.mem_of_getElem? (i := 256) (by decide +kernel), List.mem_of_getElem? (i := 257) (by decide +kernel)⟩
theorem lw_p5 : lw_okq (⟨"ToppleYard", "takeDrafts", "()V"⟩, 12) := ⟨⟨by decide +kernel, by decide +kernel⟩, List.mem_of_getElem? (i := 12) (by decide +kernel), List.mem_of_getElem? (i := 283) (by decide +kernel), List.mem_of_getElem? (i := 284) (by decide +kernel)⟩
theorem lw_p6 : lw_okq (⟨"ToppleYard", "hasNoYard", "()Z"⟩, 12) := ⟨⟨by decide +kernel, by decide +kernel⟩, List.mem_of_getElem? (i := 12) (by decide +kernel), List.mem_of_getElem? (i := 327) (by decide +kernel), List.mem_of_getElem? (i := 328) (by decide +kernel)⟩
theorem lw_p7 : lw_okq (⟨"ToppleYard", "refusalOfPairs", "([III)I"⟩, 12) := ⟨⟨by decide +kernel, by decide +kernel⟩, List.mem_of_getElem? (i := 12) (by decide +kernel), List.mem_of_getElem? (i := 349) (by decide +kernel), List.mem_of_getElem? (i := 350) (by decide +kernel)⟩
theorem lw_p8 : lw_okq (⟨"ToppleYard", "refusalOfPair", "(II)I"⟩, 12) := ⟨⟨by decide +kernel, by decide +kernel⟩, List.mem_of_getElem? (i := 12) (by decide +kernel), List.mem_of_getElem? (i := 353) (by decide +kernel), List.mem_of_getElem? (i := 354) (by decide +kernel)⟩
theorem lw_p9 : lw_okq (⟨"ToppleYard", "firstWrong", "([III)I"⟩, 12) := ⟨⟨by decide +kernel, by decide +kernel⟩, List.mem_of_getElem? (i := 12) (by decide +kernel), List.mem_of_getElem? (i := 366) (by decide +kernel), List.mem_of_getElem? (i := 367) (by decide +kernel)⟩
theorem lw_p10 : lw_okq (⟨"ToppleYard", "isDone", "(II)Z"⟩, 12) := ⟨⟨by decide +kernel, by decide +kernel⟩, List.mem_of_getElem? (i := 12) (by decide +kernel), List.mem_of_getElem? (i := 370) (by decide +kernel), List.mem_of_getElem? (i := 371) (by decide +kernel)⟩
theorem lw_p11 : lw_okq (⟨"ToppleYard", "answerOfDay", "(II)I"⟩, 12) := ⟨⟨by decide +kernel, by decide +kernel⟩, List.mem_of_getElem? (i := 12) (by decide +kernel), List.mem_of_getElem? (i := 374) (by decide +kernel), List.mem_of_getElem? (i := 375) (by decide +kernel)⟩
theorem lw_p12 : lw_okq (⟨"ToppleYard", "firstSeen", "(I)I"⟩, 12) := ⟨⟨by decide +kernel, by decide +kernel⟩, List.mem_of_getElem? (i := 12) (by decide +kernel), List.mem_of_getElem? (i := 402) (by decide +kernel), List.mem_of_getElem? (i := 403) (by decide +kernel)⟩
theorem lw_p13 : lw_okq (⟨"ToppleYard", "tellDouble", "(I)I"⟩, 12) := ⟨⟨by decide +kernel, by decide +kernel⟩, List.mem_of_getElem? (i := 12) (by decide +kernel), List.mem_of_getElem? (i := 513) (by decide +kernel), List.mem_of_getElem? (i := 514) (by decide +kernel)⟩
theorem lw_p14 : lw_okq (⟨"ToppleYard", "leaveTrace", "(I)V"⟩, 12) := ⟨⟨by decide +kernel, by decide +kernel⟩, List.mem_of_getElem? (i := 12) (by decide +kernel), List.mem_of_getElem? (i := 517) (by decide +kernel), List.mem_of_getElem? (i := 518) (by decide +kernel)⟩
theorem lw_p15 : lw_okq (⟨"ToppleYard", "tellBroad", "(I)I"⟩, 12) := ⟨⟨by decide +kernel, by decide +kernel⟩, List.mem_of_getElem? (i := 12) (by decide +kernel), List.mem_of_getElem? (i := 521) (by decide +kernel), List.mem_of_getElem? (i := 522) (by decide +kernel)⟩
def lw_privs_1 : List (MethodName × Nat) := [(⟨"ToppleYard", "faulted", "(I)I"⟩, 12), (⟨"ToppleYard$TextReader", "code", "(II)I"⟩, 4), (⟨"ToppleYard$TextReader", "readPaths", "(LToppleYard$Ground;)V"⟩, 4), (⟨"ToppleYard$TextReader", "kindOfLetter", "()I"⟩, 4), (⟨"ToppleYard$TextReader", "stepBack", "()I"⟩, 4), (⟨"ToppleYard", "takeDrafts", "()V"⟩, 12), (⟨"ToppleYard", "hasNoYard", "()Z"⟩, 12), (⟨"ToppleYard", "refusalOfPairs", "([III)I"⟩, 12), (⟨"ToppleYard", "refusalOfPair", "(II)I"⟩, 12), (⟨"ToppleYard", "firstWrong", "([III)I"⟩, 12), (⟨"ToppleYard", "isDone", "(II)Z"⟩, 12), (⟨"ToppleYard", "answerOfDay", "(II)I"⟩, 12), (⟨"ToppleYard", "firstSeen", "(I)I"⟩, 12), (⟨"ToppleYard", "tellDouble", "(I)I"⟩, 12), (⟨"ToppleYard", "leaveTrace", "(I)V"⟩, 12), (⟨"ToppleYard", "tellBroad", "(I)I"⟩, 12)]
theorem lw_r1 : ∀ q ∈ lw_privs_1, lw_okq q := List.forall_mem_cons.mpr ⟨lw_p0, List.forall_mem_cons.mpr ⟨lw_p1, List.forall_mem_cons.mpr ⟨lw_p2, List.forall_mem_cons.mpr ⟨lw_p3, List.forall_mem_cons.mpr ⟨lw_p4, List.forall_mem_cons.mpr ⟨lw_p5, List.forall_mem_cons.mpr ⟨lw_p6, List.forall_mem_cons.mpr ⟨lw_p7, List.forall_mem_cons.mpr ⟨lw_p8, List.forall_mem_cons.mpr ⟨lw_p9, List.forall_mem_cons.mpr ⟨lw_p10, List.forall_mem_cons.mpr ⟨lw_p11, List.forall_mem_cons.mpr ⟨lw_p12, List.forall_mem_cons.mpr ⟨lw_p13, List.forall_mem_cons.mpr ⟨lw_p14, List.forall_mem_cons.mpr ⟨lw_p15, fun _ h => absurd h List.not_mem_nil⟩⟩⟩⟩⟩⟩⟩⟩⟩⟩⟩⟩⟩⟩⟩⟩
theorem lw_p16 : lw_okq (⟨"ToppleYard", "tellPlain", "(I)I"⟩, 12) := ⟨⟨by decide +kernel, by decide +kernel⟩, List.mem_of_getElem? (i := 12) (by decide +kernel), List.mem_of_getElem? (i := 525) (by decide +kernel), List.mem_of_getElem? (i := 526) (by decide +kernel)⟩
theorem lw_p17 : lw_okq (⟨"ToppleYard", "strikeDouble", "()I"⟩, 12) := ⟨⟨by decide +kernel, by decide +kernel⟩, List.mem_of_getElem? (i := 12) (by decide +kernel), List.mem_of_getElem? (i := 533) (by decide +kernel), List.mem_of_getElem? (i := 534) (by decide +kernel)⟩
theorem lw_p18 : lw_okq (⟨"ToppleYard", "strikeLent", "(I)I"⟩, 12) := ⟨⟨by decide +kernel, by decide +kernel⟩, List.mem_of_getElem? (i := 12) (by decide +kernel), List.mem_of_getElem? (i := 537) (by decide +kernel), List.mem_of_getElem? (i := 538) (by decide +kernel)⟩
theorem lw_p19 : lw_okq (⟨"ToppleYardModel", "against", "(IIII)I"⟩, 31) := ⟨⟨by decide +kernel, by decide +kernel⟩, List.mem_of_getElem? (i := 557) (by decide +kernel), List.mem_of_getElem? (i := 670) (by decide +kernel), List.mem_of_getElem? (i := 671) (by decide +kernel)⟩
theorem lw_p20 : lw_okq (⟨"ToppleYardModel", "fails", "(I)I"⟩, 31) := ⟨⟨by decide +kernel, by decide +kernel⟩, List.mem_of_getElem? (i := 557) (by decide +kernel), List.mem_of_getElem? (i := 674) (by decide +kernel), List.mem_of_getElem? (i := 675) (by decide +kernel)⟩
theorem lw_p21 : lw_okq (⟨"ToppleYardModel", "readYard", "(I)Z"⟩, 31) := ⟨⟨by decide +kernel, by decide +kernel⟩, List.mem_of_getElem? (i := 557) (by decide +kernel), List.mem_of_getElem? (i := 678) (by decide +kernel), List.mem_of_getElem? (i := 679) (by decide +kernel)⟩
theorem lw_p22 : lw_okq (⟨"ToppleYardModel", "isSign", "(II)Z"⟩, 31) := ⟨⟨by decide +kernel, by decide +kernel⟩, List.mem_of_getElem? (i := 557) (by decide +kernel), List.mem_of_getElem? (i := 682) (by decide +kernel), List.mem_of_getElem? (i := 683) (by decide +kernel)⟩
theorem lw_p23 : lw_okq (⟨"ToppleYardModel", "digit", "(III)I"⟩, 31) := ⟨⟨by decide +kernel, by decide +kernel⟩, List.mem_of_getElem? (i := 557) (by decide +kernel), List.mem_of_getElem? (i := 686) (by decide +kernel), List.mem_of_getElem? (i := 687) (by decide +kernel)⟩
theorem lw_p24 : lw_okq (⟨"ToppleYardModel", "readPlace", "(II)Z"⟩, 31) := ⟨⟨by decide +kernel, by decide +kernel⟩, List.mem_of_getElem? (i := 557) (by decide +kernel), List.mem_of_getElem? (i := 690) (by decide +kernel), List.mem_of_getElem? (i := 691) (by decide +kernel)⟩
theorem lw_p25 : lw_okq (⟨"ToppleYardModel", "openPlaces", "()I"⟩, 31) := ⟨⟨by decide +kernel, by decide +kernel⟩, List.mem_of_getElem? (i := 557) (by decide +kernel), List.mem_of_getElem? (i := 694) (by decide +kernel), List.mem_of_getElem? (i := 695) (by decide +kernel)⟩
theorem lw_p26 : lw_okq (⟨"ToppleYardModel", "takeYard", "()V"⟩, 31) := ⟨⟨by decide +kernel, by decide +kernel⟩, List.mem_of_getElem? (i := 557) (by decide +kernel), List.mem_of_getElem? (i := 701) (by decide +kernel), List.mem_of_getElem? (i := 702) (by decide +kernel)⟩
theorem lw_p27 : lw_okq (⟨"ToppleYardModel", "isPlace", "(I)Z"⟩, 31) := ⟨⟨by decide +kernel, by decide +kernel⟩, List.mem_of_getElem? (i := 557) (by decide +kernel), List.mem_of_getElem? (i := 709) (by decide +kernel), List.mem_of_getElem? (i := 710) (by decide +kernel)⟩
theorem lw_p28 : lw_okq (⟨"ToppleYardModel", "degreeOf", "(I)I"⟩, 31) := ⟨⟨by decide +kernel, by decide +kernel⟩, List.mem_of_getElem? (i := 557) (by decide +kernel), List.mem_of_getElem? (i := 713) (by decide +kernel), List.mem_of_getElem? (i := 714) (by decide +kernel)⟩
theorem lw_p29 : lw_okq (⟨"ToppleYardModel", "bearsOf", "(I)I"⟩, 31) := ⟨⟨by decide +kernel, by decide +kernel⟩, List.mem_of_getElem? (i := 557) (by decide +kernel), List.mem_of_getElem? (i := 717) (by decide +kernel), List.mem_of_getElem? (i := 718) (by decide +kernel)⟩
theorem lw_p30 : lw_okq (⟨"ToppleYardModel", "canTopple", "(I)Z"⟩, 31) := ⟨⟨by decide +kernel, by decide +kernel⟩, List.mem_of_getElem? (i := 557) (by decide +kernel), List.mem_of_getElem? (i := 737) (by decide +kernel), List.mem_of_getElem? (i := 738) (by decide +kernel)⟩
theorem lw_p31 : lw_okq (⟨"ToppleYardModel", "startCount", "()V"⟩, 31) := ⟨⟨by decide +kernel, by decide +kernel⟩, List.mem_of_getElem? (i := 557) (by decide +kernel), List.mem_of_getElem? (i := 741) (by decide +kernel), List.mem_of_getElem? (i := 742) (by decide +kernel)⟩
def lw_privs_2 : List (MethodName × Nat) := [(⟨"ToppleYard", "tellPlain", "(I)I"⟩, 12), (⟨"ToppleYard", "strikeDouble", "()I"⟩, 12), (⟨"ToppleYard", "strikeLent", "(I)I"⟩, 12), (⟨"ToppleYardModel", "against", "(IIII)I"⟩, 31), (⟨"ToppleYardModel", "fails", "(I)I"⟩, 31), (⟨"ToppleYardModel", "readYard", "(I)Z"⟩, 31), (⟨"ToppleYardModel", "isSign", "(II)Z"⟩, 31), (⟨"ToppleYardModel", "digit", "(III)I"⟩, 31), (⟨"ToppleYardModel", "readPlace", "(II)Z"⟩, 31), (⟨"ToppleYardModel", "openPlaces", "()I"⟩, 31), (⟨"ToppleYardModel", "takeYard", "()V"⟩, 31), (⟨"ToppleYardModel", "isPlace", "(I)Z"⟩, 31), (⟨"ToppleYardModel", "degreeOf", "(I)I"⟩, 31), (⟨"ToppleYardModel", "bearsOf", "(I)I"⟩, 31), (⟨"ToppleYardModel", "canTopple", "(I)Z"⟩, 31), (⟨"ToppleYardModel", "startCount", "()V"⟩, 31)]
theorem lw_r2 : ∀ q ∈ lw_privs_2, lw_okq q := List.forall_mem_cons.mpr ⟨lw_p16, List.forall_mem_cons.mpr ⟨lw_p17, List.forall_mem_cons.mpr ⟨lw_p18, List.forall_mem_cons.mpr ⟨lw_p19, List.forall_mem_cons.mpr ⟨lw_p20, List.forall_mem_cons.mpr ⟨lw_p21, List.forall_mem_cons.mpr ⟨lw_p22, List.forall_mem_cons.mpr ⟨lw_p23, List.forall_mem_cons.mpr ⟨lw_p24, List.forall_mem_cons.mpr ⟨lw_p25, List.forall_mem_cons.mpr ⟨lw_p26, List.forall_mem_cons.mpr ⟨lw_p27, List.forall_mem_cons.mpr ⟨lw_p28, List.forall_mem_cons.mpr ⟨lw_p29, List.forall_mem_cons.mpr ⟨lw_p30, List.forall_mem_cons.mpr ⟨lw_p31, fun _ h => absurd h List.not_mem_nil⟩⟩⟩⟩⟩⟩⟩⟩⟩⟩⟩⟩⟩⟩⟩⟩
theorem lw_p32 : lw_okq (⟨"ToppleYardModel", "topples", "(I)V"⟩, 31) := ⟨⟨by decide +kernel, by decide +kernel⟩, List.mem_of_getElem? (i := 557) (by decide +kernel), List.mem_of_getElem? (i := 745) (by decide +kernel), List.mem_of_getElem? (i := 746) (by decide +kernel)⟩
theorem lw_p33 : lw_okq (⟨"ToppleYardModel", "takeCount", "()V"⟩, 31) := ⟨⟨by decide +kernel, by decide +kernel⟩, List.mem_of_getElem? (i := 557) (by decide +kernel), List.mem_of_getElem? (i := 749) (by decide +kernel), List.mem_of_getElem? (i := 750) (by decide +kernel)⟩
theorem lw_p34 : lw_okq (⟨"ToppleYardModel", "settles", "()V"⟩, 31) := ⟨⟨by decide +kernel, by decide +kernel⟩, List.mem_of_getElem? (i := 557) (by decide +kernel), List.mem_of_getElem? (i := 757) (by decide +kernel), List.mem_of_getElem? (i := 758) (by decide +kernel)⟩
theorem lw_p35 : lw_okq (⟨"ToppleYardModel", "refusesPair", "(II)I"⟩, 31) := ⟨⟨by decide +kernel, by decide +kernel⟩, List.mem_of_getElem? (i := 557) (by decide +kernel), List.mem_of_getElem? (i := 765) (by decide +kernel), List.mem_of_getElem? (i := 766) (by decide +kernel)⟩
theorem lw_p36 : lw_okq (⟨"ToppleYardModel", "keep", "()V"⟩, 31) := ⟨⟨by decide +kernel, by decide +kernel⟩, List.mem_of_getElem? (i := 557) (by decide +kernel), List.mem_of_getElem? (i := 769) (by decide +kernel), List.mem_of_getElem? (i := 770) (by decide +kernel)⟩
theorem lw_p37 : lw_okq (⟨"ToppleYardModel", "goDay", "(II)I"⟩, 31) := ⟨⟨by decide +kernel, by decide +kernel⟩, List.mem_of_getElem? (i := 557) (by decide +kernel), List.mem_of_getElem? (i := 773) (by decide +kernel), List.mem_of_getElem? (i := 774) (by decide +kernel)⟩
theorem lw_p38 : lw_okq (⟨"ToppleYardModel", "does", "(II)Z"⟩, 31) := ⟨⟨by decide +kernel, by decide +kernel⟩, List.mem_of_getElem? (i := 557) (by decide +kernel), List.mem_of_getElem? (i := 777) (by decide +kernel), List.mem_of_getElem? (i := 778) (by decide +kernel)⟩
theorem lw_p39 : lw_okq (⟨"ToppleYardModel", "tellDay", "(I)I"⟩, 31) := ⟨⟨by decide +kernel, by decide +kernel⟩, List.mem_of_getElem? (i := 557) (by decide +kernel), List.mem_of_getElem? (i := 781) (by decide +kernel), List.mem_of_getElem? (i := 782) (by decide +kernel)⟩
theorem lw_p40 : lw_okq (⟨"ToppleYardModel", "allHeaps", "()I"⟩, 31) := ⟨⟨by decide +kernel, by decide +kernel⟩, List.mem_of_getElem? (i := 557) (by decide +kernel), List.mem_of_getElem? (i := 785) (by decide +kernel), List.mem_of_getElem? (i := 786) (by decide +kernel)⟩
theorem lw_p41 : lw_okq (⟨"ToppleYardModel", "whoCan", "()I"⟩, 31) := ⟨⟨by decide +kernel, by decide +kernel⟩, List.mem_of_getElem? (i := 557) (by decide +kernel), List.mem_of_getElem? (i := 789) (by decide +kernel), List.mem_of_getElem? (i := 790) (by decide +kernel)⟩
theorem lw_p42 : lw_okq (⟨"ToppleYardModel", "putBack", "()V"⟩, 31) := ⟨⟨by decide +kernel, by decide +kernel⟩, List.mem_of_getElem? (i := 557) (by decide +kernel), List.mem_of_getElem? (i := 793) (by decide +kernel), List.mem_of_getElem? (i := 794) (by decide +kernel)⟩
theorem lw_p43 : lw_okq (⟨"ToppleYardModel", "spillOf", "(II)I"⟩, 31) := ⟨⟨by decide +kernel, by decide +kernel⟩, List.mem_of_getElem? (i := 557) (by decide +kernel), List.mem_of_getElem? (i := 801) (by decide +kernel), List.mem_of_getElem? (i := 802) (by decide +kernel)⟩
theorem lw_p44 : lw_okq (⟨"ToppleYardModel", "writeAt", "(I)V"⟩, 31) := ⟨⟨by decide +kernel, by decide +kernel⟩, List.mem_of_getElem? (i := 557) (by decide +kernel), List.mem_of_getElem? (i := 809) (by decide +kernel), List.mem_of_getElem? (i := 810) (by decide +kernel)⟩
theorem lw_p45 : lw_okq (⟨"ToppleYardModel", "areAt", "(I)Z"⟩, 31) := ⟨⟨by decide +kernel, by decide +kernel⟩, List.mem_of_getElem? (i := 557) (by decide +kernel), List.mem_of_getElem? (i := 813) (by decide +kernel), List.mem_of_getElem? (i := 814) (by decide +kernel)⟩
theorem lw_p46 : lw_okq (⟨"ToppleYardModel", "allLead", "()Z"⟩, 31) := ⟨⟨by decide +kernel, by decide +kernel⟩, List.mem_of_getElem? (i := 557) (by decide +kernel), List.mem_of_getElem? (i := 826) (by decide +kernel), List.mem_of_getElem? (i := 827) (by decide +kernel)⟩
theorem lw_p47 : lw_okq (⟨"ToppleYardModel", "writeSquare", "(II)V"⟩, 31) := ⟨⟨by decide +kernel, by decide +kernel⟩, List.mem_of_getElem? (i := 557) (by decide +kernel), List.mem_of_getElem? (i := 834) (by decide +kernel), List.mem_of_getElem? (i := 835) (by decide +kernel)⟩
def lw_privs_3 : List (MethodName × Nat) := [(⟨"ToppleYardModel", "topples", "(I)V"⟩, 31), (⟨"ToppleYardModel", "takeCount", "()V"⟩, 31), (⟨"ToppleYardModel", "settles", "()V"⟩, 31), (⟨"ToppleYardModel", "refusesPair", "(II)I"⟩, 31), (⟨"ToppleYardModel", "keep", "()V"⟩, 31), (⟨"ToppleYardModel", "goDay", "(II)I"⟩, 31), (⟨"ToppleYardModel", "does", "(II)Z"⟩, 31), (⟨"ToppleYardModel", "tellDay", "(I)I"⟩, 31), (⟨"ToppleYardModel", "allHeaps", "()I"⟩, 31), (⟨"ToppleYardModel", "whoCan", "()I"⟩, 31), (⟨"ToppleYardModel", "putBack", "()V"⟩, 31), (⟨"ToppleYardModel", "spillOf", "(II)I"⟩, 31), (⟨"ToppleYardModel", "writeAt", "(I)V"⟩, 31), (⟨"ToppleYardModel", "areAt", "(I)Z"⟩, 31), (⟨"ToppleYardModel", "allLead", "()Z"⟩, 31), (⟨"ToppleYardModel", "writeSquare", "(II)V"⟩, 31)]
theorem lw_r3 : ∀ q ∈ lw_privs_3, lw_okq q := List.forall_mem_cons.mpr ⟨lw_p32, List.forall_mem_cons.mpr ⟨lw_p33, List.forall_mem_cons.mpr ⟨lw_p34, List.forall_mem_cons.mpr ⟨lw_p35, List.forall_mem_cons.mpr ⟨lw_p36, List.forall_mem_cons.mpr ⟨lw_p37, List.forall_mem_cons.mpr ⟨lw_p38, List.forall_mem_cons.mpr ⟨lw_p39, List.forall_mem_cons.mpr ⟨lw_p40, List.forall_mem_cons.mpr ⟨lw_p41, List.forall_mem_cons.mpr ⟨lw_p42, List.forall_mem_cons.mpr ⟨lw_p43, List.forall_mem_cons.mpr ⟨lw_p44, List.forall_mem_cons.mpr ⟨lw_p45, List.forall_mem_cons.mpr ⟨lw_p46, List.forall_mem_cons.mpr ⟨lw_p47, fun _ h => absurd h List.not_mem_nil⟩⟩⟩⟩⟩⟩⟩⟩⟩⟩⟩⟩⟩⟩⟩⟩
theorem lw_p48 : lw_okq (⟨"ToppleYardModel", "determinant", "()J"⟩, 31) := ⟨⟨by decide +kernel, by decide +kernel⟩, List.mem_of_getElem? (i := 557) (by decide +kernel), List.mem_of_getElem? (i := 838) (by decide +kernel), List.mem_of_getElem? (i := 839) (by decide +kernel)⟩
theorem lw_p49 : lw_okq (⟨"ToppleYardModel", "findColumns", "(I)Z"⟩, 31) := ⟨⟨by decide +kernel, by decide +kernel⟩, List.mem_of_getElem? (i := 557) (by decide +kernel), List.mem_of_getElem? (i := 842) (by decide +kernel), List.mem_of_getElem? (i := 843) (by decide +kernel)⟩
theorem lw_p50 : lw_okq (⟨"ToppleYardModel", "areSo", "()Z"⟩, 31) := ⟨⟨by decide +kernel, by decide +kernel⟩, List.mem_of_getElem? (i := 557) (by decide +kernel), List.mem_of_getElem? (i := 859) (by decide +kernel), List.mem_of_getElem? (i := 860) (by decide +kernel)⟩
theorem lw_p51 : lw_okq (⟨"ToppleYardModel", "lost", "(I)J"⟩, 31) := ⟨⟨by decide +kernel, by decide +kernel⟩, List.mem_of_getElem? (i := 557) (by decide +kernel), List.mem_of_getElem? (i := 890) (by decide +kernel), List.mem_of_getElem? (i := 891) (by decide +kernel)⟩
theorem lw_p52 : lw_okq (⟨"ToppleYardModel", "begins", "(I)V"⟩, 31) := ⟨⟨by decide +kernel, by decide +kernel⟩, List.mem_of_getElem? (i := 557) (by decide +kernel), List.mem_of_getElem? (i := 902) (by decide +kernel), List.mem_of_getElem? (i := 903) (by decide +kernel)⟩
def lw_privs_4 : List (MethodName × Nat) := [(⟨"ToppleYardModel", "determinant", "()J"⟩, 31), (⟨"ToppleYardModel", "findColumns", "(I)Z"⟩, 31), (⟨"ToppleYardModel", "areSo", "()Z"⟩, 31), (⟨"ToppleYardModel", "lost", "(I)J"⟩, 31), (⟨"ToppleYardModel", "begins", "(I)V"⟩, 31)]
theorem lw_r4 : ∀ q ∈ lw_privs_4, lw_okq q := List.forall_mem_cons.mpr ⟨lw_p48, List.forall_mem_cons.mpr ⟨lw_p49, List.forall_mem_cons.mpr ⟨lw_p50, List.forall_mem_cons.mpr ⟨lw_p51, List.forall_mem_cons.mpr ⟨lw_p52, fun _ h => absurd h List.not_mem_nil⟩⟩⟩⟩⟩
def lw_privs : List (MethodName × Nat) := lw_privs_1 ++ (lw_privs_2 ++ (lw_privs_3 ++ (lw_privs_4)))
def lw_tbl : List Cond := k2_sels lw_privs ++ tables_1
theorem lw_privs_ok : ∀ q ∈ lw_privs, lw_okq q := by
  show ∀ q ∈ lw_privs_1 ++ (lw_privs_2 ++ (lw_privs_3 ++ (lw_privs_4))), lw_okq q
  exact List.forall_mem_append.mpr ⟨lw_r1, List.forall_mem_append.mpr ⟨lw_r2, List.forall_mem_append.mpr ⟨lw_r3, lw_r4⟩⟩⟩
end
section
/-- an array of arrays stands in the tables (this word is wanting in the kit) -/
def va_AOA (ty : FieldType) (U : State) : Prop := (Cond.arrayOver (.array ty)).before #[] U = true
theorem va_AOA.use {ty : FieldType} {A : Array Value} {U : State} (h : va_AOA ty U) : (Cond.arrayOver (.array ty)).before A U = true := h
/-! ===== BEGIN words of one list among another's, by their places ===== -/
theorem goodIn_r {big : List Cond} (ws : List Cond) (ps : List Nat) (hp : ws = ps.filterMap (fun i => big[i]?)) (h : ws.all goodWord = true) : GoodIn big ws := by
  intro w hw
  have h1 := List.all_eq_true.mp h w hw
  rw [hp] at hw
  obtain ⟨i, -, hi⟩ := List.mem_filterMap.mp hw
  have hm : w ∈ big := by first | exact List.mem_of_getElem? hi | exact List.getElem?_mem hi
  exact ⟨hm, good_of_word h1⟩
theorem goodIn_app {big a b : List Cond} (ha : GoodIn big a) (hb : GoodIn big b) : GoodIn big (a ++ b) := fun w h => (List.mem_append.mp h).elim (ha w) (hb w)
theorem goodIn_ca {big a b : List Cond} {c : Cond} (ha : GoodIn big (c :: a)) (hb : GoodIn big b) : GoodIn big (c :: (a ++ b)) := fun w h => (List.mem_cons.mp h).elim (fun e => ha w (List.mem_cons.mpr (Or.inl e))) (fun h => (List.mem_append.mp h).elim (fun h => ha w (List.mem_cons.mpr (Or.inr h))) (hb w))
theorem goodIn_sub {big ws : List Cond} (hm : ∀ w ∈ ws, w ∈ big) (h : ws.all goodWord = true) : GoodIn big ws := fun w hw => ⟨hm w hw, good_of_word (List.all_eq_true.mp h w hw)⟩
/-! ===== END ===== -/

/-! ===== BEGIN new T[n][m]: the outer array a place, the inner ones among the pooled ===== -/
/-- f, but v at every address of l -/
def vr_up {α : Type} (f : Nat → α) (l : List Nat) (v : α) : Nat → α := fun a => if a ∈ l then v else f a
theorem vr_up_in {α : Type} {f : Nat → α} {l : List Nat} {v : α} {a : Nat} (h : a ∈ l) : vr_up f l v a = v := if_pos h
theorem vr_up_ne {α : Type} {f : Nat → α} {l : List Nat} {v : α} {a : Nat} (h : a ∉ l) : vr_up f l v a = f a := if_neg h
theorem vr_rows {L l : List Nat} {f : Nat → va_E} {e : va_E} (h : ∀ a, a ∈ l → a ∉ L) : va_pl L f ++ l.map (fun a => (a, e)) = va_pl (L ++ l) (vr_up f l e) := by
  unfold va_pl
  rw [List.map_append]
  congr 1
  · apply List.map_congr_left
    intro a ha
    rw [vr_up_ne (fun q => h a q ha)]
  · apply List.map_congr_left
    intro a ha
    rw [vr_up_in ha]
theorem vr_lay {X rows : va_W} {x : Nat × va_E} {pl : va_W} {D : va_G} {cl : List vw_C} {H : Heap} (hP : va_P D cl (((X ++ pl) ++ [x]) ++ rows) H) : va_P D cl ((X ++ [x]) ++ (pl ++ rows)) H := by
  rw [List.append_assoc (X ++ pl)] at hP
  have h := va_P.swap hP
  rw [← List.append_assoc X] at h
  have h2 := va_P.swap h
  rw [List.append_assoc (X ++ [x])] at h2
  exact h2
theorem vr_layD {X rows : va_W} {x : Nat × va_E} {pl : va_W} {A : Nat → Prop} (hD : va_D A (((X ++ pl) ++ [x]) ++ rows)) : va_D A ((X ++ [x]) ++ (pl ++ rows)) := by
  rw [List.append_assoc (X ++ pl)] at hD
  have h := va_D.swap hD
  rw [← List.append_assoc X] at h
  have h2 := va_D.swap h
  rw [List.append_assoc (X ++ [x])] at h2
  exact h2
theorem vr_outer (c : ClassId) (N h0 : Nat) : ∀ i : Nat, Jvm.Free.Multi.outerC c N h0 i = arrV c N (fun j => va_rf (if j < i then some (h0 + 1 + j) else none))
  | 0 => by
    show ({ cls := c, slots := Array.replicate N .null, vm := .none } : Cell) = _
    rw [arrV_new]
    refine congrArg (arrV c N) (funext fun j => ?_)
    simp [va_rf]
  | i + 1 => by
    show (Jvm.Free.Multi.outerC c N h0 i).setSlot i (.ref (h0 + 1 + i)) = _
    rw [vr_outer c N h0 i, arrV_store]
    refine congrArg (arrV c N) (funext fun j => ?_)
    by_cases e : j = i
    · subst e
      simp [updV, va_rf]
    · by_cases h : j < i
      · simp [updV, e, h, Nat.lt_succ_of_lt h]
      · simp [updV, e, h, show ¬ j < i + 1 by omega]
section VGM
variable {p : Program} {l : Launch} {e : Env} {R : Room} {s : State} {m : MethodId} {args : Array Value} {below : List Frame} {meth : Method} {c : Code} {H : Heap} {locs : List Loc} {cells slots : Nat} {Q : State → Prop}
variable {cc : ByteArray} {pc : Nat} {ls : Array Slot} {rest : List Value} {D : va_G} {cl : List vw_C} {A : Nat → Prop} {a : Nat} {tys : List (ClassId × FieldType)} {ws : va_W} {H0 : Heap}
theorem va_mna {X : va_W} {L : List Nat} {f : Nat → va_E} {cc : ByteArray} (hexec : p.tables.exec = Jvm.exec) (hb : c.code = cc) {own : String} {index : Nat} {ty : FieldType} {cy : ClassId} (hown : s.vm.findClass own = some m.cls) (hclink : (Cond.classLink own index ("[" ++ (FieldType.array ty).toString)).before args s = true) (hover : va_AOA ty s) (harr : (Cond.arrayClass ty).before args s = true) (hcy : s.vm.findClass (FieldType.array ty).toString = some cy)
    (hK : va_K D cl tys s) (hP : va_P D cl (X ++ va_pl L f) H) (hD : va_D A (X ++ va_pl L f)) (hS : va_S A H0 H locs) (hA : ∀ q, H0.size ≤ q → A q) {n k : Int32} {N' K' : Nat} {z : vp_A} (hn : ¬ n < 0) (hk : ¬ k < 0) (hN : n.toNatClampNeg = N') (hM : k.toNatClampNeg = K')
    (hb1 : N' * 4 ≤ 536870912) (hb2 : K' * componentBytes ty ≤ 536870912) (hb3 : K' ≤ 536870912) (hdf : fits ty (defaultValue ty) = true) (hdd : (defaultValue ty).isDefault = true) (hcells : cells + (1 + N') ≤ R.cells) (hslots : slots + (N' + N' * K') ≤ R.slots) (hz : ∀ c : ClassId, Jvm.Free.Multi.innerC c K' (defaultValue ty) = vp_cell c z) (hdg : decode cc pc = .ok (.multianewarray index 2, 4))
    (kk : ∀ (q : Nat) (r : Nat → Nat) (cA : ClassId) (H1 : Heap), (∀ i j : Nat, i < N' → j < N' → r i = r j → i = j) → (∀ i : Nat, i < N' → r i ∉ L) → va_K D cl (tys ++ [(cA, .array ty)]) s →
      va_P D cl ((X ++ [(q, .inl (cA, N', .inr (.inr (.inr (.inr (fun i => if i < N' then some (r i) else none))))))]) ++ va_pl (L ++ (List.range N').map r) (vr_up f ((List.range N').map r) (.inl (cy, z)))) H1 → va_D A ((X ++ [(q, .inl (cA, N', .inr (.inr (.inr (.inr (fun i => if i < N' then some (r i) else none))))))]) ++ va_pl (L ++ (List.range N').map r) (vr_up f ((List.range N').map r) (.inl (cy, z)))) → va_S A H0 H1 locs →
      W p l e R s m args below meth c H1 locs (cells + 1 + N') (slots + N' + N' * K') Q (F0 m (pc + 4) ls (.ref q :: rest))) : W p l e R s m args below meth c H locs cells slots Q (F0 m pc ls (.int k :: .int n :: rest)) := by
  subst hN
  subst hM
  intro T hT Xs
  obtain ⟨vm₁, cA, comp, -, fA, fC, hO, -, X', step⟩ := Xs.multianewarray2F hexec hown hclink (va_AOA.use hover) harr (g := F0 m pc ls (.int k :: .int n :: rest)) rfl (by rw [hb]; exact hdg) rfl hn hk hb1 hb2 hb3 hdf hdd hcells hslots
  have ec : some cy = some comp := hcy.symm.trans fC
  cases ec
  generalize hF : Jvm.Free.Multi.fill (T.setVm vm₁) cA cy n.toNatClampNeg k.toNatClampNeg (defaultValue ty) n.toNatClampNeg = F at X' step
  have hTh : (T.setVm vm₁).heap = H := hT
  obtain ⟨f1, f2, -, -⟩ := Jvm.Free.Multi.fill_facts (T.setVm vm₁) cA cy n.toNatClampNeg k.toNatClampNeg (defaultValue ty) n.toNatClampNeg
  rw [hF, hTh] at f1 f2
  have hold : ∀ x : Nat, x < H.size → F.heap[x]? = H[x]? := fun x hx => by
    have := Jvm.Free.Multi.fill_old (T.setVm vm₁) cA cy n.toNatClampNeg k.toNatClampNeg (defaultValue ty) (a := x) (by rw [hTh]; exact hx) n.toNatClampNeg
    rw [hF, hTh] at this
    exact this
  have hrow : ∀ j : Nat, j < n.toNatClampNeg → F.heap[H.size + 1 + j]? = some (vp_cell cy z) := fun j hj => by
    have := Jvm.Free.Multi.fill_inner (T.setVm vm₁) cA cy n.toNatClampNeg k.toNatClampNeg (defaultValue ty) n.toNatClampNeg j hj
    rw [hF, hTh, hz] at this
    exact this
  have hout : Jvm.Free.Multi.outerC cA n.toNatClampNeg H.size n.toNatClampNeg = vp_cell cA (n.toNatClampNeg, .inr (.inr (.inr (.inr (fun i => if i < n.toNatClampNeg then some (H.size + 1 + i) else none))))) := by
    rw [vp_cell_q]
    exact vr_outer cA n.toNatClampNeg H.size n.toNatClampNeg
  rw [hout] at f2
  have hlt : ∀ a, a ∈ L → a < H.size := fun a ha => by
    obtain ⟨k9, hk9⟩ := va_pl_get (X := X) (f := f) ha
    exact (hP k9 _ hk9).lt
  have hnl : ∀ i : Nat, i < n.toNatClampNeg → H.size + 1 + i ∉ L := fun i _ h => by
    have := hlt _ h
    omega
  have hnm : ∀ a, a ∈ (List.range n.toNatClampNeg).map (fun i => H.size + 1 + i) → a ∉ L := fun a ha h => by
    obtain ⟨i, -, rfl⟩ := List.mem_map.mp ha
    have := hlt _ h
    omega
  have hP0 : va_P D cl (X ++ va_pl L f) F.heap := hP.kept (fun k9 x hx => hold x.1 ((hP k9 x hx).lt))
  have hP1 : va_P D cl ((X ++ va_pl L f) ++ [(H.size, .inl (cA, n.toNatClampNeg, .inr (.inr (.inr (.inr (fun i => if i < n.toNatClampNeg then some (H.size + 1 + i) else none))))))]) F.heap := hP0.app (fun k9 x hx => by
    have h0 : k9 < 1 := (List.getElem?_eq_some_iff.mp hx).1
    rw [show k9 = 0 by omega] at hx
    cases hx
    exact f2)
  have hP2 : va_P D cl (((X ++ va_pl L f) ++ [(H.size, .inl (cA, n.toNatClampNeg, .inr (.inr (.inr (.inr (fun i => if i < n.toNatClampNeg then some (H.size + 1 + i) else none))))))]) ++ ((List.range n.toNatClampNeg).map (fun i => H.size + 1 + i)).map (fun a => (a, .inl (cy, z)))) F.heap := hP1.app (fun k9 x hx => by
    obtain ⟨a, ha, rfl⟩ := List.mem_map.mp (List.mem_of_getElem? hx)
    obtain ⟨i, hi, rfl⟩ := List.mem_map.mp ha
    exact hrow i (List.mem_range.mp hi))
  have hD2 : va_D A (((X ++ va_pl L f) ++ [(H.size, .inl (cA, n.toNatClampNeg, .inr (.inr (.inr (.inr (fun i => if i < n.toNatClampNeg then some (H.size + 1 + i) else none))))))]) ++ ((List.range n.toNatClampNeg).map (fun i => H.size + 1 + i)).map (fun a => (a, .inl (cy, z)))) := by
    have hD1 := hD.push (e := .inl (cA, n.toNatClampNeg, .inr (.inr (.inr (.inr (fun i => if i < n.toNatClampNeg then some (H.size + 1 + i) else none)))))) hP rfl (hA _ hS.1)
    generalize hW1 : (X ++ va_pl L f) ++ [(H.size, .inl (cA, n.toNatClampNeg, .inr (.inr (.inr (.inr (fun i => if i < n.toNatClampNeg then some (H.size + 1 + i) else none))))))] = W1 at hD1 hP1 ⊢
    have hle : ∀ (k9 : Nat) (x : Nat × va_E), W1[k9]? = some x → x.1 ≤ H.size := fun k9 x hx => by
      rw [← hW1] at hx
      by_cases hl : k9 < (X ++ va_pl L f).length
      · rw [List.getElem?_append_left hl] at hx
        exact Nat.le_of_lt ((hP k9 x hx).lt)
      · rw [List.getElem?_append_right (by omega)] at hx
        have h0 : k9 - (X ++ va_pl L f).length < 1 := (List.getElem?_eq_some_iff.mp hx).1
        rw [show k9 - (X ++ va_pl L f).length = 0 by omega] at hx
        cases hx
        exact Nat.le_refl _
    have hr : ∀ (k9 : Nat) (x : Nat × va_E), (((List.range n.toNatClampNeg).map (fun i => H.size + 1 + i)).map (fun a => ((a, .inl (cy, z)) : Nat × va_E)))[k9]? = some x → x.1 = H.size + 1 + k9 := fun k9 x hx => by
      rw [List.getElem?_map, List.getElem?_map] at hx
      by_cases h9 : k9 < n.toNatClampNeg
      · rw [List.getElem?_range h9] at hx
        cases hx
        rfl
      · have hn0 : (List.range n.toNatClampNeg)[k9]? = none := List.getElem?_eq_none (by rw [List.length_range]; omega)
        rw [hn0] at hx
        cases hx
    refine ⟨fun i j x y hi hj hxy => ?_, fun k9 x hx => ?_⟩
    · by_cases h1 : i < W1.length <;> by_cases h2 : j < W1.length
      · rw [List.getElem?_append_left h1] at hi
        rw [List.getElem?_append_left h2] at hj
        exact hD1.1 i j x y hi hj hxy
      · rw [List.getElem?_append_left h1] at hi
        rw [List.getElem?_append_right (by omega)] at hj
        have := hle _ _ hi
        have := hr _ _ hj
        omega
      · rw [List.getElem?_append_right (by omega)] at hi
        rw [List.getElem?_append_left h2] at hj
        have := hle _ _ hj
        have := hr _ _ hi
        omega
      · rw [List.getElem?_append_right (by omega)] at hi hj
        have := hr _ _ hi
        have := hr _ _ hj
        omega
    · by_cases h1 : k9 < W1.length
      · rw [List.getElem?_append_left h1] at hx
        exact hD1.2 k9 x hx
      · rw [List.getElem?_append_right (by omega)] at hx
        have := hr _ _ hx
        exact hA _ (by have := hS.1; omega)
  have hAr : ArrOfT s cA (.array ty) := fun N9 z9 => by
    obtain ⟨-, k9, hk9, cm9, hkk9⟩ := (hO 0 0 0).1
    exact ⟨(fun q hq => by cases hq), k9, hk9, cm9, hkk9⟩
  have hK2 : va_K D cl (tys ++ [(cA, .array ty)]) s := ⟨hK.1, fun k9 x hx => by
    by_cases hl : k9 < tys.length
    · rw [List.getElem?_append_left hl] at hx
      exact hK.2 k9 x hx
    · rw [List.getElem?_append_right (by omega)] at hx
      have h0 : k9 - tys.length < 1 := (List.getElem?_eq_some_iff.mp hx).1
      rw [show k9 - tys.length = 0 by omega] at hx
      cases hx
      exact ⟨hAr, fA⟩⟩
  obtain ⟨t, a1, b1⟩ := kk H.size (fun i => H.size + 1 + i) cA F.heap (fun i j _ _ h => by have h9 : H.size + 1 + i = H.size + 1 + j := h; omega) hnl hK2 (by rw [← vr_rows hnm]; exact vr_lay hP2) (by rw [← vr_rows hnm]; exact vr_layD hD2) ⟨by rw [f1]; have := hS.1; omega, fun x h1 h2 => (hold x (Nat.lt_of_lt_of_le h1 hS.1)).trans (hS.2.1 x h1 h2), hS.2.2⟩ F rfl X'
  refine ⟨t, step t ?_, b1⟩
  have e : T.heap.size = H.size := by rw [hT]
  rw [e]
  exact a1
end VGM
/-! ===== END ===== -/

def RX0 : String := "ToppleYard$Equations"
def TX0 : u_T := fun k => match k with
  | 0 => ("ToppleYard$Equations", "rows", "[[J", true)
  | 1 => ("ToppleYard$Equations", "answer", "[J", true)
  | _ => ("ToppleYard$Equations", "places", "I", false)
def tyX0 : Nat → FieldType := fun k => match k with
  | 0 => .array (.array .long)
  | 1 => .array .long
  | _ => .int
abbrev wsX00 : List Cond := u_ws RX0 TX0 3
theorem nmX0 : ∀ a, a < 3 → ∀ b, b < 3 → a ≠ b → (TX0 a).2.1 ≠ (TX0 b).2.1 := by decide +kernel
theorem tyX0_ok : ∀ k, k < 3 → parseFieldDescriptor (TX0 k).2.2.1 = some (tyX0 k) := by decide +kernel
abbrev cX0_init : ByteArray := prog_2_method_1_code
def yX0_init : MethodName := ⟨RX0, "<init>", "()V"⟩
abbrev cX0_layOut : ByteArray := prog_2_method_2_code
def yX0_layOut : MethodName := ⟨RX0, "layOut", "(LToppleYard$Ground;)V"⟩
abbrev cX0_wantLoss : ByteArray := prog_2_method_3_code
def yX0_wantLoss : MethodName := ⟨RX0, "wantLoss", "(II)V"⟩
abbrev cX0_reduce : ByteArray := prog_2_method_4_code
def yX0_reduce : MethodName := ⟨RX0, "reduce", "()V"⟩
abbrev cX0_determinant : ByteArray := prog_2_method_5_code
def yX0_determinant : MethodName := ⟨RX0, "determinant", "()J"⟩
abbrev cX0_haveWholeAnswer : ByteArray := prog_2_method_6_code
def yX0_haveWholeAnswer : MethodName := ⟨RX0, "haveWholeAnswer", "()Z"⟩
def RX1 : String := "ToppleYard$Ground"
def TX1 : u_T := fun k => match k with
  | 0 => ("ToppleYard$Ground", "between", "[[I", true)
  | 1 => ("ToppleYard$Ground", "toPit", "[I", true)
  | 2 => ("ToppleYard$Ground", "kind", "[I", true)
  | 3 => ("ToppleYard$Ground", "degree", "[I", true)
  | 4 => ("ToppleYard$Ground", "bears", "[I", true)
  | _ => ("ToppleYard$Ground", "places", "I", false)
def tyX1 : Nat → FieldType := fun k => match k with
  | 0 => .array (.array .int)
  | 1 => .array .int
  | 2 => .array .int
  | 3 => .array .int
  | 4 => .array .int
  | _ => .int
abbrev wsX10 : List Cond := u_ws RX1 TX1 6
theorem nmX1 : ∀ a, a < 6 → ∀ b, b < 6 → a ≠ b → (TX1 a).2.1 ≠ (TX1 b).2.1 := by decide +kernel
theorem tyX1_ok : ∀ k, k < 6 → parseFieldDescriptor (TX1 k).2.2.1 = some (tyX1 k) := by decide +kernel
abbrev cX1_init : ByteArray := prog_3_method_1_code
def yX1_init : MethodName := ⟨RX1, "<init>", "()V"⟩
abbrev cX1_isPlace : ByteArray := prog_3_method_2_code
def yX1_isPlace : MethodName := ⟨RX1, "isPlace", "(I)Z"⟩
abbrev cX1_becomeKind : ByteArray := prog_3_method_3_code
def yX1_becomeKind : MethodName := ⟨RX1, "becomeKind", "(II)V"⟩
abbrev cX1_pathsInto : ByteArray := prog_3_method_4_code
def yX1_pathsInto : MethodName := ⟨RX1, "pathsInto", "(II)I"⟩
abbrev cX1_countDegrees : ByteArray := prog_3_method_5_code
def yX1_countDegrees : MethodName := ⟨RX1, "countDegrees", "()V"⟩
abbrev cX1_leastShut : ByteArray := prog_3_method_6_code
def yX1_leastShut : MethodName := ⟨RX1, "leastShut", "()I"⟩
def RX2 : String := "ToppleYard$Heaps"
def TX2 : u_T := fun k => match k with
  | 0 => ("ToppleYard$Heaps", "height", "[I", true)
  | 1 => ("ToppleYard$Heaps", "toppled", "[I", true)
  | 2 => ("ToppleYard$Heaps", "fallen", "I", false)
  | _ => ("ToppleYard$Heaps", "topplings", "I", false)
def tyX2 : Nat → FieldType := fun k => match k with
  | 0 => .array .int
  | 1 => .array .int
  | 2 => .int
  | _ => .int
abbrev wsX20 : List Cond := u_ws RX2 TX2 4
theorem nmX2 : ∀ a, a < 4 → ∀ b, b < 4 → a ≠ b → (TX2 a).2.1 ≠ (TX2 b).2.1 := by decide +kernel
theorem tyX2_ok : ∀ k, k < 4 → parseFieldDescriptor (TX2 k).2.2.1 = some (tyX2 k) := by decide +kernel
abbrev cX2_init : ByteArray := prog_4_method_1_code
def yX2_init : MethodName := ⟨RX2, "<init>", "()V"⟩
abbrev cX2_forgetTopplings : ByteArray := prog_4_method_2_code
def yX2_forgetTopplings : MethodName := ⟨RX2, "forgetTopplings", "()V"⟩
abbrev cX2_startFrom : ByteArray := prog_4_method_3_code
def yX2_startFrom : MethodName := ⟨RX2, "startFrom", "(LToppleYard$Heaps;)V"⟩
abbrev cX2_takesGrains : ByteArray := prog_4_method_4_code
def yX2_takesGrains : MethodName := ⟨RX2, "takesGrains", "(II)Z"⟩
abbrev cX2_isReady : ByteArray := prog_4_method_5_code
def yX2_isReady : MethodName := ⟨RX2, "isReady", "(LToppleYard$Ground;I)Z"⟩
abbrev cX2_giveAlongPaths : ByteArray := prog_4_method_6_code
def yX2_giveAlongPaths : MethodName := ⟨RX2, "giveAlongPaths", "(LToppleYard$Ground;II)V"⟩
abbrev cX2_timesInOneGo : ByteArray := prog_4_method_7_code
def yX2_timesInOneGo : MethodName := ⟨RX2, "timesInOneGo", "(LToppleYard$Ground;I)I"⟩
abbrev cX2_giveTillSettled : ByteArray := prog_4_method_8_code
def yX2_giveTillSettled : MethodName := ⟨RX2, "giveTillSettled", "(LToppleYard$Ground;)I"⟩
abbrev cX2_grains : ByteArray := prog_4_method_9_code
def yX2_grains : MethodName := ⟨RX2, "grains", "(LToppleYard$Ground;)I"⟩
abbrev cX2_setOfReady : ByteArray := prog_4_method_10_code
def yX2_setOfReady : MethodName := ⟨RX2, "setOfReady", "(LToppleYard$Ground;)I"⟩
abbrev cX2_setOfToppled : ByteArray := prog_4_method_11_code
def yX2_setOfToppled : MethodName := ⟨RX2, "setOfToppled", "(LToppleYard$Ground;)I"⟩
abbrev cX2_packed : ByteArray := prog_4_method_12_code
def yX2_packed : MethodName := ⟨RX2, "packed", "(LToppleYard$Ground;)I"⟩
def RX3 : String := "ToppleYard$Readings"
def TX3 : u_T := fun k => match k with
  | 0 => ("ToppleYard$Readings", "place", "[I", true)
  | 1 => ("ToppleYard$Readings", "told", "[I", true)
  | 2 => ("ToppleYard$Readings", "settled", "LToppleYard$Heaps;", true)
  | 3 => ("ToppleYard$Readings", "spilt", "LToppleYard$Heaps;", true)
  | _ => ("ToppleYard$Readings", "count", "I", false)
def tyX3 : Nat → FieldType := fun k => match k with
  | 0 => .array .int
  | 1 => .array .int
  | 2 => .object "ToppleYard$Heaps"
  | 3 => .object "ToppleYard$Heaps"
  | _ => .int
abbrev wsX30 : List Cond := u_ws RX3 TX3 5
theorem nmX3 : ∀ a, a < 5 → ∀ b, b < 5 → a ≠ b → (TX3 a).2.1 ≠ (TX3 b).2.1 := by decide +kernel
theorem tyX3_ok : ∀ k, k < 5 → parseFieldDescriptor (TX3 k).2.2.1 = some (tyX3 k) := by decide +kernel
abbrev cX3_init : ByteArray := prog_5_method_1_code
def yX3_init : MethodName := ⟨RX3, "<init>", "()V"⟩
abbrev cX3_note : ByteArray := prog_5_method_2_code
def yX3_note : MethodName := ⟨RX3, "note", "(II)V"⟩
abbrev cX3_areAllSo : ByteArray := prog_5_method_3_code
def yX3_areAllSo : MethodName := ⟨RX3, "areAllSo", "(LToppleYard$Ground;LToppleYard$Heaps;)Z"⟩
def RX4 : String := "ToppleYard$Sheet"
def TX4 : u_T := fun k => match k with
  | 0 => ("ToppleYard$Sheet", "cells", "[I", true)
  | 1 => ("ToppleYard$Sheet", "lane", "I", false)
  | _ => ("ToppleYard$Sheet", "length", "I", false)
def tyX4 : Nat → FieldType := fun k => match k with
  | 0 => .array .int
  | 1 => .int
  | _ => .int
abbrev wsX40 : List Cond := u_ws RX4 TX4 3
theorem nmX4 : ∀ a, a < 3 → ∀ b, b < 3 → a ≠ b → (TX4 a).2.1 ≠ (TX4 b).2.1 := by decide +kernel
theorem tyX4_ok : ∀ k, k < 3 → parseFieldDescriptor (TX4 k).2.2.1 = some (tyX4 k) := by decide +kernel
abbrev cX4_init : ByteArray := prog_6_method_1_code
def yX4_init : MethodName := ⟨RX4, "<init>", "()V"⟩
abbrev cX4_hasNothing : ByteArray := prog_6_method_2_code
def yX4_hasNothing : MethodName := ⟨RX4, "hasNothing", "()Z"⟩
abbrev cX4_getRow : ByteArray := prog_6_method_3_code
def yX4_getRow : MethodName := ⟨RX4, "getRow", "(II)V"⟩
abbrev cX4_loseRow : ByteArray := prog_6_method_4_code
def yX4_loseRow : MethodName := ⟨RX4, "loseRow", "()V"⟩
abbrev cX4_hasCells : ByteArray := prog_6_method_5_code
def yX4_hasCells : MethodName := ⟨RX4, "hasCells", "(II)Z"⟩
abbrev cX4_faultOfCells : ByteArray := prog_6_method_6_code
def yX4_faultOfCells : MethodName := ⟨RX4, "faultOfCells", "(III)I"⟩
def RX5 : String := "ToppleYard$TextReader"
def TX5 : u_T := fun k => match k with
  | 0 => ("ToppleYard$TextReader", "codes", "[I", true)
  | 1 => ("ToppleYard$TextReader", "count", "I", false)
  | 2 => ("ToppleYard$TextReader", "wrong", "Z", false)
  | _ => ("ToppleYard$TextReader", "at", "I", false)
def tyX5 : Nat → FieldType := fun k => match k with
  | 0 => .array .int
  | 1 => .int
  | 2 => .boolean
  | _ => .int
abbrev wsX50 : List Cond := u_ws RX5 TX5 4
theorem nmX5 : ∀ a, a < 4 → ∀ b, b < 4 → a ≠ b → (TX5 a).2.1 ≠ (TX5 b).2.1 := by decide +kernel
theorem tyX5_ok : ∀ k, k < 4 → parseFieldDescriptor (TX5 k).2.2.1 = some (tyX5 k) := by decide +kernel
abbrev cX5_init : ByteArray := prog_7_method_1_code
def yX5_init : MethodName := ⟨RX5, "<init>", "()V"⟩
abbrev cX5_isText : ByteArray := prog_7_method_2_code
def yX5_isText : MethodName := ⟨RX5, "isText", "([IIILToppleYard$Ground;LToppleYard$Heaps;)Z"⟩
abbrev cX5_readPaths : ByteArray := prog_7_method_3_code
def yX5_readPaths : MethodName := ⟨RX5, "readPaths", "(LToppleYard$Ground;)V"⟩
abbrev cX5_kindOfLetter : ByteArray := prog_7_method_4_code
def yX5_kindOfLetter : MethodName := ⟨RX5, "kindOfLetter", "()I"⟩
abbrev cX5_stepBack : ByteArray := prog_7_method_5_code
def yX5_stepBack : MethodName := ⟨RX5, "stepBack", "()I"⟩
abbrev cX5_code : ByteArray := prog_7_method_6_code
def yX5_code : MethodName := ⟨RX5, "code", "(II)I"⟩
def RX6 : String := "ToppleYard"
def TX6 : u_T := fun k => match k with
  | 0 => ("ToppleYard", "sheets", "[LToppleYard$Sheet;", true)
  | 1 => ("ToppleYard", "readings", "LToppleYard$Readings;", true)
  | 2 => ("ToppleYard", "reader", "LToppleYard$TextReader;", true)
  | 3 => ("ToppleYard", "equations", "LToppleYard$Equations;", true)
  | 4 => ("ToppleYard", "trial", "LToppleYard$Heaps;", true)
  | 5 => ("ToppleYard", "seen", "[I", true)
  | 6 => ("ToppleYard", "ground", "LToppleYard$Ground;", false)
  | 7 => ("ToppleYard", "draftGround", "LToppleYard$Ground;", false)
  | 8 => ("ToppleYard", "heaps", "LToppleYard$Heaps;", false)
  | 9 => ("ToppleYard", "draftHeaps", "LToppleYard$Heaps;", false)
  | 10 => ("ToppleYard", "traceLeft", "I", false)
  | _ => ("ToppleYard", "latestFault", "I", false)
def tyX6 : Nat → FieldType := fun k => match k with
  | 0 => .array (.object "ToppleYard$Sheet")
  | 1 => .object "ToppleYard$Readings"
  | 2 => .object "ToppleYard$TextReader"
  | 3 => .object "ToppleYard$Equations"
  | 4 => .object "ToppleYard$Heaps"
  | 5 => .array .int
  | 6 => .object "ToppleYard$Ground"
  | 7 => .object "ToppleYard$Ground"
  | 8 => .object "ToppleYard$Heaps"
  | 9 => .object "ToppleYard$Heaps"
  | 10 => .int
  | _ => .int
abbrev wsX60 : List Cond := u_ws RX6 TX6 12
theorem nmX6 : ∀ a, a < 12 → ∀ b, b < 12 → a ≠ b → (TX6 a).2.1 ≠ (TX6 b).2.1 := by decide +kernel
theorem tyX6_ok : ∀ k, k < 12 → parseFieldDescriptor (TX6 k).2.2.1 = some (tyX6 k) := by decide +kernel
abbrev cX6_init : ByteArray := prog_1_method_1_code
def yX6_init : MethodName := ⟨RX6, "<init>", "()V"⟩
abbrev cX6_yard : ByteArray := prog_1_method_2_code
def yX6_yard : MethodName := ⟨RX6, "yard", "(IIII)I"⟩
abbrev cX6_ofPlace : ByteArray := prog_1_method_3_code
def yX6_ofPlace : MethodName := ⟨RX6, "ofPlace", "(II)I"⟩
abbrev cX6_paths : ByteArray := prog_1_method_4_code
def yX6_paths : MethodName := ⟨RX6, "paths", "(II)I"⟩
abbrev cX6_heap : ByteArray := prog_1_method_5_code
def yX6_heap : MethodName := ⟨RX6, "heap", "(II)I"⟩
abbrev cX6_drop : ByteArray := prog_1_method_6_code
def yX6_drop : MethodName := ⟨RX6, "drop", "(II)I"⟩
abbrev cX6_topple : ByteArray := prog_1_method_7_code
def yX6_topple : MethodName := ⟨RX6, "topple", "(I)I"⟩
abbrev cX6_settle : ByteArray := prog_1_method_8_code
def yX6_settle : MethodName := ⟨RX6, "settle", "()I"⟩
abbrev cX6_day : ByteArray := prog_1_method_9_code
def yX6_day : MethodName := ⟨RX6, "day", "(IIIII)I"⟩
abbrev cX6_spill : ByteArray := prog_1_method_10_code
def yX6_spill : MethodName := ⟨RX6, "spill", "(II)I"⟩
abbrev cX6_again : ByteArray := prog_1_method_11_code
def yX6_again : MethodName := ⟨RX6, "again", "(II)I"⟩
abbrev cX6_burnt : ByteArray := prog_1_method_12_code
def yX6_burnt : MethodName := ⟨RX6, "burnt", "()I"⟩
abbrev cX6_trees : ByteArray := prog_1_method_13_code
def yX6_trees : MethodName := ⟨RX6, "trees", "()J"⟩
abbrev cX6_alike : ByteArray := prog_1_method_14_code
def yX6_alike : MethodName := ⟨RX6, "alike", "(III)I"⟩
abbrev cX6_reading : ByteArray := prog_1_method_15_code
def yX6_reading : MethodName := ⟨RX6, "reading", "(II)I"⟩
abbrev cX6_back : ByteArray := prog_1_method_16_code
def yX6_back : MethodName := ⟨RX6, "back", "(I)I"⟩
abbrev cX6_kinds : ByteArray := prog_1_method_17_code
def yX6_kinds : MethodName := ⟨RX6, "kinds", "(I)I"⟩
abbrev cX6_heapings : ByteArray := prog_1_method_18_code
def yX6_heapings : MethodName := ⟨RX6, "heapings", "(I)I"⟩
abbrev cX6_odds : ByteArray := prog_1_method_19_code
def yX6_odds : MethodName := ⟨RX6, "odds", "(I)J"⟩
abbrev cX6_sheet : ByteArray := prog_1_method_20_code
def yX6_sheet : MethodName := ⟨RX6, "sheet", "(III)I"⟩
abbrev cX6_lose : ByteArray := prog_1_method_21_code
def yX6_lose : MethodName := ⟨RX6, "lose", "(I)I"⟩
abbrev cX6_put : ByteArray := prog_1_method_22_code
def yX6_put : MethodName := ⟨RX6, "put", "(III)I"⟩
abbrev cX6_cell : ByteArray := prog_1_method_23_code
def yX6_cell : MethodName := ⟨RX6, "cell", "(III)J"⟩
abbrev cX6_copy : ByteArray := prog_1_method_24_code
def yX6_copy : MethodName := ⟨RX6, "copy", "(IIIII)I"⟩
abbrev cX6_tell : ByteArray := prog_1_method_25_code
def yX6_tell : MethodName := ⟨RX6, "tell", "(I)I"⟩
abbrev cX6_strike : ByteArray := prog_1_method_26_code
def yX6_strike : MethodName := ⟨RX6, "strike", "(I)I"⟩
abbrev cX6_as : ByteArray := prog_1_method_27_code
def yX6_as : MethodName := ⟨RX6, "as", "(II)I"⟩
abbrev cX6_trace : ByteArray := prog_1_method_28_code
def yX6_trace : MethodName := ⟨RX6, "trace", "()I"⟩
abbrev cX6_fault : ByteArray := prog_1_method_29_code
def yX6_fault : MethodName := ⟨RX6, "fault", "()I"⟩
abbrev cX6_many : ByteArray := prog_1_method_30_code
def yX6_many : MethodName := ⟨RX6, "many", "(I)I"⟩
abbrev cX6_hasNoYard : ByteArray := prog_1_method_31_code
def yX6_hasNoYard : MethodName := ⟨RX6, "hasNoYard", "()Z"⟩
abbrev cX6_isSheet : ByteArray := prog_1_method_32_code
def yX6_isSheet : MethodName := ⟨RX6, "isSheet", "(I)Z"⟩
abbrev cX6_isLane : ByteArray := prog_1_method_33_code
def yX6_isLane : MethodName := ⟨RX6, "isLane", "(I)Z"⟩
abbrev cX6_cutToLane : ByteArray := prog_1_method_34_code
def yX6_cutToLane : MethodName := ⟨RX6, "cutToLane", "(II)I"⟩
abbrev cX6_faulted : ByteArray := prog_1_method_35_code
def yX6_faulted : MethodName := ⟨RX6, "faulted", "(I)I"⟩
abbrev cX6_takeDrafts : ByteArray := prog_1_method_36_code
def yX6_takeDrafts : MethodName := ⟨RX6, "takeDrafts", "()V"⟩
abbrev cX6_isAskedOfDay : ByteArray := prog_1_method_37_code
def yX6_isAskedOfDay : MethodName := ⟨RX6, "isAskedOfDay", "(I)Z"⟩
abbrev cX6_setsHeap : ByteArray := prog_1_method_38_code
def yX6_setsHeap : MethodName := ⟨RX6, "setsHeap", "(I)Z"⟩
abbrev cX6_refusalOfPairs : ByteArray := prog_1_method_39_code
def yX6_refusalOfPairs : MethodName := ⟨RX6, "refusalOfPairs", "([III)I"⟩
abbrev cX6_refusalOfPair : ByteArray := prog_1_method_40_code
def yX6_refusalOfPair : MethodName := ⟨RX6, "refusalOfPair", "(II)I"⟩
abbrev cX6_firstWrong : ByteArray := prog_1_method_41_code
def yX6_firstWrong : MethodName := ⟨RX6, "firstWrong", "([III)I"⟩
abbrev cX6_isDone : ByteArray := prog_1_method_42_code
def yX6_isDone : MethodName := ⟨RX6, "isDone", "(II)Z"⟩
abbrev cX6_answerOfDay : ByteArray := prog_1_method_43_code
def yX6_answerOfDay : MethodName := ⟨RX6, "answerOfDay", "(II)I"⟩
abbrev cX6_firstSeen : ByteArray := prog_1_method_44_code
def yX6_firstSeen : MethodName := ⟨RX6, "firstSeen", "(I)I"⟩
abbrev cX6_inLeastTerms : ByteArray := prog_1_method_45_code
def yX6_inLeastTerms : MethodName := ⟨RX6, "inLeastTerms", "(III)I"⟩
abbrev cX6_leaveTrace : ByteArray := prog_1_method_46_code
def yX6_leaveTrace : MethodName := ⟨RX6, "leaveTrace", "(I)V"⟩
abbrev cX6_tellPlain : ByteArray := prog_1_method_47_code
def yX6_tellPlain : MethodName := ⟨RX6, "tellPlain", "(I)I"⟩
abbrev cX6_tellBroad : ByteArray := prog_1_method_48_code
def yX6_tellBroad : MethodName := ⟨RX6, "tellBroad", "(I)I"⟩
abbrev cX6_tellDouble : ByteArray := prog_1_method_49_code
def yX6_tellDouble : MethodName := ⟨RX6, "tellDouble", "(I)I"⟩
abbrev cX6_strikeLent : ByteArray := prog_1_method_50_code
def yX6_strikeLent : MethodName := ⟨RX6, "strikeLent", "(I)I"⟩
abbrev cX6_strikeDouble : ByteArray := prog_1_method_51_code
def yX6_strikeDouble : MethodName := ⟨RX6, "strikeDouble", "()I"⟩
def RX7 : String := "ToppleYardModel"
def TX7 : u_T := fun k => match k with
  | 0 => ("ToppleYardModel", "fault", "I", false)
  | 1 => ("ToppleYardModel", "trace", "I", false)
  | 2 => ("ToppleYardModel", "sorts", "[I", true)
  | 3 => ("ToppleYardModel", "sheetLong", "[I", true)
  | 4 => ("ToppleYardModel", "cells", "[I", true)
  | 5 => ("ToppleYardModel", "places", "I", false)
  | 6 => ("ToppleYardModel", "fallen", "I", false)
  | 7 => ("ToppleYardModel", "topplings", "I", false)
  | 8 => ("ToppleYardModel", "kind", "[I", true)
  | 9 => ("ToppleYardModel", "pit", "[I", true)
  | 10 => ("ToppleYardModel", "heaps", "[I", true)
  | 11 => ("ToppleYardModel", "toppled", "[I", true)
  | 12 => ("ToppleYardModel", "between", "[I", true)
  | 13 => ("ToppleYardModel", "at", "I", false)
  | 14 => ("ToppleYardModel", "readPlaces", "I", false)
  | 15 => ("ToppleYardModel", "readKind", "[I", true)
  | 16 => ("ToppleYardModel", "readPit", "[I", true)
  | 17 => ("ToppleYardModel", "readHeap", "[I", true)
  | 18 => ("ToppleYardModel", "readBetween", "[I", true)
  | 19 => ("ToppleYardModel", "doneFallen", "I", false)
  | 20 => ("ToppleYardModel", "doneTopplings", "I", false)
  | 21 => ("ToppleYardModel", "doneSet", "I", false)
  | 22 => ("ToppleYardModel", "doneBy", "[I", true)
  | 23 => ("ToppleYardModel", "kept", "[I", true)
  | 24 => ("ToppleYardModel", "behind", "[I", true)
  | 25 => ("ToppleYardModel", "leads", "[I", true)
  | 26 => ("ToppleYardModel", "square", "[J", true)
  | 27 => ("ToppleYardModel", "columnOf", "[I", true)
  | 28 => ("ToppleYardModel", "readings", "I", false)
  | 29 => ("ToppleYardModel", "readWhere", "[I", true)
  | _ => ("ToppleYardModel", "readTopplings", "[I", true)
def tyX7 : Nat → FieldType := fun k => match k with
  | 0 => .int
  | 1 => .int
  | 2 => .array .int
  | 3 => .array .int
  | 4 => .array .int
  | 5 => .int
  | 6 => .int
  | 7 => .int
  | 8 => .array .int
  | 9 => .array .int
  | 10 => .array .int
  | 11 => .array .int
  | 12 => .array .int
  | 13 => .int
  | 14 => .int
  | 15 => .array .int
  | 16 => .array .int
  | 17 => .array .int
  | 18 => .array .int
  | 19 => .int
  | 20 => .int
  | 21 => .int
  | 22 => .array .int
  | 23 => .array .int
  | 24 => .array .int
  | 25 => .array .int
  | 26 => .array .long
  | 27 => .array .int
  | 28 => .int
  | 29 => .array .int
  | _ => .array .int
abbrev wsX70 : List Cond := u_ws RX7 TX7 31
theorem nmX7 : ∀ a, a < 31 → ∀ b, b < 31 → a ≠ b → (TX7 a).2.1 ≠ (TX7 b).2.1 := by decide +kernel
theorem tyX7_ok : ∀ k, k < 31 → parseFieldDescriptor (TX7 k).2.2.1 = some (tyX7 k) := by decide +kernel
abbrev cX7_init : ByteArray := prog_9_method_1_code
def yX7_init : MethodName := ⟨RX7, "<init>", "()V"⟩
abbrev cX7_fails : ByteArray := prog_9_method_3_code
def yX7_fails : MethodName := ⟨RX7, "fails", "(I)I"⟩
abbrev cX7_lost : ByteArray := prog_9_method_4_code
def yX7_lost : MethodName := ⟨RX7, "lost", "(I)J"⟩
abbrev cX7_within : ByteArray := prog_9_method_5_code
def yX7_within : MethodName := ⟨RX7, "within", "(III)Z"⟩
abbrev cX7_isSheet : ByteArray := prog_9_method_6_code
def yX7_isSheet : MethodName := ⟨RX7, "isSheet", "(I)Z"⟩
abbrev cX7_isSort : ByteArray := prog_9_method_7_code
def yX7_isSort : MethodName := ⟨RX7, "isSort", "(I)Z"⟩
abbrev cX7_against : ByteArray := prog_9_method_8_code
def yX7_against : MethodName := ⟨RX7, "against", "(IIII)I"⟩
abbrev cX7_isPlace : ByteArray := prog_9_method_9_code
def yX7_isPlace : MethodName := ⟨RX7, "isPlace", "(I)Z"⟩
abbrev cX7_isOf : ByteArray := prog_9_method_10_code
def yX7_isOf : MethodName := ⟨RX7, "isOf", "(II)Z"⟩
abbrev cX7_digit : ByteArray := prog_9_method_11_code
def yX7_digit : MethodName := ⟨RX7, "digit", "(III)I"⟩
abbrev cX7_isSign : ByteArray := prog_9_method_12_code
def yX7_isSign : MethodName := ⟨RX7, "isSign", "(II)Z"⟩
abbrev cX7_yard : ByteArray := prog_9_method_13_code
def yX7_yard : MethodName := ⟨RX7, "yard", "(IIII)I"⟩
abbrev cX7_takeYard : ByteArray := prog_9_method_14_code
def yX7_takeYard : MethodName := ⟨RX7, "takeYard", "()V"⟩
abbrev cX7_readYard : ByteArray := prog_9_method_15_code
def yX7_readYard : MethodName := ⟨RX7, "readYard", "(I)Z"⟩
abbrev cX7_readPlace : ByteArray := prog_9_method_16_code
def yX7_readPlace : MethodName := ⟨RX7, "readPlace", "(II)Z"⟩
abbrev cX7_openPlaces : ByteArray := prog_9_method_17_code
def yX7_openPlaces : MethodName := ⟨RX7, "openPlaces", "()I"⟩
abbrev cX7_degreeOf : ByteArray := prog_9_method_18_code
def yX7_degreeOf : MethodName := ⟨RX7, "degreeOf", "(I)I"⟩
abbrev cX7_bearsOf : ByteArray := prog_9_method_19_code
def yX7_bearsOf : MethodName := ⟨RX7, "bearsOf", "(I)I"⟩
abbrev cX7_canTopple : ByteArray := prog_9_method_20_code
def yX7_canTopple : MethodName := ⟨RX7, "canTopple", "(I)Z"⟩
abbrev cX7_ofPlace : ByteArray := prog_9_method_21_code
def yX7_ofPlace : MethodName := ⟨RX7, "ofPlace", "(II)I"⟩
abbrev cX7_paths : ByteArray := prog_9_method_22_code
def yX7_paths : MethodName := ⟨RX7, "paths", "(II)I"⟩
abbrev cX7_heap : ByteArray := prog_9_method_23_code
def yX7_heap : MethodName := ⟨RX7, "heap", "(II)I"⟩
abbrev cX7_startCount : ByteArray := prog_9_method_24_code
def yX7_startCount : MethodName := ⟨RX7, "startCount", "()V"⟩
abbrev cX7_topples : ByteArray := prog_9_method_25_code
def yX7_topples : MethodName := ⟨RX7, "topples", "(I)V"⟩
abbrev cX7_settles : ByteArray := prog_9_method_26_code
def yX7_settles : MethodName := ⟨RX7, "settles", "()V"⟩
abbrev cX7_takeCount : ByteArray := prog_9_method_27_code
def yX7_takeCount : MethodName := ⟨RX7, "takeCount", "()V"⟩
abbrev cX7_drop : ByteArray := prog_9_method_28_code
def yX7_drop : MethodName := ⟨RX7, "drop", "(II)I"⟩
abbrev cX7_topple : ByteArray := prog_9_method_29_code
def yX7_topple : MethodName := ⟨RX7, "topple", "(I)I"⟩
abbrev cX7_settle : ByteArray := prog_9_method_30_code
def yX7_settle : MethodName := ⟨RX7, "settle", "()I"⟩
abbrev cX7_keep : ByteArray := prog_9_method_31_code
def yX7_keep : MethodName := ⟨RX7, "keep", "()V"⟩
abbrev cX7_putBack : ByteArray := prog_9_method_32_code
def yX7_putBack : MethodName := ⟨RX7, "putBack", "()V"⟩
abbrev cX7_does : ByteArray := prog_9_method_33_code
def yX7_does : MethodName := ⟨RX7, "does", "(II)Z"⟩
abbrev cX7_goDay : ByteArray := prog_9_method_34_code
def yX7_goDay : MethodName := ⟨RX7, "goDay", "(II)I"⟩
abbrev cX7_refusesPair : ByteArray := prog_9_method_35_code
def yX7_refusesPair : MethodName := ⟨RX7, "refusesPair", "(II)I"⟩
abbrev cX7_day : ByteArray := prog_9_method_36_code
def yX7_day : MethodName := ⟨RX7, "day", "(IIIII)I"⟩
abbrev cX7_allHeaps : ByteArray := prog_9_method_37_code
def yX7_allHeaps : MethodName := ⟨RX7, "allHeaps", "()I"⟩
abbrev cX7_whoCan : ByteArray := prog_9_method_38_code
def yX7_whoCan : MethodName := ⟨RX7, "whoCan", "()I"⟩
abbrev cX7_tellDay : ByteArray := prog_9_method_39_code
def yX7_tellDay : MethodName := ⟨RX7, "tellDay", "(I)I"⟩
abbrev cX7_spillOf : ByteArray := prog_9_method_40_code
def yX7_spillOf : MethodName := ⟨RX7, "spillOf", "(II)I"⟩
abbrev cX7_spill : ByteArray := prog_9_method_41_code
def yX7_spill : MethodName := ⟨RX7, "spill", "(II)I"⟩
abbrev cX7_areAt : ByteArray := prog_9_method_42_code
def yX7_areAt : MethodName := ⟨RX7, "areAt", "(I)Z"⟩
abbrev cX7_writeAt : ByteArray := prog_9_method_43_code
def yX7_writeAt : MethodName := ⟨RX7, "writeAt", "(I)V"⟩
abbrev cX7_again : ByteArray := prog_9_method_44_code
def yX7_again : MethodName := ⟨RX7, "again", "(II)I"⟩
abbrev cX7_burnt : ByteArray := prog_9_method_45_code
def yX7_burnt : MethodName := ⟨RX7, "burnt", "()I"⟩
abbrev cX7_allLead : ByteArray := prog_9_method_46_code
def yX7_allLead : MethodName := ⟨RX7, "allLead", "()Z"⟩
abbrev cX7_trees : ByteArray := prog_9_method_47_code
def yX7_trees : MethodName := ⟨RX7, "trees", "()J"⟩
abbrev cX7_findColumns : ByteArray := prog_9_method_48_code
def yX7_findColumns : MethodName := ⟨RX7, "findColumns", "(I)Z"⟩
abbrev cX7_determinant : ByteArray := prog_9_method_49_code
def yX7_determinant : MethodName := ⟨RX7, "determinant", "()J"⟩
abbrev cX7_writeSquare : ByteArray := prog_9_method_50_code
def yX7_writeSquare : MethodName := ⟨RX7, "writeSquare", "(II)V"⟩
abbrev cX7_alike : ByteArray := prog_9_method_51_code
def yX7_alike : MethodName := ⟨RX7, "alike", "(III)I"⟩
abbrev cX7_reading : ByteArray := prog_9_method_52_code
def yX7_reading : MethodName := ⟨RX7, "reading", "(II)I"⟩
abbrev cX7_back : ByteArray := prog_9_method_53_code
def yX7_back : MethodName := ⟨RX7, "back", "(I)I"⟩
abbrev cX7_areSo : ByteArray := prog_9_method_54_code
def yX7_areSo : MethodName := ⟨RX7, "areSo", "()Z"⟩
abbrev cX7_kinds : ByteArray := prog_9_method_55_code
def yX7_kinds : MethodName := ⟨RX7, "kinds", "(I)I"⟩
abbrev cX7_heapings : ByteArray := prog_9_method_56_code
def yX7_heapings : MethodName := ⟨RX7, "heapings", "(I)I"⟩
abbrev cX7_inLeastTerms : ByteArray := prog_9_method_57_code
def yX7_inLeastTerms : MethodName := ⟨RX7, "inLeastTerms", "(JJI)J"⟩
abbrev cX7_odds : ByteArray := prog_9_method_58_code
def yX7_odds : MethodName := ⟨RX7, "odds", "(I)J"⟩
abbrev cX7_sheet : ByteArray := prog_9_method_59_code
def yX7_sheet : MethodName := ⟨RX7, "sheet", "(III)I"⟩
abbrev cX7_lose : ByteArray := prog_9_method_60_code
def yX7_lose : MethodName := ⟨RX7, "lose", "(I)I"⟩
abbrev cX7_put : ByteArray := prog_9_method_61_code
def yX7_put : MethodName := ⟨RX7, "put", "(III)I"⟩
abbrev cX7_cell : ByteArray := prog_9_method_62_code
def yX7_cell : MethodName := ⟨RX7, "cell", "(III)J"⟩
abbrev cX7_copy : ByteArray := prog_9_method_63_code
def yX7_copy : MethodName := ⟨RX7, "copy", "(IIIII)I"⟩
abbrev cX7_begins : ByteArray := prog_9_method_64_code
def yX7_begins : MethodName := ⟨RX7, "begins", "(I)V"⟩
abbrev cX7_tell : ByteArray := prog_9_method_65_code
def yX7_tell : MethodName := ⟨RX7, "tell", "(I)I"⟩
abbrev cX7_strike : ByteArray := prog_9_method_66_code
def yX7_strike : MethodName := ⟨RX7, "strike", "(I)I"⟩
abbrev cX7_as : ByteArray := prog_9_method_67_code
def yX7_as : MethodName := ⟨RX7, "as", "(II)I"⟩
abbrev cX7_trace : ByteArray := prog_9_method_68_code
def yX7_trace : MethodName := ⟨RX7, "trace", "()I"⟩
abbrev cX7_fault : ByteArray := prog_9_method_69_code
def yX7_fault : MethodName := ⟨RX7, "fault", "()I"⟩
abbrev cX7_many : ByteArray := prog_9_method_70_code
def yX7_many : MethodName := ⟨RX7, "many", "(I)I"⟩
def RJ10 : String := "java/lang/System"
def TJ10 : u_T := fun k => match k with
  | _ => ("", "", "", false)
def tyJ10 : Nat → FieldType := fun k => match k with
  | _ => .int
abbrev wsJ100 : List Cond := u_ws RJ10 TJ10 0
theorem nmJ10 : ∀ a, a < 0 → ∀ b, b < 0 → a ≠ b → (TJ10 a).2.1 ≠ (TJ10 b).2.1 := by decide +kernel
theorem tyJ10_ok : ∀ k, k < 0 → parseFieldDescriptor (TJ10 k).2.2.1 = some (tyJ10 k) := by decide +kernel
def RJ7 : String := "java/util/Arrays"
def TJ7 : u_T := fun k => match k with
  | _ => ("", "", "", false)
def tyJ7 : Nat → FieldType := fun k => match k with
  | _ => .int
abbrev wsJ70 : List Cond := u_ws RJ7 TJ7 0
theorem nmJ7 : ∀ a, a < 0 → ∀ b, b < 0 → a ≠ b → (TJ7 a).2.1 ≠ (TJ7 b).2.1 := by decide +kernel
theorem tyJ7_ok : ∀ k, k < 0 → parseFieldDescriptor (TJ7 k).2.2.1 = some (tyJ7 k) := by decide +kernel
abbrev cJ7_fill_53178 : ByteArray := prog_11_method_103_code
def yJ7_fill_53178 : MethodName := ⟨RJ7, "fill", "([II)V"⟩
def RL : String := "ToppleYardLaw"
abbrev cL_law : ByteArray := code
def yL_law : MethodName := ⟨RL, "law", "([I)Z"⟩
abbrev vwCl : List vw_C := [(RX0, TX0, 3), (RX1, TX1, 6), (RX2, TX2, 4), (RX3, TX3, 5), (RX4, TX4, 3), (RX5, TX5, 4), (RX6, TX6, 12), (RX7, TX7, 31)]
end
section
/-! ===== THE ABSTRACT MACHINE: words ===== -/
/-- a value as the real heap has it: references are numbers of abstract cells, ad gives their addresses -/
def av_v (ad : Nat → Nat) : Value → Value
  | .ref k => .ref (ad k)
  | .int x => .int x
  | .long x => .long x
  | .float x => .float x
  | .double x => .double x
  | .null => .null
  | .retAddr x => .retAddr x
abbrev AH : Type := Nat → va_E
def av_x (ad : Nat → Nat) (x : (Nat → Int32) ⊕ (Nat → Int64) ⊕ (Nat → UInt32) ⊕ (Nat → UInt64) ⊕ (Nat → Option Nat)) : (Nat → Int32) ⊕ (Nat → Int64) ⊕ (Nat → UInt32) ⊕ (Nat → UInt64) ⊕ (Nat → Option Nat) := match x with
  | .inl f => .inl f
  | .inr (.inl f) => .inr (.inl f)
  | .inr (.inr (.inl f)) => .inr (.inr (.inl f))
  | .inr (.inr (.inr (.inl f))) => .inr (.inr (.inr (.inl f)))
  | .inr (.inr (.inr (.inr f))) => .inr (.inr (.inr (.inr (fun i => (f i).map ad))))
def av_e (ad : Nat → Nat) (c : ClassId) (e : va_E) : va_E := match e with
  | .inl (_, n, x) => .inl (c, n, av_x ad x)
  | .inr (ci, fs) => .inr (ci, fs.map (av_v ad))
def av_ws (ad : Nat → Nat) (ca : Nat → ClassId) (N : Nat) (h : AH) : va_W := (List.range N).map (fun k => (ad k, av_e ad (ca k) (h k)))
def av_ty : Nat → FieldType
  | 0 => .int
  | 1 => .long
  | 2 => .object "ToppleYard$Sheet"
  | 3 => .array .int
  | _ => .array .long
def av_ao (s : State) (c : ClassId) (e : va_E) : Prop := match e with
  | .inl (t, _) => ArrOfT s c (av_ty t) ∧ va_RA s c (av_ty t)
  | .inr _ => True
/-- a method: name, bytes, locals, answer, frames and words of locals below it, place of its code word, cells and slots that it makes -/
abbrev Cal : Type := MethodName × ByteArray × Nat × Option FieldType × Nat × Nat × Nat × Nat × Nat
abbrev Row : Type := Instr × Nat × List Nat × List Cal
abbrev Rows : Type := List (Nat × Row)
abbrev cl_y (Q : Cal) : MethodName := Q.1
abbrev cl_b (Q : Cal) : ByteArray := Q.2.1
abbrev cl_m (Q : Cal) : Nat := Q.2.2.1
abbrev cl_r (Q : Cal) : Option FieldType := Q.2.2.2.1
abbrev cl_f (Q : Cal) : Nat := Q.2.2.2.2.1
abbrev cl_l (Q : Cal) : Nat := Q.2.2.2.2.2.1
abbrev cl_t (Q : Cal) : Nat := Q.2.2.2.2.2.2.1
abbrev cl_c (Q : Cal) : Nat := Q.2.2.2.2.2.2.2.1
abbrev cl_s (Q : Cal) : Nat := Q.2.2.2.2.2.2.2.2
def lk : Rows → Nat → Option Row
  | [], _ => none
  | q :: R, pc => match Nat.beq q.1 pc with
    | true => some q.2
    | false => lk R pc
def lg : List (Option Value) → Nat → Option Value
  | [], _ => none
  | v :: _, 0 => v
  | _ :: l, n + 1 => lg l n
def lst : List (Option Value) → Nat → Option Value → List (Option Value)
  | [], _, _ => []
  | _ :: l, 0, v => v :: l
  | x :: l, n + 1, v => x :: lst l n v
/-- what stands ahead of a place that is written: a long there is gone -/
def lcl (ls : List (Option Value)) (i : Nat) : List (Option Value) := match i with
  | 0 => ls
  | j + 1 => match lg ls j with
    | some (.long _) => lst ls j none
    | some (.double _) => lst ls j none
    | _ => ls
def fg : List Value → Nat → Option Value
  | [], _ => none
  | v :: _, 0 => some v
  | _ :: l, n + 1 => fg l n
def cats (r : List Value) : Nat := (r.map fun v => v.category).sum
/-- the words that every state keeps -/
def tbG : List Cond := lw_tbl.filter goodWord
def wsM (Q : Cal) : List Cond := .code (cl_y Q) (cl_b Q) (cl_m Q) (cl_r Q) :: tbG
def rmM (Q : Cal) : Room := { frames := cl_f Q, cells := cl_c Q, slots := cl_s Q, locals := cl_l Q }
/-- the world of an abstract heap, at a method's edge -/
def Wc (D : va_G) (ad : Nat → Nat) (ca : Nat → ClassId) (N : Nat) (h : AH) (U : State) : Prop := va_K D vwCl [] U ∧ (∀ k, k < N → av_ao U (ca k) (h k)) ∧ va_P D vwCl (av_ws ad ca N h) U.heap ∧ va_D (fun _ => True) (av_ws ad ca N h)
def QS (D : va_G) (ad : Nat → Nat) (ca : Nat → ClassId) (N : Nat) (h : AH) (sz : Nat) (P : Option Value → AH → Prop) : Array Value → State → Outcome → State → Prop := fun _ st oc t => (∃ (v : Option Value) (h' : AH), oc = .returned (v.map (av_v ad)) ∧ P v h' ∧ Wc D ad ca N h' t) ∧ va_F (va_A (av_ws ad ca N h) sz) st t
/-- THE CONTRACT of a method over an abstract heap: it returns v with heap h', and P v h' -/
def Sem (l : Launch) (Q : Cal) (N : Nat) (h : AH) (av : List Value) (P : Option Value → AH → Prop) : Prop :=
  ∀ (D : va_G) (ad : Nat → Nat) (ca : Nat → ClassId) (sz : Nat), Met l (cl_y Q) (wsM Q) (rmM Q) (va_Pc (av.map (av_v ad)) (fun U => U.heap.size = sz ∧ Wc D ad ca N h U)) (QS D ad ca N h sz P) 0 0 (va_A (av_ws ad ca N h) sz)
/-- a value that fits a field: 0 int, 1 boolean, 2 a reference -/
def pf : Nat → Value → Prop
  | 0, .int _ => True
  | 1, .int x => x = 0 ∨ x = 1
  | 2, .ref _ => True
  | _, _ => False
def tsw (K : Nat → Prop) (x : Int) : Int → List Nat → Nat → Prop
  | _, [], d => K d
  | lo, t :: ts, d => (x = lo → K t) ∧ (¬ x = lo → tsw K x (lo + 1) ts d)
def lsw (K : Nat → Prop) (x : Int) : List (Int × Int) → List Nat → Nat → Prop
  | (k, _) :: ps, t :: ts, d => (x = k → K t) ∧ (¬ x = k → lsw K x ps ts d)
  | _, _, d => K d
section
variable (l : Launch) (N : Nat) (K : AH → Nat → List (Option Value) → List Value → Prop)
def sp_ifc (c : ClassFile.Cond) (x y : Int32) (A B : Prop) : Prop := match c with
  | .eq => (x = y → A) ∧ (¬ x = y → B)
  | .ne => (¬ x = y → A) ∧ (x = y → B)
  | .lt => (x < y → A) ∧ (¬ x < y → B)
  | .ge => (y ≤ x → A) ∧ (¬ y ≤ x → B)
  | .gt => (y < x → A) ∧ (¬ y < x → B)
  | .le => (x ≤ y → A) ∧ (¬ x ≤ y → B)
/-- a call: n arguments on the stack (the last one on top) -/
def sp_inv (Q : Cal) (aux : List Nat) (h : AH) (pc : Nat) (ls : List (Option Value)) (st : List Value) : Prop := match aux with
  | n :: ci :: _ => match st.drop n with
    | .ref a :: r => (∃ fs, h a = .inr (ci, fs)) ∧ a < N ∧ Nat.ble (cats r) 8 = true ∧ Sem l Q N h (.ref a :: (st.take n).reverse) (fun v h' => K h' (pc + 3) ls (v.toList ++ r))
    | _ => False
  | _ => False
def sp_ins (Q : Cal) (aux : List Nat) (h : AH) (pc : Nat) (ls : List (Option Value)) (st : List Value) : Prop := match aux with
  | n :: _ => (st.take n).length = n ∧ Nat.ble (cats (st.drop n)) 8 = true ∧ Sem l Q N h (st.take n).reverse (fun v h' => K h' (pc + 3) ls (v.toList ++ st.drop n))
  | _ => False
/-- System.arraycopy over int arrays -/
def sp_cpy (h : AH) (pc : Nat) (ls : List (Option Value)) (st : List Value) : Prop := match st with
  | .int n :: .int dp :: .ref a1 :: .int sp :: .ref a0 :: r => ∃ n0 n1 f g, h a0 = .inl (0, n0, .inl f) ∧ h a1 = .inl (0, n1, .inl g) ∧ a0 < N ∧ a1 < N ∧ Nat.ble (cats r) 8 = true ∧ ¬ sp < 0 ∧ ¬ dp < 0 ∧ ¬ n < 0 ∧ sp.toNatClampNeg + n.toNatClampNeg ≤ n0 ∧ dp.toNatClampNeg + n.toNatClampNeg ≤ n1 ∧ K (va_up h a1 (.inl (0, n1, .inl (va_cpy f g sp.toNatClampNeg dp.toNatClampNeg n.toNatClampNeg)))) (pc + 3) ls r
  | _ => False
/-- one instruction that makes nothing -/
def spI (q : Row) (h : AH) (pc : Nat) (ls : List (Option Value)) (st : List Value) : Prop := match q with
  | (i, _, aux, cal) => match i with
    | .aload_n k => match lg ls k.val with
      | some (.ref a) => K h (pc + 1) ls (.ref a :: st)
      | _ => False
    | .aload k => match lg ls k with
      | some (.ref a) => K h (pc + 2) ls (.ref a :: st)
      | _ => False
    | .iload_n k => match lg ls k.val with
      | some (.int x) => K h (pc + 1) ls (.int x :: st)
      | _ => False
    | .iload k => match lg ls k with
      | some (.int x) => K h (pc + 2) ls (.int x :: st)
      | _ => False
    | .lload_n k => match lg ls k.val with
      | some (.long x) => K h (pc + 1) ls (.long x :: st)
      | _ => False
    | .lload k => match lg ls k with
      | some (.long x) => K h (pc + 2) ls (.long x :: st)
      | _ => False
    | .astore_n k => match st with
      | .ref a :: r => Nat.blt k.val ls.length = true ∧ K h (pc + 1) (lst (lcl ls k.val) k.val (some (.ref a))) r
      | _ => False
    | .astore k => match st with
      | .ref a :: r => Nat.blt k ls.length = true ∧ K h (pc + 2) (lst (lcl ls k) k (some (.ref a))) r
      | _ => False
    | .istore_n k => match st with
      | .int x :: r => Nat.blt k.val ls.length = true ∧ K h (pc + 1) (lst (lcl ls k.val) k.val (some (.int x))) r
      | _ => False
    | .istore k => match st with
      | .int x :: r => Nat.blt k ls.length = true ∧ K h (pc + 2) (lst (lcl ls k) k (some (.int x))) r
      | _ => False
    | .lstore_n k => match st with
      | .long x :: r => Nat.blt (k.val + 1) ls.length = true ∧ K h (pc + 1) (lst (lst (lcl ls k.val) k.val (some (.long x))) (k.val + 1) none) r
      | _ => False
    | .lstore k => match st with
      | .long x :: r => Nat.blt (k + 1) ls.length = true ∧ K h (pc + 2) (lst (lst (lcl ls k) k (some (.long x))) (k + 1) none) r
      | _ => False
    | .iinc k c => match lg ls k with
      | some (.int x) => K h (pc + 3) (lst (lcl ls k) k (some (.int (x + Int32.ofInt c)))) st
      | _ => False
    | .iconst c => K h (pc + 1) ls (.int (Int32.ofInt c) :: st)
    | .bipush c => K h (pc + 2) ls (.int (Int8.ofInt c).toInt32 :: st)
    | .sipush c => K h (pc + 3) ls (.int (Int16.ofInt c).toInt32 :: st)
    | .lconst c => K h (pc + 1) ls (.long (Int64.ofNat (c : Nat)) :: st)
    | .ldc _ => match aux with
      | [_, v] => K h (pc + 2) ls (.int (Int32.ofNat v) :: st)
      | _ => False
    | .ldc2_w _ => match aux with
      | [_, v] => K h (pc + 3) ls (.long (Int64.ofNat v) :: st)
      | _ => False
    | .iadd => match st with
      | .int y :: .int x :: r => K h (pc + 1) ls (.int (x + y) :: r)
      | _ => False
    | .isub => match st with
      | .int y :: .int x :: r => K h (pc + 1) ls (.int (x - y) :: r)
      | _ => False
    | .imul => match st with
      | .int y :: .int x :: r => K h (pc + 1) ls (.int (x * y) :: r)
      | _ => False
    | .idiv => match st with
      | .int y :: .int x :: r => ¬ y = 0 ∧ K h (pc + 1) ls (.int (x / y) :: r)
      | _ => False
    | .irem => match st with
      | .int y :: .int x :: r => ¬ y = 0 ∧ K h (pc + 1) ls (.int (x - x / y * y) :: r)
      | _ => False
    | .ineg => match st with
      | .int x :: r => K h (pc + 1) ls (.int (-x) :: r)
      | _ => False
    | .ishl => match st with
      | .int y :: .int x :: r => K h (pc + 1) ls (.int (x <<< (y &&& 31)) :: r)
      | _ => False
    | .ishr => match st with
      | .int y :: .int x :: r => K h (pc + 1) ls (.int (x >>> (y &&& 31)) :: r)
      | _ => False
    | .iand => match st with
      | .int y :: .int x :: r => K h (pc + 1) ls (.int (x &&& y) :: r)
      | _ => False
    | .ior => match st with
      | .int y :: .int x :: r => K h (pc + 1) ls (.int (x ||| y) :: r)
      | _ => False
    | .i2l => match st with
      | .int x :: r => K h (pc + 1) ls (.long x.toInt64 :: r)
      | _ => False
    | .i2b => match st with
      | .int x :: r => K h (pc + 1) ls (.int x.toInt8.toInt32 :: r)
      | _ => False
    | .i2s => match st with
      | .int x :: r => K h (pc + 1) ls (.int x.toInt16.toInt32 :: r)
      | _ => False
    | .ladd => match st with
      | .long y :: .long x :: r => K h (pc + 1) ls (.long (x + y) :: r)
      | _ => False
    | .lsub => match st with
      | .long y :: .long x :: r => K h (pc + 1) ls (.long (x - y) :: r)
      | _ => False
    | .lmul => match st with
      | .long y :: .long x :: r => K h (pc + 1) ls (.long (x * y) :: r)
      | _ => False
    | .ldiv => match st with
      | .long y :: .long x :: r => ¬ y = 0 ∧ K h (pc + 1) ls (.long (x / y) :: r)
      | _ => False
    | .lrem => match st with
      | .long y :: .long x :: r => ¬ y = 0 ∧ K h (pc + 1) ls (.long (x - x / y * y) :: r)
      | _ => False
    | .lcmp => match st with
      | .long y :: .long x :: r => K h (pc + 1) ls (.int (lg_cmp x y) :: r)
      | _ => False
    | .dup => match st with
      | .int x :: r => K h (pc + 1) ls (.int x :: .int x :: r)
      | .ref x :: r => K h (pc + 1) ls (.ref x :: .ref x :: r)
      | _ => False
    | .dup2 => match st with
      | .int x :: .ref y :: r => K h (pc + 1) ls (.int x :: .ref y :: .int x :: .ref y :: r)
      | _ => False
    | .pop => match st with
      | .int _ :: r => K h (pc + 1) ls r
      | _ => False
    | .goto _ => match aux with
      | [t] => K h t ls st
      | _ => False
    | .ifCond c _ => match aux, st with
      | [t], .int x :: r => sp_ifc c x 0 (K h t ls r) (K h (pc + 3) ls r)
      | _, _ => False
    | .if_icmp c _ => match aux, st with
      | [t], .int y :: .int x :: r => sp_ifc c x y (K h t ls r) (K h (pc + 3) ls r)
      | _, _ => False
    | .tableswitch _ lo _ _ => match aux, st with
      | d :: ts, .int x :: r => tsw (fun t => K h t ls r) x.toInt lo ts d
      | _, _ => False
    | .lookupswitch _ ps => match aux, st with
      | d :: ts, .int x :: r => lsw (fun t => K h t ls r) x.toInt ps.toList ts d
      | _, _ => False
    | .getfield _ => match aux, st with
      | [ci, k, _], .ref a :: r => ∃ fs v, h a = .inr (ci, fs) ∧ a < N ∧ fg fs k = some v ∧ K h (pc + 3) ls (v :: r)
      | _, _ => False
    | .putfield _ => match aux, st with
      | [ci, k, _, tc], v :: .ref a :: r => ∃ fs, h a = .inr (ci, fs) ∧ a < N ∧ Nat.blt k fs.length = true ∧ pf tc v ∧ K (va_up h a (.inr (ci, fs.set k v))) (pc + 3) ls r
      | _, _ => False
    | .iaload => match st with
      | .int i :: .ref a :: r => ∃ n f, h a = .inl (0, n, .inl f) ∧ a < N ∧ vp_in i n ∧ K h (pc + 1) ls (.int (f i.toNatClampNeg) :: r)
      | _ => False
    | .iastore => match st with
      | .int x :: .int i :: .ref a :: r => ∃ n f, h a = .inl (0, n, .inl f) ∧ a < N ∧ vp_in i n ∧ K (va_up h a (.inl (0, n, .inl (upd f i.toNatClampNeg x)))) (pc + 1) ls r
      | _ => False
    | .laload => match st with
      | .int i :: .ref a :: r => ∃ n f, h a = .inl (1, n, .inr (.inl f)) ∧ a < N ∧ vp_in i n ∧ K h (pc + 1) ls (.long (f i.toNatClampNeg) :: r)
      | _ => False
    | .lastore => match st with
      | .long x :: .int i :: .ref a :: r => ∃ n f, h a = .inl (1, n, .inr (.inl f)) ∧ a < N ∧ vp_in i n ∧ K (va_up h a (.inl (1, n, .inr (.inl (vp_updL f i.toNatClampNeg x))))) (pc + 1) ls r
      | _ => False
    | .aaload => match st with
      | .int i :: .ref a :: r => ∃ t n f b, h a = .inl (t, n, .inr (.inr (.inr (.inr f)))) ∧ (t = 2 ∨ t = 3 ∨ t = 4) ∧ a < N ∧ vp_in i n ∧ f i.toNatClampNeg = some b ∧ K h (pc + 1) ls (.ref b :: r)
      | _ => False
    | .arraylength => match st with
      | .ref a :: r => ∃ t x, h a = .inl (t, x) ∧ a < N ∧ K h (pc + 1) ls (.int (Int32.ofNat x.1) :: r)
      | _ => False
    | .invokevirtual _ => match cal with
      | [Q] => sp_inv l N K Q aux h pc ls st
      | _ => False
    | .invokestatic _ => match cal with
      | [Q] => sp_ins l N K Q aux h pc ls st
      | [] => sp_cpy N K h pc ls st
      | _ => False
    | _ => False
end
def bz (r : Option FieldType) (v : Int32) : Prop := match r with
  | some .boolean => v &&& 1 = v
  | some .int => True
  | _ => False
/-- a step, or the end -/
def Fs (l : Launch) (R : Rows) (N : Nat) (ret : Option FieldType) (P : Option Value → AH → Prop) (Z : AH → Nat → List (Option Value) → List Value → Prop) (h : AH) (pc : Nat) (ls : List (Option Value)) (st : List Value) : Prop := match lk R pc with
  | none => False
  | some q => match q.1 with
    | .ireturn => match st with
      | [.int v] => bz ret v ∧ P (some (.int v)) h
      | _ => False
    | .lreturn => match st with
      | [.long v] => ret = some .long ∧ P (some (.long v)) h
      | _ => False
    | .return_ => match st with
      | [] => ret = none ∧ P none h
      | _ => False
    | _ => spI l N Z q h pc ls st
def Run (l : Launch) (R : Rows) (N : Nat) (ret : Option FieldType) (P : Option Value → AH → Prop) (h : AH) (pc : Nat) (ls : List (Option Value)) (st : List Value) : Prop :=
  ∀ Z : AH → Nat → List (Option Value) → List Value → Prop, (∀ h pc ls st, Fs l R N ret P Z h pc ls st → Z h pc ls st) → Z h pc ls st
def ent0 (vs : List Value) : List (Option Value) := vs.flatMap fun v => if v.category = 2 then [some v, none] else [some v]
/-- the locals at a method's entry -/
def ent (vs : List Value) (n : Nat) : List (Option Value) := ent0 vs ++ List.replicate (n - (ent0 vs).length) none
/-! ===== the rows are as the class file has them ===== -/
def lenOf : Instr → Nat
  | .aload_n _ | .iload_n _ | .lload_n _ | .astore_n _ | .istore_n _ | .lstore_n _ | .iconst _ | .lconst _ => 1
  | .iadd | .isub | .imul | .idiv | .irem | .ineg | .ishl | .ishr | .iand | .ior | .i2l | .i2b | .i2s | .ladd | .lsub | .lmul | .ldiv | .lrem | .lcmp | .dup | .dup2 | .pop => 1
  | .iaload | .iastore | .laload | .lastore | .aaload | .aastore | .arraylength | .ireturn | .lreturn | .return_ => 1
  | .aload _ | .iload _ | .lload _ | .astore _ | .istore _ | .lstore _ | .bipush _ | .ldc _ | .newarray _ => 2
  | .sipush _ | .iinc _ _ | .ldc2_w _ | .goto _ | .ifCond _ _ | .if_icmp _ _ | .getfield _ | .putfield _ | .invokevirtual _ | .invokestatic _ | .invokespecial _ | .new _ | .anewarray _ => 3
  | .multianewarray _ _ => 4
  | _ => 0
def okT (t : Nat) (w : Cond) : Bool := decide (lw_tbl[t]? = some w) && goodWord w
def okTg (pc : Nat) (off : Int) (t : Nat) : Bool := decide ((pc : Int) + off = (t : Int))
def okTgs (pc : Nat) : List Int → List Nat → Bool
  | [], [] => true
  | o :: os, t :: ts => okTg pc o t && okTgs pc os ts
  | _, _ => false
def okF (own : String) (idx ci k t : Nat) : Bool := match vwCl[ci]? with
  | some (_, T, n) => decide (k < n) && okT t (.fieldLink own idx (T k).1 (T k).2.1 (T k).2.2.1)
  | none => false
def okPT (ci k tc : Nat) (fin : Bool) : Bool := match vwCl[ci]? with
  | some (_, T, _) => decide ((T k).2.2.2 = fin) && (match parseFieldDescriptor (T k).2.2.1, tc with
    | some .int, 0 => true
    | some .boolean, 1 => true
    | some (.object _), 2 => true
    | some (.array _), 2 => true
    | _, _ => false)
  | none => false
def okY (y : MethodName) (n : Nat) : Bool := decide (y.cls ≠ "java/lang/invoke/MethodHandle") && decide (y.cls ≠ "java/lang/invoke/VarHandle") && decide ((parseMethodDescriptor y.desc).map (fun d => d.parameters.length) = some n)
def okQ (fr lo : Nat) (Q : Cal) : Bool := okT (cl_t Q) (.code (cl_y Q) (cl_b Q) (cl_m Q) (cl_r Q)) && Nat.ble (cl_f Q + 1) fr && Nat.ble (8 + (cl_m Q + 11) + cl_l Q) lo
def okV (own : String) (fr lo idx : Nat) (aux : List Nat) (Q : Cal) : Bool := match aux with
  | [n, ci, t1, t2, t3, t4] => okQ fr lo Q && okY (cl_y Q) n && okT t1 (.methodLink own idx (cl_y Q)) && okT t2 (.instanceMethod (cl_y Q)) && okT t3 (.selects (cl_y Q).cls (cl_y Q) (cl_y Q)) && okT t4 (.initialized (cl_y Q).cls) && decide (cl_c Q = 0) && decide (cl_s Q = 0) && (match vwCl[ci]? with
    | some (C, _, _) => decide (C = (cl_y Q).cls)
    | none => false)
  | _ => false
def okS (own : String) (fr lo idx : Nat) (aux : List Nat) (Q : Cal) : Bool := match aux with
  | [n, t1, t2, t4] => okQ fr lo Q && okY (cl_y Q) n && okT t1 (.methodLink own idx (cl_y Q)) && okT t2 (.static (cl_y Q)) && okT t4 (.initialized (cl_y Q).cls) && decide (cl_c Q = 0) && decide (cl_s Q = 0)
  | _ => false
def okC (own : String) (fr lo idx : Nat) (aux : List Nat) : Bool := match aux with
  | [t1, t2, t3, t4] => okT t1 (.methodLink own idx arraycopyName) && okT t2 (.native arraycopyName) && okT t3 (.static arraycopyName) && okT t4 (.initialized "java/lang/System") && Nat.ble 1 fr && decide (8 + (nativeFrameWords "java/lang/System" "arraycopy" 5 + 11) ≤ lo)
  | _ => false
def auxOk (own : String) (fr lo pc : Nat) (q : Row) : Bool := match q with
  | (i, _, aux, cal) => match i with
    | .goto off => match aux with
      | [t] => okTg pc off t
      | _ => false
    | .ifCond _ off => match aux with
      | [t] => okTg pc off t
      | _ => false
    | .if_icmp _ off => match aux with
      | [t] => okTg pc off t
      | _ => false
    | .tableswitch d lo hi offs => match aux with
      | td :: ts => okTg pc d td && decide (hi - lo + 1 = (offs.size : Int)) && okTgs pc offs.toList ts
      | _ => false
    | .lookupswitch d ps => match aux with
      | td :: ts => okTg pc d td && (ps.toList.zip (ps.toList.drop 1)).all (fun (a, next) => a.1 < next.1) && okTgs pc (ps.toList.map (fun q => q.2)) ts
      | _ => false
    | .getfield idx => match aux with
      | [ci, k, t] => okF own idx ci k t
      | _ => false
    | .putfield idx => match aux with
      | [ci, k, t, tc] => okF own idx ci k t && okPT ci k tc false
      | _ => false
    | .ldc idx => match aux with
      | [t, v] => okT t (.constant own idx (Int32.ofNat v))
      | _ => false
    | .ldc2_w idx => match aux with
      | [t, v] => okT t (.constantLong own idx (Int64.ofNat v))
      | _ => false
    | .invokevirtual idx => match cal with
      | [Q] => okV own fr lo idx aux Q
      | _ => false
    | .invokestatic idx => match cal with
      | [Q] => okS own fr lo idx aux Q
      | [] => okC own fr lo idx aux
      | _ => false
    | _ => true
def rowOk (own : String) (cc : ByteArray) (fr lo : Nat) (q : Nat × Row) : Bool := decide (decode cc q.1 = .ok (q.2.1, q.2.2.1)) && (lenOf q.2.1 == q.2.2.1 || lenOf q.2.1 == 0) && auxOk own fr lo q.1 q.2
def rowsOk (own : String) (cc : ByteArray) (fr lo : Nat) (R : Rows) : Bool := R.all (rowOk own cc fr lo)
theorem lk_mem {R : Rows} {pc : Nat} {q : Row} (h : lk R pc = some q) : (pc, q) ∈ R := by
  induction R with
  | nil => cases h
  | cons a R ih =>
    unfold lk at h
    split at h
    · next e =>
      have := Nat.eq_of_beq_eq_true e
      cases h
      rw [← this]
      exact List.mem_cons_self
    · exact List.mem_cons_of_mem _ (ih h)
theorem tbG_good : ∀ w ∈ tbG, (w.onTables && w.keeps) = true ∨ ∃ ty, w = .arrayClass ty := fun w hw => good_of_word (List.mem_filter.mp hw).2
theorem okT_mem {t : Nat} {w : Cond} (h : okT t w = true) : w ∈ tbG := by
  simp only [okT, Bool.and_eq_true, decide_eq_true_eq] at h
  exact List.mem_filter.mpr ⟨List.mem_of_getElem? h.1, h.2⟩
theorem wsM_good {Q : Cal} (h : okT (cl_t Q) (.code (cl_y Q) (cl_b Q) (cl_m Q) (cl_r Q)) = true) : GoodIn tbG (wsM Q) := by
  intro w hw
  rcases List.mem_cons.mp hw with e | e
  · have := okT_mem h
    rw [e]
    exact ⟨this, tbG_good _ this⟩
  · exact ⟨e, tbG_good _ e⟩
end
section
/-! ===== the classes' field words, by their places ===== -/
theorem in_tbG {ws : List Cond} (is : List Nat) (h : ws.map some = is.map (fun i => lw_tbl[i]?)) (hg : ws.all goodWord = true) : ∀ w ∈ ws, w ∈ tbG := by
  intro w hw
  have h1 : some w ∈ ws.map some := List.mem_map.mpr ⟨w, hw, rfl⟩
  rw [h] at h1
  obtain ⟨i, -, hi⟩ := List.mem_map.mp h1
  exact List.mem_filter.mpr ⟨List.mem_of_getElem? hi, List.all_eq_true.mp hg w hw⟩
theorem clw0 : ∀ w ∈ u_ws RX0 TX0 3, w ∈ tbG := in_tbG [154, 156, 158] (by decide +kernel) (by decide +kernel)
theorem clw1 : ∀ w ∈ u_ws RX1 TX1 6, w ∈ tbG := in_tbG [196, 198, 200, 202, 204, 206] (by decide +kernel) (by decide +kernel)
theorem clw2 : ∀ w ∈ u_ws RX2 TX2 4, w ∈ tbG := in_tbG [96, 98, 100, 102] (by decide +kernel) (by decide +kernel)
theorem clw3 : ∀ w ∈ u_ws RX3 TX3 5, w ∈ tbG := in_tbG [112, 114, 116, 118, 120] (by decide +kernel) (by decide +kernel)
theorem clw4 : ∀ w ∈ u_ws RX4 TX4 3, w ∈ tbG := in_tbG [219, 221, 223] (by decide +kernel) (by decide +kernel)
theorem clw5 : ∀ w ∈ u_ws RX5 TX5 4, w ∈ tbG := in_tbG [134, 136, 138, 140] (by decide +kernel) (by decide +kernel)
theorem clw6 : ∀ w ∈ u_ws RX6 TX6 12, w ∈ tbG := in_tbG [238, 240, 242, 244, 246, 248, 250, 252, 254, 256, 258, 260] (by decide +kernel) (by decide +kernel)
theorem clw7 : ∀ w ∈ u_ws RX7 TX7 31, w ∈ tbG := in_tbG [646, 648, 650, 652, 654, 656, 658, 660, 662, 664, 666, 668, 670, 672, 674, 676, 678, 680, 682, 684, 686, 688, 690, 692, 694, 696, 698, 700, 702, 704, 706] (by decide +kernel) (by decide +kernel)
theorem cl_facts : ∀ (ci : Nat) (C : String) (T : u_T) (n : Nat), vwCl[ci]? = some (C, T, n) → ∃ ty0 : Nat → FieldType, (∀ k, k < n → parseFieldDescriptor (T k).2.2.1 = some (ty0 k)) ∧ (∀ a, a < n → ∀ b, b < n → a ≠ b → (T a).2.1 ≠ (T b).2.1) ∧ ∀ w ∈ u_ws C T n, w ∈ tbG := by
  intro ci C T n h
  match ci, h with
  | 0, h => cases h; exact ⟨tyX0, tyX0_ok, nmX0, clw0⟩
  | 1, h => cases h; exact ⟨tyX1, tyX1_ok, nmX1, clw1⟩
  | 2, h => cases h; exact ⟨tyX2, tyX2_ok, nmX2, clw2⟩
  | 3, h => cases h; exact ⟨tyX3, tyX3_ok, nmX3, clw3⟩
  | 4, h => cases h; exact ⟨tyX4, tyX4_ok, nmX4, clw4⟩
  | 5, h => cases h; exact ⟨tyX5, tyX5_ok, nmX5, clw5⟩
  | 6, h => cases h; exact ⟨tyX6, tyX6_ok, nmX6, clw6⟩
  | 7, h => cases h; exact ⟨tyX7, tyX7_ok, nmX7, clw7⟩
  | _ + 8, h => cases h
end
section
/-! ===== SOUNDNESS: locals ===== -/
theorem lst_len (ls : List (Option Value)) (i : Nat) (x : Option Value) : (lst ls i x).length = ls.length := by
  induction ls generalizing i with
  | nil => rfl
  | cons a l ih => cases i with
    | zero => rfl
    | succ i => show (lst l i x).length + 1 = _; rw [ih]; rfl
theorem lg_lst_same {ls : List (Option Value)} {i : Nat} {x u : Option Value} (h : lg (lst ls i x) i = u) (hi : i < ls.length) : u = x := by
  induction ls generalizing i with
  | nil => exact absurd hi (Nat.not_lt_zero _)
  | cons a l ih => cases i with
    | zero => exact h.symm
    | succ i => exact ih h (Nat.lt_of_succ_lt_succ hi)
theorem lg_lst_ne {ls : List (Option Value)} {i j : Nat} {x : Option Value} (h : j ≠ i) : lg (lst ls i x) j = lg ls j := by
  induction ls generalizing i j with
  | nil => rfl
  | cons a l ih => cases i with
    | zero => cases j with
      | zero => exact absurd rfl h
      | succ j => rfl
    | succ i => cases j with
      | zero => rfl
      | succ j => exact ih (fun e => h (by rw [e]))
theorem lg_lt {ls : List (Option Value)} {i : Nat} {v : Value} (h : lg ls i = some v) : i < ls.length := by
  induction ls generalizing i with
  | nil => cases h
  | cons a l ih => cases i with
    | zero => exact Nat.succ_pos _
    | succ i => exact Nat.succ_lt_succ (ih h)
theorem lg_lst_none {ls : List (Option Value)} {i j : Nat} {u : Value} (h : lg (lst ls i none) j = some u) : j ≠ i ∧ lg ls j = some u := by
  by_cases e : j = i
  · subst e
    have hl := lg_lt h
    rw [lst_len] at hl
    have := lg_lst_same h hl
    cases this
  · rw [lg_lst_ne e] at h
    exact ⟨e, h⟩
theorem lcl_len (ls : List (Option Value)) (i : Nat) : (lcl ls i).length = ls.length := by
  unfold lcl
  split
  · rfl
  · split
    · exact lst_len _ _ _
    · exact lst_len _ _ _
    · rfl
theorem lg_lcl {ls : List (Option Value)} {i j : Nat} {u : Value} (h : lg (lcl ls i) j = some u) : lg ls j = some u ∧ ¬ (j + 1 = i ∧ u.category = 2) := by
  unfold lcl at h
  split at h
  · exact ⟨h, fun q => absurd q.1 (Nat.succ_ne_zero _)⟩
  · next k =>
    split at h
    · have := lg_lst_none h
      exact ⟨this.2, fun q => this.1 (Nat.succ.inj q.1)⟩
    · have := lg_lst_none h
      exact ⟨this.2, fun q => this.1 (Nat.succ.inj q.1)⟩
    · next h1 h2 =>
      refine ⟨h, fun q => ?_⟩
      have e : j = k := Nat.succ.inj q.1
      subst e
      cases u with
      | long x => exact h1 x h
      | double x => exact h2 x h
      | _ => exact absurd q.2 (by simp [Value.category])
def LV (ad : Nat → Nat) (nL : Nat) (arr : Array Slot) (ls : List (Option Value)) : Prop := arr.size = nL ∧ lv_wf arr ∧ ls.length = nL ∧ ∀ i v, lg ls i = some v → arr[i]? = some (.val (av_v ad v))
def prs (ad : Nat → Nat) (ls : List (Option Value)) : List (Nat × Value) := (List.range ls.length).filterMap (fun i => (lg ls i).map (fun v => (i, av_v ad v)))
theorem mem_prs {ad : Nat → Nat} {ls : List (Option Value)} {i : Nat} {v : Value} (h : lg ls i = some v) : (i, av_v ad v) ∈ prs ad ls :=
  List.mem_filterMap.mpr ⟨i, List.mem_range.mpr (lg_lt h), by rw [h]; rfl⟩
theorem of_prs {ad : Nat → Nat} {ls : List (Option Value)} {q : Nat × Value} (h : q ∈ prs ad ls) : ∃ v, lg ls q.1 = some v ∧ q.2 = av_v ad v := by
  obtain ⟨i, -, hi⟩ := List.mem_filterMap.mp h
  cases e : lg ls i with
  | none => rw [e] at hi; cases hi
  | some v =>
    rw [e] at hi
    have := Option.some.inj hi
    subst this
    exact ⟨v, e, rfl⟩
theorem LV.has {ad : Nat → Nat} {nL : Nat} {arr : Array Slot} {ls : List (Option Value)} (h : LV ad nL arr ls) : lv_has arr nL (prs ad ls) := by
  refine ⟨h.1, h.2.1, fun q hq => ?_⟩
  obtain ⟨v, h1, h2⟩ := of_prs hq
  rw [h2]
  exact h.2.2.2 _ _ h1
theorem av_cat (ad : Nat → Nat) (v : Value) : (av_v ad v).category = v.category := by cases v <;> rfl
theorem LV.st1 {ad : Nat → Nat} {nL i : Nat} {arr arr' : Array Slot} {ls : List (Option Value)} {v : Value} (h : LV ad nL arr ls) (hi : i < nL)
    (h' : lv_has arr' nL ((i, av_v ad v) :: (prs ad ls).filter (fun q => !(q.1 == i) && !(q.1 + 1 == i && q.2.category == 2)))) : LV ad nL arr' (lst (lcl ls i) i (some v)) := by
  refine ⟨h'.1, h'.2.1, by rw [lst_len, lcl_len]; exact h.2.2.1, fun j u hj => ?_⟩
  by_cases e : j = i
  · subst e
    have := lg_lst_same hj (by rw [lcl_len, h.2.2.1]; exact hi)
    cases this
    exact h'.2.2 (j, av_v ad v) List.mem_cons_self
  · rw [lg_lst_ne e] at hj
    obtain ⟨h1, h2⟩ := lg_lcl hj
    refine h'.2.2 (j, av_v ad u) (List.mem_cons_of_mem _ (List.mem_filter.mpr ⟨mem_prs h1, ?_⟩))
    have h3 : (j == i) = false := by simpa using e
    simp only [h3, av_cat, Bool.not_false, Bool.true_and, Bool.not_eq_true', Bool.and_eq_false_imp, beq_iff_eq]
    intro q
    simpa using fun w => h2 ⟨q, w⟩
theorem LV.st2 {ad : Nat → Nat} {nL i : Nat} {arr arr' : Array Slot} {ls : List (Option Value)} {v : Value} (h : LV ad nL arr ls) (hi : i + 1 < nL)
    (h' : lv_has arr' nL ((i, av_v ad v) :: (prs ad ls).filter (fun q => !(q.1 == i) && (!(q.1 == i + 1) && !(q.1 + 1 == i && q.2.category == 2))))) : LV ad nL arr' (lst (lst (lcl ls i) i (some v)) (i + 1) none) := by
  refine ⟨h'.1, h'.2.1, by rw [lst_len, lst_len, lcl_len]; exact h.2.2.1, fun j u hj => ?_⟩
  obtain ⟨e1, hj⟩ := lg_lst_none hj
  by_cases e : j = i
  · subst e
    have := lg_lst_same hj (by rw [lcl_len, h.2.2.1]; omega)
    cases this
    exact h'.2.2 (j, av_v ad v) List.mem_cons_self
  · rw [lg_lst_ne e] at hj
    obtain ⟨h1, h2⟩ := lg_lcl hj
    refine h'.2.2 (j, av_v ad u) (List.mem_cons_of_mem _ (List.mem_filter.mpr ⟨mem_prs h1, ?_⟩))
    have h3 : (j == i) = false := by simpa using e
    have h4 : (j == i + 1) = false := by simpa using e1
    simp only [h3, h4, av_cat, Bool.not_false, Bool.true_and, Bool.not_eq_true', Bool.and_eq_false_imp, beq_iff_eq]
    intro q
    simpa using fun w => h2 ⟨q, w⟩
/-! ===== the heap ===== -/
theorem av_ws_at {ad : Nat → Nat} {ca : Nat → ClassId} {N k : Nat} {h : AH} (hk : k < N) : (av_ws ad ca N h)[k]? = some (ad k, av_e ad (ca k) (h k)) := by
  unfold av_ws
  rw [List.getElem?_map, List.getElem?_range hk]
  rfl
theorem av_ws_set {ad : Nat → Nat} {ca : Nat → ClassId} {N k : Nat} {h : AH} (e : va_E) : (av_ws ad ca N h).set k (ad k, av_e ad (ca k) e) = av_ws ad ca N (va_up h k e) := by
  apply List.ext_getElem?
  intro j
  by_cases hj : j < N
  · rw [av_ws_at hj]
    by_cases e1 : j = k
    · subst e1
      rw [List.getElem?_set_self (by simp [av_ws, hj])]
      simp [va_up]
    · rw [List.getElem?_set_ne (Ne.symm e1), av_ws_at hj]
      simp [va_up, e1]
  · rw [List.getElem?_eq_none (by simp [av_ws]; omega), List.getElem?_eq_none (by simp [av_ws]; omega)]
def Wp (s : State) (D : va_G) (A : Nat → Prop) (ad : Nat → Nat) (ca : Nat → ClassId) (N : Nat) (h : AH) (H : Heap) (locs : List Loc) : Prop := va_K D vwCl [] s ∧ (∀ k, k < N → av_ao s (ca k) (h k)) ∧ va_P D vwCl (av_ws ad ca N h) H ∧ va_D A (av_ws ad ca N h) ∧ va_S A s.heap H locs
theorem ao_up {s : State} {ca : Nat → ClassId} {N k : Nat} {h : AH} {e : va_E} (ho : ∀ k, k < N → av_ao s (ca k) (h k)) (he : av_ao s (ca k) e) : ∀ j, j < N → av_ao s (ca j) (va_up h k e j) := by
  intro j hj
  unfold va_up
  split
  · next q => rw [q]; exact he
  · exact ho j hj
theorem Wp.up {s : State} {D : va_G} {A : Nat → Prop} {ad : Nat → Nat} {ca : Nat → ClassId} {N k : Nat} {h : AH} {H H1 : Heap} {locs locs1 : List Loc} {e : va_E} (w : Wp s D A ad ca N h H locs) (he : av_ao s (ca k) e) (hP : va_P D vwCl ((av_ws ad ca N h).set k (ad k, av_e ad (ca k) e)) H1) (hD : va_D A ((av_ws ad ca N h).set k (ad k, av_e ad (ca k) e))) (hS : va_S A s.heap H1 locs1) : Wp s D A ad ca N (va_up h k e) H1 locs1 := by
  rw [av_ws_set] at hP hD
  exact ⟨w.1, ao_up w.2.1 he, hP, hD, hS⟩
theorem fg_map {fs : List Value} {k : Nat} {v : Value} (ad : Nat → Nat) (h : fg fs k = some v) : (fs.map (av_v ad))[k]? = some (av_v ad v) := by
  induction fs generalizing k with
  | nil => cases h
  | cons a l ih => cases k with
    | zero => cases h; rfl
    | succ k => exact ih h
theorem len_eq {i : Instr} {len n : Nat} (h : (lenOf i == len || lenOf i == 0) = true) (hn : lenOf i = n) (h0 : ¬ n = 0) : len = n := by
  rw [hn] at h
  simp only [Bool.or_eq_true, beq_iff_eq] at h
  omega
end
section
/-! ===== SOUNDNESS: a step ===== -/
theorem Wc_calling {D : va_G} {ad : Nat → Nat} {ca : Nat → ClassId} {N : Nat} {h : AH} {U U' : State} (hvm : U.vm.Alike U'.vm) (hh : U'.heap = U.heap) (w : Wc D ad ca N h U) : Wc D ad ca N h U' := by
  refine ⟨va_K.moved hvm w.1, fun k hk => ?_, by rw [hh]; exact w.2.2.1, w.2.2.2⟩
  have := w.2.1 k hk
  unfold av_ao at this ⊢
  split
  · next t x e =>
    rw [e] at this
    exact ⟨arrOfT_moved hvm this.1, this.2.moved hvm⟩
  · trivial
section SND
variable {p : Program} {l : Launch} {e : Env} {R : Room} {s : State} {m : MethodId} {args : Array Value} {below : List Frame} {meth : Method} {c : Code} {cells slots : Nat} {Q : State → Prop}
variable {cc : ByteArray} {own : String} {nL : Nat} {D : va_G} {A : Nat → Prop} {ad : Nat → Nat} {ca : Nat → ClassId} {N : Nat}
abbrev Ctx (p : Program) (R : Room) (s : State) (m : MethodId) (args : Array Value) (c : Code) (cells slots : Nat) (cc : ByteArray) (own : String) (nL : Nat) (A : Nat → Prop) : Prop :=
  p.tables.exec = Jvm.exec ∧ c.code = cc ∧ c.maxLocals = nL ∧ s.vm.findClass own = some m.cls ∧ (∀ w ∈ tbG, w.before args s = true) ∧ (cells ≤ R.cells ∧ slots ≤ R.slots) ∧ (∀ q, s.heap.size ≤ q → A q)
def ZW (p : Program) (l : Launch) (e : Env) (R : Room) (s : State) (m : MethodId) (args : Array Value) (below : List Frame) (meth : Method) (c : Code) (cells slots : Nat) (Q : State → Prop) (nL : Nat) (D : va_G) (A : Nat → Prop) (ad : Nat → Nat) (ca : Nat → ClassId) (N : Nat) (h : AH) (pc : Nat) (ls : List (Option Value)) (st : List Value) : Prop :=
  ∀ (H : Heap) (locs : List Loc) (arr : Array Slot), Wp s D A ad ca N h H locs → LV ad nL arr ls → W p l e R s m args below meth c H locs cells slots Q (F0 m pc arr (st.map (av_v ad)))
/-- behind a call -/
theorem sd_back {P : Option Value → AH → Prop} {h : AH} {H : Heap} {locs : List Loc} {pc : Nat} {arr : Array Slot} {st0 rest : List Value} {a : Array Value}
    (hr : va_Run p l e R s m args below meth c H locs cells slots 0 0 (F0 m pc arr st0) rest (QS D ad ca N h H.size P a) (va_A (av_ws ad ca N h) H.size)) (w : Wp s D A ad ca N h H locs) (hA : ∀ q, s.heap.size ≤ q → A q)
    (kk : ∀ (v : Option Value) (h' : AH) (H1 : Heap) (locs1 : List Loc), P v h' → Wp s D A ad ca N h' H1 locs1 → W p l e R s m args below meth c H1 locs1 cells slots Q (F0 m (pc + 3) arr ((v.map (av_v ad)).toList ++ rest))) :
    W p l e R s m args below meth c H locs cells slots Q (F0 m pc arr st0) := by
  have hS := w.2.2.2.2
  have hf : ∀ q, va_A (av_ws ad ca N h) H.size q → A q := fun q hq => by
    rcases hq with ⟨k, e9, hk⟩ | hq
    · exact w.2.2.2.1.2 k _ hk
    · exact hA q (Nat.le_trans hS.1 hq)
  intro T hT X
  obtain ⟨v, st₀, t, T', L, h0, X', hL, e1, e2, ⟨⟨v', h', hv, hp, hw⟩, hz, hk⟩, st⟩ := hr T hT X
  cases hv
  rw [h0] at hz hk
  have hvm : t.vm.Alike s.vm := by rw [← e2]; exact X'.warmed.alike.symm
  have w2 : Wp s D A ad ca N h' T'.heap (locs ++ L) := by
    obtain ⟨q1, q2, q3, q4⟩ := hw
    refine ⟨w.1, fun k hk => ?_, by rw [e1]; exact q3, ?_, ⟨Nat.le_trans hS.1 (by rw [e1]; exact hz), fun q h1 h2 => by rw [e1, hk q (Nat.lt_of_lt_of_le h1 hS.1) (fun z => h2 (hf q z))]; exact hS.2.1 q h1 h2, fun q hq => ?_⟩⟩
    · have := q2 k hk
      unfold av_ao at this ⊢
      split
      · next t9 x9 e9 =>
        rw [e9] at this
        exact ⟨arrOfT_moved hvm this.1, this.2.moved hvm⟩
      · trivial
    · refine ⟨q4.1, fun k q hq => ?_⟩
      have hkN : k < N := by
        have := (List.getElem?_eq_some_iff.mp hq).1
        simpa [av_ws] using this
      rw [av_ws_at hkN] at hq
      cases hq
      exact w.2.2.2.1.2 k (ad k, av_e ad (ca k) (h k)) (av_ws_at hkN)
    · rcases List.mem_append.mp hq with h | h
      · exact hS.2.2 q h
      · exact hf _ (hL q h)
  obtain ⟨t2, a1, b1⟩ := kk v' h' T'.heap (locs ++ L) hp w2 T' rfl X'
  exact ⟨t2, st t2 a1, b1⟩
theorem sd_pre {h : AH} {H : Heap} {locs : List Loc} {av : List Value} (w : Wp s D A ad ca N h H locs) : PreS s H (va_Pc (av.map (av_v ad)) (fun U => U.heap.size = H.size ∧ Wc D ad ca N h U)) (av.map (av_v ad)) := by
  refine ⟨fun a U g mk q => ?_, fun U hU hW => ⟨rfl, by rw [hU], ?_⟩⟩
  · obtain ⟨q0, q1, q2⟩ := q
    exact ⟨q0, q1, Wc_calling (U := U) (U' := U.calling g mk a) (Vm.Alike.refl U.vm) rfl q2⟩
  · obtain ⟨w1, w2, w3, w4, w5⟩ := w
    refine ⟨va_K.moved hW.alike w1, fun k hk => ?_, by rw [hU]; exact w3, w4.weaken (fun _ _ _ _ => trivial)⟩
    have := w2 k hk
    unfold av_ao at this ⊢
    split
    · next t9 x9 e9 =>
      rw [e9] at this
      exact ⟨arrOfT_moved hW.alike this.1, this.2.moved hW.alike⟩
    · trivial
theorem okQ_B {Q9 : Cal} {idx n t1 t4 : Nat} (hts : ∀ w ∈ tbG, w.before args s = true) (h1 : okQ R.frames R.locals Q9 = true) (h2 : okY (cl_y Q9) n = true) (h3 : okT t1 (.methodLink own idx (cl_y Q9)) = true) (h4 : okT t4 (.initialized (cl_y Q9).cls) = true) (hc : cl_c Q9 = 0) (hs : cl_s Q9 = 0) : CallB R s args own idx (cl_y Q9) (cl_b Q9) (cl_m Q9) (cl_r Q9) (wsM Q9) (rmM Q9) 0 0 n := by
  simp only [okQ, okY, Bool.and_eq_true, decide_eq_true_eq] at h1 h2
  exact callB_of n hts (wsM_good h1.1.1) rfl hc hs (hts _ (okT_mem h4)) (hts _ (okT_mem h3)) ⟨h2.1.1, h2.1.2, h2.2⟩ ⟨Nat.le_of_ble_eq_true h1.1.2, Nat.le_of_ble_eq_true h1.2⟩
theorem cats_map (r : List Value) : ((r.map (av_v ad)).map fun v => v.category).sum = cats r := by
  unfold cats
  rw [List.map_map]
  congr 1
  exact List.map_congr_left (fun v _ => av_cat ad v)
theorem sd_inv (C : Ctx p R s m args c cells slots cc own nL A) {Q9 : Cal} {idx pc : Nat} {aux : List Nat} {h : AH} {ls : List (Option Value)} {st : List Value} (hd : decode cc pc = .ok (.invokevirtual idx, 3)) (hok : okV own R.frames R.locals idx aux Q9 = true)
    (hsp : sp_inv l N (ZW p l e R s m args below meth c cells slots Q nL D A ad ca N) Q9 aux h pc ls st) : ZW p l e R s m args below meth c cells slots Q nL D A ad ca N h pc ls st := by
  obtain ⟨hx, hb, hml, hown, hts, hcs, hA⟩ := C
  intro H locs arr w lv
  unfold okV at hok
  split at hok
  case h_2 => cases hok
  next aux9 n ci t1 t2 t3 t4 =>
  unfold sp_inv at hsp
  dsimp only at hsp
  split at hsp
  case h_2 => exact hsp.elim
  next a r hst =>
  obtain ⟨⟨fs, hfs⟩, haN, hcat, hsem⟩ := hsp
  simp only [Bool.and_eq_true, decide_eq_true_eq] at hok
  obtain ⟨⟨⟨⟨⟨⟨⟨⟨k1, k2⟩, k3⟩, k4⟩, k5⟩, k6⟩, k7⟩, k8⟩, k9⟩ := hok
  split at k9
  case h_2 => cases k9
  next C9 T9 n9 hC9 =>
  have k9 : C9 = (cl_y Q9).cls := by simpa using k9
  subst k9
  have hn : (st.take n).length = n := by
    have h1 : (st.drop n).length = r.length + 1 := by rw [hst]; rfl
    rw [List.length_drop] at h1
    rw [List.length_take]
    omega
  have hst2 : st = st.take n ++ .ref a :: r := by rw [← hst]; exact (List.take_append_drop n st).symm
  have hpre := sd_pre (av := .ref a :: (st.take n).reverse) w
  have hrun := va_runV (C := (cl_y Q9).cls) (b := ad a) (As := ((st.take n).reverse).map (av_v ad)) (rest := r.map (av_v ad)) (g := F0 m pc arr (st.map (av_v ad))) (cells := cells) (slots := slots) (locs := locs) (H := H) (below := below) (meth := meth) (e := e) ⟨hx, hb, hml, hown, hts⟩ (hsem D ad ca H.size) ⟨okQ_B hts k1 k2 k3 k6 k7 k8, hts _ (okT_mem k4), hts _ (okT_mem k5)⟩
    ⟨hpre.1, va_recv w.1 w.2.2.1 (ci := ci) (q0 := a) hC9 (by rw [av_ws_at haN, hfs]; rfl), hpre.2⟩ rfl (by rw [List.length_map, List.length_reverse]; exact hn) (by show arr.size = nL; exact lv.1) (by
      show st.map (av_v ad) = _
      rw [← List.map_reverse, List.reverse_reverse]
      conv => lhs; rw [hst2]
      rw [List.map_append]
      rfl) (lv_room (by rw [cats_map]; exact Nat.le_of_ble_eq_true hcat)) hd ⟨hcs.1, hcs.2⟩
  refine sd_back hrun w hA (fun v h' H1 locs1 hp w1 => ?_)
  have := hp H1 locs1 arr w1 lv
  rw [List.map_append] at this
  cases v <;> exact this
theorem sd_ins (C : Ctx p R s m args c cells slots cc own nL A) {Q9 : Cal} {idx pc : Nat} {aux : List Nat} {h : AH} {ls : List (Option Value)} {st : List Value} (hd : decode cc pc = .ok (.invokestatic idx, 3)) (hok : okS own R.frames R.locals idx aux Q9 = true)
    (hsp : sp_ins l N (ZW p l e R s m args below meth c cells slots Q nL D A ad ca N) Q9 aux h pc ls st) : ZW p l e R s m args below meth c cells slots Q nL D A ad ca N h pc ls st := by
  obtain ⟨hx, hb, hml, hown, hts, hcs, hA⟩ := C
  intro H locs arr w lv
  unfold okS at hok
  split at hok
  case h_2 => cases hok
  next aux9 n t1 t2 t4 =>
  unfold sp_ins at hsp
  dsimp only at hsp
  obtain ⟨hn, hcat, hsem⟩ := hsp
  simp only [Bool.and_eq_true, decide_eq_true_eq] at hok
  obtain ⟨⟨⟨⟨⟨⟨k1, k2⟩, k3⟩, k4⟩, k6⟩, k7⟩, k8⟩ := hok
  have hpre := sd_pre (av := (st.take n).reverse) w
  have hrun := va_runS (As := ((st.take n).reverse).map (av_v ad)) (rest := (st.drop n).map (av_v ad)) (g := F0 m pc arr (st.map (av_v ad))) (cells := cells) (slots := slots) (locs := locs) (H := H) (below := below) (meth := meth) (e := e) ⟨hx, hb, hml, hown, hts⟩ (hsem D ad ca H.size) ⟨okQ_B hts k1 k2 k3 k6 k7 k8, hts _ (okT_mem k4)⟩
    hpre rfl (by rw [List.length_map, List.length_reverse]; exact hn) (by show arr.size = nL; exact lv.1) (by
      show st.map (av_v ad) = _
      rw [← List.map_reverse, List.reverse_reverse, ← List.map_append, List.take_append_drop]) (lv_room (by rw [cats_map]; exact Nat.le_of_ble_eq_true hcat)) hd ⟨hcs.1, hcs.2⟩
  refine sd_back hrun w hA (fun v h' H1 locs1 hp w1 => ?_)
  have := hp H1 locs1 arr w1 lv
  rw [List.map_append] at this
  cases v <;> exact this
theorem sd_cpy (C : Ctx p R s m args c cells slots cc own nL A) {idx pc : Nat} {aux : List Nat} {h : AH} {ls : List (Option Value)} {st : List Value} (hd : decode cc pc = .ok (.invokestatic idx, 3)) (hok : okC own R.frames R.locals idx aux = true)
    (hsp : sp_cpy N (ZW p l e R s m args below meth c cells slots Q nL D A ad ca N) h pc ls st) : ZW p l e R s m args below meth c cells slots Q nL D A ad ca N h pc ls st := by
  obtain ⟨hx, hb, hml, hown, hts, hcs, hA⟩ := C
  intro H locs arr w lv
  unfold okC at hok
  split at hok
  case h_2 => cases hok
  next aux9 t1 t2 t3 t4 =>
  unfold sp_cpy at hsp
  split at hsp
  case h_2 => exact hsp.elim
  next st9 n dp a1 sp a0 r =>
  obtain ⟨n0, n1, f, g, e0, e1, h0, h1, hcat, s1, s2, s3, s4, s5, kk⟩ := hsp
  simp only [Bool.and_eq_true, decide_eq_true_eq] at hok
  obtain ⟨⟨⟨⟨⟨k1, k2⟩, k3⟩, k4⟩, k5⟩, k6⟩ := hok
  have o0 := w.2.1 a0 h0
  have o1 := w.2.1 a1 h1
  rw [e0] at o0
  rw [e1] at o1
  have hK : va_K D vwCl [(ca a0, .int), (ca a1, .int)] s := ⟨w.1.1, fun k q hk => by
    match k, hk with
    | 0, hk => cases hk; exact o0
    | 1, hk => cases hk; exact o1
    | k + 2, hk => cases hk⟩
  refine va_copyi (ty := .int) (t0 := 0) (t1 := 1) hx hb (hml.trans lv.1.symm) hown (hts _ (okT_mem k1)) (hts _ (okT_mem k2)) (hts _ (okT_mem k3)) (hts _ (okT_mem k4)) hK w.2.2.1 w.2.2.2.1 w.2.2.2.2 a0 a1 (f := f) (g := g) (n0 := n0) (n1 := n1) (by rw [av_ws_at h0, e0]; rfl) (by rw [av_ws_at h1, e1]; rfl) rfl rfl rfl s1 s2 s3 s4 s5 (fun i _ => rfl) (Nat.le_of_ble_eq_true k5) (by rw [cats_map]; have := Nat.le_of_ble_eq_true hcat; omega) hd (fun H1 locs1 hP hD hS => ?_)
  exact kk H1 locs1 arr (w.up (e := .inl (0, n1, .inl (va_cpy f g sp.toNatClampNeg dp.toNatClampNeg n.toNatClampNeg))) o1 hP hD hS) lv
end SND
end
section
/-! ===== SOUNDNESS: all instructions ===== -/
theorem tsw_in {K : Nat → Prop} {x : Int} {pc : Nat} {td : Nat} : ∀ (offs : List Int) (ts : List Nat) (lo : Int), okTgs pc offs ts = true → tsw K x lo ts td → (lo ≤ x ∧ x < lo + offs.length → ∃ (off : Int) (t : Nat), offs[(x - lo).toNat]? = some off ∧ (pc : Int) + off = (t : Int) ∧ K t) ∧ (¬ (lo ≤ x ∧ x < lo + offs.length) → K td)
  | [], [], lo, _, h => ⟨fun q => by simp only [List.length_nil] at q; omega, fun _ => h⟩
  | [], _ :: _, _, hk, _ => by cases hk
  | _ :: _, [], _, hk, _ => by cases hk
  | o :: os, t :: ts, lo, hk, h => by
    simp only [okTgs, okTg, Bool.and_eq_true, decide_eq_true_eq] at hk
    have ih := tsw_in (K := K) (x := x) (pc := pc) (td := td) os ts (lo + 1) hk.2
    by_cases e : x = lo
    · subst e
      refine ⟨fun _ => ⟨o, t, by simp, hk.1, h.1 rfl⟩, fun q => ?_⟩
      exact absurd ⟨Int.le_refl _, by simp only [List.length_cons]; omega⟩ q
    · have ih := ih (h.2 e)
      refine ⟨fun q => ?_, fun q => ih.2 (fun z => q ⟨by omega, by simp only [List.length_cons]; omega⟩)⟩
      obtain ⟨off, t2, h1, h2, h3⟩ := ih.1 ⟨by omega, by have := q.2; simp only [List.length_cons] at this; omega⟩
      refine ⟨off, t2, ?_, h2, h3⟩
      rw [show (x - lo).toNat = (x - (lo + 1)).toNat + 1 by omega, List.getElem?_cons_succ]
      exact h1
theorem lsw_in {K : Nat → Prop} {x : Int} {pc : Nat} {td : Nat} {d : Int} (hd : (pc : Int) + d = (td : Int)) : ∀ (ps : List (Int × Int)) (ts : List Nat), okTgs pc (ps.map (fun q => q.2)) ts = true → lsw K x ps ts td → ∃ t : Nat, (pc : Int) + Op.lookupswitch.offset ps d x = (t : Int) ∧ K t
  | [], [], _, h => ⟨td, by rw [show Op.lookupswitch.offset [] d x = d from rfl]; exact hd, h⟩
  | [], _ :: _, hk, _ => by cases hk
  | _ :: _, [], hk, _ => by cases hk
  | (k, o) :: ps, t :: ts, hk, h => by
    simp only [List.map_cons, okTgs, okTg, Bool.and_eq_true, decide_eq_true_eq] at hk
    rw [Op.lookupswitch.offset_cons]
    by_cases e : x = k
    · exact ⟨t, by rw [if_pos e.symm]; exact hk.1, h.1 e⟩
    · rw [if_neg (fun q => e q.symm)]
      exact lsw_in hd ps ts hk.2 (h.2 e)
section SN2
variable {p : Program} {l : Launch} {e : Env} {R : Room} {s : State} {m : MethodId} {args : Array Value} {below : List Frame} {meth : Method} {c : Code} {cells slots : Nat} {Q : State → Prop}
variable {cc : ByteArray} {own : String} {nL : Nat} {D : va_G} {A : Nat → Prop} {ad : Nat → Nat} {ca : Nat → ClassId} {N : Nat}
theorem sd_get (C : Ctx p R s m args c cells slots cc own nL A) {idx pc ci k t a : Nat} {h : AH} {H : Heap} {locs : List Loc} {arr : Array Slot} {fs : List Value} {v : Value} {r : List Value} (hd : decode cc pc = .ok (.getfield idx, 3)) (hok : okF own idx ci k t = true) (w : Wp s D A ad ca N h H locs) (ha : h a = .inr (ci, fs)) (hN : a < N) (hv : fg fs k = some v)
    (kk : W p l e R s m args below meth c H locs cells slots Q (F0 m (pc + 3) arr (av_v ad v :: r))) : W p l e R s m args below meth c H locs cells slots Q (F0 m pc arr (.ref (ad a) :: r)) := by
  obtain ⟨hx, hb, hml, hown, hts, hcs, hA⟩ := C
  unfold okF at hok
  split at hok
  case h_2 => cases hok
  next C9 T n hC =>
  simp only [Bool.and_eq_true, decide_eq_true_eq] at hok
  obtain ⟨ty0, -, -, hin⟩ := cl_facts ci C9 T n hC
  exact va_get (fs := fs.map (av_v ad)) hx hb hts hin hown w.1 w.2.2.1 a (by rw [av_ws_at hN, ha]; rfl) hC k hok.1 (hts _ (okT_mem hok.2)) (fun _ h9 => h9) (fg_map ad hv) hd kk
theorem sd_put (C : Ctx p R s m args c cells slots cc own nL A) {idx pc ci k t tc a : Nat} {h : AH} {H : Heap} {locs : List Loc} {arr : Array Slot} {fs : List Value} {v : Value} {r : List Value} (hd : decode cc pc = .ok (.putfield idx, 3)) (hok : okF own idx ci k t = true) (hpt : okPT ci k tc false = true) (w : Wp s D A ad ca N h H locs) (ha : h a = .inr (ci, fs)) (hN : a < N) (hl : k < fs.length) (hpf : pf tc v)
    (kk : ∀ (H1 : Heap) (locs1 : List Loc), Wp s D A ad ca N (va_up h a (.inr (ci, fs.set k v))) H1 locs1 → W p l e R s m args below meth c H1 locs1 cells slots Q (F0 m (pc + 3) arr r)) : W p l e R s m args below meth c H locs cells slots Q (F0 m pc arr (av_v ad v :: .ref (ad a) :: r)) := by
  obtain ⟨hx, hb, hml, hown, hts, hcs, hA⟩ := C
  unfold okF at hok
  unfold okPT at hpt
  split at hok
  case h_2 => cases hok
  next C9 T n hC =>
  simp only [hC, Bool.and_eq_true, decide_eq_true_eq] at hok hpt
  obtain ⟨ty0, hty, hnm, hin⟩ := cl_facts ci C9 T n hC
  obtain ⟨hfin, hpt⟩ := hpt
  obtain ⟨ty, hdty, hn, hfit⟩ : ∃ ty, parseFieldDescriptor (T k).2.2.1 = some ty ∧ narrow ty (av_v ad v) = av_v ad v ∧ fits ty (av_v ad v) = true := by
    split at hpt
    · next e9 => cases v <;> first | exact hpf.elim | exact ⟨_, e9, rfl, rfl⟩
    · next e9 =>
      refine ⟨_, e9, ?_⟩
      cases v <;> first | exact hpf.elim | skip
      rcases hpf with e | e <;> subst e <;> exact ⟨rfl, rfl⟩
    · next e9 => cases v <;> first | exact hpf.elim | exact ⟨_, e9, rfl, rfl⟩
    · next e9 => cases v <;> first | exact hpf.elim | exact ⟨_, e9, rfl, rfl⟩
    · cases hpt
  refine va_put (fs := fs.map (av_v ad)) hx hb hts hin ty0 hty hnm hown w.1 w.2.2.1 w.2.2.2.1 w.2.2.2.2 a (by rw [av_ws_at hN, ha]; rfl) hC k hok.1 (hts _ (okT_mem hok.2)) (fun _ h9 => h9) hfin hdty hn hfit (by rw [List.length_map]; exact hl) hd (fun H1 locs1 hP hD hS => ?_)
  rw [← List.map_set] at hP hD
  exact kk H1 locs1 (w.up (e := .inr (ci, fs.set k v)) trivial hP hD hS)
set_option maxHeartbeats 4000000 in
theorem spI_sound (C : Ctx p R s m args c cells slots cc own nL A) {pc : Nat} {q : Row} {h : AH} {ls : List (Option Value)} {st : List Value} (hok : rowOk own cc R.frames R.locals (pc, q) = true)
    (hsp : spI l N (ZW p l e R s m args below meth c cells slots Q nL D A ad ca N) q h pc ls st) : ZW p l e R s m args below meth c cells slots Q nL D A ad ca N h pc ls st := by
  have C0 := C
  obtain ⟨hx, hb, hml, hown, hts, hcs, hA⟩ := C
  obtain ⟨i, len, aux, cal⟩ := q
  unfold rowOk at hok
  simp only [Bool.and_eq_true, decide_eq_true_eq] at hok
  obtain ⟨⟨hd, hlen⟩, hax⟩ := hok
  cases i
  case aload_n k =>
    obtain rfl := len_eq hlen (n := 1) rfl (by decide)
    unfold spI at hsp
    dsimp only at hsp
    intro H locs arr w lv
    split at hsp
    · next a9 hl =>
      exact lv_aload_n hx hb hd rfl (lv.2.2.2 _ _ hl) (hsp H locs arr w lv)
    · exact hsp.elim
  case aload k =>
    obtain rfl := len_eq hlen (n := 2) rfl (by decide)
    unfold spI at hsp
    dsimp only at hsp
    intro H locs arr w lv
    split at hsp
    · next a9 hl =>
      exact lv_aload hx hb hd (lv.2.2.2 _ _ hl) (hsp H locs arr w lv)
    · exact hsp.elim
  case iload_n k =>
    obtain rfl := len_eq hlen (n := 1) rfl (by decide)
    unfold spI at hsp
    dsimp only at hsp
    intro H locs arr w lv
    split at hsp
    · next a9 hl =>
      exact lv_iload_n hx hb hd rfl (lv.2.2.2 _ _ hl) (hsp H locs arr w lv)
    · exact hsp.elim
  case iload k =>
    obtain rfl := len_eq hlen (n := 2) rfl (by decide)
    unfold spI at hsp
    dsimp only at hsp
    intro H locs arr w lv
    split at hsp
    · next a9 hl =>
      exact lv_iload hx hb hd (lv.2.2.2 _ _ hl) (hsp H locs arr w lv)
    · exact hsp.elim
  case lload_n k =>
    obtain rfl := len_eq hlen (n := 1) rfl (by decide)
    unfold spI at hsp
    dsimp only at hsp
    intro H locs arr w lv
    split at hsp
    · next a9 hl =>
      exact lv_lload_n hx hb hd rfl (lv.2.2.2 _ _ hl) (hsp H locs arr w lv)
    · exact hsp.elim
  case lload k =>
    obtain rfl := len_eq hlen (n := 2) rfl (by decide)
    unfold spI at hsp
    dsimp only at hsp
    intro H locs arr w lv
    split at hsp
    · next a9 hl =>
      exact lv_lload hx hb hd (lv.2.2.2 _ _ hl) (hsp H locs arr w lv)
    · exact hsp.elim
  case astore_n k =>
    obtain rfl := len_eq hlen (n := 1) rfl (by decide)
    unfold spI at hsp
    dsimp only at hsp
    intro H locs arr w lv
    split at hsp
    · next st9 x r =>
      have hk : k.val < nL := by have := Nat.le_of_ble_eq_true hsp.1; rw [lv.2.2.1] at this; exact this
      exact lv_astore_n hx hb hd rfl lv.has hk rfl (fun arr2 h2 => hsp.2 H locs arr2 w (lv.st1 (v := .ref x) hk h2))
    · exact hsp.elim
  case astore k =>
    obtain rfl := len_eq hlen (n := 2) rfl (by decide)
    unfold spI at hsp
    dsimp only at hsp
    intro H locs arr w lv
    split at hsp
    · next st9 x r =>
      have hk : k < nL := by have := Nat.le_of_ble_eq_true hsp.1; rw [lv.2.2.1] at this; exact this
      exact lv_astore hx hb hd lv.has hk rfl (fun arr2 h2 => hsp.2 H locs arr2 w (lv.st1 (v := .ref x) hk h2))
    · exact hsp.elim
  case istore_n k =>
    obtain rfl := len_eq hlen (n := 1) rfl (by decide)
    unfold spI at hsp
    dsimp only at hsp
    intro H locs arr w lv
    split at hsp
    · next st9 x r =>
      have hk : k.val < nL := by have := Nat.le_of_ble_eq_true hsp.1; rw [lv.2.2.1] at this; exact this
      exact lv_istore_n hx hb hd rfl lv.has hk rfl (fun arr2 h2 => hsp.2 H locs arr2 w (lv.st1 (v := .int x) hk h2))
    · exact hsp.elim
  case istore k =>
    obtain rfl := len_eq hlen (n := 2) rfl (by decide)
    unfold spI at hsp
    dsimp only at hsp
    intro H locs arr w lv
    split at hsp
    · next st9 x r =>
      have hk : k < nL := by have := Nat.le_of_ble_eq_true hsp.1; rw [lv.2.2.1] at this; exact this
      exact lv_istore hx hb hd lv.has hk rfl (fun arr2 h2 => hsp.2 H locs arr2 w (lv.st1 (v := .int x) hk h2))
    · exact hsp.elim
  case lstore_n k =>
    obtain rfl := len_eq hlen (n := 1) rfl (by decide)
    unfold spI at hsp
    dsimp only at hsp
    intro H locs arr w lv
    split at hsp
    · next st9 x r =>
      have hk : k.val + 1 < nL := by have := Nat.le_of_ble_eq_true hsp.1; rw [lv.2.2.1] at this; exact this
      exact lv_lstore_n hx hb hd rfl lv.has hk rfl (fun arr2 h2 => hsp.2 H locs arr2 w (lv.st2 (v := .long x) hk h2))
    · exact hsp.elim
  case lstore k =>
    obtain rfl := len_eq hlen (n := 2) rfl (by decide)
    unfold spI at hsp
    dsimp only at hsp
    intro H locs arr w lv
    split at hsp
    · next st9 x r =>
      have hk : k + 1 < nL := by have := Nat.le_of_ble_eq_true hsp.1; rw [lv.2.2.1] at this; exact this
      exact lv_lstore hx hb hd lv.has hk rfl (fun arr2 h2 => hsp.2 H locs arr2 w (lv.st2 (v := .long x) hk h2))
    · exact hsp.elim
  case iinc k c9 =>
    obtain rfl := len_eq hlen (n := 3) rfl (by decide)
    unfold spI at hsp
    dsimp only at hsp
    intro H locs arr w lv
    split at hsp
    · next x hl =>
      have hk : k < nL := by have := lg_lt hl; rw [lv.2.2.1] at this; exact this
      obtain ⟨j, hj⟩ := List.getElem?_of_mem (mem_prs (ad := ad) hl)
      exact lv_iinc hx hb hd lv.has hj rfl hk rfl (fun arr2 h2 => hsp H locs arr2 w (lv.st1 (v := .int (x + Int32.ofInt c9)) hk h2))
    · exact hsp.elim
  case iconst k =>
    obtain rfl := len_eq hlen (n := 1) rfl (by decide)
    unfold spI at hsp
    dsimp only at hsp
    intro H locs arr w lv
    exact lv_iconst hx hb hd rfl (hsp H locs arr w lv)
  case bipush k =>
    obtain rfl := len_eq hlen (n := 2) rfl (by decide)
    unfold spI at hsp
    dsimp only at hsp
    intro H locs arr w lv
    exact lv_bipush hx hb hd rfl (hsp H locs arr w lv)
  case sipush k =>
    obtain rfl := len_eq hlen (n := 3) rfl (by decide)
    unfold spI at hsp
    dsimp only at hsp
    intro H locs arr w lv
    exact lv_sipush hx hb hd rfl (hsp H locs arr w lv)
  case lconst k =>
    obtain rfl := len_eq hlen (n := 1) rfl (by decide)
    unfold spI at hsp
    dsimp only at hsp
    intro H locs arr w lv
    exact lv_lconst hx hb hd rfl (hsp H locs arr w lv)
  case ldc k =>
    obtain rfl := len_eq hlen (n := 2) rfl (by decide)
    unfold spI at hsp
    dsimp only at hsp
    intro H locs arr w lv
    unfold auxOk at hax
    dsimp only at hax
    split at hsp
    · exact lv_ldc hx hb hown (hts _ (okT_mem hax)) hd (hsp H locs arr w lv)
    · exact hsp.elim
  case ldc2_w k =>
    obtain rfl := len_eq hlen (n := 3) rfl (by decide)
    unfold spI at hsp
    dsimp only at hsp
    intro H locs arr w lv
    unfold auxOk at hax
    dsimp only at hax
    split at hsp
    · exact lv_ldc2 hx hb hown (hts _ (okT_mem hax)) hd (hsp H locs arr w lv)
    · exact hsp.elim
  case iadd =>
    obtain rfl := len_eq hlen (n := 1) rfl (by decide)
    unfold spI at hsp
    dsimp only at hsp
    intro H locs arr w lv
    split at hsp
    · exact lv_iadd hx hb hd (hsp H locs arr w lv)
    · exact hsp.elim
  case isub =>
    obtain rfl := len_eq hlen (n := 1) rfl (by decide)
    unfold spI at hsp
    dsimp only at hsp
    intro H locs arr w lv
    split at hsp
    · exact lv_isub hx hb hd (hsp H locs arr w lv)
    · exact hsp.elim
  case imul =>
    obtain rfl := len_eq hlen (n := 1) rfl (by decide)
    unfold spI at hsp
    dsimp only at hsp
    intro H locs arr w lv
    split at hsp
    · exact lv_imul hx hb hd (hsp H locs arr w lv)
    · exact hsp.elim
  case ishl =>
    obtain rfl := len_eq hlen (n := 1) rfl (by decide)
    unfold spI at hsp
    dsimp only at hsp
    intro H locs arr w lv
    split at hsp
    · exact lv_ishl hx hb hd (hsp H locs arr w lv)
    · exact hsp.elim
  case ishr =>
    obtain rfl := len_eq hlen (n := 1) rfl (by decide)
    unfold spI at hsp
    dsimp only at hsp
    intro H locs arr w lv
    split at hsp
    · exact lv_ishr hx hb hd (hsp H locs arr w lv)
    · exact hsp.elim
  case iand =>
    obtain rfl := len_eq hlen (n := 1) rfl (by decide)
    unfold spI at hsp
    dsimp only at hsp
    intro H locs arr w lv
    split at hsp
    · exact lv_iand hx hb hd (hsp H locs arr w lv)
    · exact hsp.elim
  case ior =>
    obtain rfl := len_eq hlen (n := 1) rfl (by decide)
    unfold spI at hsp
    dsimp only at hsp
    intro H locs arr w lv
    split at hsp
    · exact lv_ior hx hb hd (hsp H locs arr w lv)
    · exact hsp.elim
  case ladd =>
    obtain rfl := len_eq hlen (n := 1) rfl (by decide)
    unfold spI at hsp
    dsimp only at hsp
    intro H locs arr w lv
    split at hsp
    · exact lv_ladd hx hb hd (hsp H locs arr w lv)
    · exact hsp.elim
  case lsub =>
    obtain rfl := len_eq hlen (n := 1) rfl (by decide)
    unfold spI at hsp
    dsimp only at hsp
    intro H locs arr w lv
    split at hsp
    · exact lv_lsub hx hb hd (hsp H locs arr w lv)
    · exact hsp.elim
  case lmul =>
    obtain rfl := len_eq hlen (n := 1) rfl (by decide)
    unfold spI at hsp
    dsimp only at hsp
    intro H locs arr w lv
    split at hsp
    · exact lv_lmul hx hb hd (hsp H locs arr w lv)
    · exact hsp.elim
  case idiv =>
    obtain rfl := len_eq hlen (n := 1) rfl (by decide)
    unfold spI at hsp
    dsimp only at hsp
    intro H locs arr w lv
    split at hsp
    · exact lv_idiv hx hb hd hsp.1 (hsp.2 H locs arr w lv)
    · exact hsp.elim
  case irem =>
    obtain rfl := len_eq hlen (n := 1) rfl (by decide)
    unfold spI at hsp
    dsimp only at hsp
    intro H locs arr w lv
    split at hsp
    · exact lv_irem hx hb hd hsp.1 (hsp.2 H locs arr w lv)
    · exact hsp.elim
  case ldiv =>
    obtain rfl := len_eq hlen (n := 1) rfl (by decide)
    unfold spI at hsp
    dsimp only at hsp
    intro H locs arr w lv
    split at hsp
    · exact lv_ldiv hx hb hd hsp.1 (hsp.2 H locs arr w lv)
    · exact hsp.elim
  case lrem =>
    obtain rfl := len_eq hlen (n := 1) rfl (by decide)
    unfold spI at hsp
    dsimp only at hsp
    intro H locs arr w lv
    split at hsp
    · exact lv_lrem hx hb hd hsp.1 (hsp.2 H locs arr w lv)
    · exact hsp.elim
  case ineg =>
    obtain rfl := len_eq hlen (n := 1) rfl (by decide)
    unfold spI at hsp
    dsimp only at hsp
    intro H locs arr w lv
    split at hsp
    · exact lv_ineg hx hb hd (hsp H locs arr w lv)
    · exact hsp.elim
  case i2l =>
    obtain rfl := len_eq hlen (n := 1) rfl (by decide)
    unfold spI at hsp
    dsimp only at hsp
    intro H locs arr w lv
    split at hsp
    · exact lv_i2l hx hb hd rfl (hsp H locs arr w lv)
    · exact hsp.elim
  case i2b =>
    obtain rfl := len_eq hlen (n := 1) rfl (by decide)
    unfold spI at hsp
    dsimp only at hsp
    intro H locs arr w lv
    split at hsp
    · exact lv_i2b hx hb hd rfl (hsp H locs arr w lv)
    · exact hsp.elim
  case i2s =>
    obtain rfl := len_eq hlen (n := 1) rfl (by decide)
    unfold spI at hsp
    dsimp only at hsp
    intro H locs arr w lv
    split at hsp
    · exact lv_i2s hx hb hd rfl (hsp H locs arr w lv)
    · exact hsp.elim
  case lcmp =>
    obtain rfl := len_eq hlen (n := 1) rfl (by decide)
    unfold spI at hsp
    dsimp only at hsp
    intro H locs arr w lv
    split at hsp
    · exact W.lcmp hx hb hd (hsp H locs arr w lv)
    · exact hsp.elim
  case dup =>
    obtain rfl := len_eq hlen (n := 1) rfl (by decide)
    unfold spI at hsp
    dsimp only at hsp
    intro H locs arr w lv
    split at hsp
    · exact lv_dup hx hb hd rfl (hsp H locs arr w lv)
    · exact lv_dup hx hb hd rfl (hsp H locs arr w lv)
    · exact hsp.elim
  case dup2 =>
    obtain rfl := len_eq hlen (n := 1) rfl (by decide)
    unfold spI at hsp
    dsimp only at hsp
    intro H locs arr w lv
    split at hsp
    · exact lv_dup2_11 hx hb hd rfl rfl (hsp H locs arr w lv)
    · exact hsp.elim
  case pop =>
    obtain rfl := len_eq hlen (n := 1) rfl (by decide)
    unfold spI at hsp
    dsimp only at hsp
    intro H locs arr w lv
    split at hsp
    · next st9 x9 r9 => exact lv_pop (va := .int x9) hx hb hd rfl (hsp H locs arr w lv)
    · exact hsp.elim
  case goto off =>
    obtain rfl := len_eq hlen (n := 3) rfl (by decide)
    unfold spI at hsp
    dsimp only at hsp
    intro H locs arr w lv
    unfold auxOk at hax
    dsimp only at hax
    split at hsp
    · exact lv_goto hx hb hd (of_decide_eq_true hax) (hsp H locs arr w lv)
    · exact hsp.elim
  case ifCond c9 off =>
    obtain rfl := len_eq hlen (n := 3) rfl (by decide)
    unfold spI at hsp
    dsimp only at hsp
    intro H locs arr w lv
    unfold auxOk at hax
    dsimp only at hax
    split at hsp
    · cases c9
      case eq => exact lv_if_eq hx hb hd (of_decide_eq_true hax) (fun z => hsp.1 z H locs arr w lv) (fun z => hsp.2 z H locs arr w lv)
      case ne => exact lv_if_ne hx hb hd (of_decide_eq_true hax) (fun z => hsp.1 z H locs arr w lv) (fun z => hsp.2 z H locs arr w lv)
      case lt => exact lv_if_lt hx hb hd (of_decide_eq_true hax) (fun z => hsp.1 z H locs arr w lv) (fun z => hsp.2 z H locs arr w lv)
      case ge => exact lv_if_ge hx hb hd (of_decide_eq_true hax) (fun z => hsp.1 z H locs arr w lv) (fun z => hsp.2 z H locs arr w lv)
      case gt => exact lv_if_gt hx hb hd (of_decide_eq_true hax) (fun z => hsp.1 z H locs arr w lv) (fun z => hsp.2 z H locs arr w lv)
      case le => exact lv_if_le hx hb hd (of_decide_eq_true hax) (fun z => hsp.1 z H locs arr w lv) (fun z => hsp.2 z H locs arr w lv)
    · exact hsp.elim
  case if_icmp c9 off =>
    obtain rfl := len_eq hlen (n := 3) rfl (by decide)
    unfold spI at hsp
    dsimp only at hsp
    intro H locs arr w lv
    unfold auxOk at hax
    dsimp only at hax
    split at hsp
    · cases c9
      case eq => exact lv_icmp_eq hx hb hd (of_decide_eq_true hax) (fun z => hsp.1 z H locs arr w lv) (fun z => hsp.2 z H locs arr w lv)
      case ne => exact lv_icmp_ne hx hb hd (of_decide_eq_true hax) (fun z => hsp.1 z H locs arr w lv) (fun z => hsp.2 z H locs arr w lv)
      case lt => exact lv_icmp_lt hx hb hd (of_decide_eq_true hax) (fun z => hsp.1 z H locs arr w lv) (fun z => hsp.2 z H locs arr w lv)
      case ge => exact lv_icmp_ge hx hb hd (of_decide_eq_true hax) (fun z => hsp.1 z H locs arr w lv) (fun z => hsp.2 z H locs arr w lv)
      case gt => exact lv_icmp_gt hx hb hd (of_decide_eq_true hax) (fun z => hsp.1 z H locs arr w lv) (fun z => hsp.2 z H locs arr w lv)
      case le => exact lv_icmp_le hx hb hd (of_decide_eq_true hax) (fun z => hsp.1 z H locs arr w lv) (fun z => hsp.2 z H locs arr w lv)
    · exact hsp.elim
  case tableswitch d lo hi offs =>
    unfold spI at hsp
    dsimp only at hsp
    intro H locs arr w lv
    unfold auxOk at hax
    dsimp only at hax
    split at hsp
    · next aux9 st9 td ts x r =>
      simp only [okTg, Bool.and_eq_true, decide_eq_true_eq] at hax
      obtain ⟨⟨h1, h2⟩, h3⟩ := hax
      have h4 := tsw_in (x := x.toInt) (td := td) offs.toList ts lo h3 hsp
      by_cases hin : lo ≤ x.toInt ∧ x.toInt < lo + offs.toList.length
      · obtain ⟨off, t, g1, g2, g3⟩ := h4.1 hin
        have hsz : (offs.toList.length : Int) = offs.size := by simp
        exact lv_tableIn hx hb hd (by omega) (by omega) (by rw [← Array.getElem?_toList]; exact g1) g2 (g3 H locs arr w lv)
      · have hsz : (offs.toList.length : Int) = offs.size := by simp
        exact lv_tableOut hx hb hd (by omega) h1 (h4.2 hin H locs arr w lv)
    · exact hsp.elim
  case lookupswitch d ps =>
    unfold spI at hsp
    dsimp only at hsp
    intro H locs arr w lv
    unfold auxOk at hax
    dsimp only at hax
    split at hsp
    · next aux9 st9 td ts x r =>
      simp only [okTg, Bool.and_eq_true, decide_eq_true_eq] at hax
      obtain ⟨⟨h1, h2⟩, h3⟩ := hax
      obtain ⟨t, g1, g2⟩ := lsw_in (x := x.toInt) h1 ps.toList ts h3 hsp
      exact lv_lookup hx hb hd h2 rfl g1 (g2 H locs arr w lv)
    · exact hsp.elim
  case getfield idx =>
    obtain rfl := len_eq hlen (n := 3) rfl (by decide)
    unfold spI at hsp
    dsimp only at hsp
    intro H locs arr w lv
    split at hsp
    · unfold auxOk at hax
      dsimp only at hax
      obtain ⟨fs, v, ha, hN, hv, kk⟩ := hsp
      exact sd_get C0 hd hax w ha hN hv (kk H locs arr w lv)
    · exact hsp.elim
  case putfield idx =>
    obtain rfl := len_eq hlen (n := 3) rfl (by decide)
    unfold spI at hsp
    dsimp only at hsp
    intro H locs arr w lv
    split at hsp
    · unfold auxOk at hax
      dsimp only at hax
      obtain ⟨fs, ha, hN, hl, hpf, kk⟩ := hsp
      simp only [Bool.and_eq_true] at hax
      exact sd_put C0 hd hax.1 hax.2 w ha hN (Nat.le_of_ble_eq_true hl) hpf (fun H1 locs1 w1 => kk H1 locs1 arr w1 lv)
    · exact hsp.elim
  case iaload =>
    obtain rfl := len_eq hlen (n := 1) rfl (by decide)
    unfold spI at hsp
    dsimp only at hsp
    intro H locs arr w lv
    split at hsp
    · next st9 i a r =>
      obtain ⟨n, f, ha, hN, hin, kk⟩ := hsp
      have o := w.2.1 a hN
      rw [ha] at o
      have hK : va_K D vwCl [(ca a, .int)] s := ⟨w.1.1, fun k q hk => by
        match k, hk with
        | 0, hk => cases hk; exact o
        | k + 1, hk => cases hk⟩
      exact va_iald hx hb hK w.2.2.1 a 0 (by rw [av_ws_at hN, ha]; rfl) rfl hin hd (kk H locs arr w lv)
    · exact hsp.elim
  case iastore =>
    obtain rfl := len_eq hlen (n := 1) rfl (by decide)
    unfold spI at hsp
    dsimp only at hsp
    intro H locs arr w lv
    split at hsp
    · next st9 x i a r =>
      obtain ⟨n, f, ha, hN, hin, kk⟩ := hsp
      have o := w.2.1 a hN
      rw [ha] at o
      have hK : va_K D vwCl [(ca a, .int)] s := ⟨w.1.1, fun k q hk => by
        match k, hk with
        | 0, hk => cases hk; exact o
        | k + 1, hk => cases hk⟩
      refine va_iast hx hb hK w.2.2.1 w.2.2.2.1 w.2.2.2.2 a 0 (f := f) (by rw [av_ws_at hN, ha]; rfl) rfl hin hd (fun H1 locs1 hP hD hS => ?_)
      exact kk H1 locs1 arr (w.up (e := .inl (0, n, .inl (upd f i.toNatClampNeg x))) o hP hD hS) lv
    · exact hsp.elim
  case laload =>
    obtain rfl := len_eq hlen (n := 1) rfl (by decide)
    unfold spI at hsp
    dsimp only at hsp
    intro H locs arr w lv
    split at hsp
    · next st9 i a r =>
      obtain ⟨n, f, ha, hN, hin, kk⟩ := hsp
      have o := w.2.1 a hN
      rw [ha] at o
      have hK : va_K D vwCl [(ca a, .long)] s := ⟨w.1.1, fun k q hk => by
        match k, hk with
        | 0, hk => cases hk; exact o
        | k + 1, hk => cases hk⟩
      exact va_lald hx hb hK w.2.2.1 a 0 (by rw [av_ws_at hN, ha]; rfl) rfl hin hd (kk H locs arr w lv)
    · exact hsp.elim
  case lastore =>
    obtain rfl := len_eq hlen (n := 1) rfl (by decide)
    unfold spI at hsp
    dsimp only at hsp
    intro H locs arr w lv
    split at hsp
    · next st9 x i a r =>
      obtain ⟨n, f, ha, hN, hin, kk⟩ := hsp
      have o := w.2.1 a hN
      rw [ha] at o
      have hK : va_K D vwCl [(ca a, .long)] s := ⟨w.1.1, fun k q hk => by
        match k, hk with
        | 0, hk => cases hk; exact o
        | k + 1, hk => cases hk⟩
      refine va_last hx hb hK w.2.2.1 w.2.2.2.1 w.2.2.2.2 a 0 (f := f) (by rw [av_ws_at hN, ha]; rfl) rfl hin hd (fun H1 locs1 hP hD hS => ?_)
      exact kk H1 locs1 arr (w.up (e := .inl (1, n, .inr (.inl (vp_updL f i.toNatClampNeg x)))) o hP hD hS) lv
    · exact hsp.elim
  case aaload =>
    obtain rfl := len_eq hlen (n := 1) rfl (by decide)
    unfold spI at hsp
    dsimp only at hsp
    intro H locs arr w lv
    split at hsp
    · next st9 i a r =>
      obtain ⟨t, n, f, b9, ha, ht, hN, hin, hf, kk⟩ := hsp
      have o := w.2.1 a hN
      rw [ha] at o
      have hlt : i.toNatClampNeg < n := Nat.not_le.mp fun q => hin (Or.inr q)
      have hcell : H[ad a]? = some (vp_cell (ca a) (n, .inr (.inr (.inr (.inr (fun i => (f i).map ad)))))) := w.2.2.1 a (ad a, .inl (ca a, n, .inr (.inr (.inr (.inr (fun i => (f i).map ad)))))) (by rw [av_ws_at hN, ha]; rfl)
      refine W.aald (v := .ref (ad b9)) (ty := av_ty t) hx hb hcell (o.1 n (fun j => va_rf ((f j).map ad))) (by rcases ht with e | e | e <;> subst e <;> rfl) (fun q => by cases q) (by show ¬ (i < 0 ∨ (arrV _ _ _).slots.size ≤ _); rw [arrV_size]; exact hin) (by show (arrV _ _ _).slots[_]? = _; rw [arrV_read _ _ hlt]; show some (va_rf ((f _).map ad)) = _; rw [hf]; rfl) rfl rfl hd (kk H locs arr w lv)
    · exact hsp.elim
  case arraylength =>
    obtain rfl := len_eq hlen (n := 1) rfl (by decide)
    unfold spI at hsp
    dsimp only at hsp
    intro H locs arr w lv
    split at hsp
    · next st9 a r =>
      obtain ⟨t, x, ha, hN, kk⟩ := hsp
      have o := w.2.1 a hN
      rw [ha] at o
      have hK : va_K D vwCl [(ca a, av_ty t)] s := ⟨w.1.1, fun k q hk => by
        match k, hk with
        | 0, hk => cases hk; exact o
        | k + 1, hk => cases hk⟩
      obtain ⟨x1, x2⟩ := x
      exact va_alen hx hb hK w.2.2.1 a 0 (x := (x1, av_x ad x2)) (by rw [av_ws_at hN, ha]; rfl) rfl rfl hd (kk H locs arr w lv)
    · exact hsp.elim
  case invokevirtual idx =>
    obtain rfl := len_eq hlen (n := 3) rfl (by decide)
    unfold spI at hsp
    dsimp only at hsp
    unfold auxOk at hax
    dsimp only at hax
    split at hsp
    · exact sd_inv C0 hd hax hsp
    · exact hsp.elim
  case invokestatic idx =>
    obtain rfl := len_eq hlen (n := 3) rfl (by decide)
    unfold spI at hsp
    dsimp only at hsp
    unfold auxOk at hax
    dsimp only at hax
    split at hsp
    · exact sd_ins C0 hd hax hsp
    · exact sd_cpy C0 hd hax hsp
    · exact hsp.elim
  all_goals exact hsp.elim
end SN2
end
