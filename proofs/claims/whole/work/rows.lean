section
-- ===== PART A: goes FIRST, ahead of the names: the tables' words, and 'selects' of the private methods out of them =====
/-- a private method of a class that the tables say can be made, by its rows of tables_1 -/
def lw_okq (q : MethodName × Nat) : Prop := (q.1.cls ≠ "java/lang/invoke/MethodHandle" ∧ q.1.cls ≠ "java/lang/invoke/VarHandle") ∧ Cond.instantiable q.1.cls q.2 ∈ tables_1 ∧ Cond.privateMethod q.1 ∈ tables_1 ∧ Cond.instanceMethod q.1 ∈ tables_1
theorem lw_p0 : lw_okq (⟨"WordsLent$Text", "meaning", "(II)I"⟩, 5) := ⟨⟨by decide +kernel, by decide +kernel⟩, List.mem_of_getElem? (i := 176) (by decide +kernel), List.mem_of_getElem? (i := 272) (by decide +kernel), List.mem_of_getElem? (i := 273) (by decide +kernel)⟩
theorem lw_p1 : lw_okq (⟨"WordsLent", "tellAgain", "(I)V"⟩, 13) := ⟨⟨by decide +kernel, by decide +kernel⟩, List.mem_of_getElem? (i := 13) (by decide +kernel), List.mem_of_getElem? (i := 282) (by decide +kernel), List.mem_of_getElem? (i := 283) (by decide +kernel)⟩
theorem lw_p2 : lw_okq (⟨"WordsLent", "courseChanged", "()V"⟩, 13) := ⟨⟨by decide +kernel, by decide +kernel⟩, List.mem_of_getElem? (i := 13) (by decide +kernel), List.mem_of_getElem? (i := 318) (by decide +kernel), List.mem_of_getElem? (i := 319) (by decide +kernel)⟩
theorem lw_p3 : lw_okq (⟨"WordsLent", "finding", "(I)I"⟩, 13) := ⟨⟨by decide +kernel, by decide +kernel⟩, List.mem_of_getElem? (i := 13) (by decide +kernel), List.mem_of_getElem? (i := 384) (by decide +kernel), List.mem_of_getElem? (i := 385) (by decide +kernel)⟩
theorem lw_p4 : lw_okq (⟨"WordsLent", "learnCourse", "()V"⟩, 13) := ⟨⟨by decide +kernel, by decide +kernel⟩, List.mem_of_getElem? (i := 13) (by decide +kernel), List.mem_of_getElem? (i := 392) (by decide +kernel), List.mem_of_getElem? (i := 393) (by decide +kernel)⟩
theorem lw_p5 : lw_okq (⟨"WordsLent$Course", "beginWords", "(LWordsLent$Told;)V"⟩, 14) := ⟨⟨by decide +kernel, by decide +kernel⟩, List.mem_of_getElem? (i := 128) (by decide +kernel), List.mem_of_getElem? (i := 404) (by decide +kernel), List.mem_of_getElem? (i := 405) (by decide +kernel)⟩
theorem lw_p6 : lw_okq (⟨"WordsLent$Course", "beginPeople", "(LWordsLent$Told;)V"⟩, 14) := ⟨⟨by decide +kernel, by decide +kernel⟩, List.mem_of_getElem? (i := 128) (by decide +kernel), List.mem_of_getElem? (i := 412) (by decide +kernel), List.mem_of_getElem? (i := 413) (by decide +kernel)⟩
theorem lw_p7 : lw_okq (⟨"WordsLent$Course", "beginDays", "(LWordsLent$Told;LWordsLent$Echoes;I)V"⟩, 14) := ⟨⟨by decide +kernel, by decide +kernel⟩, List.mem_of_getElem? (i := 128) (by decide +kernel), List.mem_of_getElem? (i := 416) (by decide +kernel), List.mem_of_getElem? (i := 417) (by decide +kernel)⟩
theorem lw_p8 : lw_okq (⟨"WordsLent$Course", "growDebts", "(LWordsLent$Told;)V"⟩, 14) := ⟨⟨by decide +kernel, by decide +kernel⟩, List.mem_of_getElem? (i := 128) (by decide +kernel), List.mem_of_getElem? (i := 420) (by decide +kernel), List.mem_of_getElem? (i := 421) (by decide +kernel)⟩
theorem lw_p9 : lw_okq (⟨"WordsLent$Course", "holdMeetings", "(LWordsLent$Told;I)V"⟩, 14) := ⟨⟨by decide +kernel, by decide +kernel⟩, List.mem_of_getElem? (i := 128) (by decide +kernel), List.mem_of_getElem? (i := 425) (by decide +kernel), List.mem_of_getElem? (i := 426) (by decide +kernel)⟩
theorem lw_p10 : lw_okq (⟨"WordsLent$Course", "leastOpen", "(LWordsLent$Told;II)I"⟩, 14) := ⟨⟨by decide +kernel, by decide +kernel⟩, List.mem_of_getElem? (i := 128) (by decide +kernel), List.mem_of_getElem? (i := 429) (by decide +kernel), List.mem_of_getElem? (i := 430) (by decide +kernel)⟩
theorem lw_p11 : lw_okq (⟨"WordsLent$Course", "speak", "(IIII)V"⟩, 14) := ⟨⟨by decide +kernel, by decide +kernel⟩, List.mem_of_getElem? (i := 128) (by decide +kernel), List.mem_of_getElem? (i := 433) (by decide +kernel), List.mem_of_getElem? (i := 434) (by decide +kernel)⟩
theorem lw_p12 : lw_okq (⟨"WordsLent$Course", "bury", "(LWordsLent$Told;I)V"⟩, 14) := ⟨⟨by decide +kernel, by decide +kernel⟩, List.mem_of_getElem? (i := 128) (by decide +kernel), List.mem_of_getElem? (i := 437) (by decide +kernel), List.mem_of_getElem? (i := 438) (by decide +kernel)⟩
theorem lw_p13 : lw_okq (⟨"WordsLent$Course", "oneDebtOn", "(I)I"⟩, 14) := ⟨⟨by decide +kernel, by decide +kernel⟩, List.mem_of_getElem? (i := 128) (by decide +kernel), List.mem_of_getElem? (i := 496) (by decide +kernel), List.mem_of_getElem? (i := 497) (by decide +kernel)⟩
theorem lw_p14 : lw_okq (⟨"WordsLent", "sparedEchoes", "()I"⟩, 13) := ⟨⟨by decide +kernel, by decide +kernel⟩, List.mem_of_getElem? (i := 13) (by decide +kernel), List.mem_of_getElem? (i := 535) (by decide +kernel), List.mem_of_getElem? (i := 536) (by decide +kernel)⟩
theorem lw_p15 : lw_okq (⟨"WordsLent", "losesNothingWithout", "(I)Z"⟩, 13) := ⟨⟨by decide +kernel, by decide +kernel⟩, List.mem_of_getElem? (i := 13) (by decide +kernel), List.mem_of_getElem? (i := 539) (by decide +kernel), List.mem_of_getElem? (i := 540) (by decide +kernel)⟩
def lw_privs_1 : List (MethodName × Nat) := [(⟨"WordsLent$Text", "meaning", "(II)I"⟩, 5), (⟨"WordsLent", "tellAgain", "(I)V"⟩, 13), (⟨"WordsLent", "courseChanged", "()V"⟩, 13), (⟨"WordsLent", "finding", "(I)I"⟩, 13), (⟨"WordsLent", "learnCourse", "()V"⟩, 13), (⟨"WordsLent$Course", "beginWords", "(LWordsLent$Told;)V"⟩, 14), (⟨"WordsLent$Course", "beginPeople", "(LWordsLent$Told;)V"⟩, 14), (⟨"WordsLent$Course", "beginDays", "(LWordsLent$Told;LWordsLent$Echoes;I)V"⟩, 14), (⟨"WordsLent$Course", "growDebts", "(LWordsLent$Told;)V"⟩, 14), (⟨"WordsLent$Course", "holdMeetings", "(LWordsLent$Told;I)V"⟩, 14), (⟨"WordsLent$Course", "leastOpen", "(LWordsLent$Told;II)I"⟩, 14), (⟨"WordsLent$Course", "speak", "(IIII)V"⟩, 14), (⟨"WordsLent$Course", "bury", "(LWordsLent$Told;I)V"⟩, 14), (⟨"WordsLent$Course", "oneDebtOn", "(I)I"⟩, 14), (⟨"WordsLent", "sparedEchoes", "()I"⟩, 13), (⟨"WordsLent", "losesNothingWithout", "(I)Z"⟩, 13)]
theorem lw_r1 : ∀ q ∈ lw_privs_1, lw_okq q := List.forall_mem_cons.mpr ⟨lw_p0, List.forall_mem_cons.mpr ⟨lw_p1, List.forall_mem_cons.mpr ⟨lw_p2, List.forall_mem_cons.mpr ⟨lw_p3, List.forall_mem_cons.mpr ⟨lw_p4, List.forall_mem_cons.mpr ⟨lw_p5, List.forall_mem_cons.mpr ⟨lw_p6, List.forall_mem_cons.mpr ⟨lw_p7, List.forall_mem_cons.mpr ⟨lw_p8, List.forall_mem_cons.mpr ⟨lw_p9, List.forall_mem_cons.mpr ⟨lw_p10, List.forall_mem_cons.mpr ⟨lw_p11, List.forall_mem_cons.mpr ⟨lw_p12, List.forall_mem_cons.mpr ⟨lw_p13, List.forall_mem_cons.mpr ⟨lw_p14, List.forall_mem_cons.mpr ⟨lw_p15, fun _ h => absurd h List.not_mem_nil⟩⟩⟩⟩⟩⟩⟩⟩⟩⟩⟩⟩⟩⟩⟩⟩
theorem lw_p16 : lw_okq (⟨"WordsLent", "sortByWhatIsLeft", "(I)V"⟩, 13) := ⟨⟨by decide +kernel, by decide +kernel⟩, List.mem_of_getElem? (i := 13) (by decide +kernel), List.mem_of_getElem? (i := 585) (by decide +kernel), List.mem_of_getElem? (i := 586) (by decide +kernel)⟩
theorem lw_p17 : lw_okq (⟨"WordsLent", "mostAlike", "(I)I"⟩, 13) := ⟨⟨by decide +kernel, by decide +kernel⟩, List.mem_of_getElem? (i := 13) (by decide +kernel), List.mem_of_getElem? (i := 589) (by decide +kernel), List.mem_of_getElem? (i := 590) (by decide +kernel)⟩
theorem lw_p18 : lw_okq (⟨"WordsLent", "learnOdds", "()V"⟩, 13) := ⟨⟨by decide +kernel, by decide +kernel⟩, List.mem_of_getElem? (i := 13) (by decide +kernel), List.mem_of_getElem? (i := 601) (by decide +kernel), List.mem_of_getElem? (i := 602) (by decide +kernel)⟩
theorem lw_p19 : lw_okq (⟨"WordsLent", "digestWord", "(JI)J"⟩, 13) := ⟨⟨by decide +kernel, by decide +kernel⟩, List.mem_of_getElem? (i := 13) (by decide +kernel), List.mem_of_getElem? (i := 676) (by decide +kernel), List.mem_of_getElem? (i := 677) (by decide +kernel)⟩
theorem lw_p20 : lw_okq (⟨"WordsLent", "digestPerson", "(JI)J"⟩, 13) := ⟨⟨by decide +kernel, by decide +kernel⟩, List.mem_of_getElem? (i := 13) (by decide +kernel), List.mem_of_getElem? (i := 687) (by decide +kernel), List.mem_of_getElem? (i := 688) (by decide +kernel)⟩
theorem lw_p21 : lw_okq (⟨"WordsLentModel", "finds", "(I)I"⟩, 31) := ⟨⟨by decide +kernel, by decide +kernel⟩, List.mem_of_getElem? (i := 704) (by decide +kernel), List.mem_of_getElem? (i := 816) (by decide +kernel), List.mem_of_getElem? (i := 817) (by decide +kernel)⟩
theorem lw_p22 : lw_okq (⟨"WordsLentModel", "lacks", "(III)I"⟩, 31) := ⟨⟨by decide +kernel, by decide +kernel⟩, List.mem_of_getElem? (i := 704) (by decide +kernel), List.mem_of_getElem? (i := 828) (by decide +kernel), List.mem_of_getElem? (i := 829) (by decide +kernel)⟩
theorem lw_p23 : lw_okq (⟨"WordsLentModel", "readsText", "(I)I"⟩, 31) := ⟨⟨by decide +kernel, by decide +kernel⟩, List.mem_of_getElem? (i := 704) (by decide +kernel), List.mem_of_getElem? (i := 864) (by decide +kernel), List.mem_of_getElem? (i := 865) (by decide +kernel)⟩
theorem lw_p24 : lw_okq (⟨"WordsLentModel", "readsPeople", "()I"⟩, 31) := ⟨⟨by decide +kernel, by decide +kernel⟩, List.mem_of_getElem? (i := 704) (by decide +kernel), List.mem_of_getElem? (i := 868) (by decide +kernel), List.mem_of_getElem? (i := 869) (by decide +kernel)⟩
theorem lw_p25 : lw_okq (⟨"WordsLentModel", "readsWords", "()I"⟩, 31) := ⟨⟨by decide +kernel, by decide +kernel⟩, List.mem_of_getElem? (i := 704) (by decide +kernel), List.mem_of_getElem? (i := 880) (by decide +kernel), List.mem_of_getElem? (i := 881) (by decide +kernel)⟩
theorem lw_p26 : lw_okq (⟨"WordsLentModel", "readsMeetings", "()I"⟩, 31) := ⟨⟨by decide +kernel, by decide +kernel⟩, List.mem_of_getElem? (i := 704) (by decide +kernel), List.mem_of_getElem? (i := 890) (by decide +kernel), List.mem_of_getElem? (i := 891) (by decide +kernel)⟩
theorem lw_p27 : lw_okq (⟨"WordsLentModel", "isPerson", "(I)Z"⟩, 31) := ⟨⟨by decide +kernel, by decide +kernel⟩, List.mem_of_getElem? (i := 704) (by decide +kernel), List.mem_of_getElem? (i := 901) (by decide +kernel), List.mem_of_getElem? (i := 902) (by decide +kernel)⟩
theorem lw_p28 : lw_okq (⟨"WordsLentModel", "isWord", "(I)Z"⟩, 31) := ⟨⟨by decide +kernel, by decide +kernel⟩, List.mem_of_getElem? (i := 704) (by decide +kernel), List.mem_of_getElem? (i := 912) (by decide +kernel), List.mem_of_getElem? (i := 913) (by decide +kernel)⟩
theorem lw_p29 : lw_okq (⟨"WordsLentModel", "meetingBy", "(II)I"⟩, 31) := ⟨⟨by decide +kernel, by decide +kernel⟩, List.mem_of_getElem? (i := 704) (by decide +kernel), List.mem_of_getElem? (i := 921) (by decide +kernel), List.mem_of_getElem? (i := 922) (by decide +kernel)⟩
theorem lw_p30 : lw_okq (⟨"WordsLentModel", "find", "()V"⟩, 31) := ⟨⟨by decide +kernel, by decide +kernel⟩, List.mem_of_getElem? (i := 704) (by decide +kernel), List.mem_of_getElem? (i := 947) (by decide +kernel), List.mem_of_getElem? (i := 948) (by decide +kernel)⟩
theorem lw_p31 : lw_okq (⟨"WordsLentModel", "runs", "()V"⟩, 31) := ⟨⟨by decide +kernel, by decide +kernel⟩, List.mem_of_getElem? (i := 704) (by decide +kernel), List.mem_of_getElem? (i := 951) (by decide +kernel), List.mem_of_getElem? (i := 952) (by decide +kernel)⟩
def lw_privs_2 : List (MethodName × Nat) := [(⟨"WordsLent", "sortByWhatIsLeft", "(I)V"⟩, 13), (⟨"WordsLent", "mostAlike", "(I)I"⟩, 13), (⟨"WordsLent", "learnOdds", "()V"⟩, 13), (⟨"WordsLent", "digestWord", "(JI)J"⟩, 13), (⟨"WordsLent", "digestPerson", "(JI)J"⟩, 13), (⟨"WordsLentModel", "finds", "(I)I"⟩, 31), (⟨"WordsLentModel", "lacks", "(III)I"⟩, 31), (⟨"WordsLentModel", "readsText", "(I)I"⟩, 31), (⟨"WordsLentModel", "readsPeople", "()I"⟩, 31), (⟨"WordsLentModel", "readsWords", "()I"⟩, 31), (⟨"WordsLentModel", "readsMeetings", "()I"⟩, 31), (⟨"WordsLentModel", "isPerson", "(I)Z"⟩, 31), (⟨"WordsLentModel", "isWord", "(I)Z"⟩, 31), (⟨"WordsLentModel", "meetingBy", "(II)I"⟩, 31), (⟨"WordsLentModel", "find", "()V"⟩, 31), (⟨"WordsLentModel", "runs", "()V"⟩, 31)]
theorem lw_r2 : ∀ q ∈ lw_privs_2, lw_okq q := List.forall_mem_cons.mpr ⟨lw_p16, List.forall_mem_cons.mpr ⟨lw_p17, List.forall_mem_cons.mpr ⟨lw_p18, List.forall_mem_cons.mpr ⟨lw_p19, List.forall_mem_cons.mpr ⟨lw_p20, List.forall_mem_cons.mpr ⟨lw_p21, List.forall_mem_cons.mpr ⟨lw_p22, List.forall_mem_cons.mpr ⟨lw_p23, List.forall_mem_cons.mpr ⟨lw_p24, List.forall_mem_cons.mpr ⟨lw_p25, List.forall_mem_cons.mpr ⟨lw_p26, List.forall_mem_cons.mpr ⟨lw_p27, List.forall_mem_cons.mpr ⟨lw_p28, List.forall_mem_cons.mpr ⟨lw_p29, List.forall_mem_cons.mpr ⟨lw_p30, List.forall_mem_cons.mpr ⟨lw_p31, fun _ h => absurd h List.not_mem_nil⟩⟩⟩⟩⟩⟩⟩⟩⟩⟩⟩⟩⟩⟩⟩⟩
theorem lw_p32 : lw_okq (⟨"WordsLentModel", "passes", "(I)V"⟩, 31) := ⟨⟨by decide +kernel, by decide +kernel⟩, List.mem_of_getElem? (i := 704) (by decide +kernel), List.mem_of_getElem? (i := 955) (by decide +kernel), List.mem_of_getElem? (i := 956) (by decide +kernel)⟩
theorem lw_p33 : lw_okq (⟨"WordsLentModel", "grows", "()V"⟩, 31) := ⟨⟨by decide +kernel, by decide +kernel⟩, List.mem_of_getElem? (i := 704) (by decide +kernel), List.mem_of_getElem? (i := 959) (by decide +kernel), List.mem_of_getElem? (i := 960) (by decide +kernel)⟩
theorem lw_p34 : lw_okq (⟨"WordsLentModel", "talk", "(III)V"⟩, 31) := ⟨⟨by decide +kernel, by decide +kernel⟩, List.mem_of_getElem? (i := 704) (by decide +kernel), List.mem_of_getElem? (i := 966) (by decide +kernel), List.mem_of_getElem? (i := 967) (by decide +kernel)⟩
theorem lw_p35 : lw_okq (⟨"WordsLentModel", "isDead", "(II)Z"⟩, 31) := ⟨⟨by decide +kernel, by decide +kernel⟩, List.mem_of_getElem? (i := 704) (by decide +kernel), List.mem_of_getElem? (i := 970) (by decide +kernel), List.mem_of_getElem? (i := 971) (by decide +kernel)⟩
theorem lw_p36 : lw_okq (⟨"WordsLentModel", "says", "(III)V"⟩, 31) := ⟨⟨by decide +kernel, by decide +kernel⟩, List.mem_of_getElem? (i := 704) (by decide +kernel), List.mem_of_getElem? (i := 974) (by decide +kernel), List.mem_of_getElem? (i := 975) (by decide +kernel)⟩
theorem lw_p37 : lw_okq (⟨"WordsLentModel", "isEcho", "(II)Z"⟩, 31) := ⟨⟨by decide +kernel, by decide +kernel⟩, List.mem_of_getElem? (i := 704) (by decide +kernel), List.mem_of_getElem? (i := 978) (by decide +kernel), List.mem_of_getElem? (i := 979) (by decide +kernel)⟩
theorem lw_p38 : lw_okq (⟨"WordsLentModel", "dies", "(I)V"⟩, 31) := ⟨⟨by decide +kernel, by decide +kernel⟩, List.mem_of_getElem? (i := 704) (by decide +kernel), List.mem_of_getElem? (i := 988) (by decide +kernel), List.mem_of_getElem? (i := 989) (by decide +kernel)⟩
theorem lw_p39 : lw_okq (⟨"WordsLentModel", "standsBy", "(III)I"⟩, 31) := ⟨⟨by decide +kernel, by decide +kernel⟩, List.mem_of_getElem? (i := 704) (by decide +kernel), List.mem_of_getElem? (i := 992) (by decide +kernel), List.mem_of_getElem? (i := 993) (by decide +kernel)⟩
theorem lw_p40 : lw_okq (⟨"WordsLentModel", "atOf", "(III)I"⟩, 31) := ⟨⟨by decide +kernel, by decide +kernel⟩, List.mem_of_getElem? (i := 704) (by decide +kernel), List.mem_of_getElem? (i := 1000) (by decide +kernel), List.mem_of_getElem? (i := 1001) (by decide +kernel)⟩
theorem lw_p41 : lw_okq (⟨"WordsLentModel", "openOf", "(III)I"⟩, 31) := ⟨⟨by decide +kernel, by decide +kernel⟩, List.mem_of_getElem? (i := 704) (by decide +kernel), List.mem_of_getElem? (i := 1004) (by decide +kernel), List.mem_of_getElem? (i := 1005) (by decide +kernel)⟩
theorem lw_p42 : lw_okq (⟨"WordsLentModel", "clearOf", "(I)I"⟩, 31) := ⟨⟨by decide +kernel, by decide +kernel⟩, List.mem_of_getElem? (i := 704) (by decide +kernel), List.mem_of_getElem? (i := 1012) (by decide +kernel), List.mem_of_getElem? (i := 1013) (by decide +kernel)⟩
theorem lw_p43 : lw_okq (⟨"WordsLentModel", "isLost", "(II)Z"⟩, 31) := ⟨⟨by decide +kernel, by decide +kernel⟩, List.mem_of_getElem? (i := 704) (by decide +kernel), List.mem_of_getElem? (i := 1016) (by decide +kernel), List.mem_of_getElem? (i := 1017) (by decide +kernel)⟩
theorem lw_p44 : lw_okq (⟨"WordsLentModel", "bankOf", "(I)I"⟩, 31) := ⟨⟨by decide +kernel, by decide +kernel⟩, List.mem_of_getElem? (i := 704) (by decide +kernel), List.mem_of_getElem? (i := 1024) (by decide +kernel), List.mem_of_getElem? (i := 1025) (by decide +kernel)⟩
theorem lw_p45 : lw_okq (⟨"WordsLentModel", "ringOf", "(II)I"⟩, 31) := ⟨⟨by decide +kernel, by decide +kernel⟩, List.mem_of_getElem? (i := 704) (by decide +kernel), List.mem_of_getElem? (i := 1032) (by decide +kernel), List.mem_of_getElem? (i := 1033) (by decide +kernel)⟩
theorem lw_p46 : lw_okq (⟨"WordsLentModel", "debts", "(I)V"⟩, 31) := ⟨⟨by decide +kernel, by decide +kernel⟩, List.mem_of_getElem? (i := 704) (by decide +kernel), List.mem_of_getElem? (i := 1036) (by decide +kernel), List.mem_of_getElem? (i := 1037) (by decide +kernel)⟩
theorem lw_p47 : lw_okq (⟨"WordsLentModel", "ringWith", "(I)I"⟩, 31) := ⟨⟨by decide +kernel, by decide +kernel⟩, List.mem_of_getElem? (i := 704) (by decide +kernel), List.mem_of_getElem? (i := 1040) (by decide +kernel), List.mem_of_getElem? (i := 1041) (by decide +kernel)⟩
def lw_privs_3 : List (MethodName × Nat) := [(⟨"WordsLentModel", "passes", "(I)V"⟩, 31), (⟨"WordsLentModel", "grows", "()V"⟩, 31), (⟨"WordsLentModel", "talk", "(III)V"⟩, 31), (⟨"WordsLentModel", "isDead", "(II)Z"⟩, 31), (⟨"WordsLentModel", "says", "(III)V"⟩, 31), (⟨"WordsLentModel", "isEcho", "(II)Z"⟩, 31), (⟨"WordsLentModel", "dies", "(I)V"⟩, 31), (⟨"WordsLentModel", "standsBy", "(III)I"⟩, 31), (⟨"WordsLentModel", "atOf", "(III)I"⟩, 31), (⟨"WordsLentModel", "openOf", "(III)I"⟩, 31), (⟨"WordsLentModel", "clearOf", "(I)I"⟩, 31), (⟨"WordsLentModel", "isLost", "(II)Z"⟩, 31), (⟨"WordsLentModel", "bankOf", "(I)I"⟩, 31), (⟨"WordsLentModel", "ringOf", "(II)I"⟩, 31), (⟨"WordsLentModel", "debts", "(I)V"⟩, 31), (⟨"WordsLentModel", "ringWith", "(I)I"⟩, 31)]
theorem lw_r3 : ∀ q ∈ lw_privs_3, lw_okq q := List.forall_mem_cons.mpr ⟨lw_p32, List.forall_mem_cons.mpr ⟨lw_p33, List.forall_mem_cons.mpr ⟨lw_p34, List.forall_mem_cons.mpr ⟨lw_p35, List.forall_mem_cons.mpr ⟨lw_p36, List.forall_mem_cons.mpr ⟨lw_p37, List.forall_mem_cons.mpr ⟨lw_p38, List.forall_mem_cons.mpr ⟨lw_p39, List.forall_mem_cons.mpr ⟨lw_p40, List.forall_mem_cons.mpr ⟨lw_p41, List.forall_mem_cons.mpr ⟨lw_p42, List.forall_mem_cons.mpr ⟨lw_p43, List.forall_mem_cons.mpr ⟨lw_p44, List.forall_mem_cons.mpr ⟨lw_p45, List.forall_mem_cons.mpr ⟨lw_p46, List.forall_mem_cons.mpr ⟨lw_p47, fun _ h => absurd h List.not_mem_nil⟩⟩⟩⟩⟩⟩⟩⟩⟩⟩⟩⟩⟩⟩⟩⟩
theorem lw_p48 : lw_okq (⟨"WordsLentModel", "silentNow", "()I"⟩, 31) := ⟨⟨by decide +kernel, by decide +kernel⟩, List.mem_of_getElem? (i := 704) (by decide +kernel), List.mem_of_getElem? (i := 1048) (by decide +kernel), List.mem_of_getElem? (i := 1049) (by decide +kernel)⟩
theorem lw_p49 : lw_okq (⟨"WordsLentModel", "meetOf", "(II)I"⟩, 31) := ⟨⟨by decide +kernel, by decide +kernel⟩, List.mem_of_getElem? (i := 704) (by decide +kernel), List.mem_of_getElem? (i := 1056) (by decide +kernel), List.mem_of_getElem? (i := 1057) (by decide +kernel)⟩
theorem lw_p50 : lw_okq (⟨"WordsLentModel", "owedYet", "()I"⟩, 31) := ⟨⟨by decide +kernel, by decide +kernel⟩, List.mem_of_getElem? (i := 704) (by decide +kernel), List.mem_of_getElem? (i := 1060) (by decide +kernel), List.mem_of_getElem? (i := 1061) (by decide +kernel)⟩
theorem lw_p51 : lw_okq (⟨"WordsLentModel", "liveOf", "(I)I"⟩, 31) := ⟨⟨by decide +kernel, by decide +kernel⟩, List.mem_of_getElem? (i := 704) (by decide +kernel), List.mem_of_getElem? (i := 1068) (by decide +kernel), List.mem_of_getElem? (i := 1069) (by decide +kernel)⟩
theorem lw_p52 : lw_okq (⟨"WordsLentModel", "voiceBy", "(I)I"⟩, 31) := ⟨⟨by decide +kernel, by decide +kernel⟩, List.mem_of_getElem? (i := 704) (by decide +kernel), List.mem_of_getElem? (i := 1076) (by decide +kernel), List.mem_of_getElem? (i := 1077) (by decide +kernel)⟩
theorem lw_p53 : lw_okq (⟨"WordsLentModel", "many", "(I)I"⟩, 31) := ⟨⟨by decide +kernel, by decide +kernel⟩, List.mem_of_getElem? (i := 704) (by decide +kernel), List.mem_of_getElem? (i := 1080) (by decide +kernel), List.mem_of_getElem? (i := 1081) (by decide +kernel)⟩
theorem lw_p54 : lw_okq (⟨"WordsLentModel", "spareBy", "(I)I"⟩, 31) := ⟨⟨by decide +kernel, by decide +kernel⟩, List.mem_of_getElem? (i := 704) (by decide +kernel), List.mem_of_getElem? (i := 1089) (by decide +kernel), List.mem_of_getElem? (i := 1090) (by decide +kernel)⟩
theorem lw_p55 : lw_okq (⟨"WordsLentModel", "isSpared", "(I)Z"⟩, 31) := ⟨⟨by decide +kernel, by decide +kernel⟩, List.mem_of_getElem? (i := 704) (by decide +kernel), List.mem_of_getElem? (i := 1093) (by decide +kernel), List.mem_of_getElem? (i := 1094) (by decide +kernel)⟩
theorem lw_p56 : lw_okq (⟨"WordsLentModel", "neverNow", "()I"⟩, 31) := ⟨⟨by decide +kernel, by decide +kernel⟩, List.mem_of_getElem? (i := 704) (by decide +kernel), List.mem_of_getElem? (i := 1110) (by decide +kernel), List.mem_of_getElem? (i := 1111) (by decide +kernel)⟩
theorem lw_p57 : lw_okq (⟨"WordsLentModel", "isCounted", "()Z"⟩, 31) := ⟨⟨by decide +kernel, by decide +kernel⟩, List.mem_of_getElem? (i := 704) (by decide +kernel), List.mem_of_getElem? (i := 1114) (by decide +kernel), List.mem_of_getElem? (i := 1115) (by decide +kernel)⟩
theorem lw_p58 : lw_okq (⟨"WordsLentModel", "sortOf", "(I)I"⟩, 31) := ⟨⟨by decide +kernel, by decide +kernel⟩, List.mem_of_getElem? (i := 704) (by decide +kernel), List.mem_of_getElem? (i := 1122) (by decide +kernel), List.mem_of_getElem? (i := 1123) (by decide +kernel)⟩
theorem lw_p59 : lw_okq (⟨"WordsLentModel", "lentOf", "(I)I"⟩, 31) := ⟨⟨by decide +kernel, by decide +kernel⟩, List.mem_of_getElem? (i := 704) (by decide +kernel), List.mem_of_getElem? (i := 1130) (by decide +kernel), List.mem_of_getElem? (i := 1131) (by decide +kernel)⟩
theorem lw_p60 : lw_okq (⟨"WordsLentModel", "askOf", "(I)I"⟩, 31) := ⟨⟨by decide +kernel, by decide +kernel⟩, List.mem_of_getElem? (i := 704) (by decide +kernel), List.mem_of_getElem? (i := 1138) (by decide +kernel), List.mem_of_getElem? (i := 1139) (by decide +kernel)⟩
theorem lw_p61 : lw_okq (⟨"WordsLentModel", "alike", "(II)I"⟩, 31) := ⟨⟨by decide +kernel, by decide +kernel⟩, List.mem_of_getElem? (i := 704) (by decide +kernel), List.mem_of_getElem? (i := 1142) (by decide +kernel), List.mem_of_getElem? (i := 1143) (by decide +kernel)⟩
theorem lw_p62 : lw_okq (⟨"WordsLentModel", "chanceOf", "(III)J"⟩, 31) := ⟨⟨by decide +kernel, by decide +kernel⟩, List.mem_of_getElem? (i := 704) (by decide +kernel), List.mem_of_getElem? (i := 1151) (by decide +kernel), List.mem_of_getElem? (i := 1152) (by decide +kernel)⟩
theorem lw_p63 : lw_okq (⟨"WordsLentModel", "livesOf", "(III)I"⟩, 31) := ⟨⟨by decide +kernel, by decide +kernel⟩, List.mem_of_getElem? (i := 704) (by decide +kernel), List.mem_of_getElem? (i := 1167) (by decide +kernel), List.mem_of_getElem? (i := 1168) (by decide +kernel)⟩
def lw_privs_4 : List (MethodName × Nat) := [(⟨"WordsLentModel", "silentNow", "()I"⟩, 31), (⟨"WordsLentModel", "meetOf", "(II)I"⟩, 31), (⟨"WordsLentModel", "owedYet", "()I"⟩, 31), (⟨"WordsLentModel", "liveOf", "(I)I"⟩, 31), (⟨"WordsLentModel", "voiceBy", "(I)I"⟩, 31), (⟨"WordsLentModel", "many", "(I)I"⟩, 31), (⟨"WordsLentModel", "spareBy", "(I)I"⟩, 31), (⟨"WordsLentModel", "isSpared", "(I)Z"⟩, 31), (⟨"WordsLentModel", "neverNow", "()I"⟩, 31), (⟨"WordsLentModel", "isCounted", "()Z"⟩, 31), (⟨"WordsLentModel", "sortOf", "(I)I"⟩, 31), (⟨"WordsLentModel", "lentOf", "(I)I"⟩, 31), (⟨"WordsLentModel", "askOf", "(I)I"⟩, 31), (⟨"WordsLentModel", "alike", "(II)I"⟩, 31), (⟨"WordsLentModel", "chanceOf", "(III)J"⟩, 31), (⟨"WordsLentModel", "livesOf", "(III)I"⟩, 31)]
theorem lw_r4 : ∀ q ∈ lw_privs_4, lw_okq q := List.forall_mem_cons.mpr ⟨lw_p48, List.forall_mem_cons.mpr ⟨lw_p49, List.forall_mem_cons.mpr ⟨lw_p50, List.forall_mem_cons.mpr ⟨lw_p51, List.forall_mem_cons.mpr ⟨lw_p52, List.forall_mem_cons.mpr ⟨lw_p53, List.forall_mem_cons.mpr ⟨lw_p54, List.forall_mem_cons.mpr ⟨lw_p55, List.forall_mem_cons.mpr ⟨lw_p56, List.forall_mem_cons.mpr ⟨lw_p57, List.forall_mem_cons.mpr ⟨lw_p58, List.forall_mem_cons.mpr ⟨lw_p59, List.forall_mem_cons.mpr ⟨lw_p60, List.forall_mem_cons.mpr ⟨lw_p61, List.forall_mem_cons.mpr ⟨lw_p62, List.forall_mem_cons.mpr ⟨lw_p63, fun _ h => absurd h List.not_mem_nil⟩⟩⟩⟩⟩⟩⟩⟩⟩⟩⟩⟩⟩⟩⟩⟩
theorem lw_p64 : lw_okq (⟨"WordsLentModel", "lot", "(I)I"⟩, 31) := ⟨⟨by decide +kernel, by decide +kernel⟩, List.mem_of_getElem? (i := 704) (by decide +kernel), List.mem_of_getElem? (i := 1171) (by decide +kernel), List.mem_of_getElem? (i := 1172) (by decide +kernel)⟩
theorem lw_p65 : lw_okq (⟨"WordsLentModel", "tellsWord", "(JI)J"⟩, 31) := ⟨⟨by decide +kernel, by decide +kernel⟩, List.mem_of_getElem? (i := 704) (by decide +kernel), List.mem_of_getElem? (i := 1191) (by decide +kernel), List.mem_of_getElem? (i := 1192) (by decide +kernel)⟩
theorem lw_p66 : lw_okq (⟨"WordsLentModel", "tellsDay", "(JII)J"⟩, 31) := ⟨⟨by decide +kernel, by decide +kernel⟩, List.mem_of_getElem? (i := 704) (by decide +kernel), List.mem_of_getElem? (i := 1195) (by decide +kernel), List.mem_of_getElem? (i := 1196) (by decide +kernel)⟩
theorem lw_p67 : lw_okq (⟨"WordsLentModel", "tellsPerson", "(JI)J"⟩, 31) := ⟨⟨by decide +kernel, by decide +kernel⟩, List.mem_of_getElem? (i := 704) (by decide +kernel), List.mem_of_getElem? (i := 1199) (by decide +kernel), List.mem_of_getElem? (i := 1200) (by decide +kernel)⟩
def lw_privs_5 : List (MethodName × Nat) := [(⟨"WordsLentModel", "lot", "(I)I"⟩, 31), (⟨"WordsLentModel", "tellsWord", "(JI)J"⟩, 31), (⟨"WordsLentModel", "tellsDay", "(JII)J"⟩, 31), (⟨"WordsLentModel", "tellsPerson", "(JI)J"⟩, 31)]
theorem lw_r5 : ∀ q ∈ lw_privs_5, lw_okq q := List.forall_mem_cons.mpr ⟨lw_p64, List.forall_mem_cons.mpr ⟨lw_p65, List.forall_mem_cons.mpr ⟨lw_p66, List.forall_mem_cons.mpr ⟨lw_p67, fun _ h => absurd h List.not_mem_nil⟩⟩⟩⟩
def lw_privs : List (MethodName × Nat) := lw_privs_1 ++ (lw_privs_2 ++ (lw_privs_3 ++ (lw_privs_4 ++ (lw_privs_5))))
def lw_tbl : List Cond := k2_sels lw_privs ++ tables_1
theorem lw_privs_ok : ∀ q ∈ lw_privs, lw_okq q := by
  show ∀ q ∈ lw_privs_1 ++ (lw_privs_2 ++ (lw_privs_3 ++ (lw_privs_4 ++ (lw_privs_5)))), lw_okq q
  exact List.forall_mem_append.mpr ⟨lw_r1, List.forall_mem_append.mpr ⟨lw_r2, List.forall_mem_append.mpr ⟨lw_r3, List.forall_mem_append.mpr ⟨lw_r4, lw_r5⟩⟩⟩⟩
end
section
def RX0 : String := "WordsLent$Counted"
def TX0 : u_T := fun k => match k with
  | 0 => ("WordsLent$Counted", "days", "[I", true)
  | 1 => ("WordsLent$Counted", "whichWords", "[I", true)
  | 2 => ("WordsLent$Counted", "lefts", "[I", true)
  | _ => ("WordsLent$Counted", "held", "I", false)
def tyX0 : Nat → FieldType := fun k => match k with
  | 0 => .array .int
  | 1 => .array .int
  | 2 => .array .int
  | _ => .int
abbrev wsX00 : List Cond := u_ws RX0 TX0 4
theorem nmX0 : ∀ a, a < 4 → ∀ b, b < 4 → a ≠ b → (TX0 a).2.1 ≠ (TX0 b).2.1 := by decide +kernel
theorem tyX0_ok : ∀ k, k < 4 → parseFieldDescriptor (TX0 k).2.2.1 = some (tyX0 k) := by decide +kernel
abbrev cX0_init : ByteArray := prog_2_method_1_code
def yX0_init : MethodName := ⟨RX0, "<init>", "()V"⟩
abbrev cX0_append : ByteArray := prog_2_method_2_code
def yX0_append : MethodName := ⟨RX0, "append", "(III)V"⟩
abbrev cX0_comesOut : ByteArray := prog_2_method_3_code
def yX0_comesOut : MethodName := ⟨RX0, "comesOut", "(LWordsLent$Course;)Z"⟩
def RX1 : String := "WordsLent$Course"
def TX1 : u_T := fun k => match k with
  | 0 => ("WordsLent$Course", "words", "I", false)
  | 1 => ("WordsLent$Course", "state", "[I", true)
  | 2 => ("WordsLent$Course", "left", "[I", true)
  | 3 => ("WordsLent$Course", "said", "[I", true)
  | 4 => ("WordsLent$Course", "occasions", "[I", true)
  | 5 => ("WordsLent$Course", "dead", "I", false)
  | 6 => ("WordsLent$Course", "echoing", "[I", true)
  | 7 => ("WordsLent$Course", "dying", "[I", true)
  | 8 => ("WordsLent$Course", "firstMeeting", "[I", true)
  | 9 => ("WordsLent$Course", "nextMeeting", "[I", true)
  | 10 => ("WordsLent$Course", "states", "[I", true)
  | 11 => ("WordsLent$Course", "lefts", "[I", true)
  | 12 => ("WordsLent$Course", "saids", "[I", true)
  | _ => ("WordsLent$Course", "owesTo", "[I", true)
def tyX1 : Nat → FieldType := fun k => match k with
  | 0 => .int
  | 1 => .array .int
  | 2 => .array .int
  | 3 => .array .int
  | 4 => .array .int
  | 5 => .int
  | 6 => .array .int
  | 7 => .array .int
  | 8 => .array .int
  | 9 => .array .int
  | 10 => .array .int
  | 11 => .array .int
  | 12 => .array .int
  | _ => .array .int
abbrev wsX10 : List Cond := u_ws RX1 TX1 14
theorem nmX1 : ∀ a, a < 14 → ∀ b, b < 14 → a ≠ b → (TX1 a).2.1 ≠ (TX1 b).2.1 := by decide +kernel
theorem tyX1_ok : ∀ k, k < 14 → parseFieldDescriptor (TX1 k).2.2.1 = some (tyX1 k) := by decide +kernel
abbrev cX1_init : ByteArray := prog_3_method_1_code
def yX1_init : MethodName := ⟨RX1, "<init>", "()V"⟩
abbrev cX1_run : ByteArray := prog_3_method_2_code
def yX1_run : MethodName := ⟨RX1, "run", "(LWordsLent$Told;LWordsLent$Echoes;I)V"⟩
abbrev cX1_beginWords : ByteArray := prog_3_method_3_code
def yX1_beginWords : MethodName := ⟨RX1, "beginWords", "(LWordsLent$Told;)V"⟩
abbrev cX1_beginPeople : ByteArray := prog_3_method_4_code
def yX1_beginPeople : MethodName := ⟨RX1, "beginPeople", "(LWordsLent$Told;)V"⟩
abbrev cX1_beginDays : ByteArray := prog_3_method_5_code
def yX1_beginDays : MethodName := ⟨RX1, "beginDays", "(LWordsLent$Told;LWordsLent$Echoes;I)V"⟩
abbrev cX1_growDebts : ByteArray := prog_3_method_6_code
def yX1_growDebts : MethodName := ⟨RX1, "growDebts", "(LWordsLent$Told;)V"⟩
abbrev cX1_holdMeetings : ByteArray := prog_3_method_7_code
def yX1_holdMeetings : MethodName := ⟨RX1, "holdMeetings", "(LWordsLent$Told;I)V"⟩
abbrev cX1_speak : ByteArray := prog_3_method_8_code
def yX1_speak : MethodName := ⟨RX1, "speak", "(IIII)V"⟩
abbrev cX1_leastOpen : ByteArray := prog_3_method_9_code
def yX1_leastOpen : MethodName := ⟨RX1, "leastOpen", "(LWordsLent$Told;II)I"⟩
abbrev cX1_bury : ByteArray := prog_3_method_10_code
def yX1_bury : MethodName := ⟨RX1, "bury", "(LWordsLent$Told;I)V"⟩
abbrev cX1_stateBehind : ByteArray := prog_3_method_11_code
def yX1_stateBehind : MethodName := ⟨RX1, "stateBehind", "(II)I"⟩
abbrev cX1_leftBehind : ByteArray := prog_3_method_12_code
def yX1_leftBehind : MethodName := ⟨RX1, "leftBehind", "(II)I"⟩
abbrev cX1_saidBehind : ByteArray := prog_3_method_13_code
def yX1_saidBehind : MethodName := ⟨RX1, "saidBehind", "(II)I"⟩
abbrev cX1_openUses : ByteArray := prog_3_method_14_code
def yX1_openUses : MethodName := ⟨RX1, "openUses", "(I[II)I"⟩
abbrev cX1_hasLost : ByteArray := prog_3_method_15_code
def yX1_hasLost : MethodName := ⟨RX1, "hasLost", "(LWordsLent$Told;II)Z"⟩
abbrev cX1_owesNothing : ByteArray := prog_3_method_16_code
def yX1_owesNothing : MethodName := ⟨RX1, "owesNothing", "(LWordsLent$Told;II)Z"⟩
abbrev cX1_openOrLostUses : ByteArray := prog_3_method_17_code
def yX1_openOrLostUses : MethodName := ⟨RX1, "openOrLostUses", "()I"⟩
abbrev cX1_wordsThatAre : ByteArray := prog_3_method_18_code
def yX1_wordsThatAre : MethodName := ⟨RX1, "wordsThatAre", "(I)I"⟩
abbrev cX1_followDebts : ByteArray := prog_3_method_19_code
def yX1_followDebts : MethodName := ⟨RX1, "followDebts", "(LWordsLent$Told;I)V"⟩
abbrev cX1_stepsAround : ByteArray := prog_3_method_20_code
def yX1_stepsAround : MethodName := ⟨RX1, "stepsAround", "(I)I"⟩
abbrev cX1_oneDebtOn : ByteArray := prog_3_method_21_code
def yX1_oneDebtOn : MethodName := ⟨RX1, "oneDebtOn", "(I)I"⟩
def RX2 : String := "WordsLent$Echoes"
def TX2 : u_T := fun k => match k with
  | 0 => ("WordsLent$Echoes", "days", "[I", true)
  | 1 => ("WordsLent$Echoes", "speakers", "[I", true)
  | _ => ("WordsLent$Echoes", "held", "I", false)
def tyX2 : Nat → FieldType := fun k => match k with
  | 0 => .array .int
  | 1 => .array .int
  | _ => .int
abbrev wsX20 : List Cond := u_ws RX2 TX2 3
theorem nmX2 : ∀ a, a < 3 → ∀ b, b < 3 → a ≠ b → (TX2 a).2.1 ≠ (TX2 b).2.1 := by decide +kernel
theorem tyX2_ok : ∀ k, k < 3 → parseFieldDescriptor (TX2 k).2.2.1 = some (tyX2 k) := by decide +kernel
abbrev cX2_init : ByteArray := prog_4_method_1_code
def yX2_init : MethodName := ⟨RX2, "<init>", "()V"⟩
abbrev cX2_mayBe : ByteArray := prog_4_method_2_code
def yX2_mayBe : MethodName := ⟨RX2, "mayBe", "(II)Z"⟩
abbrev cX2_isFull : ByteArray := prog_4_method_3_code
def yX2_isFull : MethodName := ⟨RX2, "isFull", "()Z"⟩
abbrev cX2_append : ByteArray := prog_4_method_4_code
def yX2_append : MethodName := ⟨RX2, "append", "(II)V"⟩
abbrev cX2_all : ByteArray := prog_4_method_5_code
def yX2_all : MethodName := ⟨RX2, "all", "()I"⟩
def RX3 : String := "WordsLent$Sheet"
def TX3 : u_T := fun k => match k with
  | 0 => ("WordsLent$Sheet", "items", "[I", true)
  | 1 => ("WordsLent$Sheet", "form", "I", false)
  | _ => ("WordsLent$Sheet", "size", "I", false)
def tyX3 : Nat → FieldType := fun k => match k with
  | 0 => .array .int
  | 1 => .int
  | _ => .int
abbrev wsX30 : List Cond := u_ws RX3 TX3 3
theorem nmX3 : ∀ a, a < 3 → ∀ b, b < 3 → a ≠ b → (TX3 a).2.1 ≠ (TX3 b).2.1 := by decide +kernel
theorem tyX3_ok : ∀ k, k < 3 → parseFieldDescriptor (TX3 k).2.2.1 = some (tyX3 k) := by decide +kernel
abbrev cX3_init : ByteArray := prog_5_method_1_code
def yX3_init : MethodName := ⟨RX3, "<init>", "()V"⟩
abbrev cX3_isLost : ByteArray := prog_5_method_2_code
def yX3_isLost : MethodName := ⟨RX3, "isLost", "()Z"⟩
abbrev cX3_begin : ByteArray := prog_5_method_3_code
def yX3_begin : MethodName := ⟨RX3, "begin", "(II)V"⟩
abbrev cX3_put : ByteArray := prog_5_method_4_code
def yX3_put : MethodName := ⟨RX3, "put", "(II)V"⟩
abbrev cX3_hasItems : ByteArray := prog_5_method_5_code
def yX3_hasItems : MethodName := ⟨RX3, "hasItems", "(II)Z"⟩
def RX4 : String := "WordsLent$Text"
def TX4 : u_T := fun k => match k with
  | 0 => ("WordsLent$Text", "kind", "I", true)
  | 1 => ("WordsLent$Text", "span", "I", true)
  | 2 => ("WordsLent$Text", "meanings", "[I", true)
  | 3 => ("WordsLent$Text", "length", "I", false)
  | _ => ("WordsLent$Text", "firstWrong", "I", false)
def tyX4 : Nat → FieldType := fun k => match k with
  | 0 => .int
  | 1 => .int
  | 2 => .array .int
  | 3 => .int
  | _ => .int
abbrev wsX40 : List Cond := u_ws RX4 TX4 5
theorem nmX4 : ∀ a, a < 5 → ∀ b, b < 5 → a ≠ b → (TX4 a).2.1 ≠ (TX4 b).2.1 := by decide +kernel
theorem tyX4_ok : ∀ k, k < 5 → parseFieldDescriptor (TX4 k).2.2.1 = some (tyX4 k) := by decide +kernel
abbrev cX4_init : ByteArray := prog_6_method_1_code
def yX4_init : MethodName := ⟨RX4, "<init>", "(I)V"⟩
abbrev cX4_size : ByteArray := prog_6_method_2_code
def yX4_size : MethodName := ⟨RX4, "size", "()I"⟩
abbrev cX4_isFull : ByteArray := prog_6_method_3_code
def yX4_isFull : MethodName := ⟨RX4, "isFull", "()Z"⟩
abbrev cX4_append : ByteArray := prog_6_method_4_code
def yX4_append : MethodName := ⟨RX4, "append", "(I)V"⟩
abbrev cX4_cutTo : ByteArray := prog_6_method_5_code
def yX4_cutTo : MethodName := ⟨RX4, "cutTo", "(I)V"⟩
abbrev cX4_faultPlace : ByteArray := prog_6_method_6_code
def yX4_faultPlace : MethodName := ⟨RX4, "faultPlace", "()I"⟩
abbrev cX4_things : ByteArray := prog_6_method_7_code
def yX4_things : MethodName := ⟨RX4, "things", "()I"⟩
abbrev cX4_valueOf : ByteArray := prog_6_method_8_code
def yX4_valueOf : MethodName := ⟨RX4, "valueOf", "(II)I"⟩
abbrev cX4_meaning : ByteArray := prog_6_method_9_code
def yX4_meaning : MethodName := ⟨RX4, "meaning", "(II)I"⟩
abbrev cX4_sortOf : ByteArray := prog_6_method_10_code
def yX4_sortOf : MethodName := ⟨RX4, "sortOf", "(I)I"⟩
abbrev cX4_within : ByteArray := prog_6_method_11_code
def yX4_within : MethodName := ⟨RX4, "within", "(IIII)I"⟩
def RX5 : String := "WordsLent$Told"
def TX5 : u_T := fun k => match k with
  | 0 => ("WordsLent$Told", "people", "I", false)
  | 1 => ("WordsLent$Told", "sorts", "[I", true)
  | 2 => ("WordsLent$Told", "dies", "[I", true)
  | 3 => ("WordsLent$Told", "words", "I", false)
  | 4 => ("WordsLent$Told", "lenders", "[I", true)
  | 5 => ("WordsLent$Told", "debtors", "[I", true)
  | 6 => ("WordsLent$Told", "uses", "[I", true)
  | 7 => ("WordsLent$Told", "meetings", "I", false)
  | 8 => ("WordsLent$Told", "days", "[I", true)
  | 9 => ("WordsLent$Told", "firsts", "[I", true)
  | _ => ("WordsLent$Told", "others", "[I", true)
def tyX5 : Nat → FieldType := fun k => match k with
  | 0 => .int
  | 1 => .array .int
  | 2 => .array .int
  | 3 => .int
  | 4 => .array .int
  | 5 => .array .int
  | 6 => .array .int
  | 7 => .int
  | 8 => .array .int
  | 9 => .array .int
  | _ => .array .int
abbrev wsX50 : List Cond := u_ws RX5 TX5 11
theorem nmX5 : ∀ a, a < 11 → ∀ b, b < 11 → a ≠ b → (TX5 a).2.1 ≠ (TX5 b).2.1 := by decide +kernel
theorem tyX5_ok : ∀ k, k < 11 → parseFieldDescriptor (TX5 k).2.2.1 = some (tyX5 k) := by decide +kernel
abbrev cX5_init : ByteArray := prog_7_method_1_code
def yX5_init : MethodName := ⟨RX5, "<init>", "()V"⟩
abbrev cX5_readPeople : ByteArray := prog_7_method_2_code
def yX5_readPeople : MethodName := ⟨RX5, "readPeople", "(LWordsLent$Text;)V"⟩
abbrev cX5_readWords : ByteArray := prog_7_method_3_code
def yX5_readWords : MethodName := ⟨RX5, "readWords", "(LWordsLent$Text;)V"⟩
abbrev cX5_readMeetings : ByteArray := prog_7_method_4_code
def yX5_readMeetings : MethodName := ⟨RX5, "readMeetings", "(LWordsLent$Text;)V"⟩
abbrev cX5_addMeeting : ByteArray := prog_7_method_5_code
def yX5_addMeeting : MethodName := ⟨RX5, "addMeeting", "(III)V"⟩
abbrev cX5_drawMeetings : ByteArray := prog_7_method_6_code
def yX5_drawMeetings : MethodName := ⟨RX5, "drawMeetings", "(II)V"⟩
abbrev cX5_nextSeed : ByteArray := prog_7_method_7_code
def yX5_nextSeed : MethodName := ⟨RX5, "nextSeed", "(I)I"⟩
abbrev cX5_becomeLike : ByteArray := prog_7_method_8_code
def yX5_becomeLike : MethodName := ⟨RX5, "becomeLike", "(LWordsLent$Told;)V"⟩
abbrev cX5_areTwo : ByteArray := prog_7_method_9_code
def yX5_areTwo : MethodName := ⟨RX5, "areTwo", "(II)Z"⟩
def RX6 : String := "WordsLent"
def TX6 : u_T := fun k => match k with
  | 0 => ("WordsLent", "texts", "[LWordsLent$Text;", true)
  | 1 => ("WordsLent", "echoes", "LWordsLent$Echoes;", true)
  | 2 => ("WordsLent", "counted", "LWordsLent$Counted;", true)
  | 3 => ("WordsLent", "sheets", "[LWordsLent$Sheet;", true)
  | 4 => ("WordsLent", "told", "LWordsLent$Told;", true)
  | 5 => ("WordsLent", "course", "LWordsLent$Course;", true)
  | 6 => ("WordsLent", "trial", "LWordsLent$Told;", true)
  | 7 => ("WordsLent", "tried", "LWordsLent$Course;", true)
  | 8 => ("WordsLent", "alike", "[I", true)
  | 9 => ("WordsLent", "paidBy", "[I", true)
  | 10 => ("WordsLent", "courseIsKnown", "Z", false)
  | 11 => ("WordsLent", "oddsAreKnown", "Z", false)
  | _ => ("WordsLent", "latestFinding", "I", false)
def tyX6 : Nat → FieldType := fun k => match k with
  | 0 => .array (.object "WordsLent$Text")
  | 1 => .object "WordsLent$Echoes"
  | 2 => .object "WordsLent$Counted"
  | 3 => .array (.object "WordsLent$Sheet")
  | 4 => .object "WordsLent$Told"
  | 5 => .object "WordsLent$Course"
  | 6 => .object "WordsLent$Told"
  | 7 => .object "WordsLent$Course"
  | 8 => .array .int
  | 9 => .array .int
  | 10 => .boolean
  | 11 => .boolean
  | _ => .int
abbrev wsX60 : List Cond := u_ws RX6 TX6 13
theorem nmX6 : ∀ a, a < 13 → ∀ b, b < 13 → a ≠ b → (TX6 a).2.1 ≠ (TX6 b).2.1 := by decide +kernel
theorem tyX6_ok : ∀ k, k < 13 → parseFieldDescriptor (TX6 k).2.2.1 = some (tyX6 k) := by decide +kernel
abbrev cX6_init : ByteArray := prog_1_method_1_code
def yX6_init : MethodName := ⟨RX6, "<init>", "()V"⟩
abbrev cX6_type : ByteArray := prog_1_method_2_code
def yX6_type : MethodName := ⟨RX6, "type", "(II)I"⟩
abbrev cX6_wipe : ByteArray := prog_1_method_3_code
def yX6_wipe : MethodName := ⟨RX6, "wipe", "(I)I"⟩
abbrev cX6_undo : ByteArray := prog_1_method_4_code
def yX6_undo : MethodName := ⟨RX6, "undo", "(I)I"⟩
abbrev cX6_fault : ByteArray := prog_1_method_5_code
def yX6_fault : MethodName := ⟨RX6, "fault", "(I)I"⟩
abbrev cX6_person : ByteArray := prog_1_method_6_code
def yX6_person : MethodName := ⟨RX6, "person", "(II)I"⟩
abbrev cX6_word : ByteArray := prog_1_method_7_code
def yX6_word : MethodName := ⟨RX6, "word", "(II)I"⟩
abbrev cX6_meeting : ByteArray := prog_1_method_8_code
def yX6_meeting : MethodName := ⟨RX6, "meeting", "(II)I"⟩
abbrev cX6_echo : ByteArray := prog_1_method_9_code
def yX6_echo : MethodName := ⟨RX6, "echo", "(II)I"⟩
abbrev cX6_back : ByteArray := prog_1_method_10_code
def yX6_back : MethodName := ⟨RX6, "back", "()I"⟩
abbrev cX6_read : ByteArray := prog_1_method_11_code
def yX6_read : MethodName := ⟨RX6, "read", "(I)I"⟩
abbrev cX6_stands : ByteArray := prog_1_method_12_code
def yX6_stands : MethodName := ⟨RX6, "stands", "(III)I"⟩
abbrev cX6_at : ByteArray := prog_1_method_13_code
def yX6_at : MethodName := ⟨RX6, "at", "(III)I"⟩
abbrev cX6_clear : ByteArray := prog_1_method_14_code
def yX6_clear : MethodName := ⟨RX6, "clear", "(I)I"⟩
abbrev cX6_bank : ByteArray := prog_1_method_15_code
def yX6_bank : MethodName := ⟨RX6, "bank", "(I)I"⟩
abbrev cX6_ring : ByteArray := prog_1_method_16_code
def yX6_ring : MethodName := ⟨RX6, "ring", "(II)I"⟩
abbrev cX6_silent : ByteArray := prog_1_method_17_code
def yX6_silent : MethodName := ⟨RX6, "silent", "()I"⟩
abbrev cX6_meet : ByteArray := prog_1_method_18_code
def yX6_meet : MethodName := ⟨RX6, "meet", "(II)I"⟩
abbrev cX6_live : ByteArray := prog_1_method_19_code
def yX6_live : MethodName := ⟨RX6, "live", "(I)I"⟩
abbrev cX6_voice : ByteArray := prog_1_method_20_code
def yX6_voice : MethodName := ⟨RX6, "voice", "(I)I"⟩
abbrev cX6_spare : ByteArray := prog_1_method_21_code
def yX6_spare : MethodName := ⟨RX6, "spare", "(I)I"⟩
abbrev cX6_tally : ByteArray := prog_1_method_22_code
def yX6_tally : MethodName := ⟨RX6, "tally", "(III)I"⟩
abbrev cX6_forget : ByteArray := prog_1_method_23_code
def yX6_forget : MethodName := ⟨RX6, "forget", "()I"⟩
abbrev cX6_never : ByteArray := prog_1_method_24_code
def yX6_never : MethodName := ⟨RX6, "never", "()I"⟩
abbrev cX6_sort : ByteArray := prog_1_method_25_code
def yX6_sort : MethodName := ⟨RX6, "sort", "(I)I"⟩
abbrev cX6_lent : ByteArray := prog_1_method_26_code
def yX6_lent : MethodName := ⟨RX6, "lent", "(I)I"⟩
abbrev cX6_ask : ByteArray := prog_1_method_27_code
def yX6_ask : MethodName := ⟨RX6, "ask", "(I)I"⟩
abbrev cX6_chance : ByteArray := prog_1_method_28_code
def yX6_chance : MethodName := ⟨RX6, "chance", "(III)J"⟩
abbrev cX6_lives : ByteArray := prog_1_method_29_code
def yX6_lives : MethodName := ⟨RX6, "lives", "(III)I"⟩
abbrev cX6_sheet : ByteArray := prog_1_method_30_code
def yX6_sheet : MethodName := ⟨RX6, "sheet", "(III)I"⟩
abbrev cX6_lose : ByteArray := prog_1_method_31_code
def yX6_lose : MethodName := ⟨RX6, "lose", "(I)I"⟩
abbrev cX6_lay : ByteArray := prog_1_method_32_code
def yX6_lay : MethodName := ⟨RX6, "lay", "(IIII)I"⟩
abbrev cX6_get : ByteArray := prog_1_method_33_code
def yX6_get : MethodName := ⟨RX6, "get", "(III)I"⟩
abbrev cX6_copy : ByteArray := prog_1_method_34_code
def yX6_copy : MethodName := ⟨RX6, "copy", "(IIIII)I"⟩
abbrev cX6_write : ByteArray := prog_1_method_35_code
def yX6_write : MethodName := ⟨RX6, "write", "(II)I"⟩
abbrev cX6_count : ByteArray := prog_1_method_36_code
def yX6_count : MethodName := ⟨RX6, "count", "(I)I"⟩
abbrev cX6_digest : ByteArray := prog_1_method_37_code
def yX6_digest : MethodName := ⟨RX6, "digest", "()J"⟩
abbrev cX6_digestWord : ByteArray := prog_1_method_38_code
def yX6_digestWord : MethodName := ⟨RX6, "digestWord", "(JI)J"⟩
abbrev cX6_digestPerson : ByteArray := prog_1_method_39_code
def yX6_digestPerson : MethodName := ⟨RX6, "digestPerson", "(JI)J"⟩
abbrev cX6_tellAgain : ByteArray := prog_1_method_40_code
def yX6_tellAgain : MethodName := ⟨RX6, "tellAgain", "(I)V"⟩
abbrev cX6_courseChanged : ByteArray := prog_1_method_41_code
def yX6_courseChanged : MethodName := ⟨RX6, "courseChanged", "()V"⟩
abbrev cX6_learnCourse : ByteArray := prog_1_method_42_code
def yX6_learnCourse : MethodName := ⟨RX6, "learnCourse", "()V"⟩
abbrev cX6_learnOdds : ByteArray := prog_1_method_43_code
def yX6_learnOdds : MethodName := ⟨RX6, "learnOdds", "()V"⟩
abbrev cX6_sparedEchoes : ByteArray := prog_1_method_44_code
def yX6_sparedEchoes : MethodName := ⟨RX6, "sparedEchoes", "()I"⟩
abbrev cX6_losesNothingWithout : ByteArray := prog_1_method_45_code
def yX6_losesNothingWithout : MethodName := ⟨RX6, "losesNothingWithout", "(I)Z"⟩
abbrev cX6_sortByWhatIsLeft : ByteArray := prog_1_method_46_code
def yX6_sortByWhatIsLeft : MethodName := ⟨RX6, "sortByWhatIsLeft", "(I)V"⟩
abbrev cX6_mostAlike : ByteArray := prog_1_method_47_code
def yX6_mostAlike : MethodName := ⟨RX6, "mostAlike", "(I)I"⟩
abbrev cX6_finding : ByteArray := prog_1_method_48_code
def yX6_finding : MethodName := ⟨RX6, "finding", "(I)I"⟩
abbrev cX6_whatIsAmiss : ByteArray := prog_1_method_49_code
def yX6_whatIsAmiss : MethodName := ⟨RX6, "whatIsAmiss", "(LWordsLent$Sheet;II)I"⟩
abbrev cX6_isOutside : ByteArray := prog_1_method_50_code
def yX6_isOutside : MethodName := ⟨RX6, "isOutside", "(II)Z"⟩
abbrev cX6_lowestBit : ByteArray := prog_1_method_51_code
def yX6_lowestBit : MethodName := ⟨RX6, "lowestBit", "(I)I"⟩
abbrev cX6_power : ByteArray := prog_1_method_52_code
def yX6_power : MethodName := ⟨RX6, "power", "(JI)J"⟩
def RX7 : String := "WordsLentModel"
def TX7 : u_T := fun k => match k with
  | 0 => ("WordsLentModel", "forms", "[I", true)
  | 1 => ("WordsLentModel", "sizes", "[I", true)
  | 2 => ("WordsLentModel", "items", "[I", true)
  | 3 => ("WordsLentModel", "moved", "[I", true)
  | 4 => ("WordsLentModel", "latest", "I", false)
  | 5 => ("WordsLentModel", "bytes", "[I", true)
  | 6 => ("WordsLentModel", "typed", "[I", true)
  | 7 => ("WordsLentModel", "people", "I", false)
  | 8 => ("WordsLentModel", "person", "[I", true)
  | 9 => ("WordsLentModel", "words", "I", false)
  | 10 => ("WordsLentModel", "word", "[I", true)
  | 11 => ("WordsLentModel", "meetings", "I", false)
  | 12 => ("WordsLentModel", "meeting", "[I", true)
  | 13 => ("WordsLentModel", "echoes", "I", false)
  | 14 => ("WordsLentModel", "echo", "[I", true)
  | 15 => ("WordsLentModel", "gone", "I", false)
  | 16 => ("WordsLentModel", "oddDay", "I", false)
  | 17 => ("WordsLentModel", "oddOne", "I", false)
  | 18 => ("WordsLentModel", "oddOther", "I", false)
  | 19 => ("WordsLentModel", "state", "[I", true)
  | 20 => ("WordsLentModel", "uses", "[I", true)
  | 21 => ("WordsLentModel", "said", "[I", true)
  | 22 => ("WordsLentModel", "chances", "[I", true)
  | 23 => ("WordsLentModel", "stateBy", "[I", true)
  | 24 => ("WordsLentModel", "usesBy", "[I", true)
  | 25 => ("WordsLentModel", "saidBy", "[I", true)
  | 26 => ("WordsLentModel", "owes", "[I", true)
  | 27 => ("WordsLentModel", "tallies", "I", false)
  | 28 => ("WordsLentModel", "tally", "[I", true)
  | 29 => ("WordsLentModel", "lefts", "[I", true)
  | _ => ("WordsLentModel", "drawn", "I", false)
def tyX7 : Nat → FieldType := fun k => match k with
  | 0 => .array .int
  | 1 => .array .int
  | 2 => .array .int
  | 3 => .array .int
  | 4 => .int
  | 5 => .array .int
  | 6 => .array .int
  | 7 => .int
  | 8 => .array .int
  | 9 => .int
  | 10 => .array .int
  | 11 => .int
  | 12 => .array .int
  | 13 => .int
  | 14 => .array .int
  | 15 => .int
  | 16 => .int
  | 17 => .int
  | 18 => .int
  | 19 => .array .int
  | 20 => .array .int
  | 21 => .array .int
  | 22 => .array .int
  | 23 => .array .int
  | 24 => .array .int
  | 25 => .array .int
  | 26 => .array .int
  | 27 => .int
  | 28 => .array .int
  | 29 => .array .int
  | _ => .int
abbrev wsX70 : List Cond := u_ws RX7 TX7 31
theorem nmX7 : ∀ a, a < 31 → ∀ b, b < 31 → a ≠ b → (TX7 a).2.1 ≠ (TX7 b).2.1 := by decide +kernel
theorem tyX7_ok : ∀ k, k < 31 → parseFieldDescriptor (TX7 k).2.2.1 = some (tyX7 k) := by decide +kernel
abbrev cX7_init : ByteArray := prog_9_method_1_code
def yX7_init : MethodName := ⟨RX7, "<init>", "()V"⟩
abbrev cX7_in : ByteArray := prog_9_method_3_code
def yX7_in : MethodName := ⟨RX7, "in", "(JJJ)Z"⟩
abbrev cX7_no : ByteArray := prog_9_method_4_code
def yX7_no : MethodName := ⟨RX7, "no", "(I)J"⟩
abbrev cX7_isTwo : ByteArray := prog_9_method_5_code
def yX7_isTwo : MethodName := ⟨RX7, "isTwo", "(I)Z"⟩
abbrev cX7_isIn : ByteArray := prog_9_method_6_code
def yX7_isIn : MethodName := ⟨RX7, "isIn", "(II)Z"⟩
abbrev cX7_lesser : ByteArray := prog_9_method_7_code
def yX7_lesser : MethodName := ⟨RX7, "lesser", "(II)I"⟩
abbrev cX7_greater : ByteArray := prog_9_method_8_code
def yX7_greater : MethodName := ⟨RX7, "greater", "(II)I"⟩
abbrev cX7_part : ByteArray := prog_9_method_9_code
def yX7_part : MethodName := ⟨RX7, "part", "(JJI)J"⟩
abbrev cX7_finds : ByteArray := prog_9_method_10_code
def yX7_finds : MethodName := ⟨RX7, "finds", "(I)I"⟩
abbrev cX7_isSheet : ByteArray := prog_9_method_11_code
def yX7_isSheet : MethodName := ⟨RX7, "isSheet", "(I)Z"⟩
abbrev cX7_sheet : ByteArray := prog_9_method_12_code
def yX7_sheet : MethodName := ⟨RX7, "sheet", "(III)I"⟩
abbrev cX7_lose : ByteArray := prog_9_method_13_code
def yX7_lose : MethodName := ⟨RX7, "lose", "(I)I"⟩
abbrev cX7_lacks : ByteArray := prog_9_method_14_code
def yX7_lacks : MethodName := ⟨RX7, "lacks", "(III)I"⟩
abbrev cX7_cut : ByteArray := prog_9_method_15_code
def yX7_cut : MethodName := ⟨RX7, "cut", "(II)I"⟩
abbrev cX7_lay : ByteArray := prog_9_method_16_code
def yX7_lay : MethodName := ⟨RX7, "lay", "(IIII)I"⟩
abbrev cX7_get : ByteArray := prog_9_method_17_code
def yX7_get : MethodName := ⟨RX7, "get", "(III)I"⟩
abbrev cX7_copy : ByteArray := prog_9_method_18_code
def yX7_copy : MethodName := ⟨RX7, "copy", "(IIIII)I"⟩
abbrev cX7_isText : ByteArray := prog_9_method_19_code
def yX7_isText : MethodName := ⟨RX7, "isText", "(I)Z"⟩
abbrev cX7_type : ByteArray := prog_9_method_20_code
def yX7_type : MethodName := ⟨RX7, "type", "(II)I"⟩
abbrev cX7_wipe : ByteArray := prog_9_method_21_code
def yX7_wipe : MethodName := ⟨RX7, "wipe", "(I)I"⟩
abbrev cX7_undo : ByteArray := prog_9_method_22_code
def yX7_undo : MethodName := ⟨RX7, "undo", "(I)I"⟩
abbrev cX7_dayOf : ByteArray := prog_9_method_23_code
def yX7_dayOf : MethodName := ⟨RX7, "dayOf", "(I)I"⟩
abbrev cX7_figureOf : ByteArray := prog_9_method_24_code
def yX7_figureOf : MethodName := ⟨RX7, "figureOf", "(III)I"⟩
abbrev cX7_personOf : ByteArray := prog_9_method_25_code
def yX7_personOf : MethodName := ⟨RX7, "personOf", "(II)I"⟩
abbrev cX7_readsPeople : ByteArray := prog_9_method_26_code
def yX7_readsPeople : MethodName := ⟨RX7, "readsPeople", "()I"⟩
abbrev cX7_wordOf : ByteArray := prog_9_method_27_code
def yX7_wordOf : MethodName := ⟨RX7, "wordOf", "(II)I"⟩
abbrev cX7_readsWords : ByteArray := prog_9_method_28_code
def yX7_readsWords : MethodName := ⟨RX7, "readsWords", "()I"⟩
abbrev cX7_meetingOf : ByteArray := prog_9_method_29_code
def yX7_meetingOf : MethodName := ⟨RX7, "meetingOf", "(II)I"⟩
abbrev cX7_readsMeetings : ByteArray := prog_9_method_30_code
def yX7_readsMeetings : MethodName := ⟨RX7, "readsMeetings", "()I"⟩
abbrev cX7_readsText : ByteArray := prog_9_method_31_code
def yX7_readsText : MethodName := ⟨RX7, "readsText", "(I)I"⟩
abbrev cX7_fault : ByteArray := prog_9_method_32_code
def yX7_fault : MethodName := ⟨RX7, "fault", "(I)I"⟩
abbrev cX7_isPerson : ByteArray := prog_9_method_33_code
def yX7_isPerson : MethodName := ⟨RX7, "isPerson", "(I)Z"⟩
abbrev cX7_isWord : ByteArray := prog_9_method_34_code
def yX7_isWord : MethodName := ⟨RX7, "isWord", "(I)Z"⟩
abbrev cX7_isDay : ByteArray := prog_9_method_35_code
def yX7_isDay : MethodName := ⟨RX7, "isDay", "(I)Z"⟩
abbrev cX7_person : ByteArray := prog_9_method_36_code
def yX7_person : MethodName := ⟨RX7, "person", "(II)I"⟩
abbrev cX7_word : ByteArray := prog_9_method_37_code
def yX7_word : MethodName := ⟨RX7, "word", "(II)I"⟩
abbrev cX7_meetingBy : ByteArray := prog_9_method_38_code
def yX7_meetingBy : MethodName := ⟨RX7, "meetingBy", "(II)I"⟩
abbrev cX7_meeting : ByteArray := prog_9_method_39_code
def yX7_meeting : MethodName := ⟨RX7, "meeting", "(II)I"⟩
abbrev cX7_echo : ByteArray := prog_9_method_40_code
def yX7_echo : MethodName := ⟨RX7, "echo", "(II)I"⟩
abbrev cX7_back : ByteArray := prog_9_method_41_code
def yX7_back : MethodName := ⟨RX7, "back", "()I"⟩
abbrev cX7_read : ByteArray := prog_9_method_42_code
def yX7_read : MethodName := ⟨RX7, "read", "(I)I"⟩
abbrev cX7_isEcho : ByteArray := prog_9_method_43_code
def yX7_isEcho : MethodName := ⟨RX7, "isEcho", "(II)Z"⟩
abbrev cX7_isDead : ByteArray := prog_9_method_44_code
def yX7_isDead : MethodName := ⟨RX7, "isDead", "(II)Z"⟩
abbrev cX7_grows : ByteArray := prog_9_method_45_code
def yX7_grows : MethodName := ⟨RX7, "grows", "()V"⟩
abbrev cX7_says : ByteArray := prog_9_method_46_code
def yX7_says : MethodName := ⟨RX7, "says", "(III)V"⟩
abbrev cX7_talk : ByteArray := prog_9_method_47_code
def yX7_talk : MethodName := ⟨RX7, "talk", "(III)V"⟩
abbrev cX7_dies : ByteArray := prog_9_method_48_code
def yX7_dies : MethodName := ⟨RX7, "dies", "(I)V"⟩
abbrev cX7_passes : ByteArray := prog_9_method_49_code
def yX7_passes : MethodName := ⟨RX7, "passes", "(I)V"⟩
abbrev cX7_runs : ByteArray := prog_9_method_50_code
def yX7_runs : MethodName := ⟨RX7, "runs", "()V"⟩
abbrev cX7_find : ByteArray := prog_9_method_51_code
def yX7_find : MethodName := ⟨RX7, "find", "()V"⟩
abbrev cX7_standsBy : ByteArray := prog_9_method_52_code
def yX7_standsBy : MethodName := ⟨RX7, "standsBy", "(III)I"⟩
abbrev cX7_stands : ByteArray := prog_9_method_53_code
def yX7_stands : MethodName := ⟨RX7, "stands", "(III)I"⟩
abbrev cX7_openOf : ByteArray := prog_9_method_54_code
def yX7_openOf : MethodName := ⟨RX7, "openOf", "(III)I"⟩
abbrev cX7_atOf : ByteArray := prog_9_method_55_code
def yX7_atOf : MethodName := ⟨RX7, "atOf", "(III)I"⟩
abbrev cX7_at : ByteArray := prog_9_method_56_code
def yX7_at : MethodName := ⟨RX7, "at", "(III)I"⟩
abbrev cX7_isLost : ByteArray := prog_9_method_57_code
def yX7_isLost : MethodName := ⟨RX7, "isLost", "(II)Z"⟩
abbrev cX7_clearOf : ByteArray := prog_9_method_58_code
def yX7_clearOf : MethodName := ⟨RX7, "clearOf", "(I)I"⟩
abbrev cX7_clear : ByteArray := prog_9_method_59_code
def yX7_clear : MethodName := ⟨RX7, "clear", "(I)I"⟩
abbrev cX7_bankOf : ByteArray := prog_9_method_60_code
def yX7_bankOf : MethodName := ⟨RX7, "bankOf", "(I)I"⟩
abbrev cX7_bank : ByteArray := prog_9_method_61_code
def yX7_bank : MethodName := ⟨RX7, "bank", "(I)I"⟩
abbrev cX7_debts : ByteArray := prog_9_method_62_code
def yX7_debts : MethodName := ⟨RX7, "debts", "(I)V"⟩
abbrev cX7_ringWith : ByteArray := prog_9_method_63_code
def yX7_ringWith : MethodName := ⟨RX7, "ringWith", "(I)I"⟩
abbrev cX7_ringOf : ByteArray := prog_9_method_64_code
def yX7_ringOf : MethodName := ⟨RX7, "ringOf", "(II)I"⟩
abbrev cX7_ring : ByteArray := prog_9_method_65_code
def yX7_ring : MethodName := ⟨RX7, "ring", "(II)I"⟩
abbrev cX7_silentNow : ByteArray := prog_9_method_66_code
def yX7_silentNow : MethodName := ⟨RX7, "silentNow", "()I"⟩
abbrev cX7_silent : ByteArray := prog_9_method_67_code
def yX7_silent : MethodName := ⟨RX7, "silent", "()I"⟩
abbrev cX7_many : ByteArray := prog_9_method_68_code
def yX7_many : MethodName := ⟨RX7, "many", "(I)I"⟩
abbrev cX7_owedYet : ByteArray := prog_9_method_69_code
def yX7_owedYet : MethodName := ⟨RX7, "owedYet", "()I"⟩
abbrev cX7_meetOf : ByteArray := prog_9_method_70_code
def yX7_meetOf : MethodName := ⟨RX7, "meetOf", "(II)I"⟩
abbrev cX7_meet : ByteArray := prog_9_method_71_code
def yX7_meet : MethodName := ⟨RX7, "meet", "(II)I"⟩
abbrev cX7_liveOf : ByteArray := prog_9_method_72_code
def yX7_liveOf : MethodName := ⟨RX7, "liveOf", "(I)I"⟩
abbrev cX7_live : ByteArray := prog_9_method_73_code
def yX7_live : MethodName := ⟨RX7, "live", "(I)I"⟩
abbrev cX7_voiceBy : ByteArray := prog_9_method_74_code
def yX7_voiceBy : MethodName := ⟨RX7, "voiceBy", "(I)I"⟩
abbrev cX7_voice : ByteArray := prog_9_method_75_code
def yX7_voice : MethodName := ⟨RX7, "voice", "(I)I"⟩
abbrev cX7_isSpared : ByteArray := prog_9_method_76_code
def yX7_isSpared : MethodName := ⟨RX7, "isSpared", "(I)Z"⟩
abbrev cX7_spareBy : ByteArray := prog_9_method_77_code
def yX7_spareBy : MethodName := ⟨RX7, "spareBy", "(I)I"⟩
abbrev cX7_spare : ByteArray := prog_9_method_78_code
def yX7_spare : MethodName := ⟨RX7, "spare", "(I)I"⟩
abbrev cX7_tally : ByteArray := prog_9_method_79_code
def yX7_tally : MethodName := ⟨RX7, "tally", "(III)I"⟩
abbrev cX7_forget : ByteArray := prog_9_method_80_code
def yX7_forget : MethodName := ⟨RX7, "forget", "()I"⟩
abbrev cX7_isCounted : ByteArray := prog_9_method_81_code
def yX7_isCounted : MethodName := ⟨RX7, "isCounted", "()Z"⟩
abbrev cX7_neverNow : ByteArray := prog_9_method_82_code
def yX7_neverNow : MethodName := ⟨RX7, "neverNow", "()I"⟩
abbrev cX7_never : ByteArray := prog_9_method_83_code
def yX7_never : MethodName := ⟨RX7, "never", "()I"⟩
abbrev cX7_sortOf : ByteArray := prog_9_method_84_code
def yX7_sortOf : MethodName := ⟨RX7, "sortOf", "(I)I"⟩
abbrev cX7_sort : ByteArray := prog_9_method_85_code
def yX7_sort : MethodName := ⟨RX7, "sort", "(I)I"⟩
abbrev cX7_lentOf : ByteArray := prog_9_method_86_code
def yX7_lentOf : MethodName := ⟨RX7, "lentOf", "(I)I"⟩
abbrev cX7_lent : ByteArray := prog_9_method_87_code
def yX7_lent : MethodName := ⟨RX7, "lent", "(I)I"⟩
abbrev cX7_alike : ByteArray := prog_9_method_88_code
def yX7_alike : MethodName := ⟨RX7, "alike", "(II)I"⟩
abbrev cX7_askOf : ByteArray := prog_9_method_89_code
def yX7_askOf : MethodName := ⟨RX7, "askOf", "(I)I"⟩
abbrev cX7_ask : ByteArray := prog_9_method_90_code
def yX7_ask : MethodName := ⟨RX7, "ask", "(I)I"⟩
abbrev cX7_chanceOf : ByteArray := prog_9_method_91_code
def yX7_chanceOf : MethodName := ⟨RX7, "chanceOf", "(III)J"⟩
abbrev cX7_chance : ByteArray := prog_9_method_92_code
def yX7_chance : MethodName := ⟨RX7, "chance", "(III)J"⟩
abbrev cX7_lot : ByteArray := prog_9_method_93_code
def yX7_lot : MethodName := ⟨RX7, "lot", "(I)I"⟩
abbrev cX7_livesOf : ByteArray := prog_9_method_94_code
def yX7_livesOf : MethodName := ⟨RX7, "livesOf", "(III)I"⟩
abbrev cX7_lives : ByteArray := prog_9_method_95_code
def yX7_lives : MethodName := ⟨RX7, "lives", "(III)I"⟩
abbrev cX7_write : ByteArray := prog_9_method_96_code
def yX7_write : MethodName := ⟨RX7, "write", "(II)I"⟩
abbrev cX7_count : ByteArray := prog_9_method_97_code
def yX7_count : MethodName := ⟨RX7, "count", "(I)I"⟩
abbrev cX7_tellsDay : ByteArray := prog_9_method_98_code
def yX7_tellsDay : MethodName := ⟨RX7, "tellsDay", "(JII)J"⟩
abbrev cX7_tellsWord : ByteArray := prog_9_method_99_code
def yX7_tellsWord : MethodName := ⟨RX7, "tellsWord", "(JI)J"⟩
abbrev cX7_tellsPerson : ByteArray := prog_9_method_100_code
def yX7_tellsPerson : MethodName := ⟨RX7, "tellsPerson", "(JI)J"⟩
abbrev cX7_digest : ByteArray := prog_9_method_101_code
def yX7_digest : MethodName := ⟨RX7, "digest", "()J"⟩
def RJ6 : String := "java/lang/Integer"
def TJ6 : u_T := fun k => match k with
  | _ => ("", "", "", false)
def tyJ6 : Nat → FieldType := fun k => match k with
  | _ => .int
abbrev wsJ60 : List Cond := u_ws RJ6 TJ6 0
theorem nmJ6 : ∀ a, a < 0 → ∀ b, b < 0 → a ≠ b → (TJ6 a).2.1 ≠ (TJ6 b).2.1 := by decide +kernel
theorem tyJ6_ok : ∀ k, k < 0 → parseFieldDescriptor (TJ6 k).2.2.1 = some (tyJ6 k) := by decide +kernel
abbrev cJ6_bitCount_0f7a4 : ByteArray := prog_10_method_49_code
def yJ6_bitCount_0f7a4 : MethodName := ⟨RJ6, "bitCount", "(I)I"⟩
def RJ9 : String := "java/lang/Math"
def TJ9 : u_T := fun k => match k with
  | _ => ("", "", "", false)
def tyJ9 : Nat → FieldType := fun k => match k with
  | _ => .int
abbrev wsJ90 : List Cond := u_ws RJ9 TJ9 0
theorem nmJ9 : ∀ a, a < 0 → ∀ b, b < 0 → a ≠ b → (TJ9 a).2.1 ≠ (TJ9 b).2.1 := by decide +kernel
theorem tyJ9_ok : ∀ k, k < 0 → parseFieldDescriptor (TJ9 k).2.2.1 = some (tyJ9 k) := by decide +kernel
abbrev cJ9_max_7cf53 : ByteArray := prog_11_method_65_code
def yJ9_max_7cf53 : MethodName := ⟨RJ9, "max", "(II)I"⟩
abbrev cJ9_min_7cf53 : ByteArray := prog_11_method_69_code
def yJ9_min_7cf53 : MethodName := ⟨RJ9, "min", "(II)I"⟩
def RJ10 : String := "java/lang/System"
def TJ10 : u_T := fun k => match k with
  | _ => ("", "", "", false)
def tyJ10 : Nat → FieldType := fun k => match k with
  | _ => .int
abbrev wsJ100 : List Cond := u_ws RJ10 TJ10 0
theorem nmJ10 : ∀ a, a < 0 → ∀ b, b < 0 → a ≠ b → (TJ10 a).2.1 ≠ (TJ10 b).2.1 := by decide +kernel
theorem tyJ10_ok : ∀ k, k < 0 → parseFieldDescriptor (TJ10 k).2.2.1 = some (tyJ10 k) := by decide +kernel
def RL : String := "WordsLentLaw"
abbrev cL_law : ByteArray := code
def yL_law : MethodName := ⟨RL, "law", "([I)Z"⟩
abbrev vwCl : List vw_C := [(RX0, TX0, 4), (RX1, TX1, 14), (RX2, TX2, 3), (RX3, TX3, 3), (RX4, TX4, 5), (RX5, TX5, 11), (RX6, TX6, 13), (RX7, TX7, 31)]
end
section
theorem dX0_init_0 : decode cX0_init 0 = .ok (.aload_n 0, 1) := by decide +kernel
theorem dX0_init_1 : decode cX0_init 1 = .ok (.invokespecial 3, 3) := by decide +kernel
theorem dX0_init_4 : decode cX0_init 4 = .ok (.aload_n 0, 1) := by decide +kernel
theorem dX0_init_5 : decode cX0_init 5 = .ok (.bipush 8, 2) := by decide +kernel
theorem dX0_init_7 : decode cX0_init 7 = .ok (.newarray .int, 2) := by decide +kernel
theorem dX0_init_9 : decode cX0_init 9 = .ok (.putfield 9, 3) := by decide +kernel
theorem dX0_init_12 : decode cX0_init 12 = .ok (.aload_n 0, 1) := by decide +kernel
theorem dX0_init_13 : decode cX0_init 13 = .ok (.bipush 8, 2) := by decide +kernel
theorem dX0_init_15 : decode cX0_init 15 = .ok (.newarray .int, 2) := by decide +kernel
theorem dX0_init_17 : decode cX0_init 17 = .ok (.putfield 15, 3) := by decide +kernel
theorem dX0_init_20 : decode cX0_init 20 = .ok (.aload_n 0, 1) := by decide +kernel
theorem dX0_init_21 : decode cX0_init 21 = .ok (.bipush 8, 2) := by decide +kernel
theorem dX0_init_23 : decode cX0_init 23 = .ok (.newarray .int, 2) := by decide +kernel
theorem dX0_init_25 : decode cX0_init 25 = .ok (.putfield 18, 3) := by decide +kernel
theorem dX0_init_28 : decode cX0_init 28 = .ok (.return_, 1) := by decide +kernel
theorem dX0_append_0 : decode cX0_append 0 = .ok (.aload_n 0, 1) := by decide +kernel
theorem dX0_append_1 : decode cX0_append 1 = .ok (.getfield 21, 3) := by decide +kernel
theorem dX0_append_4 : decode cX0_append 4 = .ok (.bipush 8, 2) := by decide +kernel
theorem dX0_append_6 : decode cX0_append 6 = .ok (.if_icmp .ge 43, 3) := by decide +kernel
theorem dX0_append_9 : decode cX0_append 9 = .ok (.aload_n 0, 1) := by decide +kernel
theorem dX0_append_10 : decode cX0_append 10 = .ok (.getfield 9, 3) := by decide +kernel
theorem dX0_append_13 : decode cX0_append 13 = .ok (.aload_n 0, 1) := by decide +kernel
theorem dX0_append_14 : decode cX0_append 14 = .ok (.getfield 21, 3) := by decide +kernel
theorem dX0_append_17 : decode cX0_append 17 = .ok (.iload_n 1, 1) := by decide +kernel
theorem dX0_append_18 : decode cX0_append 18 = .ok (.iastore, 1) := by decide +kernel
theorem dX0_append_19 : decode cX0_append 19 = .ok (.aload_n 0, 1) := by decide +kernel
theorem dX0_append_20 : decode cX0_append 20 = .ok (.getfield 15, 3) := by decide +kernel
theorem dX0_append_23 : decode cX0_append 23 = .ok (.aload_n 0, 1) := by decide +kernel
theorem dX0_append_24 : decode cX0_append 24 = .ok (.getfield 21, 3) := by decide +kernel
theorem dX0_append_27 : decode cX0_append 27 = .ok (.iload_n 2, 1) := by decide +kernel
theorem dX0_append_28 : decode cX0_append 28 = .ok (.iastore, 1) := by decide +kernel
theorem dX0_append_29 : decode cX0_append 29 = .ok (.aload_n 0, 1) := by decide +kernel
theorem dX0_append_30 : decode cX0_append 30 = .ok (.getfield 18, 3) := by decide +kernel
theorem dX0_append_33 : decode cX0_append 33 = .ok (.aload_n 0, 1) := by decide +kernel
theorem dX0_append_34 : decode cX0_append 34 = .ok (.getfield 21, 3) := by decide +kernel
theorem dX0_append_37 : decode cX0_append 37 = .ok (.iload_n 3, 1) := by decide +kernel
theorem dX0_append_38 : decode cX0_append 38 = .ok (.iastore, 1) := by decide +kernel
theorem dX0_append_39 : decode cX0_append 39 = .ok (.aload_n 0, 1) := by decide +kernel
theorem dX0_append_40 : decode cX0_append 40 = .ok (.dup, 1) := by decide +kernel
theorem dX0_append_41 : decode cX0_append 41 = .ok (.getfield 21, 3) := by decide +kernel
theorem dX0_append_44 : decode cX0_append 44 = .ok (.iconst 1, 1) := by decide +kernel
theorem dX0_append_45 : decode cX0_append 45 = .ok (.iadd, 1) := by decide +kernel
theorem dX0_append_46 : decode cX0_append 46 = .ok (.putfield 21, 3) := by decide +kernel
theorem dX0_append_49 : decode cX0_append 49 = .ok (.return_, 1) := by decide +kernel
theorem dX0_comesOut_0 : decode cX0_comesOut 0 = .ok (.iconst 0, 1) := by decide +kernel
theorem dX0_comesOut_1 : decode cX0_comesOut 1 = .ok (.istore_n 2, 1) := by decide +kernel
theorem dX0_comesOut_2 : decode cX0_comesOut 2 = .ok (.iload_n 2, 1) := by decide +kernel
theorem dX0_comesOut_3 : decode cX0_comesOut 3 = .ok (.aload_n 0, 1) := by decide +kernel
theorem dX0_comesOut_4 : decode cX0_comesOut 4 = .ok (.getfield 21, 3) := by decide +kernel
theorem dX0_comesOut_7 : decode cX0_comesOut 7 = .ok (.if_icmp .ge 36, 3) := by decide +kernel
theorem dX0_comesOut_10 : decode cX0_comesOut 10 = .ok (.aload_n 1, 1) := by decide +kernel
theorem dX0_comesOut_11 : decode cX0_comesOut 11 = .ok (.aload_n 0, 1) := by decide +kernel
theorem dX0_comesOut_12 : decode cX0_comesOut 12 = .ok (.getfield 9, 3) := by decide +kernel
theorem dX0_comesOut_15 : decode cX0_comesOut 15 = .ok (.iload_n 2, 1) := by decide +kernel
theorem dX0_comesOut_16 : decode cX0_comesOut 16 = .ok (.iaload, 1) := by decide +kernel
theorem dX0_comesOut_17 : decode cX0_comesOut 17 = .ok (.aload_n 0, 1) := by decide +kernel
theorem dX0_comesOut_18 : decode cX0_comesOut 18 = .ok (.getfield 15, 3) := by decide +kernel
theorem dX0_comesOut_21 : decode cX0_comesOut 21 = .ok (.iload_n 2, 1) := by decide +kernel
theorem dX0_comesOut_22 : decode cX0_comesOut 22 = .ok (.iaload, 1) := by decide +kernel
theorem dX0_comesOut_23 : decode cX0_comesOut 23 = .ok (.invokevirtual 25, 3) := by decide +kernel
theorem dX0_comesOut_26 : decode cX0_comesOut 26 = .ok (.aload_n 0, 1) := by decide +kernel
theorem dX0_comesOut_27 : decode cX0_comesOut 27 = .ok (.getfield 18, 3) := by decide +kernel
theorem dX0_comesOut_30 : decode cX0_comesOut 30 = .ok (.iload_n 2, 1) := by decide +kernel
theorem dX0_comesOut_31 : decode cX0_comesOut 31 = .ok (.iaload, 1) := by decide +kernel
theorem dX0_comesOut_32 : decode cX0_comesOut 32 = .ok (.if_icmp .eq 5, 3) := by decide +kernel
theorem dX0_comesOut_35 : decode cX0_comesOut 35 = .ok (.iconst 0, 1) := by decide +kernel
theorem dX0_comesOut_36 : decode cX0_comesOut 36 = .ok (.ireturn, 1) := by decide +kernel
theorem dX0_comesOut_37 : decode cX0_comesOut 37 = .ok (.iinc 2 1, 3) := by decide +kernel
theorem dX0_comesOut_40 : decode cX0_comesOut 40 = .ok (.goto (-38), 3) := by decide +kernel
theorem dX0_comesOut_43 : decode cX0_comesOut 43 = .ok (.iconst 1, 1) := by decide +kernel
theorem dX0_comesOut_44 : decode cX0_comesOut 44 = .ok (.ireturn, 1) := by decide +kernel
theorem dX1_init_0 : decode cX1_init 0 = .ok (.aload_n 0, 1) := by decide +kernel
theorem dX1_init_1 : decode cX1_init 1 = .ok (.invokespecial 3, 3) := by decide +kernel
theorem dX1_init_4 : decode cX1_init 4 = .ok (.aload_n 0, 1) := by decide +kernel
theorem dX1_init_5 : decode cX1_init 5 = .ok (.bipush 12, 2) := by decide +kernel
theorem dX1_init_7 : decode cX1_init 7 = .ok (.newarray .int, 2) := by decide +kernel
theorem dX1_init_9 : decode cX1_init 9 = .ok (.putfield 9, 3) := by decide +kernel
theorem dX1_init_12 : decode cX1_init 12 = .ok (.aload_n 0, 1) := by decide +kernel
theorem dX1_init_13 : decode cX1_init 13 = .ok (.bipush 12, 2) := by decide +kernel
theorem dX1_init_15 : decode cX1_init 15 = .ok (.newarray .int, 2) := by decide +kernel
theorem dX1_init_17 : decode cX1_init 17 = .ok (.putfield 15, 3) := by decide +kernel
theorem dX1_init_20 : decode cX1_init 20 = .ok (.aload_n 0, 1) := by decide +kernel
theorem dX1_init_21 : decode cX1_init 21 = .ok (.bipush 8, 2) := by decide +kernel
theorem dX1_init_23 : decode cX1_init 23 = .ok (.newarray .int, 2) := by decide +kernel
theorem dX1_init_25 : decode cX1_init 25 = .ok (.putfield 18, 3) := by decide +kernel
theorem dX1_init_28 : decode cX1_init 28 = .ok (.aload_n 0, 1) := by decide +kernel
theorem dX1_init_29 : decode cX1_init 29 = .ok (.bipush 8, 2) := by decide +kernel
theorem dX1_init_31 : decode cX1_init 31 = .ok (.newarray .int, 2) := by decide +kernel
theorem dX1_init_33 : decode cX1_init 33 = .ok (.putfield 21, 3) := by decide +kernel
theorem dX1_init_36 : decode cX1_init 36 = .ok (.aload_n 0, 1) := by decide +kernel
theorem dX1_init_37 : decode cX1_init 37 = .ok (.bipush 24, 2) := by decide +kernel
theorem dX1_init_39 : decode cX1_init 39 = .ok (.newarray .int, 2) := by decide +kernel
theorem dX1_init_41 : decode cX1_init 41 = .ok (.putfield 24, 3) := by decide +kernel
theorem dX1_init_44 : decode cX1_init 44 = .ok (.aload_n 0, 1) := by decide +kernel
theorem dX1_init_45 : decode cX1_init 45 = .ok (.bipush 24, 2) := by decide +kernel
theorem dX1_init_47 : decode cX1_init 47 = .ok (.newarray .int, 2) := by decide +kernel
theorem dX1_init_49 : decode cX1_init 49 = .ok (.putfield 27, 3) := by decide +kernel
theorem dX1_init_52 : decode cX1_init 52 = .ok (.aload_n 0, 1) := by decide +kernel
theorem dX1_init_53 : decode cX1_init 53 = .ok (.bipush 24, 2) := by decide +kernel
theorem dX1_init_55 : decode cX1_init 55 = .ok (.newarray .int, 2) := by decide +kernel
theorem dX1_init_57 : decode cX1_init 57 = .ok (.putfield 30, 3) := by decide +kernel
theorem dX1_init_60 : decode cX1_init 60 = .ok (.aload_n 0, 1) := by decide +kernel
theorem dX1_init_61 : decode cX1_init 61 = .ok (.bipush 13, 2) := by decide +kernel
theorem dX1_init_63 : decode cX1_init 63 = .ok (.newarray .int, 2) := by decide +kernel
theorem dX1_init_65 : decode cX1_init 65 = .ok (.putfield 33, 3) := by decide +kernel
theorem dX1_init_68 : decode cX1_init 68 = .ok (.aload_n 0, 1) := by decide +kernel
theorem dX1_init_69 : decode cX1_init 69 = .ok (.sipush 288, 3) := by decide +kernel
theorem dX1_init_72 : decode cX1_init 72 = .ok (.newarray .int, 2) := by decide +kernel
theorem dX1_init_74 : decode cX1_init 74 = .ok (.putfield 36, 3) := by decide +kernel
theorem dX1_init_77 : decode cX1_init 77 = .ok (.aload_n 0, 1) := by decide +kernel
theorem dX1_init_78 : decode cX1_init 78 = .ok (.sipush 288, 3) := by decide +kernel
theorem dX1_init_81 : decode cX1_init 81 = .ok (.newarray .int, 2) := by decide +kernel
theorem dX1_init_83 : decode cX1_init 83 = .ok (.putfield 39, 3) := by decide +kernel
theorem dX1_init_86 : decode cX1_init 86 = .ok (.aload_n 0, 1) := by decide +kernel
theorem dX1_init_87 : decode cX1_init 87 = .ok (.sipush 192, 3) := by decide +kernel
theorem dX1_init_90 : decode cX1_init 90 = .ok (.newarray .int, 2) := by decide +kernel
theorem dX1_init_92 : decode cX1_init 92 = .ok (.putfield 42, 3) := by decide +kernel
theorem dX1_init_95 : decode cX1_init 95 = .ok (.aload_n 0, 1) := by decide +kernel
theorem dX1_init_96 : decode cX1_init 96 = .ok (.bipush 8, 2) := by decide +kernel
theorem dX1_init_98 : decode cX1_init 98 = .ok (.newarray .int, 2) := by decide +kernel
theorem dX1_init_100 : decode cX1_init 100 = .ok (.putfield 45, 3) := by decide +kernel
theorem dX1_init_103 : decode cX1_init 103 = .ok (.return_, 1) := by decide +kernel
theorem dX1_run_0 : decode cX1_run 0 = .ok (.aload_n 0, 1) := by decide +kernel
theorem dX1_run_1 : decode cX1_run 1 = .ok (.aload_n 1, 1) := by decide +kernel
theorem dX1_run_2 : decode cX1_run 2 = .ok (.invokevirtual 48, 3) := by decide +kernel
theorem dX1_run_5 : decode cX1_run 5 = .ok (.aload_n 0, 1) := by decide +kernel
theorem dX1_run_6 : decode cX1_run 6 = .ok (.aload_n 1, 1) := by decide +kernel
theorem dX1_run_7 : decode cX1_run 7 = .ok (.invokevirtual 52, 3) := by decide +kernel
theorem dX1_run_10 : decode cX1_run 10 = .ok (.aload_n 0, 1) := by decide +kernel
theorem dX1_run_11 : decode cX1_run 11 = .ok (.aload_n 1, 1) := by decide +kernel
theorem dX1_run_12 : decode cX1_run 12 = .ok (.aload_n 2, 1) := by decide +kernel
theorem dX1_run_13 : decode cX1_run 13 = .ok (.iload_n 3, 1) := by decide +kernel
theorem dX1_run_14 : decode cX1_run 14 = .ok (.invokevirtual 55, 3) := by decide +kernel
theorem dX1_run_17 : decode cX1_run 17 = .ok (.iconst 0, 1) := by decide +kernel
theorem dX1_run_18 : decode cX1_run 18 = .ok (.istore 4, 2) := by decide +kernel
theorem dX1_run_20 : decode cX1_run 20 = .ok (.iload 4, 2) := by decide +kernel
theorem dX1_run_22 : decode cX1_run 22 = .ok (.bipush 24, 2) := by decide +kernel
theorem dX1_run_24 : decode cX1_run 24 = .ok (.if_icmp .ge 122, 3) := by decide +kernel
theorem dX1_run_27 : decode cX1_run 27 = .ok (.iload 4, 2) := by decide +kernel
theorem dX1_run_29 : decode cX1_run 29 = .ok (.bipush 6, 2) := by decide +kernel
theorem dX1_run_31 : decode cX1_run 31 = .ok (.if_icmp .eq 17, 3) := by decide +kernel
theorem dX1_run_34 : decode cX1_run 34 = .ok (.iload 4, 2) := by decide +kernel
theorem dX1_run_36 : decode cX1_run 36 = .ok (.bipush 13, 2) := by decide +kernel
theorem dX1_run_38 : decode cX1_run 38 = .ok (.if_icmp .eq 10, 3) := by decide +kernel
theorem dX1_run_41 : decode cX1_run 41 = .ok (.iload 4, 2) := by decide +kernel
theorem dX1_run_43 : decode cX1_run 43 = .ok (.bipush 20, 2) := by decide +kernel
theorem dX1_run_45 : decode cX1_run 45 = .ok (.if_icmp .ne 8, 3) := by decide +kernel
theorem dX1_run_48 : decode cX1_run 48 = .ok (.aload_n 0, 1) := by decide +kernel
theorem dX1_run_49 : decode cX1_run 49 = .ok (.aload_n 1, 1) := by decide +kernel
theorem dX1_run_50 : decode cX1_run 50 = .ok (.invokevirtual 59, 3) := by decide +kernel
theorem dX1_run_53 : decode cX1_run 53 = .ok (.aload_n 0, 1) := by decide +kernel
theorem dX1_run_54 : decode cX1_run 54 = .ok (.aload_n 1, 1) := by decide +kernel
theorem dX1_run_55 : decode cX1_run 55 = .ok (.iload 4, 2) := by decide +kernel
theorem dX1_run_57 : decode cX1_run 57 = .ok (.invokevirtual 62, 3) := by decide +kernel
theorem dX1_run_60 : decode cX1_run 60 = .ok (.aload_n 0, 1) := by decide +kernel
theorem dX1_run_61 : decode cX1_run 61 = .ok (.getfield 27, 3) := by decide +kernel
theorem dX1_run_64 : decode cX1_run 64 = .ok (.iload 4, 2) := by decide +kernel
theorem dX1_run_66 : decode cX1_run 66 = .ok (.iaload, 1) := by decide +kernel
theorem dX1_run_67 : decode cX1_run 67 = .ok (.ifCond .eq 10, 3) := by decide +kernel
theorem dX1_run_70 : decode cX1_run 70 = .ok (.aload_n 0, 1) := by decide +kernel
theorem dX1_run_71 : decode cX1_run 71 = .ok (.aload_n 1, 1) := by decide +kernel
theorem dX1_run_72 : decode cX1_run 72 = .ok (.iload 4, 2) := by decide +kernel
theorem dX1_run_74 : decode cX1_run 74 = .ok (.invokevirtual 66, 3) := by decide +kernel
theorem dX1_run_77 : decode cX1_run 77 = .ok (.aload_n 0, 1) := by decide +kernel
theorem dX1_run_78 : decode cX1_run 78 = .ok (.getfield 9, 3) := by decide +kernel
theorem dX1_run_81 : decode cX1_run 81 = .ok (.iconst 0, 1) := by decide +kernel
theorem dX1_run_82 : decode cX1_run 82 = .ok (.aload_n 0, 1) := by decide +kernel
theorem dX1_run_83 : decode cX1_run 83 = .ok (.getfield 36, 3) := by decide +kernel
theorem dX1_run_86 : decode cX1_run 86 = .ok (.iload 4, 2) := by decide +kernel
theorem dX1_run_88 : decode cX1_run 88 = .ok (.bipush 12, 2) := by decide +kernel
theorem dX1_run_90 : decode cX1_run 90 = .ok (.imul, 1) := by decide +kernel
theorem dX1_run_91 : decode cX1_run 91 = .ok (.aload_n 0, 1) := by decide +kernel
theorem dX1_run_92 : decode cX1_run 92 = .ok (.getfield 69, 3) := by decide +kernel
theorem dX1_run_95 : decode cX1_run 95 = .ok (.invokestatic 73, 3) := by decide +kernel
theorem dX1_run_98 : decode cX1_run 98 = .ok (.aload_n 0, 1) := by decide +kernel
theorem dX1_run_99 : decode cX1_run 99 = .ok (.getfield 15, 3) := by decide +kernel
theorem dX1_run_102 : decode cX1_run 102 = .ok (.iconst 0, 1) := by decide +kernel
theorem dX1_run_103 : decode cX1_run 103 = .ok (.aload_n 0, 1) := by decide +kernel
theorem dX1_run_104 : decode cX1_run 104 = .ok (.getfield 39, 3) := by decide +kernel
theorem dX1_run_107 : decode cX1_run 107 = .ok (.iload 4, 2) := by decide +kernel
theorem dX1_run_109 : decode cX1_run 109 = .ok (.bipush 12, 2) := by decide +kernel
theorem dX1_run_111 : decode cX1_run 111 = .ok (.imul, 1) := by decide +kernel
theorem dX1_run_112 : decode cX1_run 112 = .ok (.aload_n 0, 1) := by decide +kernel
theorem dX1_run_113 : decode cX1_run 113 = .ok (.getfield 69, 3) := by decide +kernel
theorem dX1_run_116 : decode cX1_run 116 = .ok (.invokestatic 73, 3) := by decide +kernel
theorem dX1_run_119 : decode cX1_run 119 = .ok (.aload_n 0, 1) := by decide +kernel
theorem dX1_run_120 : decode cX1_run 120 = .ok (.getfield 18, 3) := by decide +kernel
theorem dX1_run_123 : decode cX1_run 123 = .ok (.iconst 0, 1) := by decide +kernel
theorem dX1_run_124 : decode cX1_run 124 = .ok (.aload_n 0, 1) := by decide +kernel
theorem dX1_run_125 : decode cX1_run 125 = .ok (.getfield 42, 3) := by decide +kernel
theorem dX1_run_128 : decode cX1_run 128 = .ok (.iload 4, 2) := by decide +kernel
theorem dX1_run_130 : decode cX1_run 130 = .ok (.bipush 8, 2) := by decide +kernel
theorem dX1_run_132 : decode cX1_run 132 = .ok (.imul, 1) := by decide +kernel
theorem dX1_run_133 : decode cX1_run 133 = .ok (.aload_n 1, 1) := by decide +kernel
theorem dX1_run_134 : decode cX1_run 134 = .ok (.getfield 79, 3) := by decide +kernel
theorem dX1_run_137 : decode cX1_run 137 = .ok (.invokestatic 73, 3) := by decide +kernel
theorem dX1_run_140 : decode cX1_run 140 = .ok (.iinc 4 1, 3) := by decide +kernel
theorem dX1_run_143 : decode cX1_run 143 = .ok (.goto (-123), 3) := by decide +kernel
theorem dX1_run_146 : decode cX1_run 146 = .ok (.return_, 1) := by decide +kernel
theorem dX1_beginWords_0 : decode cX1_beginWords 0 = .ok (.aload_n 0, 1) := by decide +kernel
theorem dX1_beginWords_1 : decode cX1_beginWords 1 = .ok (.aload_n 1, 1) := by decide +kernel
theorem dX1_beginWords_2 : decode cX1_beginWords 2 = .ok (.getfield 84, 3) := by decide +kernel
theorem dX1_beginWords_5 : decode cX1_beginWords 5 = .ok (.putfield 69, 3) := by decide +kernel
theorem dX1_beginWords_8 : decode cX1_beginWords 8 = .ok (.iconst 0, 1) := by decide +kernel
theorem dX1_beginWords_9 : decode cX1_beginWords 9 = .ok (.istore_n 2, 1) := by decide +kernel
theorem dX1_beginWords_10 : decode cX1_beginWords 10 = .ok (.iload_n 2, 1) := by decide +kernel
theorem dX1_beginWords_11 : decode cX1_beginWords 11 = .ok (.aload_n 0, 1) := by decide +kernel
theorem dX1_beginWords_12 : decode cX1_beginWords 12 = .ok (.getfield 69, 3) := by decide +kernel
theorem dX1_beginWords_15 : decode cX1_beginWords 15 = .ok (.if_icmp .ge 51, 3) := by decide +kernel
theorem dX1_beginWords_18 : decode cX1_beginWords 18 = .ok (.aload_n 0, 1) := by decide +kernel
theorem dX1_beginWords_19 : decode cX1_beginWords 19 = .ok (.getfield 9, 3) := by decide +kernel
theorem dX1_beginWords_22 : decode cX1_beginWords 22 = .ok (.iload_n 2, 1) := by decide +kernel
theorem dX1_beginWords_23 : decode cX1_beginWords 23 = .ok (.aload_n 1, 1) := by decide +kernel
theorem dX1_beginWords_24 : decode cX1_beginWords 24 = .ok (.aload_n 1, 1) := by decide +kernel
theorem dX1_beginWords_25 : decode cX1_beginWords 25 = .ok (.getfield 85, 3) := by decide +kernel
theorem dX1_beginWords_28 : decode cX1_beginWords 28 = .ok (.iload_n 2, 1) := by decide +kernel
theorem dX1_beginWords_29 : decode cX1_beginWords 29 = .ok (.iaload, 1) := by decide +kernel
theorem dX1_beginWords_30 : decode cX1_beginWords 30 = .ok (.aload_n 1, 1) := by decide +kernel
theorem dX1_beginWords_31 : decode cX1_beginWords 31 = .ok (.getfield 88, 3) := by decide +kernel
theorem dX1_beginWords_34 : decode cX1_beginWords 34 = .ok (.iload_n 2, 1) := by decide +kernel
theorem dX1_beginWords_35 : decode cX1_beginWords 35 = .ok (.iaload, 1) := by decide +kernel
theorem dX1_beginWords_36 : decode cX1_beginWords 36 = .ok (.invokevirtual 91, 3) := by decide +kernel
theorem dX1_beginWords_39 : decode cX1_beginWords 39 = .ok (.ifCond .eq 7, 3) := by decide +kernel
theorem dX1_beginWords_42 : decode cX1_beginWords 42 = .ok (.iconst 0, 1) := by decide +kernel
theorem dX1_beginWords_43 : decode cX1_beginWords 43 = .ok (.goto 4, 3) := by decide +kernel
theorem dX1_beginWords_46 : decode cX1_beginWords 46 = .ok (.iconst 4, 1) := by decide +kernel
theorem dX1_beginWords_47 : decode cX1_beginWords 47 = .ok (.iastore, 1) := by decide +kernel
theorem dX1_beginWords_48 : decode cX1_beginWords 48 = .ok (.aload_n 0, 1) := by decide +kernel
theorem dX1_beginWords_49 : decode cX1_beginWords 49 = .ok (.getfield 15, 3) := by decide +kernel
theorem dX1_beginWords_52 : decode cX1_beginWords 52 = .ok (.iload_n 2, 1) := by decide +kernel
theorem dX1_beginWords_53 : decode cX1_beginWords 53 = .ok (.aload_n 1, 1) := by decide +kernel
theorem dX1_beginWords_54 : decode cX1_beginWords 54 = .ok (.getfield 95, 3) := by decide +kernel
theorem dX1_beginWords_57 : decode cX1_beginWords 57 = .ok (.iload_n 2, 1) := by decide +kernel
theorem dX1_beginWords_58 : decode cX1_beginWords 58 = .ok (.iaload, 1) := by decide +kernel
theorem dX1_beginWords_59 : decode cX1_beginWords 59 = .ok (.iastore, 1) := by decide +kernel
theorem dX1_beginWords_60 : decode cX1_beginWords 60 = .ok (.iinc 2 1, 3) := by decide +kernel
theorem dX1_beginWords_63 : decode cX1_beginWords 63 = .ok (.goto (-53), 3) := by decide +kernel
theorem dX1_beginWords_66 : decode cX1_beginWords 66 = .ok (.return_, 1) := by decide +kernel
theorem dX1_beginPeople_0 : decode cX1_beginPeople 0 = .ok (.aload_n 0, 1) := by decide +kernel
theorem dX1_beginPeople_1 : decode cX1_beginPeople 1 = .ok (.iconst 0, 1) := by decide +kernel
theorem dX1_beginPeople_2 : decode cX1_beginPeople 2 = .ok (.putfield 98, 3) := by decide +kernel
theorem dX1_beginPeople_5 : decode cX1_beginPeople 5 = .ok (.iconst 0, 1) := by decide +kernel
theorem dX1_beginPeople_6 : decode cX1_beginPeople 6 = .ok (.istore_n 2, 1) := by decide +kernel
theorem dX1_beginPeople_7 : decode cX1_beginPeople 7 = .ok (.iload_n 2, 1) := by decide +kernel
theorem dX1_beginPeople_8 : decode cX1_beginPeople 8 = .ok (.aload_n 1, 1) := by decide +kernel
theorem dX1_beginPeople_9 : decode cX1_beginPeople 9 = .ok (.getfield 79, 3) := by decide +kernel
theorem dX1_beginPeople_12 : decode cX1_beginPeople 12 = .ok (.if_icmp .ge 23, 3) := by decide +kernel
theorem dX1_beginPeople_15 : decode cX1_beginPeople 15 = .ok (.aload_n 0, 1) := by decide +kernel
theorem dX1_beginPeople_16 : decode cX1_beginPeople 16 = .ok (.getfield 18, 3) := by decide +kernel
theorem dX1_beginPeople_19 : decode cX1_beginPeople 19 = .ok (.iload_n 2, 1) := by decide +kernel
theorem dX1_beginPeople_20 : decode cX1_beginPeople 20 = .ok (.iconst 0, 1) := by decide +kernel
theorem dX1_beginPeople_21 : decode cX1_beginPeople 21 = .ok (.iastore, 1) := by decide +kernel
theorem dX1_beginPeople_22 : decode cX1_beginPeople 22 = .ok (.aload_n 0, 1) := by decide +kernel
theorem dX1_beginPeople_23 : decode cX1_beginPeople 23 = .ok (.getfield 21, 3) := by decide +kernel
theorem dX1_beginPeople_26 : decode cX1_beginPeople 26 = .ok (.iload_n 2, 1) := by decide +kernel
theorem dX1_beginPeople_27 : decode cX1_beginPeople 27 = .ok (.iconst 0, 1) := by decide +kernel
theorem dX1_beginPeople_28 : decode cX1_beginPeople 28 = .ok (.iastore, 1) := by decide +kernel
theorem dX1_beginPeople_29 : decode cX1_beginPeople 29 = .ok (.iinc 2 1, 3) := by decide +kernel
theorem dX1_beginPeople_32 : decode cX1_beginPeople 32 = .ok (.goto (-25), 3) := by decide +kernel
theorem dX1_beginPeople_35 : decode cX1_beginPeople 35 = .ok (.return_, 1) := by decide +kernel
theorem dX1_beginDays_0 : decode cX1_beginDays 0 = .ok (.iconst 0, 1) := by decide +kernel
theorem dX1_beginDays_1 : decode cX1_beginDays 1 = .ok (.istore 4, 2) := by decide +kernel
theorem dX1_beginDays_3 : decode cX1_beginDays 3 = .ok (.iload 4, 2) := by decide +kernel
theorem dX1_beginDays_5 : decode cX1_beginDays 5 = .ok (.bipush 24, 2) := by decide +kernel
theorem dX1_beginDays_7 : decode cX1_beginDays 7 = .ok (.if_icmp .ge 33, 3) := by decide +kernel
theorem dX1_beginDays_10 : decode cX1_beginDays 10 = .ok (.aload_n 0, 1) := by decide +kernel
theorem dX1_beginDays_11 : decode cX1_beginDays 11 = .ok (.getfield 24, 3) := by decide +kernel
theorem dX1_beginDays_14 : decode cX1_beginDays 14 = .ok (.iload 4, 2) := by decide +kernel
theorem dX1_beginDays_16 : decode cX1_beginDays 16 = .ok (.iconst 0, 1) := by decide +kernel
theorem dX1_beginDays_17 : decode cX1_beginDays 17 = .ok (.iastore, 1) := by decide +kernel
theorem dX1_beginDays_18 : decode cX1_beginDays 18 = .ok (.aload_n 0, 1) := by decide +kernel
theorem dX1_beginDays_19 : decode cX1_beginDays 19 = .ok (.getfield 27, 3) := by decide +kernel
theorem dX1_beginDays_22 : decode cX1_beginDays 22 = .ok (.iload 4, 2) := by decide +kernel
theorem dX1_beginDays_24 : decode cX1_beginDays 24 = .ok (.iconst 0, 1) := by decide +kernel
theorem dX1_beginDays_25 : decode cX1_beginDays 25 = .ok (.iastore, 1) := by decide +kernel
theorem dX1_beginDays_26 : decode cX1_beginDays 26 = .ok (.aload_n 0, 1) := by decide +kernel
theorem dX1_beginDays_27 : decode cX1_beginDays 27 = .ok (.getfield 30, 3) := by decide +kernel
theorem dX1_beginDays_30 : decode cX1_beginDays 30 = .ok (.iload 4, 2) := by decide +kernel
theorem dX1_beginDays_32 : decode cX1_beginDays 32 = .ok (.iconst (-1), 1) := by decide +kernel
theorem dX1_beginDays_33 : decode cX1_beginDays 33 = .ok (.iastore, 1) := by decide +kernel
theorem dX1_beginDays_34 : decode cX1_beginDays 34 = .ok (.iinc 4 1, 3) := by decide +kernel
theorem dX1_beginDays_37 : decode cX1_beginDays 37 = .ok (.goto (-34), 3) := by decide +kernel
theorem dX1_beginDays_40 : decode cX1_beginDays 40 = .ok (.iconst 0, 1) := by decide +kernel
theorem dX1_beginDays_41 : decode cX1_beginDays 41 = .ok (.istore 4, 2) := by decide +kernel
theorem dX1_beginDays_43 : decode cX1_beginDays 43 = .ok (.iload 4, 2) := by decide +kernel
theorem dX1_beginDays_45 : decode cX1_beginDays 45 = .ok (.aload_n 2, 1) := by decide +kernel
theorem dX1_beginDays_46 : decode cX1_beginDays 46 = .ok (.getfield 101, 3) := by decide +kernel
theorem dX1_beginDays_49 : decode cX1_beginDays 49 = .ok (.if_icmp .ge 42, 3) := by decide +kernel
theorem dX1_beginDays_52 : decode cX1_beginDays 52 = .ok (.iload_n 3, 1) := by decide +kernel
theorem dX1_beginDays_53 : decode cX1_beginDays 53 = .ok (.iload 4, 2) := by decide +kernel
theorem dX1_beginDays_55 : decode cX1_beginDays 55 = .ok (.ishr, 1) := by decide +kernel
theorem dX1_beginDays_56 : decode cX1_beginDays 56 = .ok (.iconst 1, 1) := by decide +kernel
theorem dX1_beginDays_57 : decode cX1_beginDays 57 = .ok (.iand, 1) := by decide +kernel
theorem dX1_beginDays_58 : decode cX1_beginDays 58 = .ok (.ifCond .eq 27, 3) := by decide +kernel
theorem dX1_beginDays_61 : decode cX1_beginDays 61 = .ok (.aload_n 0, 1) := by decide +kernel
theorem dX1_beginDays_62 : decode cX1_beginDays 62 = .ok (.getfield 24, 3) := by decide +kernel
theorem dX1_beginDays_65 : decode cX1_beginDays 65 = .ok (.aload_n 2, 1) := by decide +kernel
theorem dX1_beginDays_66 : decode cX1_beginDays 66 = .ok (.getfield 106, 3) := by decide +kernel
theorem dX1_beginDays_69 : decode cX1_beginDays 69 = .ok (.iload 4, 2) := by decide +kernel
theorem dX1_beginDays_71 : decode cX1_beginDays 71 = .ok (.iaload, 1) := by decide +kernel
theorem dX1_beginDays_72 : decode cX1_beginDays 72 = .ok (.dup2, 1) := by decide +kernel
theorem dX1_beginDays_73 : decode cX1_beginDays 73 = .ok (.iaload, 1) := by decide +kernel
theorem dX1_beginDays_74 : decode cX1_beginDays 74 = .ok (.iconst 1, 1) := by decide +kernel
theorem dX1_beginDays_75 : decode cX1_beginDays 75 = .ok (.aload_n 2, 1) := by decide +kernel
theorem dX1_beginDays_76 : decode cX1_beginDays 76 = .ok (.getfield 109, 3) := by decide +kernel
theorem dX1_beginDays_79 : decode cX1_beginDays 79 = .ok (.iload 4, 2) := by decide +kernel
theorem dX1_beginDays_81 : decode cX1_beginDays 81 = .ok (.iaload, 1) := by decide +kernel
theorem dX1_beginDays_82 : decode cX1_beginDays 82 = .ok (.ishl, 1) := by decide +kernel
theorem dX1_beginDays_83 : decode cX1_beginDays 83 = .ok (.ior, 1) := by decide +kernel
theorem dX1_beginDays_84 : decode cX1_beginDays 84 = .ok (.iastore, 1) := by decide +kernel
theorem dX1_beginDays_85 : decode cX1_beginDays 85 = .ok (.iinc 4 1, 3) := by decide +kernel
theorem dX1_beginDays_88 : decode cX1_beginDays 88 = .ok (.goto (-45), 3) := by decide +kernel
theorem dX1_beginDays_91 : decode cX1_beginDays 91 = .ok (.iconst 0, 1) := by decide +kernel
theorem dX1_beginDays_92 : decode cX1_beginDays 92 = .ok (.istore 4, 2) := by decide +kernel
theorem dX1_beginDays_94 : decode cX1_beginDays 94 = .ok (.iload 4, 2) := by decide +kernel
theorem dX1_beginDays_96 : decode cX1_beginDays 96 = .ok (.aload_n 1, 1) := by decide +kernel
theorem dX1_beginDays_97 : decode cX1_beginDays 97 = .ok (.getfield 79, 3) := by decide +kernel
theorem dX1_beginDays_100 : decode cX1_beginDays 100 = .ok (.if_icmp .ge 28, 3) := by decide +kernel
theorem dX1_beginDays_103 : decode cX1_beginDays 103 = .ok (.aload_n 0, 1) := by decide +kernel
theorem dX1_beginDays_104 : decode cX1_beginDays 104 = .ok (.getfield 27, 3) := by decide +kernel
theorem dX1_beginDays_107 : decode cX1_beginDays 107 = .ok (.aload_n 1, 1) := by decide +kernel
theorem dX1_beginDays_108 : decode cX1_beginDays 108 = .ok (.getfield 112, 3) := by decide +kernel
theorem dX1_beginDays_111 : decode cX1_beginDays 111 = .ok (.iload 4, 2) := by decide +kernel
theorem dX1_beginDays_113 : decode cX1_beginDays 113 = .ok (.iaload, 1) := by decide +kernel
theorem dX1_beginDays_114 : decode cX1_beginDays 114 = .ok (.dup2, 1) := by decide +kernel
theorem dX1_beginDays_115 : decode cX1_beginDays 115 = .ok (.iaload, 1) := by decide +kernel
theorem dX1_beginDays_116 : decode cX1_beginDays 116 = .ok (.iconst 1, 1) := by decide +kernel
theorem dX1_beginDays_117 : decode cX1_beginDays 117 = .ok (.iload 4, 2) := by decide +kernel
theorem dX1_beginDays_119 : decode cX1_beginDays 119 = .ok (.ishl, 1) := by decide +kernel
theorem dX1_beginDays_120 : decode cX1_beginDays 120 = .ok (.ior, 1) := by decide +kernel
theorem dX1_beginDays_121 : decode cX1_beginDays 121 = .ok (.iastore, 1) := by decide +kernel
theorem dX1_beginDays_122 : decode cX1_beginDays 122 = .ok (.iinc 4 1, 3) := by decide +kernel
theorem dX1_beginDays_125 : decode cX1_beginDays 125 = .ok (.goto (-31), 3) := by decide +kernel
theorem dX1_beginDays_128 : decode cX1_beginDays 128 = .ok (.aload_n 1, 1) := by decide +kernel
theorem dX1_beginDays_129 : decode cX1_beginDays 129 = .ok (.getfield 115, 3) := by decide +kernel
theorem dX1_beginDays_132 : decode cX1_beginDays 132 = .ok (.iconst 1, 1) := by decide +kernel
theorem dX1_beginDays_133 : decode cX1_beginDays 133 = .ok (.isub, 1) := by decide +kernel
theorem dX1_beginDays_134 : decode cX1_beginDays 134 = .ok (.istore 4, 2) := by decide +kernel
theorem dX1_beginDays_136 : decode cX1_beginDays 136 = .ok (.iload 4, 2) := by decide +kernel
theorem dX1_beginDays_138 : decode cX1_beginDays 138 = .ok (.ifCond .lt 42, 3) := by decide +kernel
theorem dX1_beginDays_141 : decode cX1_beginDays 141 = .ok (.aload_n 0, 1) := by decide +kernel
theorem dX1_beginDays_142 : decode cX1_beginDays 142 = .ok (.getfield 33, 3) := by decide +kernel
theorem dX1_beginDays_145 : decode cX1_beginDays 145 = .ok (.iload 4, 2) := by decide +kernel
theorem dX1_beginDays_147 : decode cX1_beginDays 147 = .ok (.aload_n 0, 1) := by decide +kernel
theorem dX1_beginDays_148 : decode cX1_beginDays 148 = .ok (.getfield 30, 3) := by decide +kernel
theorem dX1_beginDays_151 : decode cX1_beginDays 151 = .ok (.aload_n 1, 1) := by decide +kernel
theorem dX1_beginDays_152 : decode cX1_beginDays 152 = .ok (.getfield 118, 3) := by decide +kernel
theorem dX1_beginDays_155 : decode cX1_beginDays 155 = .ok (.iload 4, 2) := by decide +kernel
theorem dX1_beginDays_157 : decode cX1_beginDays 157 = .ok (.iaload, 1) := by decide +kernel
theorem dX1_beginDays_158 : decode cX1_beginDays 158 = .ok (.iaload, 1) := by decide +kernel
theorem dX1_beginDays_159 : decode cX1_beginDays 159 = .ok (.iastore, 1) := by decide +kernel
theorem dX1_beginDays_160 : decode cX1_beginDays 160 = .ok (.aload_n 0, 1) := by decide +kernel
theorem dX1_beginDays_161 : decode cX1_beginDays 161 = .ok (.getfield 30, 3) := by decide +kernel
theorem dX1_beginDays_164 : decode cX1_beginDays 164 = .ok (.aload_n 1, 1) := by decide +kernel
theorem dX1_beginDays_165 : decode cX1_beginDays 165 = .ok (.getfield 118, 3) := by decide +kernel
theorem dX1_beginDays_168 : decode cX1_beginDays 168 = .ok (.iload 4, 2) := by decide +kernel
theorem dX1_beginDays_170 : decode cX1_beginDays 170 = .ok (.iaload, 1) := by decide +kernel
theorem dX1_beginDays_171 : decode cX1_beginDays 171 = .ok (.iload 4, 2) := by decide +kernel
theorem dX1_beginDays_173 : decode cX1_beginDays 173 = .ok (.iastore, 1) := by decide +kernel
theorem dX1_beginDays_174 : decode cX1_beginDays 174 = .ok (.iinc 4 (-1), 3) := by decide +kernel
theorem dX1_beginDays_177 : decode cX1_beginDays 177 = .ok (.goto (-41), 3) := by decide +kernel
theorem dX1_beginDays_180 : decode cX1_beginDays 180 = .ok (.return_, 1) := by decide +kernel
theorem dX1_growDebts_0 : decode cX1_growDebts 0 = .ok (.iconst 0, 1) := by decide +kernel
theorem dX1_growDebts_1 : decode cX1_growDebts 1 = .ok (.istore_n 2, 1) := by decide +kernel
theorem dX1_growDebts_2 : decode cX1_growDebts 2 = .ok (.iload_n 2, 1) := by decide +kernel
theorem dX1_growDebts_3 : decode cX1_growDebts 3 = .ok (.aload_n 0, 1) := by decide +kernel
theorem dX1_growDebts_4 : decode cX1_growDebts 4 = .ok (.getfield 69, 3) := by decide +kernel
theorem dX1_growDebts_7 : decode cX1_growDebts 7 = .ok (.if_icmp .ge 58, 3) := by decide +kernel
theorem dX1_growDebts_10 : decode cX1_growDebts 10 = .ok (.aload_n 0, 1) := by decide +kernel
theorem dX1_growDebts_11 : decode cX1_growDebts 11 = .ok (.getfield 9, 3) := by decide +kernel
theorem dX1_growDebts_14 : decode cX1_growDebts 14 = .ok (.iload_n 2, 1) := by decide +kernel
theorem dX1_growDebts_15 : decode cX1_growDebts 15 = .ok (.iaload, 1) := by decide +kernel
theorem dX1_growDebts_16 : decode cX1_growDebts 16 = .ok (.ifCond .ne 43, 3) := by decide +kernel
theorem dX1_growDebts_19 : decode cX1_growDebts 19 = .ok (.aload_n 1, 1) := by decide +kernel
theorem dX1_growDebts_20 : decode cX1_growDebts 20 = .ok (.getfield 119, 3) := by decide +kernel
theorem dX1_growDebts_23 : decode cX1_growDebts 23 = .ok (.aload_n 1, 1) := by decide +kernel
theorem dX1_growDebts_24 : decode cX1_growDebts 24 = .ok (.getfield 85, 3) := by decide +kernel
theorem dX1_growDebts_27 : decode cX1_growDebts 27 = .ok (.iload_n 2, 1) := by decide +kernel
theorem dX1_growDebts_28 : decode cX1_growDebts 28 = .ok (.iaload, 1) := by decide +kernel
theorem dX1_growDebts_29 : decode cX1_growDebts 29 = .ok (.iaload, 1) := by decide +kernel
theorem dX1_growDebts_30 : decode cX1_growDebts 30 = .ok (.iconst 3, 1) := by decide +kernel
theorem dX1_growDebts_31 : decode cX1_growDebts 31 = .ok (.if_icmp .ne 7, 3) := by decide +kernel
theorem dX1_growDebts_34 : decode cX1_growDebts 34 = .ok (.iconst 2, 1) := by decide +kernel
theorem dX1_growDebts_35 : decode cX1_growDebts 35 = .ok (.goto 4, 3) := by decide +kernel
theorem dX1_growDebts_38 : decode cX1_growDebts 38 = .ok (.iconst 1, 1) := by decide +kernel
theorem dX1_growDebts_39 : decode cX1_growDebts 39 = .ok (.istore_n 3, 1) := by decide +kernel
theorem dX1_growDebts_40 : decode cX1_growDebts 40 = .ok (.aload_n 0, 1) := by decide +kernel
theorem dX1_growDebts_41 : decode cX1_growDebts 41 = .ok (.getfield 15, 3) := by decide +kernel
theorem dX1_growDebts_44 : decode cX1_growDebts 44 = .ok (.iload_n 2, 1) := by decide +kernel
theorem dX1_growDebts_45 : decode cX1_growDebts 45 = .ok (.aload_n 0, 1) := by decide +kernel
theorem dX1_growDebts_46 : decode cX1_growDebts 46 = .ok (.getfield 15, 3) := by decide +kernel
theorem dX1_growDebts_49 : decode cX1_growDebts 49 = .ok (.iload_n 2, 1) := by decide +kernel
theorem dX1_growDebts_50 : decode cX1_growDebts 50 = .ok (.iaload, 1) := by decide +kernel
theorem dX1_growDebts_51 : decode cX1_growDebts 51 = .ok (.iload_n 3, 1) := by decide +kernel
theorem dX1_growDebts_52 : decode cX1_growDebts 52 = .ok (.iadd, 1) := by decide +kernel
theorem dX1_growDebts_53 : decode cX1_growDebts 53 = .ok (.bipush 9, 2) := by decide +kernel
theorem dX1_growDebts_55 : decode cX1_growDebts 55 = .ok (.invokestatic 122, 3) := by decide +kernel
theorem dX1_growDebts_58 : decode cX1_growDebts 58 = .ok (.iastore, 1) := by decide +kernel
theorem dX1_growDebts_59 : decode cX1_growDebts 59 = .ok (.iinc 2 1, 3) := by decide +kernel
theorem dX1_growDebts_62 : decode cX1_growDebts 62 = .ok (.goto (-60), 3) := by decide +kernel
theorem dX1_growDebts_65 : decode cX1_growDebts 65 = .ok (.return_, 1) := by decide +kernel
theorem dX1_holdMeetings_0 : decode cX1_holdMeetings 0 = .ok (.aload_n 0, 1) := by decide +kernel
theorem dX1_holdMeetings_1 : decode cX1_holdMeetings 1 = .ok (.getfield 30, 3) := by decide +kernel
theorem dX1_holdMeetings_4 : decode cX1_holdMeetings 4 = .ok (.iload_n 2, 1) := by decide +kernel
theorem dX1_holdMeetings_5 : decode cX1_holdMeetings 5 = .ok (.iaload, 1) := by decide +kernel
theorem dX1_holdMeetings_6 : decode cX1_holdMeetings 6 = .ok (.istore_n 3, 1) := by decide +kernel
theorem dX1_holdMeetings_7 : decode cX1_holdMeetings 7 = .ok (.iconst 0, 1) := by decide +kernel
theorem dX1_holdMeetings_8 : decode cX1_holdMeetings 8 = .ok (.istore 4, 2) := by decide +kernel
theorem dX1_holdMeetings_10 : decode cX1_holdMeetings 10 = .ok (.iload 4, 2) := by decide +kernel
theorem dX1_holdMeetings_12 : decode cX1_holdMeetings 12 = .ok (.aload_n 1, 1) := by decide +kernel
theorem dX1_holdMeetings_13 : decode cX1_holdMeetings 13 = .ok (.getfield 115, 3) := by decide +kernel
theorem dX1_holdMeetings_16 : decode cX1_holdMeetings 16 = .ok (.if_icmp .ge 118, 3) := by decide +kernel
theorem dX1_holdMeetings_19 : decode cX1_holdMeetings 19 = .ok (.iload_n 3, 1) := by decide +kernel
theorem dX1_holdMeetings_20 : decode cX1_holdMeetings 20 = .ok (.iconst (-1), 1) := by decide +kernel
theorem dX1_holdMeetings_21 : decode cX1_holdMeetings 21 = .ok (.if_icmp .eq 113, 3) := by decide +kernel
theorem dX1_holdMeetings_24 : decode cX1_holdMeetings 24 = .ok (.aload_n 1, 1) := by decide +kernel
theorem dX1_holdMeetings_25 : decode cX1_holdMeetings 25 = .ok (.getfield 128, 3) := by decide +kernel
theorem dX1_holdMeetings_28 : decode cX1_holdMeetings 28 = .ok (.iload_n 3, 1) := by decide +kernel
theorem dX1_holdMeetings_29 : decode cX1_holdMeetings 29 = .ok (.iaload, 1) := by decide +kernel
theorem dX1_holdMeetings_30 : decode cX1_holdMeetings 30 = .ok (.istore 5, 2) := by decide +kernel
theorem dX1_holdMeetings_32 : decode cX1_holdMeetings 32 = .ok (.aload_n 1, 1) := by decide +kernel
theorem dX1_holdMeetings_33 : decode cX1_holdMeetings 33 = .ok (.getfield 131, 3) := by decide +kernel
theorem dX1_holdMeetings_36 : decode cX1_holdMeetings 36 = .ok (.iload_n 3, 1) := by decide +kernel
theorem dX1_holdMeetings_37 : decode cX1_holdMeetings 37 = .ok (.iaload, 1) := by decide +kernel
theorem dX1_holdMeetings_38 : decode cX1_holdMeetings 38 = .ok (.istore 6, 2) := by decide +kernel
theorem dX1_holdMeetings_40 : decode cX1_holdMeetings 40 = .ok (.aload_n 1, 1) := by decide +kernel
theorem dX1_holdMeetings_41 : decode cX1_holdMeetings 41 = .ok (.iload 5, 2) := by decide +kernel
theorem dX1_holdMeetings_43 : decode cX1_holdMeetings 43 = .ok (.iload 6, 2) := by decide +kernel
theorem dX1_holdMeetings_45 : decode cX1_holdMeetings 45 = .ok (.invokevirtual 91, 3) := by decide +kernel
theorem dX1_holdMeetings_48 : decode cX1_holdMeetings 48 = .ok (.ifCond .eq 73, 3) := by decide +kernel
theorem dX1_holdMeetings_51 : decode cX1_holdMeetings 51 = .ok (.aload_n 0, 1) := by decide +kernel
theorem dX1_holdMeetings_52 : decode cX1_holdMeetings 52 = .ok (.getfield 98, 3) := by decide +kernel
theorem dX1_holdMeetings_55 : decode cX1_holdMeetings 55 = .ok (.iload 5, 2) := by decide +kernel
theorem dX1_holdMeetings_57 : decode cX1_holdMeetings 57 = .ok (.ishr, 1) := by decide +kernel
theorem dX1_holdMeetings_58 : decode cX1_holdMeetings 58 = .ok (.iconst 1, 1) := by decide +kernel
theorem dX1_holdMeetings_59 : decode cX1_holdMeetings 59 = .ok (.iand, 1) := by decide +kernel
theorem dX1_holdMeetings_60 : decode cX1_holdMeetings 60 = .ok (.ifCond .ne 61, 3) := by decide +kernel
theorem dX1_holdMeetings_63 : decode cX1_holdMeetings 63 = .ok (.aload_n 0, 1) := by decide +kernel
theorem dX1_holdMeetings_64 : decode cX1_holdMeetings 64 = .ok (.getfield 98, 3) := by decide +kernel
theorem dX1_holdMeetings_67 : decode cX1_holdMeetings 67 = .ok (.iload 6, 2) := by decide +kernel
theorem dX1_holdMeetings_69 : decode cX1_holdMeetings 69 = .ok (.ishr, 1) := by decide +kernel
theorem dX1_holdMeetings_70 : decode cX1_holdMeetings 70 = .ok (.iconst 1, 1) := by decide +kernel
theorem dX1_holdMeetings_71 : decode cX1_holdMeetings 71 = .ok (.iand, 1) := by decide +kernel
theorem dX1_holdMeetings_72 : decode cX1_holdMeetings 72 = .ok (.ifCond .ne 49, 3) := by decide +kernel
theorem dX1_holdMeetings_75 : decode cX1_holdMeetings 75 = .ok (.aload_n 0, 1) := by decide +kernel
theorem dX1_holdMeetings_76 : decode cX1_holdMeetings 76 = .ok (.aload_n 1, 1) := by decide +kernel
theorem dX1_holdMeetings_77 : decode cX1_holdMeetings 77 = .ok (.getfield 119, 3) := by decide +kernel
theorem dX1_holdMeetings_80 : decode cX1_holdMeetings 80 = .ok (.iload 5, 2) := by decide +kernel
theorem dX1_holdMeetings_82 : decode cX1_holdMeetings 82 = .ok (.iaload, 1) := by decide +kernel
theorem dX1_holdMeetings_83 : decode cX1_holdMeetings 83 = .ok (.iload_n 2, 1) := by decide +kernel
theorem dX1_holdMeetings_84 : decode cX1_holdMeetings 84 = .ok (.iload 5, 2) := by decide +kernel
theorem dX1_holdMeetings_86 : decode cX1_holdMeetings 86 = .ok (.aload_n 0, 1) := by decide +kernel
theorem dX1_holdMeetings_87 : decode cX1_holdMeetings 87 = .ok (.aload_n 1, 1) := by decide +kernel
theorem dX1_holdMeetings_88 : decode cX1_holdMeetings 88 = .ok (.iload 6, 2) := by decide +kernel
theorem dX1_holdMeetings_90 : decode cX1_holdMeetings 90 = .ok (.iload 5, 2) := by decide +kernel
theorem dX1_holdMeetings_92 : decode cX1_holdMeetings 92 = .ok (.invokevirtual 134, 3) := by decide +kernel
theorem dX1_holdMeetings_95 : decode cX1_holdMeetings 95 = .ok (.invokevirtual 138, 3) := by decide +kernel
theorem dX1_holdMeetings_98 : decode cX1_holdMeetings 98 = .ok (.aload_n 0, 1) := by decide +kernel
theorem dX1_holdMeetings_99 : decode cX1_holdMeetings 99 = .ok (.aload_n 1, 1) := by decide +kernel
theorem dX1_holdMeetings_100 : decode cX1_holdMeetings 100 = .ok (.getfield 119, 3) := by decide +kernel
theorem dX1_holdMeetings_103 : decode cX1_holdMeetings 103 = .ok (.iload 6, 2) := by decide +kernel
theorem dX1_holdMeetings_105 : decode cX1_holdMeetings 105 = .ok (.iaload, 1) := by decide +kernel
theorem dX1_holdMeetings_106 : decode cX1_holdMeetings 106 = .ok (.iload_n 2, 1) := by decide +kernel
theorem dX1_holdMeetings_107 : decode cX1_holdMeetings 107 = .ok (.iload 6, 2) := by decide +kernel
theorem dX1_holdMeetings_109 : decode cX1_holdMeetings 109 = .ok (.aload_n 0, 1) := by decide +kernel
theorem dX1_holdMeetings_110 : decode cX1_holdMeetings 110 = .ok (.aload_n 1, 1) := by decide +kernel
theorem dX1_holdMeetings_111 : decode cX1_holdMeetings 111 = .ok (.iload 5, 2) := by decide +kernel
theorem dX1_holdMeetings_113 : decode cX1_holdMeetings 113 = .ok (.iload 6, 2) := by decide +kernel
theorem dX1_holdMeetings_115 : decode cX1_holdMeetings 115 = .ok (.invokevirtual 134, 3) := by decide +kernel
theorem dX1_holdMeetings_118 : decode cX1_holdMeetings 118 = .ok (.invokevirtual 138, 3) := by decide +kernel
theorem dX1_holdMeetings_121 : decode cX1_holdMeetings 121 = .ok (.aload_n 0, 1) := by decide +kernel
theorem dX1_holdMeetings_122 : decode cX1_holdMeetings 122 = .ok (.getfield 33, 3) := by decide +kernel
theorem dX1_holdMeetings_125 : decode cX1_holdMeetings 125 = .ok (.iload_n 3, 1) := by decide +kernel
theorem dX1_holdMeetings_126 : decode cX1_holdMeetings 126 = .ok (.iaload, 1) := by decide +kernel
theorem dX1_holdMeetings_127 : decode cX1_holdMeetings 127 = .ok (.istore_n 3, 1) := by decide +kernel
theorem dX1_holdMeetings_128 : decode cX1_holdMeetings 128 = .ok (.iinc 4 1, 3) := by decide +kernel
theorem dX1_holdMeetings_131 : decode cX1_holdMeetings 131 = .ok (.goto (-121), 3) := by decide +kernel
theorem dX1_holdMeetings_134 : decode cX1_holdMeetings 134 = .ok (.return_, 1) := by decide +kernel
theorem dX1_speak_0 : decode cX1_speak 0 = .ok (.iload 4, 2) := by decide +kernel
theorem dX1_speak_2 : decode cX1_speak 2 = .ok (.iconst (-1), 1) := by decide +kernel
theorem dX1_speak_3 : decode cX1_speak 3 = .ok (.if_icmp .eq 8, 3) := by decide +kernel
theorem dX1_speak_6 : decode cX1_speak 6 = .ok (.iload_n 1, 1) := by decide +kernel
theorem dX1_speak_7 : decode cX1_speak 7 = .ok (.iconst 2, 1) := by decide +kernel
theorem dX1_speak_8 : decode cX1_speak 8 = .ok (.if_icmp .ne 4, 3) := by decide +kernel
theorem dX1_speak_11 : decode cX1_speak 11 = .ok (.return_, 1) := by decide +kernel
theorem dX1_speak_12 : decode cX1_speak 12 = .ok (.aload_n 0, 1) := by decide +kernel
theorem dX1_speak_13 : decode cX1_speak 13 = .ok (.getfield 21, 3) := by decide +kernel
theorem dX1_speak_16 : decode cX1_speak 16 = .ok (.iload_n 3, 1) := by decide +kernel
theorem dX1_speak_17 : decode cX1_speak 17 = .ok (.dup2, 1) := by decide +kernel
theorem dX1_speak_18 : decode cX1_speak 18 = .ok (.iaload, 1) := by decide +kernel
theorem dX1_speak_19 : decode cX1_speak 19 = .ok (.iconst 1, 1) := by decide +kernel
theorem dX1_speak_20 : decode cX1_speak 20 = .ok (.iadd, 1) := by decide +kernel
theorem dX1_speak_21 : decode cX1_speak 21 = .ok (.iastore, 1) := by decide +kernel
theorem dX1_speak_22 : decode cX1_speak 22 = .ok (.iload_n 1, 1) := by decide +kernel
theorem dX1_speak_23 : decode cX1_speak 23 = .ok (.iconst 1, 1) := by decide +kernel
theorem dX1_speak_24 : decode cX1_speak 24 = .ok (.if_icmp .ne 15, 3) := by decide +kernel
theorem dX1_speak_27 : decode cX1_speak 27 = .ok (.aload_n 0, 1) := by decide +kernel
theorem dX1_speak_28 : decode cX1_speak 28 = .ok (.getfield 21, 3) := by decide +kernel
theorem dX1_speak_31 : decode cX1_speak 31 = .ok (.iload_n 3, 1) := by decide +kernel
theorem dX1_speak_32 : decode cX1_speak 32 = .ok (.iaload, 1) := by decide +kernel
theorem dX1_speak_33 : decode cX1_speak 33 = .ok (.iconst 2, 1) := by decide +kernel
theorem dX1_speak_34 : decode cX1_speak 34 = .ok (.irem, 1) := by decide +kernel
theorem dX1_speak_35 : decode cX1_speak 35 = .ok (.ifCond .eq 4, 3) := by decide +kernel
theorem dX1_speak_38 : decode cX1_speak 38 = .ok (.return_, 1) := by decide +kernel
theorem dX1_speak_39 : decode cX1_speak 39 = .ok (.aload_n 0, 1) := by decide +kernel
theorem dX1_speak_40 : decode cX1_speak 40 = .ok (.getfield 18, 3) := by decide +kernel
theorem dX1_speak_43 : decode cX1_speak 43 = .ok (.iload_n 3, 1) := by decide +kernel
theorem dX1_speak_44 : decode cX1_speak 44 = .ok (.dup2, 1) := by decide +kernel
theorem dX1_speak_45 : decode cX1_speak 45 = .ok (.iaload, 1) := by decide +kernel
theorem dX1_speak_46 : decode cX1_speak 46 = .ok (.iconst 1, 1) := by decide +kernel
theorem dX1_speak_47 : decode cX1_speak 47 = .ok (.iadd, 1) := by decide +kernel
theorem dX1_speak_48 : decode cX1_speak 48 = .ok (.iastore, 1) := by decide +kernel
theorem dX1_speak_49 : decode cX1_speak 49 = .ok (.aload_n 0, 1) := by decide +kernel
theorem dX1_speak_50 : decode cX1_speak 50 = .ok (.getfield 24, 3) := by decide +kernel
theorem dX1_speak_53 : decode cX1_speak 53 = .ok (.iload_n 2, 1) := by decide +kernel
theorem dX1_speak_54 : decode cX1_speak 54 = .ok (.iaload, 1) := by decide +kernel
theorem dX1_speak_55 : decode cX1_speak 55 = .ok (.iload_n 3, 1) := by decide +kernel
theorem dX1_speak_56 : decode cX1_speak 56 = .ok (.ishr, 1) := by decide +kernel
theorem dX1_speak_57 : decode cX1_speak 57 = .ok (.iconst 1, 1) := by decide +kernel
theorem dX1_speak_58 : decode cX1_speak 58 = .ok (.iand, 1) := by decide +kernel
theorem dX1_speak_59 : decode cX1_speak 59 = .ok (.ifCond .eq 4, 3) := by decide +kernel
theorem dX1_speak_62 : decode cX1_speak 62 = .ok (.return_, 1) := by decide +kernel
theorem dX1_speak_63 : decode cX1_speak 63 = .ok (.aload_n 0, 1) := by decide +kernel
theorem dX1_speak_64 : decode cX1_speak 64 = .ok (.getfield 15, 3) := by decide +kernel
theorem dX1_speak_67 : decode cX1_speak 67 = .ok (.iload 4, 2) := by decide +kernel
theorem dX1_speak_69 : decode cX1_speak 69 = .ok (.dup2, 1) := by decide +kernel
theorem dX1_speak_70 : decode cX1_speak 70 = .ok (.iaload, 1) := by decide +kernel
theorem dX1_speak_71 : decode cX1_speak 71 = .ok (.iload_n 1, 1) := by decide +kernel
theorem dX1_speak_72 : decode cX1_speak 72 = .ok (.iconst 3, 1) := by decide +kernel
theorem dX1_speak_73 : decode cX1_speak 73 = .ok (.if_icmp .ne 7, 3) := by decide +kernel
theorem dX1_speak_76 : decode cX1_speak 76 = .ok (.iconst 2, 1) := by decide +kernel
theorem dX1_speak_77 : decode cX1_speak 77 = .ok (.goto 4, 3) := by decide +kernel
theorem dX1_speak_80 : decode cX1_speak 80 = .ok (.iconst 1, 1) := by decide +kernel
theorem dX1_speak_81 : decode cX1_speak 81 = .ok (.isub, 1) := by decide +kernel
theorem dX1_speak_82 : decode cX1_speak 82 = .ok (.iastore, 1) := by decide +kernel
theorem dX1_speak_83 : decode cX1_speak 83 = .ok (.aload_n 0, 1) := by decide +kernel
theorem dX1_speak_84 : decode cX1_speak 84 = .ok (.getfield 15, 3) := by decide +kernel
theorem dX1_speak_87 : decode cX1_speak 87 = .ok (.iload 4, 2) := by decide +kernel
theorem dX1_speak_89 : decode cX1_speak 89 = .ok (.iaload, 1) := by decide +kernel
theorem dX1_speak_90 : decode cX1_speak 90 = .ok (.ifCond .gt 19, 3) := by decide +kernel
theorem dX1_speak_93 : decode cX1_speak 93 = .ok (.aload_n 0, 1) := by decide +kernel
theorem dX1_speak_94 : decode cX1_speak 94 = .ok (.getfield 15, 3) := by decide +kernel
theorem dX1_speak_97 : decode cX1_speak 97 = .ok (.iload 4, 2) := by decide +kernel
theorem dX1_speak_99 : decode cX1_speak 99 = .ok (.iconst 0, 1) := by decide +kernel
theorem dX1_speak_100 : decode cX1_speak 100 = .ok (.iastore, 1) := by decide +kernel
theorem dX1_speak_101 : decode cX1_speak 101 = .ok (.aload_n 0, 1) := by decide +kernel
theorem dX1_speak_102 : decode cX1_speak 102 = .ok (.getfield 9, 3) := by decide +kernel
theorem dX1_speak_105 : decode cX1_speak 105 = .ok (.iload 4, 2) := by decide +kernel
theorem dX1_speak_107 : decode cX1_speak 107 = .ok (.iconst 1, 1) := by decide +kernel
theorem dX1_speak_108 : decode cX1_speak 108 = .ok (.iastore, 1) := by decide +kernel
theorem dX1_speak_109 : decode cX1_speak 109 = .ok (.return_, 1) := by decide +kernel
theorem dX1_leastOpen_0 : decode cX1_leastOpen 0 = .ok (.iconst 0, 1) := by decide +kernel
theorem dX1_leastOpen_1 : decode cX1_leastOpen 1 = .ok (.istore 4, 2) := by decide +kernel
theorem dX1_leastOpen_3 : decode cX1_leastOpen 3 = .ok (.iload 4, 2) := by decide +kernel
theorem dX1_leastOpen_5 : decode cX1_leastOpen 5 = .ok (.aload_n 0, 1) := by decide +kernel
theorem dX1_leastOpen_6 : decode cX1_leastOpen 6 = .ok (.getfield 69, 3) := by decide +kernel
theorem dX1_leastOpen_9 : decode cX1_leastOpen 9 = .ok (.if_icmp .ge 44, 3) := by decide +kernel
theorem dX1_leastOpen_12 : decode cX1_leastOpen 12 = .ok (.aload_n 0, 1) := by decide +kernel
theorem dX1_leastOpen_13 : decode cX1_leastOpen 13 = .ok (.getfield 9, 3) := by decide +kernel
theorem dX1_leastOpen_16 : decode cX1_leastOpen 16 = .ok (.iload 4, 2) := by decide +kernel
theorem dX1_leastOpen_18 : decode cX1_leastOpen 18 = .ok (.iaload, 1) := by decide +kernel
theorem dX1_leastOpen_19 : decode cX1_leastOpen 19 = .ok (.ifCond .ne 28, 3) := by decide +kernel
theorem dX1_leastOpen_22 : decode cX1_leastOpen 22 = .ok (.aload_n 1, 1) := by decide +kernel
theorem dX1_leastOpen_23 : decode cX1_leastOpen 23 = .ok (.getfield 85, 3) := by decide +kernel
theorem dX1_leastOpen_26 : decode cX1_leastOpen 26 = .ok (.iload 4, 2) := by decide +kernel
theorem dX1_leastOpen_28 : decode cX1_leastOpen 28 = .ok (.iaload, 1) := by decide +kernel
theorem dX1_leastOpen_29 : decode cX1_leastOpen 29 = .ok (.iload_n 2, 1) := by decide +kernel
theorem dX1_leastOpen_30 : decode cX1_leastOpen 30 = .ok (.if_icmp .ne 17, 3) := by decide +kernel
theorem dX1_leastOpen_33 : decode cX1_leastOpen 33 = .ok (.aload_n 1, 1) := by decide +kernel
theorem dX1_leastOpen_34 : decode cX1_leastOpen 34 = .ok (.getfield 88, 3) := by decide +kernel
theorem dX1_leastOpen_37 : decode cX1_leastOpen 37 = .ok (.iload 4, 2) := by decide +kernel
theorem dX1_leastOpen_39 : decode cX1_leastOpen 39 = .ok (.iaload, 1) := by decide +kernel
theorem dX1_leastOpen_40 : decode cX1_leastOpen 40 = .ok (.iload_n 3, 1) := by decide +kernel
theorem dX1_leastOpen_41 : decode cX1_leastOpen 41 = .ok (.if_icmp .ne 6, 3) := by decide +kernel
theorem dX1_leastOpen_44 : decode cX1_leastOpen 44 = .ok (.iload 4, 2) := by decide +kernel
theorem dX1_leastOpen_46 : decode cX1_leastOpen 46 = .ok (.ireturn, 1) := by decide +kernel
theorem dX1_leastOpen_47 : decode cX1_leastOpen 47 = .ok (.iinc 4 1, 3) := by decide +kernel
theorem dX1_leastOpen_50 : decode cX1_leastOpen 50 = .ok (.goto (-47), 3) := by decide +kernel
theorem dX1_leastOpen_53 : decode cX1_leastOpen 53 = .ok (.iconst (-1), 1) := by decide +kernel
theorem dX1_leastOpen_54 : decode cX1_leastOpen 54 = .ok (.ireturn, 1) := by decide +kernel
theorem dX1_bury_0 : decode cX1_bury 0 = .ok (.iconst 0, 1) := by decide +kernel
theorem dX1_bury_1 : decode cX1_bury 1 = .ok (.istore_n 3, 1) := by decide +kernel
theorem dX1_bury_2 : decode cX1_bury 2 = .ok (.iload_n 3, 1) := by decide +kernel
theorem dX1_bury_3 : decode cX1_bury 3 = .ok (.aload_n 0, 1) := by decide +kernel
theorem dX1_bury_4 : decode cX1_bury 4 = .ok (.getfield 69, 3) := by decide +kernel
theorem dX1_bury_7 : decode cX1_bury 7 = .ok (.if_icmp .ge 74, 3) := by decide +kernel
theorem dX1_bury_10 : decode cX1_bury 10 = .ok (.aload_n 0, 1) := by decide +kernel
theorem dX1_bury_11 : decode cX1_bury 11 = .ok (.getfield 9, 3) := by decide +kernel
theorem dX1_bury_14 : decode cX1_bury 14 = .ok (.iload_n 3, 1) := by decide +kernel
theorem dX1_bury_15 : decode cX1_bury 15 = .ok (.iaload, 1) := by decide +kernel
theorem dX1_bury_16 : decode cX1_bury 16 = .ok (.ifCond .eq 6, 3) := by decide +kernel
theorem dX1_bury_19 : decode cX1_bury 19 = .ok (.goto 56, 3) := by decide +kernel
theorem dX1_bury_22 : decode cX1_bury 22 = .ok (.aload_n 0, 1) := by decide +kernel
theorem dX1_bury_23 : decode cX1_bury 23 = .ok (.getfield 27, 3) := by decide +kernel
theorem dX1_bury_26 : decode cX1_bury 26 = .ok (.iload_n 2, 1) := by decide +kernel
theorem dX1_bury_27 : decode cX1_bury 27 = .ok (.iaload, 1) := by decide +kernel
theorem dX1_bury_28 : decode cX1_bury 28 = .ok (.aload_n 1, 1) := by decide +kernel
theorem dX1_bury_29 : decode cX1_bury 29 = .ok (.getfield 88, 3) := by decide +kernel
theorem dX1_bury_32 : decode cX1_bury 32 = .ok (.iload_n 3, 1) := by decide +kernel
theorem dX1_bury_33 : decode cX1_bury 33 = .ok (.iaload, 1) := by decide +kernel
theorem dX1_bury_34 : decode cX1_bury 34 = .ok (.ishr, 1) := by decide +kernel
theorem dX1_bury_35 : decode cX1_bury 35 = .ok (.iconst 1, 1) := by decide +kernel
theorem dX1_bury_36 : decode cX1_bury 36 = .ok (.iand, 1) := by decide +kernel
theorem dX1_bury_37 : decode cX1_bury 37 = .ok (.ifCond .eq 13, 3) := by decide +kernel
theorem dX1_bury_40 : decode cX1_bury 40 = .ok (.aload_n 0, 1) := by decide +kernel
theorem dX1_bury_41 : decode cX1_bury 41 = .ok (.getfield 9, 3) := by decide +kernel
theorem dX1_bury_44 : decode cX1_bury 44 = .ok (.iload_n 3, 1) := by decide +kernel
theorem dX1_bury_45 : decode cX1_bury 45 = .ok (.iconst 3, 1) := by decide +kernel
theorem dX1_bury_46 : decode cX1_bury 46 = .ok (.iastore, 1) := by decide +kernel
theorem dX1_bury_47 : decode cX1_bury 47 = .ok (.goto 28, 3) := by decide +kernel
theorem dX1_bury_50 : decode cX1_bury 50 = .ok (.aload_n 0, 1) := by decide +kernel
theorem dX1_bury_51 : decode cX1_bury 51 = .ok (.getfield 27, 3) := by decide +kernel
theorem dX1_bury_54 : decode cX1_bury 54 = .ok (.iload_n 2, 1) := by decide +kernel
theorem dX1_bury_55 : decode cX1_bury 55 = .ok (.iaload, 1) := by decide +kernel
theorem dX1_bury_56 : decode cX1_bury 56 = .ok (.aload_n 1, 1) := by decide +kernel
theorem dX1_bury_57 : decode cX1_bury 57 = .ok (.getfield 85, 3) := by decide +kernel
theorem dX1_bury_60 : decode cX1_bury 60 = .ok (.iload_n 3, 1) := by decide +kernel
theorem dX1_bury_61 : decode cX1_bury 61 = .ok (.iaload, 1) := by decide +kernel
theorem dX1_bury_62 : decode cX1_bury 62 = .ok (.ishr, 1) := by decide +kernel
theorem dX1_bury_63 : decode cX1_bury 63 = .ok (.iconst 1, 1) := by decide +kernel
theorem dX1_bury_64 : decode cX1_bury 64 = .ok (.iand, 1) := by decide +kernel
theorem dX1_bury_65 : decode cX1_bury 65 = .ok (.ifCond .eq 10, 3) := by decide +kernel
theorem dX1_bury_68 : decode cX1_bury 68 = .ok (.aload_n 0, 1) := by decide +kernel
theorem dX1_bury_69 : decode cX1_bury 69 = .ok (.getfield 9, 3) := by decide +kernel
theorem dX1_bury_72 : decode cX1_bury 72 = .ok (.iload_n 3, 1) := by decide +kernel
theorem dX1_bury_73 : decode cX1_bury 73 = .ok (.iconst 2, 1) := by decide +kernel
theorem dX1_bury_74 : decode cX1_bury 74 = .ok (.iastore, 1) := by decide +kernel
theorem dX1_bury_75 : decode cX1_bury 75 = .ok (.iinc 3 1, 3) := by decide +kernel
theorem dX1_bury_78 : decode cX1_bury 78 = .ok (.goto (-76), 3) := by decide +kernel
theorem dX1_bury_81 : decode cX1_bury 81 = .ok (.aload_n 0, 1) := by decide +kernel
theorem dX1_bury_82 : decode cX1_bury 82 = .ok (.dup, 1) := by decide +kernel
theorem dX1_bury_83 : decode cX1_bury 83 = .ok (.getfield 98, 3) := by decide +kernel
theorem dX1_bury_86 : decode cX1_bury 86 = .ok (.aload_n 0, 1) := by decide +kernel
theorem dX1_bury_87 : decode cX1_bury 87 = .ok (.getfield 27, 3) := by decide +kernel
theorem dX1_bury_90 : decode cX1_bury 90 = .ok (.iload_n 2, 1) := by decide +kernel
theorem dX1_bury_91 : decode cX1_bury 91 = .ok (.iaload, 1) := by decide +kernel
theorem dX1_bury_92 : decode cX1_bury 92 = .ok (.ior, 1) := by decide +kernel
theorem dX1_bury_93 : decode cX1_bury 93 = .ok (.putfield 98, 3) := by decide +kernel
theorem dX1_bury_96 : decode cX1_bury 96 = .ok (.return_, 1) := by decide +kernel
theorem dX1_stateBehind_0 : decode cX1_stateBehind 0 = .ok (.iload_n 1, 1) := by decide +kernel
theorem dX1_stateBehind_1 : decode cX1_stateBehind 1 = .ok (.bipush 24, 2) := by decide +kernel
theorem dX1_stateBehind_3 : decode cX1_stateBehind 3 = .ok (.invokestatic 142, 3) := by decide +kernel
theorem dX1_stateBehind_6 : decode cX1_stateBehind 6 = .ok (.ifCond .ne 14, 3) := by decide +kernel
theorem dX1_stateBehind_9 : decode cX1_stateBehind 9 = .ok (.iload_n 2, 1) := by decide +kernel
theorem dX1_stateBehind_10 : decode cX1_stateBehind 10 = .ok (.aload_n 0, 1) := by decide +kernel
theorem dX1_stateBehind_11 : decode cX1_stateBehind 11 = .ok (.getfield 69, 3) := by decide +kernel
theorem dX1_stateBehind_14 : decode cX1_stateBehind 14 = .ok (.invokestatic 142, 3) := by decide +kernel
theorem dX1_stateBehind_17 : decode cX1_stateBehind 17 = .ok (.ifCond .eq 7, 3) := by decide +kernel
theorem dX1_stateBehind_20 : decode cX1_stateBehind 20 = .ok (.iconst (-1), 1) := by decide +kernel
theorem dX1_stateBehind_21 : decode cX1_stateBehind 21 = .ok (.goto 14, 3) := by decide +kernel
theorem dX1_stateBehind_24 : decode cX1_stateBehind 24 = .ok (.aload_n 0, 1) := by decide +kernel
theorem dX1_stateBehind_25 : decode cX1_stateBehind 25 = .ok (.getfield 36, 3) := by decide +kernel
theorem dX1_stateBehind_28 : decode cX1_stateBehind 28 = .ok (.iload_n 1, 1) := by decide +kernel
theorem dX1_stateBehind_29 : decode cX1_stateBehind 29 = .ok (.bipush 12, 2) := by decide +kernel
theorem dX1_stateBehind_31 : decode cX1_stateBehind 31 = .ok (.imul, 1) := by decide +kernel
theorem dX1_stateBehind_32 : decode cX1_stateBehind 32 = .ok (.iload_n 2, 1) := by decide +kernel
theorem dX1_stateBehind_33 : decode cX1_stateBehind 33 = .ok (.iadd, 1) := by decide +kernel
theorem dX1_stateBehind_34 : decode cX1_stateBehind 34 = .ok (.iaload, 1) := by decide +kernel
theorem dX1_stateBehind_35 : decode cX1_stateBehind 35 = .ok (.ireturn, 1) := by decide +kernel
theorem dX1_leftBehind_0 : decode cX1_leftBehind 0 = .ok (.iload_n 1, 1) := by decide +kernel
theorem dX1_leftBehind_1 : decode cX1_leftBehind 1 = .ok (.bipush 24, 2) := by decide +kernel
theorem dX1_leftBehind_3 : decode cX1_leftBehind 3 = .ok (.invokestatic 142, 3) := by decide +kernel
theorem dX1_leftBehind_6 : decode cX1_leftBehind 6 = .ok (.ifCond .ne 14, 3) := by decide +kernel
theorem dX1_leftBehind_9 : decode cX1_leftBehind 9 = .ok (.iload_n 2, 1) := by decide +kernel
theorem dX1_leftBehind_10 : decode cX1_leftBehind 10 = .ok (.aload_n 0, 1) := by decide +kernel
theorem dX1_leftBehind_11 : decode cX1_leftBehind 11 = .ok (.getfield 69, 3) := by decide +kernel
theorem dX1_leftBehind_14 : decode cX1_leftBehind 14 = .ok (.invokestatic 142, 3) := by decide +kernel
theorem dX1_leftBehind_17 : decode cX1_leftBehind 17 = .ok (.ifCond .eq 7, 3) := by decide +kernel
theorem dX1_leftBehind_20 : decode cX1_leftBehind 20 = .ok (.iconst (-1), 1) := by decide +kernel
theorem dX1_leftBehind_21 : decode cX1_leftBehind 21 = .ok (.goto 14, 3) := by decide +kernel
theorem dX1_leftBehind_24 : decode cX1_leftBehind 24 = .ok (.aload_n 0, 1) := by decide +kernel
theorem dX1_leftBehind_25 : decode cX1_leftBehind 25 = .ok (.getfield 39, 3) := by decide +kernel
theorem dX1_leftBehind_28 : decode cX1_leftBehind 28 = .ok (.iload_n 1, 1) := by decide +kernel
theorem dX1_leftBehind_29 : decode cX1_leftBehind 29 = .ok (.bipush 12, 2) := by decide +kernel
theorem dX1_leftBehind_31 : decode cX1_leftBehind 31 = .ok (.imul, 1) := by decide +kernel
theorem dX1_leftBehind_32 : decode cX1_leftBehind 32 = .ok (.iload_n 2, 1) := by decide +kernel
theorem dX1_leftBehind_33 : decode cX1_leftBehind 33 = .ok (.iadd, 1) := by decide +kernel
theorem dX1_leftBehind_34 : decode cX1_leftBehind 34 = .ok (.iaload, 1) := by decide +kernel
theorem dX1_leftBehind_35 : decode cX1_leftBehind 35 = .ok (.ireturn, 1) := by decide +kernel
theorem dX1_saidBehind_0 : decode cX1_saidBehind 0 = .ok (.iload_n 1, 1) := by decide +kernel
theorem dX1_saidBehind_1 : decode cX1_saidBehind 1 = .ok (.bipush 24, 2) := by decide +kernel
theorem dX1_saidBehind_3 : decode cX1_saidBehind 3 = .ok (.invokestatic 142, 3) := by decide +kernel
theorem dX1_saidBehind_6 : decode cX1_saidBehind 6 = .ok (.ifCond .ne 12, 3) := by decide +kernel
theorem dX1_saidBehind_9 : decode cX1_saidBehind 9 = .ok (.iload_n 2, 1) := by decide +kernel
theorem dX1_saidBehind_10 : decode cX1_saidBehind 10 = .ok (.bipush 8, 2) := by decide +kernel
theorem dX1_saidBehind_12 : decode cX1_saidBehind 12 = .ok (.invokestatic 142, 3) := by decide +kernel
theorem dX1_saidBehind_15 : decode cX1_saidBehind 15 = .ok (.ifCond .eq 7, 3) := by decide +kernel
theorem dX1_saidBehind_18 : decode cX1_saidBehind 18 = .ok (.iconst (-1), 1) := by decide +kernel
theorem dX1_saidBehind_19 : decode cX1_saidBehind 19 = .ok (.goto 14, 3) := by decide +kernel
theorem dX1_saidBehind_22 : decode cX1_saidBehind 22 = .ok (.aload_n 0, 1) := by decide +kernel
theorem dX1_saidBehind_23 : decode cX1_saidBehind 23 = .ok (.getfield 42, 3) := by decide +kernel
theorem dX1_saidBehind_26 : decode cX1_saidBehind 26 = .ok (.iload_n 1, 1) := by decide +kernel
theorem dX1_saidBehind_27 : decode cX1_saidBehind 27 = .ok (.bipush 8, 2) := by decide +kernel
theorem dX1_saidBehind_29 : decode cX1_saidBehind 29 = .ok (.imul, 1) := by decide +kernel
theorem dX1_saidBehind_30 : decode cX1_saidBehind 30 = .ok (.iload_n 2, 1) := by decide +kernel
theorem dX1_saidBehind_31 : decode cX1_saidBehind 31 = .ok (.iadd, 1) := by decide +kernel
theorem dX1_saidBehind_32 : decode cX1_saidBehind 32 = .ok (.iaload, 1) := by decide +kernel
theorem dX1_saidBehind_33 : decode cX1_saidBehind 33 = .ok (.ireturn, 1) := by decide +kernel
theorem dX1_openUses_0 : decode cX1_openUses 0 = .ok (.iconst 0, 1) := by decide +kernel
theorem dX1_openUses_1 : decode cX1_openUses 1 = .ok (.istore 4, 2) := by decide +kernel
theorem dX1_openUses_3 : decode cX1_openUses 3 = .ok (.iconst 0, 1) := by decide +kernel
theorem dX1_openUses_4 : decode cX1_openUses 4 = .ok (.istore 5, 2) := by decide +kernel
theorem dX1_openUses_6 : decode cX1_openUses 6 = .ok (.iload 5, 2) := by decide +kernel
theorem dX1_openUses_8 : decode cX1_openUses 8 = .ok (.aload_n 0, 1) := by decide +kernel
theorem dX1_openUses_9 : decode cX1_openUses 9 = .ok (.getfield 69, 3) := by decide +kernel
theorem dX1_openUses_12 : decode cX1_openUses 12 = .ok (.if_icmp .ge 39, 3) := by decide +kernel
theorem dX1_openUses_15 : decode cX1_openUses 15 = .ok (.aload_n 2, 1) := by decide +kernel
theorem dX1_openUses_16 : decode cX1_openUses 16 = .ok (.iload 5, 2) := by decide +kernel
theorem dX1_openUses_18 : decode cX1_openUses 18 = .ok (.iaload, 1) := by decide +kernel
theorem dX1_openUses_19 : decode cX1_openUses 19 = .ok (.iload_n 3, 1) := by decide +kernel
theorem dX1_openUses_20 : decode cX1_openUses 20 = .ok (.if_icmp .ne 25, 3) := by decide +kernel
theorem dX1_openUses_23 : decode cX1_openUses 23 = .ok (.aload_n 0, 1) := by decide +kernel
theorem dX1_openUses_24 : decode cX1_openUses 24 = .ok (.iload_n 1, 1) := by decide +kernel
theorem dX1_openUses_25 : decode cX1_openUses 25 = .ok (.iload 5, 2) := by decide +kernel
theorem dX1_openUses_27 : decode cX1_openUses 27 = .ok (.invokevirtual 145, 3) := by decide +kernel
theorem dX1_openUses_30 : decode cX1_openUses 30 = .ok (.ifCond .ne 15, 3) := by decide +kernel
theorem dX1_openUses_33 : decode cX1_openUses 33 = .ok (.iload 4, 2) := by decide +kernel
theorem dX1_openUses_35 : decode cX1_openUses 35 = .ok (.aload_n 0, 1) := by decide +kernel
theorem dX1_openUses_36 : decode cX1_openUses 36 = .ok (.iload_n 1, 1) := by decide +kernel
theorem dX1_openUses_37 : decode cX1_openUses 37 = .ok (.iload 5, 2) := by decide +kernel
theorem dX1_openUses_39 : decode cX1_openUses 39 = .ok (.invokevirtual 148, 3) := by decide +kernel
theorem dX1_openUses_42 : decode cX1_openUses 42 = .ok (.iadd, 1) := by decide +kernel
theorem dX1_openUses_43 : decode cX1_openUses 43 = .ok (.istore 4, 2) := by decide +kernel
theorem dX1_openUses_45 : decode cX1_openUses 45 = .ok (.iinc 5 1, 3) := by decide +kernel
theorem dX1_openUses_48 : decode cX1_openUses 48 = .ok (.goto (-42), 3) := by decide +kernel
theorem dX1_openUses_51 : decode cX1_openUses 51 = .ok (.iload 4, 2) := by decide +kernel
theorem dX1_openUses_53 : decode cX1_openUses 53 = .ok (.ireturn, 1) := by decide +kernel
theorem dX1_hasLost_0 : decode cX1_hasLost 0 = .ok (.iconst 0, 1) := by decide +kernel
theorem dX1_hasLost_1 : decode cX1_hasLost 1 = .ok (.istore 4, 2) := by decide +kernel
theorem dX1_hasLost_3 : decode cX1_hasLost 3 = .ok (.iload 4, 2) := by decide +kernel
theorem dX1_hasLost_5 : decode cX1_hasLost 5 = .ok (.aload_n 0, 1) := by decide +kernel
theorem dX1_hasLost_6 : decode cX1_hasLost 6 = .ok (.getfield 69, 3) := by decide +kernel
theorem dX1_hasLost_9 : decode cX1_hasLost 9 = .ok (.if_icmp .ge 33, 3) := by decide +kernel
theorem dX1_hasLost_12 : decode cX1_hasLost 12 = .ok (.aload_n 1, 1) := by decide +kernel
theorem dX1_hasLost_13 : decode cX1_hasLost 13 = .ok (.getfield 88, 3) := by decide +kernel
theorem dX1_hasLost_16 : decode cX1_hasLost 16 = .ok (.iload 4, 2) := by decide +kernel
theorem dX1_hasLost_18 : decode cX1_hasLost 18 = .ok (.iaload, 1) := by decide +kernel
theorem dX1_hasLost_19 : decode cX1_hasLost 19 = .ok (.iload_n 3, 1) := by decide +kernel
theorem dX1_hasLost_20 : decode cX1_hasLost 20 = .ok (.if_icmp .ne 16, 3) := by decide +kernel
theorem dX1_hasLost_23 : decode cX1_hasLost 23 = .ok (.aload_n 0, 1) := by decide +kernel
theorem dX1_hasLost_24 : decode cX1_hasLost 24 = .ok (.iload_n 2, 1) := by decide +kernel
theorem dX1_hasLost_25 : decode cX1_hasLost 25 = .ok (.iload 4, 2) := by decide +kernel
theorem dX1_hasLost_27 : decode cX1_hasLost 27 = .ok (.invokevirtual 145, 3) := by decide +kernel
theorem dX1_hasLost_30 : decode cX1_hasLost 30 = .ok (.iconst 3, 1) := by decide +kernel
theorem dX1_hasLost_31 : decode cX1_hasLost 31 = .ok (.if_icmp .ne 5, 3) := by decide +kernel
theorem dX1_hasLost_34 : decode cX1_hasLost 34 = .ok (.iconst 1, 1) := by decide +kernel
theorem dX1_hasLost_35 : decode cX1_hasLost 35 = .ok (.ireturn, 1) := by decide +kernel
theorem dX1_hasLost_36 : decode cX1_hasLost 36 = .ok (.iinc 4 1, 3) := by decide +kernel
theorem dX1_hasLost_39 : decode cX1_hasLost 39 = .ok (.goto (-36), 3) := by decide +kernel
theorem dX1_hasLost_42 : decode cX1_hasLost 42 = .ok (.iconst 0, 1) := by decide +kernel
theorem dX1_hasLost_43 : decode cX1_hasLost 43 = .ok (.ireturn, 1) := by decide +kernel
theorem dX1_owesNothing_0 : decode cX1_owesNothing 0 = .ok (.aload_n 0, 1) := by decide +kernel
theorem dX1_owesNothing_1 : decode cX1_owesNothing 1 = .ok (.iload_n 2, 1) := by decide +kernel
theorem dX1_owesNothing_2 : decode cX1_owesNothing 2 = .ok (.aload_n 1, 1) := by decide +kernel
theorem dX1_owesNothing_3 : decode cX1_owesNothing 3 = .ok (.getfield 88, 3) := by decide +kernel
theorem dX1_owesNothing_6 : decode cX1_owesNothing 6 = .ok (.iload_n 3, 1) := by decide +kernel
theorem dX1_owesNothing_7 : decode cX1_owesNothing 7 = .ok (.invokevirtual 151, 3) := by decide +kernel
theorem dX1_owesNothing_10 : decode cX1_owesNothing 10 = .ok (.ifCond .ne 17, 3) := by decide +kernel
theorem dX1_owesNothing_13 : decode cX1_owesNothing 13 = .ok (.aload_n 0, 1) := by decide +kernel
theorem dX1_owesNothing_14 : decode cX1_owesNothing 14 = .ok (.aload_n 1, 1) := by decide +kernel
theorem dX1_owesNothing_15 : decode cX1_owesNothing 15 = .ok (.iload_n 2, 1) := by decide +kernel
theorem dX1_owesNothing_16 : decode cX1_owesNothing 16 = .ok (.iload_n 3, 1) := by decide +kernel
theorem dX1_owesNothing_17 : decode cX1_owesNothing 17 = .ok (.invokevirtual 155, 3) := by decide +kernel
theorem dX1_owesNothing_20 : decode cX1_owesNothing 20 = .ok (.ifCond .ne 7, 3) := by decide +kernel
theorem dX1_owesNothing_23 : decode cX1_owesNothing 23 = .ok (.iconst 1, 1) := by decide +kernel
theorem dX1_owesNothing_24 : decode cX1_owesNothing 24 = .ok (.goto 4, 3) := by decide +kernel
theorem dX1_owesNothing_27 : decode cX1_owesNothing 27 = .ok (.iconst 0, 1) := by decide +kernel
theorem dX1_owesNothing_28 : decode cX1_owesNothing 28 = .ok (.ireturn, 1) := by decide +kernel
theorem dX1_openOrLostUses_0 : decode cX1_openOrLostUses 0 = .ok (.iconst 0, 1) := by decide +kernel
theorem dX1_openOrLostUses_1 : decode cX1_openOrLostUses 1 = .ok (.istore_n 1, 1) := by decide +kernel
theorem dX1_openOrLostUses_2 : decode cX1_openOrLostUses 2 = .ok (.iconst 0, 1) := by decide +kernel
theorem dX1_openOrLostUses_3 : decode cX1_openOrLostUses 3 = .ok (.istore_n 2, 1) := by decide +kernel
theorem dX1_openOrLostUses_4 : decode cX1_openOrLostUses 4 = .ok (.iload_n 2, 1) := by decide +kernel
theorem dX1_openOrLostUses_5 : decode cX1_openOrLostUses 5 = .ok (.aload_n 0, 1) := by decide +kernel
theorem dX1_openOrLostUses_6 : decode cX1_openOrLostUses 6 = .ok (.getfield 69, 3) := by decide +kernel
theorem dX1_openOrLostUses_9 : decode cX1_openOrLostUses 9 = .ok (.if_icmp .ge 36, 3) := by decide +kernel
theorem dX1_openOrLostUses_12 : decode cX1_openOrLostUses 12 = .ok (.aload_n 0, 1) := by decide +kernel
theorem dX1_openOrLostUses_13 : decode cX1_openOrLostUses 13 = .ok (.bipush 23, 2) := by decide +kernel
theorem dX1_openOrLostUses_15 : decode cX1_openOrLostUses 15 = .ok (.iload_n 2, 1) := by decide +kernel
theorem dX1_openOrLostUses_16 : decode cX1_openOrLostUses 16 = .ok (.invokevirtual 145, 3) := by decide +kernel
theorem dX1_openOrLostUses_19 : decode cX1_openOrLostUses 19 = .ok (.istore_n 3, 1) := by decide +kernel
theorem dX1_openOrLostUses_20 : decode cX1_openOrLostUses 20 = .ok (.iload_n 3, 1) := by decide +kernel
theorem dX1_openOrLostUses_21 : decode cX1_openOrLostUses 21 = .ok (.ifCond .eq 8, 3) := by decide +kernel
theorem dX1_openOrLostUses_24 : decode cX1_openOrLostUses 24 = .ok (.iload_n 3, 1) := by decide +kernel
theorem dX1_openOrLostUses_25 : decode cX1_openOrLostUses 25 = .ok (.iconst 3, 1) := by decide +kernel
theorem dX1_openOrLostUses_26 : decode cX1_openOrLostUses 26 = .ok (.if_icmp .ne 13, 3) := by decide +kernel
theorem dX1_openOrLostUses_29 : decode cX1_openOrLostUses 29 = .ok (.iload_n 1, 1) := by decide +kernel
theorem dX1_openOrLostUses_30 : decode cX1_openOrLostUses 30 = .ok (.aload_n 0, 1) := by decide +kernel
theorem dX1_openOrLostUses_31 : decode cX1_openOrLostUses 31 = .ok (.bipush 23, 2) := by decide +kernel
theorem dX1_openOrLostUses_33 : decode cX1_openOrLostUses 33 = .ok (.iload_n 2, 1) := by decide +kernel
theorem dX1_openOrLostUses_34 : decode cX1_openOrLostUses 34 = .ok (.invokevirtual 148, 3) := by decide +kernel
theorem dX1_openOrLostUses_37 : decode cX1_openOrLostUses 37 = .ok (.iadd, 1) := by decide +kernel
theorem dX1_openOrLostUses_38 : decode cX1_openOrLostUses 38 = .ok (.istore_n 1, 1) := by decide +kernel
theorem dX1_openOrLostUses_39 : decode cX1_openOrLostUses 39 = .ok (.iinc 2 1, 3) := by decide +kernel
theorem dX1_openOrLostUses_42 : decode cX1_openOrLostUses 42 = .ok (.goto (-38), 3) := by decide +kernel
theorem dX1_openOrLostUses_45 : decode cX1_openOrLostUses 45 = .ok (.iload_n 1, 1) := by decide +kernel
theorem dX1_openOrLostUses_46 : decode cX1_openOrLostUses 46 = .ok (.ireturn, 1) := by decide +kernel
theorem dX1_wordsThatAre_0 : decode cX1_wordsThatAre 0 = .ok (.iconst 0, 1) := by decide +kernel
theorem dX1_wordsThatAre_1 : decode cX1_wordsThatAre 1 = .ok (.istore_n 2, 1) := by decide +kernel
theorem dX1_wordsThatAre_2 : decode cX1_wordsThatAre 2 = .ok (.iconst 0, 1) := by decide +kernel
theorem dX1_wordsThatAre_3 : decode cX1_wordsThatAre 3 = .ok (.istore_n 3, 1) := by decide +kernel
theorem dX1_wordsThatAre_4 : decode cX1_wordsThatAre 4 = .ok (.iload_n 3, 1) := by decide +kernel
theorem dX1_wordsThatAre_5 : decode cX1_wordsThatAre 5 = .ok (.aload_n 0, 1) := by decide +kernel
theorem dX1_wordsThatAre_6 : decode cX1_wordsThatAre 6 = .ok (.getfield 69, 3) := by decide +kernel
theorem dX1_wordsThatAre_9 : decode cX1_wordsThatAre 9 = .ok (.if_icmp .ge 23, 3) := by decide +kernel
theorem dX1_wordsThatAre_12 : decode cX1_wordsThatAre 12 = .ok (.aload_n 0, 1) := by decide +kernel
theorem dX1_wordsThatAre_13 : decode cX1_wordsThatAre 13 = .ok (.bipush 23, 2) := by decide +kernel
theorem dX1_wordsThatAre_15 : decode cX1_wordsThatAre 15 = .ok (.iload_n 3, 1) := by decide +kernel
theorem dX1_wordsThatAre_16 : decode cX1_wordsThatAre 16 = .ok (.invokevirtual 145, 3) := by decide +kernel
theorem dX1_wordsThatAre_19 : decode cX1_wordsThatAre 19 = .ok (.iload_n 1, 1) := by decide +kernel
theorem dX1_wordsThatAre_20 : decode cX1_wordsThatAre 20 = .ok (.if_icmp .ne 6, 3) := by decide +kernel
theorem dX1_wordsThatAre_23 : decode cX1_wordsThatAre 23 = .ok (.iinc 2 1, 3) := by decide +kernel
theorem dX1_wordsThatAre_26 : decode cX1_wordsThatAre 26 = .ok (.iinc 3 1, 3) := by decide +kernel
theorem dX1_wordsThatAre_29 : decode cX1_wordsThatAre 29 = .ok (.goto (-25), 3) := by decide +kernel
theorem dX1_wordsThatAre_32 : decode cX1_wordsThatAre 32 = .ok (.iload_n 2, 1) := by decide +kernel
theorem dX1_wordsThatAre_33 : decode cX1_wordsThatAre 33 = .ok (.ireturn, 1) := by decide +kernel
theorem dX1_followDebts_0 : decode cX1_followDebts 0 = .ok (.iconst 0, 1) := by decide +kernel
theorem dX1_followDebts_1 : decode cX1_followDebts 1 = .ok (.istore_n 3, 1) := by decide +kernel
theorem dX1_followDebts_2 : decode cX1_followDebts 2 = .ok (.iload_n 3, 1) := by decide +kernel
theorem dX1_followDebts_3 : decode cX1_followDebts 3 = .ok (.bipush 8, 2) := by decide +kernel
theorem dX1_followDebts_5 : decode cX1_followDebts 5 = .ok (.if_icmp .ge 16, 3) := by decide +kernel
theorem dX1_followDebts_8 : decode cX1_followDebts 8 = .ok (.aload_n 0, 1) := by decide +kernel
theorem dX1_followDebts_9 : decode cX1_followDebts 9 = .ok (.getfield 45, 3) := by decide +kernel
theorem dX1_followDebts_12 : decode cX1_followDebts 12 = .ok (.iload_n 3, 1) := by decide +kernel
theorem dX1_followDebts_13 : decode cX1_followDebts 13 = .ok (.iconst 0, 1) := by decide +kernel
theorem dX1_followDebts_14 : decode cX1_followDebts 14 = .ok (.iastore, 1) := by decide +kernel
theorem dX1_followDebts_15 : decode cX1_followDebts 15 = .ok (.iinc 3 1, 3) := by decide +kernel
theorem dX1_followDebts_18 : decode cX1_followDebts 18 = .ok (.goto (-16), 3) := by decide +kernel
theorem dX1_followDebts_21 : decode cX1_followDebts 21 = .ok (.iconst 0, 1) := by decide +kernel
theorem dX1_followDebts_22 : decode cX1_followDebts 22 = .ok (.istore_n 3, 1) := by decide +kernel
theorem dX1_followDebts_23 : decode cX1_followDebts 23 = .ok (.iload_n 3, 1) := by decide +kernel
theorem dX1_followDebts_24 : decode cX1_followDebts 24 = .ok (.aload_n 0, 1) := by decide +kernel
theorem dX1_followDebts_25 : decode cX1_followDebts 25 = .ok (.getfield 69, 3) := by decide +kernel
theorem dX1_followDebts_28 : decode cX1_followDebts 28 = .ok (.if_icmp .ge 40, 3) := by decide +kernel
theorem dX1_followDebts_31 : decode cX1_followDebts 31 = .ok (.aload_n 0, 1) := by decide +kernel
theorem dX1_followDebts_32 : decode cX1_followDebts 32 = .ok (.iload_n 2, 1) := by decide +kernel
theorem dX1_followDebts_33 : decode cX1_followDebts 33 = .ok (.iload_n 3, 1) := by decide +kernel
theorem dX1_followDebts_34 : decode cX1_followDebts 34 = .ok (.invokevirtual 145, 3) := by decide +kernel
theorem dX1_followDebts_37 : decode cX1_followDebts 37 = .ok (.ifCond .ne 25, 3) := by decide +kernel
theorem dX1_followDebts_40 : decode cX1_followDebts 40 = .ok (.aload_n 0, 1) := by decide +kernel
theorem dX1_followDebts_41 : decode cX1_followDebts 41 = .ok (.getfield 45, 3) := by decide +kernel
theorem dX1_followDebts_44 : decode cX1_followDebts 44 = .ok (.aload_n 1, 1) := by decide +kernel
theorem dX1_followDebts_45 : decode cX1_followDebts 45 = .ok (.getfield 88, 3) := by decide +kernel
theorem dX1_followDebts_48 : decode cX1_followDebts 48 = .ok (.iload_n 3, 1) := by decide +kernel
theorem dX1_followDebts_49 : decode cX1_followDebts 49 = .ok (.iaload, 1) := by decide +kernel
theorem dX1_followDebts_50 : decode cX1_followDebts 50 = .ok (.dup2, 1) := by decide +kernel
theorem dX1_followDebts_51 : decode cX1_followDebts 51 = .ok (.iaload, 1) := by decide +kernel
theorem dX1_followDebts_52 : decode cX1_followDebts 52 = .ok (.iconst 1, 1) := by decide +kernel
theorem dX1_followDebts_53 : decode cX1_followDebts 53 = .ok (.aload_n 1, 1) := by decide +kernel
theorem dX1_followDebts_54 : decode cX1_followDebts 54 = .ok (.getfield 85, 3) := by decide +kernel
theorem dX1_followDebts_57 : decode cX1_followDebts 57 = .ok (.iload_n 3, 1) := by decide +kernel
theorem dX1_followDebts_58 : decode cX1_followDebts 58 = .ok (.iaload, 1) := by decide +kernel
theorem dX1_followDebts_59 : decode cX1_followDebts 59 = .ok (.ishl, 1) := by decide +kernel
theorem dX1_followDebts_60 : decode cX1_followDebts 60 = .ok (.ior, 1) := by decide +kernel
theorem dX1_followDebts_61 : decode cX1_followDebts 61 = .ok (.iastore, 1) := by decide +kernel
theorem dX1_followDebts_62 : decode cX1_followDebts 62 = .ok (.iinc 3 1, 3) := by decide +kernel
theorem dX1_followDebts_65 : decode cX1_followDebts 65 = .ok (.goto (-42), 3) := by decide +kernel
theorem dX1_followDebts_68 : decode cX1_followDebts 68 = .ok (.return_, 1) := by decide +kernel
theorem dX1_stepsAround_0 : decode cX1_stepsAround 0 = .ok (.iconst 1, 1) := by decide +kernel
theorem dX1_stepsAround_1 : decode cX1_stepsAround 1 = .ok (.iload_n 1, 1) := by decide +kernel
theorem dX1_stepsAround_2 : decode cX1_stepsAround 2 = .ok (.ishl, 1) := by decide +kernel
theorem dX1_stepsAround_3 : decode cX1_stepsAround 3 = .ok (.istore_n 2, 1) := by decide +kernel
theorem dX1_stepsAround_4 : decode cX1_stepsAround 4 = .ok (.iconst 1, 1) := by decide +kernel
theorem dX1_stepsAround_5 : decode cX1_stepsAround 5 = .ok (.istore_n 3, 1) := by decide +kernel
theorem dX1_stepsAround_6 : decode cX1_stepsAround 6 = .ok (.iload_n 3, 1) := by decide +kernel
theorem dX1_stepsAround_7 : decode cX1_stepsAround 7 = .ok (.bipush 8, 2) := by decide +kernel
theorem dX1_stepsAround_9 : decode cX1_stepsAround 9 = .ok (.if_icmp .gt 25, 3) := by decide +kernel
theorem dX1_stepsAround_12 : decode cX1_stepsAround 12 = .ok (.aload_n 0, 1) := by decide +kernel
theorem dX1_stepsAround_13 : decode cX1_stepsAround 13 = .ok (.iload_n 2, 1) := by decide +kernel
theorem dX1_stepsAround_14 : decode cX1_stepsAround 14 = .ok (.invokevirtual 159, 3) := by decide +kernel
theorem dX1_stepsAround_17 : decode cX1_stepsAround 17 = .ok (.istore_n 2, 1) := by decide +kernel
theorem dX1_stepsAround_18 : decode cX1_stepsAround 18 = .ok (.iload_n 2, 1) := by decide +kernel
theorem dX1_stepsAround_19 : decode cX1_stepsAround 19 = .ok (.iload_n 1, 1) := by decide +kernel
theorem dX1_stepsAround_20 : decode cX1_stepsAround 20 = .ok (.ishr, 1) := by decide +kernel
theorem dX1_stepsAround_21 : decode cX1_stepsAround 21 = .ok (.iconst 1, 1) := by decide +kernel
theorem dX1_stepsAround_22 : decode cX1_stepsAround 22 = .ok (.iand, 1) := by decide +kernel
theorem dX1_stepsAround_23 : decode cX1_stepsAround 23 = .ok (.ifCond .eq 5, 3) := by decide +kernel
theorem dX1_stepsAround_26 : decode cX1_stepsAround 26 = .ok (.iload_n 3, 1) := by decide +kernel
theorem dX1_stepsAround_27 : decode cX1_stepsAround 27 = .ok (.ireturn, 1) := by decide +kernel
theorem dX1_stepsAround_28 : decode cX1_stepsAround 28 = .ok (.iinc 3 1, 3) := by decide +kernel
theorem dX1_stepsAround_31 : decode cX1_stepsAround 31 = .ok (.goto (-25), 3) := by decide +kernel
theorem dX1_stepsAround_34 : decode cX1_stepsAround 34 = .ok (.iconst (-1), 1) := by decide +kernel
theorem dX1_stepsAround_35 : decode cX1_stepsAround 35 = .ok (.ireturn, 1) := by decide +kernel
theorem dX1_oneDebtOn_0 : decode cX1_oneDebtOn 0 = .ok (.iconst 0, 1) := by decide +kernel
theorem dX1_oneDebtOn_1 : decode cX1_oneDebtOn 1 = .ok (.istore_n 2, 1) := by decide +kernel
theorem dX1_oneDebtOn_2 : decode cX1_oneDebtOn 2 = .ok (.iconst 0, 1) := by decide +kernel
theorem dX1_oneDebtOn_3 : decode cX1_oneDebtOn 3 = .ok (.istore_n 3, 1) := by decide +kernel
theorem dX1_oneDebtOn_4 : decode cX1_oneDebtOn 4 = .ok (.iload_n 3, 1) := by decide +kernel
theorem dX1_oneDebtOn_5 : decode cX1_oneDebtOn 5 = .ok (.bipush 8, 2) := by decide +kernel
theorem dX1_oneDebtOn_7 : decode cX1_oneDebtOn 7 = .ok (.if_icmp .ge 26, 3) := by decide +kernel
theorem dX1_oneDebtOn_10 : decode cX1_oneDebtOn 10 = .ok (.iload_n 1, 1) := by decide +kernel
theorem dX1_oneDebtOn_11 : decode cX1_oneDebtOn 11 = .ok (.iload_n 3, 1) := by decide +kernel
theorem dX1_oneDebtOn_12 : decode cX1_oneDebtOn 12 = .ok (.ishr, 1) := by decide +kernel
theorem dX1_oneDebtOn_13 : decode cX1_oneDebtOn 13 = .ok (.iconst 1, 1) := by decide +kernel
theorem dX1_oneDebtOn_14 : decode cX1_oneDebtOn 14 = .ok (.iand, 1) := by decide +kernel
theorem dX1_oneDebtOn_15 : decode cX1_oneDebtOn 15 = .ok (.ifCond .eq 12, 3) := by decide +kernel
theorem dX1_oneDebtOn_18 : decode cX1_oneDebtOn 18 = .ok (.iload_n 2, 1) := by decide +kernel
theorem dX1_oneDebtOn_19 : decode cX1_oneDebtOn 19 = .ok (.aload_n 0, 1) := by decide +kernel
theorem dX1_oneDebtOn_20 : decode cX1_oneDebtOn 20 = .ok (.getfield 45, 3) := by decide +kernel
theorem dX1_oneDebtOn_23 : decode cX1_oneDebtOn 23 = .ok (.iload_n 3, 1) := by decide +kernel
theorem dX1_oneDebtOn_24 : decode cX1_oneDebtOn 24 = .ok (.iaload, 1) := by decide +kernel
theorem dX1_oneDebtOn_25 : decode cX1_oneDebtOn 25 = .ok (.ior, 1) := by decide +kernel
theorem dX1_oneDebtOn_26 : decode cX1_oneDebtOn 26 = .ok (.istore_n 2, 1) := by decide +kernel
theorem dX1_oneDebtOn_27 : decode cX1_oneDebtOn 27 = .ok (.iinc 3 1, 3) := by decide +kernel
theorem dX1_oneDebtOn_30 : decode cX1_oneDebtOn 30 = .ok (.goto (-26), 3) := by decide +kernel
theorem dX1_oneDebtOn_33 : decode cX1_oneDebtOn 33 = .ok (.iload_n 2, 1) := by decide +kernel
theorem dX1_oneDebtOn_34 : decode cX1_oneDebtOn 34 = .ok (.ireturn, 1) := by decide +kernel
theorem dX2_init_0 : decode cX2_init 0 = .ok (.aload_n 0, 1) := by decide +kernel
theorem dX2_init_1 : decode cX2_init 1 = .ok (.invokespecial 3, 3) := by decide +kernel
theorem dX2_init_4 : decode cX2_init 4 = .ok (.aload_n 0, 1) := by decide +kernel
theorem dX2_init_5 : decode cX2_init 5 = .ok (.bipush 8, 2) := by decide +kernel
theorem dX2_init_7 : decode cX2_init 7 = .ok (.newarray .int, 2) := by decide +kernel
theorem dX2_init_9 : decode cX2_init 9 = .ok (.putfield 9, 3) := by decide +kernel
theorem dX2_init_12 : decode cX2_init 12 = .ok (.aload_n 0, 1) := by decide +kernel
theorem dX2_init_13 : decode cX2_init 13 = .ok (.bipush 8, 2) := by decide +kernel
theorem dX2_init_15 : decode cX2_init 15 = .ok (.newarray .int, 2) := by decide +kernel
theorem dX2_init_17 : decode cX2_init 17 = .ok (.putfield 15, 3) := by decide +kernel
theorem dX2_init_20 : decode cX2_init 20 = .ok (.return_, 1) := by decide +kernel
theorem dX2_mayBe_0 : decode cX2_mayBe 0 = .ok (.iload_n 0, 1) := by decide +kernel
theorem dX2_mayBe_1 : decode cX2_mayBe 1 = .ok (.bipush 24, 2) := by decide +kernel
theorem dX2_mayBe_3 : decode cX2_mayBe 3 = .ok (.invokestatic 18, 3) := by decide +kernel
theorem dX2_mayBe_6 : decode cX2_mayBe 6 = .ok (.ifCond .ne 16, 3) := by decide +kernel
theorem dX2_mayBe_9 : decode cX2_mayBe 9 = .ok (.iload_n 1, 1) := by decide +kernel
theorem dX2_mayBe_10 : decode cX2_mayBe 10 = .ok (.bipush 8, 2) := by decide +kernel
theorem dX2_mayBe_12 : decode cX2_mayBe 12 = .ok (.invokestatic 18, 3) := by decide +kernel
theorem dX2_mayBe_15 : decode cX2_mayBe 15 = .ok (.ifCond .ne 7, 3) := by decide +kernel
theorem dX2_mayBe_18 : decode cX2_mayBe 18 = .ok (.iconst 1, 1) := by decide +kernel
theorem dX2_mayBe_19 : decode cX2_mayBe 19 = .ok (.goto 4, 3) := by decide +kernel
theorem dX2_mayBe_22 : decode cX2_mayBe 22 = .ok (.iconst 0, 1) := by decide +kernel
theorem dX2_mayBe_23 : decode cX2_mayBe 23 = .ok (.ireturn, 1) := by decide +kernel
theorem dX2_isFull_0 : decode cX2_isFull 0 = .ok (.aload_n 0, 1) := by decide +kernel
theorem dX2_isFull_1 : decode cX2_isFull 1 = .ok (.getfield 22, 3) := by decide +kernel
theorem dX2_isFull_4 : decode cX2_isFull 4 = .ok (.bipush 8, 2) := by decide +kernel
theorem dX2_isFull_6 : decode cX2_isFull 6 = .ok (.if_icmp .lt 7, 3) := by decide +kernel
theorem dX2_isFull_9 : decode cX2_isFull 9 = .ok (.iconst 1, 1) := by decide +kernel
theorem dX2_isFull_10 : decode cX2_isFull 10 = .ok (.goto 4, 3) := by decide +kernel
theorem dX2_isFull_13 : decode cX2_isFull 13 = .ok (.iconst 0, 1) := by decide +kernel
theorem dX2_isFull_14 : decode cX2_isFull 14 = .ok (.ireturn, 1) := by decide +kernel
theorem dX2_append_0 : decode cX2_append 0 = .ok (.aload_n 0, 1) := by decide +kernel
theorem dX2_append_1 : decode cX2_append 1 = .ok (.invokevirtual 26, 3) := by decide +kernel
theorem dX2_append_4 : decode cX2_append 4 = .ok (.ifCond .ne 33, 3) := by decide +kernel
theorem dX2_append_7 : decode cX2_append 7 = .ok (.aload_n 0, 1) := by decide +kernel
theorem dX2_append_8 : decode cX2_append 8 = .ok (.getfield 9, 3) := by decide +kernel
theorem dX2_append_11 : decode cX2_append 11 = .ok (.aload_n 0, 1) := by decide +kernel
theorem dX2_append_12 : decode cX2_append 12 = .ok (.getfield 22, 3) := by decide +kernel
theorem dX2_append_15 : decode cX2_append 15 = .ok (.iload_n 1, 1) := by decide +kernel
theorem dX2_append_16 : decode cX2_append 16 = .ok (.iastore, 1) := by decide +kernel
theorem dX2_append_17 : decode cX2_append 17 = .ok (.aload_n 0, 1) := by decide +kernel
theorem dX2_append_18 : decode cX2_append 18 = .ok (.getfield 15, 3) := by decide +kernel
theorem dX2_append_21 : decode cX2_append 21 = .ok (.aload_n 0, 1) := by decide +kernel
theorem dX2_append_22 : decode cX2_append 22 = .ok (.getfield 22, 3) := by decide +kernel
theorem dX2_append_25 : decode cX2_append 25 = .ok (.iload_n 2, 1) := by decide +kernel
theorem dX2_append_26 : decode cX2_append 26 = .ok (.iastore, 1) := by decide +kernel
theorem dX2_append_27 : decode cX2_append 27 = .ok (.aload_n 0, 1) := by decide +kernel
theorem dX2_append_28 : decode cX2_append 28 = .ok (.dup, 1) := by decide +kernel
theorem dX2_append_29 : decode cX2_append 29 = .ok (.getfield 22, 3) := by decide +kernel
theorem dX2_append_32 : decode cX2_append 32 = .ok (.iconst 1, 1) := by decide +kernel
theorem dX2_append_33 : decode cX2_append 33 = .ok (.iadd, 1) := by decide +kernel
theorem dX2_append_34 : decode cX2_append 34 = .ok (.putfield 22, 3) := by decide +kernel
theorem dX2_append_37 : decode cX2_append 37 = .ok (.return_, 1) := by decide +kernel
theorem dX2_all_0 : decode cX2_all 0 = .ok (.iconst 1, 1) := by decide +kernel
theorem dX2_all_1 : decode cX2_all 1 = .ok (.aload_n 0, 1) := by decide +kernel
theorem dX2_all_2 : decode cX2_all 2 = .ok (.getfield 22, 3) := by decide +kernel
theorem dX2_all_5 : decode cX2_all 5 = .ok (.ishl, 1) := by decide +kernel
theorem dX2_all_6 : decode cX2_all 6 = .ok (.iconst 1, 1) := by decide +kernel
theorem dX2_all_7 : decode cX2_all 7 = .ok (.isub, 1) := by decide +kernel
theorem dX2_all_8 : decode cX2_all 8 = .ok (.ireturn, 1) := by decide +kernel
theorem dX3_init_0 : decode cX3_init 0 = .ok (.aload_n 0, 1) := by decide +kernel
theorem dX3_init_1 : decode cX3_init 1 = .ok (.invokespecial 3, 3) := by decide +kernel
theorem dX3_init_4 : decode cX3_init 4 = .ok (.aload_n 0, 1) := by decide +kernel
theorem dX3_init_5 : decode cX3_init 5 = .ok (.bipush 60, 2) := by decide +kernel
theorem dX3_init_7 : decode cX3_init 7 = .ok (.newarray .int, 2) := by decide +kernel
theorem dX3_init_9 : decode cX3_init 9 = .ok (.putfield 9, 3) := by decide +kernel
theorem dX3_init_12 : decode cX3_init 12 = .ok (.aload_n 0, 1) := by decide +kernel
theorem dX3_init_13 : decode cX3_init 13 = .ok (.iconst (-1), 1) := by decide +kernel
theorem dX3_init_14 : decode cX3_init 14 = .ok (.putfield 15, 3) := by decide +kernel
theorem dX3_init_17 : decode cX3_init 17 = .ok (.return_, 1) := by decide +kernel
theorem dX3_isLost_0 : decode cX3_isLost 0 = .ok (.aload_n 0, 1) := by decide +kernel
theorem dX3_isLost_1 : decode cX3_isLost 1 = .ok (.getfield 15, 3) := by decide +kernel
theorem dX3_isLost_4 : decode cX3_isLost 4 = .ok (.iconst (-1), 1) := by decide +kernel
theorem dX3_isLost_5 : decode cX3_isLost 5 = .ok (.if_icmp .ne 7, 3) := by decide +kernel
theorem dX3_isLost_8 : decode cX3_isLost 8 = .ok (.iconst 1, 1) := by decide +kernel
theorem dX3_isLost_9 : decode cX3_isLost 9 = .ok (.goto 4, 3) := by decide +kernel
theorem dX3_isLost_12 : decode cX3_isLost 12 = .ok (.iconst 0, 1) := by decide +kernel
theorem dX3_isLost_13 : decode cX3_isLost 13 = .ok (.ireturn, 1) := by decide +kernel
theorem dX3_begin_0 : decode cX3_begin 0 = .ok (.aload_n 0, 1) := by decide +kernel
theorem dX3_begin_1 : decode cX3_begin 1 = .ok (.iload_n 1, 1) := by decide +kernel
theorem dX3_begin_2 : decode cX3_begin 2 = .ok (.putfield 15, 3) := by decide +kernel
theorem dX3_begin_5 : decode cX3_begin 5 = .ok (.aload_n 0, 1) := by decide +kernel
theorem dX3_begin_6 : decode cX3_begin 6 = .ok (.iload_n 2, 1) := by decide +kernel
theorem dX3_begin_7 : decode cX3_begin 7 = .ok (.putfield 19, 3) := by decide +kernel
theorem dX3_begin_10 : decode cX3_begin 10 = .ok (.iconst 0, 1) := by decide +kernel
theorem dX3_begin_11 : decode cX3_begin 11 = .ok (.istore_n 3, 1) := by decide +kernel
theorem dX3_begin_12 : decode cX3_begin 12 = .ok (.iload_n 3, 1) := by decide +kernel
theorem dX3_begin_13 : decode cX3_begin 13 = .ok (.bipush 60, 2) := by decide +kernel
theorem dX3_begin_15 : decode cX3_begin 15 = .ok (.if_icmp .ge 16, 3) := by decide +kernel
theorem dX3_begin_18 : decode cX3_begin 18 = .ok (.aload_n 0, 1) := by decide +kernel
theorem dX3_begin_19 : decode cX3_begin 19 = .ok (.getfield 9, 3) := by decide +kernel
theorem dX3_begin_22 : decode cX3_begin 22 = .ok (.iload_n 3, 1) := by decide +kernel
theorem dX3_begin_23 : decode cX3_begin 23 = .ok (.iconst 0, 1) := by decide +kernel
theorem dX3_begin_24 : decode cX3_begin 24 = .ok (.iastore, 1) := by decide +kernel
theorem dX3_begin_25 : decode cX3_begin 25 = .ok (.iinc 3 1, 3) := by decide +kernel
theorem dX3_begin_28 : decode cX3_begin 28 = .ok (.goto (-16), 3) := by decide +kernel
theorem dX3_begin_31 : decode cX3_begin 31 = .ok (.return_, 1) := by decide +kernel
theorem dX3_put_0 : decode cX3_put 0 = .ok (.iload_n 1, 1) := by decide +kernel
theorem dX3_put_1 : decode cX3_put 1 = .ok (.aload_n 0, 1) := by decide +kernel
theorem dX3_put_2 : decode cX3_put 2 = .ok (.getfield 19, 3) := by decide +kernel
theorem dX3_put_5 : decode cX3_put 5 = .ok (.invokestatic 22, 3) := by decide +kernel
theorem dX3_put_8 : decode cX3_put 8 = .ok (.ifCond .eq 4, 3) := by decide +kernel
theorem dX3_put_11 : decode cX3_put 11 = .ok (.return_, 1) := by decide +kernel
theorem dX3_put_12 : decode cX3_put 12 = .ok (.aload_n 0, 1) := by decide +kernel
theorem dX3_put_13 : decode cX3_put 13 = .ok (.getfield 15, 3) := by decide +kernel
theorem dX3_put_16 : decode cX3_put 16 = .ok (.ifCond .ne 14, 3) := by decide +kernel
theorem dX3_put_19 : decode cX3_put 19 = .ok (.aload_n 0, 1) := by decide +kernel
theorem dX3_put_20 : decode cX3_put 20 = .ok (.getfield 9, 3) := by decide +kernel
theorem dX3_put_23 : decode cX3_put 23 = .ok (.iload_n 1, 1) := by decide +kernel
theorem dX3_put_24 : decode cX3_put 24 = .ok (.iload_n 2, 1) := by decide +kernel
theorem dX3_put_25 : decode cX3_put 25 = .ok (.i2b, 1) := by decide +kernel
theorem dX3_put_26 : decode cX3_put 26 = .ok (.iastore, 1) := by decide +kernel
theorem dX3_put_27 : decode cX3_put 27 = .ok (.goto 29, 3) := by decide +kernel
theorem dX3_put_30 : decode cX3_put 30 = .ok (.aload_n 0, 1) := by decide +kernel
theorem dX3_put_31 : decode cX3_put 31 = .ok (.getfield 15, 3) := by decide +kernel
theorem dX3_put_34 : decode cX3_put 34 = .ok (.iconst 1, 1) := by decide +kernel
theorem dX3_put_35 : decode cX3_put 35 = .ok (.if_icmp .ne 14, 3) := by decide +kernel
theorem dX3_put_38 : decode cX3_put 38 = .ok (.aload_n 0, 1) := by decide +kernel
theorem dX3_put_39 : decode cX3_put 39 = .ok (.getfield 9, 3) := by decide +kernel
theorem dX3_put_42 : decode cX3_put 42 = .ok (.iload_n 1, 1) := by decide +kernel
theorem dX3_put_43 : decode cX3_put 43 = .ok (.iload_n 2, 1) := by decide +kernel
theorem dX3_put_44 : decode cX3_put 44 = .ok (.i2s, 1) := by decide +kernel
theorem dX3_put_45 : decode cX3_put 45 = .ok (.iastore, 1) := by decide +kernel
theorem dX3_put_46 : decode cX3_put 46 = .ok (.goto 10, 3) := by decide +kernel
theorem dX3_put_49 : decode cX3_put 49 = .ok (.aload_n 0, 1) := by decide +kernel
theorem dX3_put_50 : decode cX3_put 50 = .ok (.getfield 9, 3) := by decide +kernel
theorem dX3_put_53 : decode cX3_put 53 = .ok (.iload_n 1, 1) := by decide +kernel
theorem dX3_put_54 : decode cX3_put 54 = .ok (.iload_n 2, 1) := by decide +kernel
theorem dX3_put_55 : decode cX3_put 55 = .ok (.iastore, 1) := by decide +kernel
theorem dX3_put_56 : decode cX3_put 56 = .ok (.return_, 1) := by decide +kernel
theorem dX3_hasItems_0 : decode cX3_hasItems 0 = .ok (.iload_n 1, 1) := by decide +kernel
theorem dX3_hasItems_1 : decode cX3_hasItems 1 = .ok (.ifCond .lt 29, 3) := by decide +kernel
theorem dX3_hasItems_4 : decode cX3_hasItems 4 = .ok (.iload_n 2, 1) := by decide +kernel
theorem dX3_hasItems_5 : decode cX3_hasItems 5 = .ok (.ifCond .lt 25, 3) := by decide +kernel
theorem dX3_hasItems_8 : decode cX3_hasItems 8 = .ok (.iload_n 1, 1) := by decide +kernel
theorem dX3_hasItems_9 : decode cX3_hasItems 9 = .ok (.aload_n 0, 1) := by decide +kernel
theorem dX3_hasItems_10 : decode cX3_hasItems 10 = .ok (.getfield 19, 3) := by decide +kernel
theorem dX3_hasItems_13 : decode cX3_hasItems 13 = .ok (.if_icmp .gt 17, 3) := by decide +kernel
theorem dX3_hasItems_16 : decode cX3_hasItems 16 = .ok (.iload_n 2, 1) := by decide +kernel
theorem dX3_hasItems_17 : decode cX3_hasItems 17 = .ok (.aload_n 0, 1) := by decide +kernel
theorem dX3_hasItems_18 : decode cX3_hasItems 18 = .ok (.getfield 19, 3) := by decide +kernel
theorem dX3_hasItems_21 : decode cX3_hasItems 21 = .ok (.iload_n 1, 1) := by decide +kernel
theorem dX3_hasItems_22 : decode cX3_hasItems 22 = .ok (.isub, 1) := by decide +kernel
theorem dX3_hasItems_23 : decode cX3_hasItems 23 = .ok (.if_icmp .gt 7, 3) := by decide +kernel
theorem dX3_hasItems_26 : decode cX3_hasItems 26 = .ok (.iconst 1, 1) := by decide +kernel
theorem dX3_hasItems_27 : decode cX3_hasItems 27 = .ok (.goto 4, 3) := by decide +kernel
theorem dX3_hasItems_30 : decode cX3_hasItems 30 = .ok (.iconst 0, 1) := by decide +kernel
theorem dX3_hasItems_31 : decode cX3_hasItems 31 = .ok (.ireturn, 1) := by decide +kernel
theorem dX4_init_0 : decode cX4_init 0 = .ok (.aload_n 0, 1) := by decide +kernel
theorem dX4_init_1 : decode cX4_init 1 = .ok (.invokespecial 3, 3) := by decide +kernel
theorem dX4_init_4 : decode cX4_init 4 = .ok (.aload_n 0, 1) := by decide +kernel
theorem dX4_init_5 : decode cX4_init 5 = .ok (.iconst (-1), 1) := by decide +kernel
theorem dX4_init_6 : decode cX4_init 6 = .ok (.putfield 9, 3) := by decide +kernel
theorem dX4_init_9 : decode cX4_init 9 = .ok (.aload_n 0, 1) := by decide +kernel
theorem dX4_init_10 : decode cX4_init 10 = .ok (.iload_n 1, 1) := by decide +kernel
theorem dX4_init_11 : decode cX4_init 11 = .ok (.putfield 15, 3) := by decide +kernel
theorem dX4_init_14 : decode cX4_init 14 = .ok (.aload_n 0, 1) := by decide +kernel
theorem dX4_init_15 : decode cX4_init 15 = .ok (.iload_n 1, 1) := by decide +kernel
theorem dX4_init_16 : decode cX4_init 16 = .ok (.ifCond .ne 7, 3) := by decide +kernel
theorem dX4_init_19 : decode cX4_init 19 = .ok (.iconst 3, 1) := by decide +kernel
theorem dX4_init_20 : decode cX4_init 20 = .ok (.goto 4, 3) := by decide +kernel
theorem dX4_init_23 : decode cX4_init 23 = .ok (.iconst 4, 1) := by decide +kernel
theorem dX4_init_24 : decode cX4_init 24 = .ok (.putfield 18, 3) := by decide +kernel
theorem dX4_init_27 : decode cX4_init 27 = .ok (.aload_n 0, 1) := by decide +kernel
theorem dX4_init_28 : decode cX4_init 28 = .ok (.iload_n 1, 1) := by decide +kernel
theorem dX4_init_29 : decode cX4_init 29 = .ok (.ifCond .ne 8, 3) := by decide +kernel
theorem dX4_init_32 : decode cX4_init 32 = .ok (.bipush 23, 2) := by decide +kernel
theorem dX4_init_34 : decode cX4_init 34 = .ok (.goto 5, 3) := by decide +kernel
theorem dX4_init_37 : decode cX4_init 37 = .ok (.bipush 47, 2) := by decide +kernel
theorem dX4_init_39 : decode cX4_init 39 = .ok (.newarray .int, 2) := by decide +kernel
theorem dX4_init_41 : decode cX4_init 41 = .ok (.putfield 21, 3) := by decide +kernel
theorem dX4_init_44 : decode cX4_init 44 = .ok (.return_, 1) := by decide +kernel
theorem dX4_size_0 : decode cX4_size 0 = .ok (.aload_n 0, 1) := by decide +kernel
theorem dX4_size_1 : decode cX4_size 1 = .ok (.getfield 25, 3) := by decide +kernel
theorem dX4_size_4 : decode cX4_size 4 = .ok (.ireturn, 1) := by decide +kernel
theorem dX4_isFull_0 : decode cX4_isFull 0 = .ok (.aload_n 0, 1) := by decide +kernel
theorem dX4_isFull_1 : decode cX4_isFull 1 = .ok (.getfield 25, 3) := by decide +kernel
theorem dX4_isFull_4 : decode cX4_isFull 4 = .ok (.aload_n 0, 1) := by decide +kernel
theorem dX4_isFull_5 : decode cX4_isFull 5 = .ok (.getfield 21, 3) := by decide +kernel
theorem dX4_isFull_8 : decode cX4_isFull 8 = .ok (.arraylength, 1) := by decide +kernel
theorem dX4_isFull_9 : decode cX4_isFull 9 = .ok (.if_icmp .lt 7, 3) := by decide +kernel
theorem dX4_isFull_12 : decode cX4_isFull 12 = .ok (.iconst 1, 1) := by decide +kernel
theorem dX4_isFull_13 : decode cX4_isFull 13 = .ok (.goto 4, 3) := by decide +kernel
theorem dX4_isFull_16 : decode cX4_isFull 16 = .ok (.iconst 0, 1) := by decide +kernel
theorem dX4_isFull_17 : decode cX4_isFull 17 = .ok (.ireturn, 1) := by decide +kernel
theorem dX4_append_0 : decode cX4_append 0 = .ok (.aload_n 0, 1) := by decide +kernel
theorem dX4_append_1 : decode cX4_append 1 = .ok (.invokevirtual 28, 3) := by decide +kernel
theorem dX4_append_4 : decode cX4_append 4 = .ok (.ifCond .eq 4, 3) := by decide +kernel
theorem dX4_append_7 : decode cX4_append 7 = .ok (.return_, 1) := by decide +kernel
theorem dX4_append_8 : decode cX4_append 8 = .ok (.aload_n 0, 1) := by decide +kernel
theorem dX4_append_9 : decode cX4_append 9 = .ok (.getfield 21, 3) := by decide +kernel
theorem dX4_append_12 : decode cX4_append 12 = .ok (.aload_n 0, 1) := by decide +kernel
theorem dX4_append_13 : decode cX4_append 13 = .ok (.getfield 25, 3) := by decide +kernel
theorem dX4_append_16 : decode cX4_append 16 = .ok (.aload_n 0, 1) := by decide +kernel
theorem dX4_append_17 : decode cX4_append 17 = .ok (.aload_n 0, 1) := by decide +kernel
theorem dX4_append_18 : decode cX4_append 18 = .ok (.getfield 25, 3) := by decide +kernel
theorem dX4_append_21 : decode cX4_append 21 = .ok (.aload_n 0, 1) := by decide +kernel
theorem dX4_append_22 : decode cX4_append 22 = .ok (.getfield 18, 3) := by decide +kernel
theorem dX4_append_25 : decode cX4_append 25 = .ok (.irem, 1) := by decide +kernel
theorem dX4_append_26 : decode cX4_append 26 = .ok (.iload_n 1, 1) := by decide +kernel
theorem dX4_append_27 : decode cX4_append 27 = .ok (.invokevirtual 32, 3) := by decide +kernel
theorem dX4_append_30 : decode cX4_append 30 = .ok (.iastore, 1) := by decide +kernel
theorem dX4_append_31 : decode cX4_append 31 = .ok (.aload_n 0, 1) := by decide +kernel
theorem dX4_append_32 : decode cX4_append 32 = .ok (.getfield 9, 3) := by decide +kernel
theorem dX4_append_35 : decode cX4_append 35 = .ok (.iconst (-1), 1) := by decide +kernel
theorem dX4_append_36 : decode cX4_append 36 = .ok (.if_icmp .ne 24, 3) := by decide +kernel
theorem dX4_append_39 : decode cX4_append 39 = .ok (.aload_n 0, 1) := by decide +kernel
theorem dX4_append_40 : decode cX4_append 40 = .ok (.getfield 21, 3) := by decide +kernel
theorem dX4_append_43 : decode cX4_append 43 = .ok (.aload_n 0, 1) := by decide +kernel
theorem dX4_append_44 : decode cX4_append 44 = .ok (.getfield 25, 3) := by decide +kernel
theorem dX4_append_47 : decode cX4_append 47 = .ok (.iaload, 1) := by decide +kernel
theorem dX4_append_48 : decode cX4_append 48 = .ok (.iconst (-1), 1) := by decide +kernel
theorem dX4_append_49 : decode cX4_append 49 = .ok (.if_icmp .ne 11, 3) := by decide +kernel
theorem dX4_append_52 : decode cX4_append 52 = .ok (.aload_n 0, 1) := by decide +kernel
theorem dX4_append_53 : decode cX4_append 53 = .ok (.aload_n 0, 1) := by decide +kernel
theorem dX4_append_54 : decode cX4_append 54 = .ok (.getfield 25, 3) := by decide +kernel
theorem dX4_append_57 : decode cX4_append 57 = .ok (.putfield 9, 3) := by decide +kernel
theorem dX4_append_60 : decode cX4_append 60 = .ok (.aload_n 0, 1) := by decide +kernel
theorem dX4_append_61 : decode cX4_append 61 = .ok (.dup, 1) := by decide +kernel
theorem dX4_append_62 : decode cX4_append 62 = .ok (.getfield 25, 3) := by decide +kernel
theorem dX4_append_65 : decode cX4_append 65 = .ok (.iconst 1, 1) := by decide +kernel
theorem dX4_append_66 : decode cX4_append 66 = .ok (.iadd, 1) := by decide +kernel
theorem dX4_append_67 : decode cX4_append 67 = .ok (.putfield 25, 3) := by decide +kernel
theorem dX4_append_70 : decode cX4_append 70 = .ok (.return_, 1) := by decide +kernel
theorem dX4_cutTo_0 : decode cX4_cutTo 0 = .ok (.iload_n 1, 1) := by decide +kernel
theorem dX4_cutTo_1 : decode cX4_cutTo 1 = .ok (.ifCond .lt 11, 3) := by decide +kernel
theorem dX4_cutTo_4 : decode cX4_cutTo 4 = .ok (.iload_n 1, 1) := by decide +kernel
theorem dX4_cutTo_5 : decode cX4_cutTo 5 = .ok (.aload_n 0, 1) := by decide +kernel
theorem dX4_cutTo_6 : decode cX4_cutTo 6 = .ok (.getfield 25, 3) := by decide +kernel
theorem dX4_cutTo_9 : decode cX4_cutTo 9 = .ok (.if_icmp .le 4, 3) := by decide +kernel
theorem dX4_cutTo_12 : decode cX4_cutTo 12 = .ok (.return_, 1) := by decide +kernel
theorem dX4_cutTo_13 : decode cX4_cutTo 13 = .ok (.aload_n 0, 1) := by decide +kernel
theorem dX4_cutTo_14 : decode cX4_cutTo 14 = .ok (.iload_n 1, 1) := by decide +kernel
theorem dX4_cutTo_15 : decode cX4_cutTo 15 = .ok (.putfield 25, 3) := by decide +kernel
theorem dX4_cutTo_18 : decode cX4_cutTo 18 = .ok (.aload_n 0, 1) := by decide +kernel
theorem dX4_cutTo_19 : decode cX4_cutTo 19 = .ok (.getfield 9, 3) := by decide +kernel
theorem dX4_cutTo_22 : decode cX4_cutTo 22 = .ok (.aload_n 0, 1) := by decide +kernel
theorem dX4_cutTo_23 : decode cX4_cutTo 23 = .ok (.getfield 25, 3) := by decide +kernel
theorem dX4_cutTo_26 : decode cX4_cutTo 26 = .ok (.if_icmp .lt 8, 3) := by decide +kernel
theorem dX4_cutTo_29 : decode cX4_cutTo 29 = .ok (.aload_n 0, 1) := by decide +kernel
theorem dX4_cutTo_30 : decode cX4_cutTo 30 = .ok (.iconst (-1), 1) := by decide +kernel
theorem dX4_cutTo_31 : decode cX4_cutTo 31 = .ok (.putfield 9, 3) := by decide +kernel
theorem dX4_cutTo_34 : decode cX4_cutTo 34 = .ok (.return_, 1) := by decide +kernel
theorem dX4_faultPlace_0 : decode cX4_faultPlace 0 = .ok (.aload_n 0, 1) := by decide +kernel
theorem dX4_faultPlace_1 : decode cX4_faultPlace 1 = .ok (.getfield 9, 3) := by decide +kernel
theorem dX4_faultPlace_4 : decode cX4_faultPlace 4 = .ok (.iconst (-1), 1) := by decide +kernel
theorem dX4_faultPlace_5 : decode cX4_faultPlace 5 = .ok (.if_icmp .eq 8, 3) := by decide +kernel
theorem dX4_faultPlace_8 : decode cX4_faultPlace 8 = .ok (.aload_n 0, 1) := by decide +kernel
theorem dX4_faultPlace_9 : decode cX4_faultPlace 9 = .ok (.getfield 9, 3) := by decide +kernel
theorem dX4_faultPlace_12 : decode cX4_faultPlace 12 = .ok (.ireturn, 1) := by decide +kernel
theorem dX4_faultPlace_13 : decode cX4_faultPlace 13 = .ok (.aload_n 0, 1) := by decide +kernel
theorem dX4_faultPlace_14 : decode cX4_faultPlace 14 = .ok (.getfield 25, 3) := by decide +kernel
theorem dX4_faultPlace_17 : decode cX4_faultPlace 17 = .ok (.ifCond .eq 21, 3) := by decide +kernel
theorem dX4_faultPlace_20 : decode cX4_faultPlace 20 = .ok (.aload_n 0, 1) := by decide +kernel
theorem dX4_faultPlace_21 : decode cX4_faultPlace 21 = .ok (.getfield 25, 3) := by decide +kernel
theorem dX4_faultPlace_24 : decode cX4_faultPlace 24 = .ok (.aload_n 0, 1) := by decide +kernel
theorem dX4_faultPlace_25 : decode cX4_faultPlace 25 = .ok (.getfield 18, 3) := by decide +kernel
theorem dX4_faultPlace_28 : decode cX4_faultPlace 28 = .ok (.irem, 1) := by decide +kernel
theorem dX4_faultPlace_29 : decode cX4_faultPlace 29 = .ok (.aload_n 0, 1) := by decide +kernel
theorem dX4_faultPlace_30 : decode cX4_faultPlace 30 = .ok (.getfield 18, 3) := by decide +kernel
theorem dX4_faultPlace_33 : decode cX4_faultPlace 33 = .ok (.iconst 1, 1) := by decide +kernel
theorem dX4_faultPlace_34 : decode cX4_faultPlace 34 = .ok (.isub, 1) := by decide +kernel
theorem dX4_faultPlace_35 : decode cX4_faultPlace 35 = .ok (.if_icmp .ne 7, 3) := by decide +kernel
theorem dX4_faultPlace_38 : decode cX4_faultPlace 38 = .ok (.iconst (-1), 1) := by decide +kernel
theorem dX4_faultPlace_39 : decode cX4_faultPlace 39 = .ok (.goto 7, 3) := by decide +kernel
theorem dX4_faultPlace_42 : decode cX4_faultPlace 42 = .ok (.aload_n 0, 1) := by decide +kernel
theorem dX4_faultPlace_43 : decode cX4_faultPlace 43 = .ok (.getfield 25, 3) := by decide +kernel
theorem dX4_faultPlace_46 : decode cX4_faultPlace 46 = .ok (.ireturn, 1) := by decide +kernel
theorem dX4_things_0 : decode cX4_things 0 = .ok (.aload_n 0, 1) := by decide +kernel
theorem dX4_things_1 : decode cX4_things 1 = .ok (.invokevirtual 36, 3) := by decide +kernel
theorem dX4_things_4 : decode cX4_things 4 = .ok (.iconst (-1), 1) := by decide +kernel
theorem dX4_things_5 : decode cX4_things 5 = .ok (.if_icmp .ne 17, 3) := by decide +kernel
theorem dX4_things_8 : decode cX4_things 8 = .ok (.aload_n 0, 1) := by decide +kernel
theorem dX4_things_9 : decode cX4_things 9 = .ok (.getfield 25, 3) := by decide +kernel
theorem dX4_things_12 : decode cX4_things 12 = .ok (.iconst 1, 1) := by decide +kernel
theorem dX4_things_13 : decode cX4_things 13 = .ok (.iadd, 1) := by decide +kernel
theorem dX4_things_14 : decode cX4_things 14 = .ok (.aload_n 0, 1) := by decide +kernel
theorem dX4_things_15 : decode cX4_things 15 = .ok (.getfield 18, 3) := by decide +kernel
theorem dX4_things_18 : decode cX4_things 18 = .ok (.idiv, 1) := by decide +kernel
theorem dX4_things_19 : decode cX4_things 19 = .ok (.goto 4, 3) := by decide +kernel
theorem dX4_things_22 : decode cX4_things 22 = .ok (.iconst 0, 1) := by decide +kernel
theorem dX4_things_23 : decode cX4_things 23 = .ok (.ireturn, 1) := by decide +kernel
theorem dX4_valueOf_0 : decode cX4_valueOf 0 = .ok (.iload_n 1, 1) := by decide +kernel
theorem dX4_valueOf_1 : decode cX4_valueOf 1 = .ok (.aload_n 0, 1) := by decide +kernel
theorem dX4_valueOf_2 : decode cX4_valueOf 2 = .ok (.getfield 18, 3) := by decide +kernel
theorem dX4_valueOf_5 : decode cX4_valueOf 5 = .ok (.imul, 1) := by decide +kernel
theorem dX4_valueOf_6 : decode cX4_valueOf 6 = .ok (.iload_n 2, 1) := by decide +kernel
theorem dX4_valueOf_7 : decode cX4_valueOf 7 = .ok (.iadd, 1) := by decide +kernel
theorem dX4_valueOf_8 : decode cX4_valueOf 8 = .ok (.istore_n 3, 1) := by decide +kernel
theorem dX4_valueOf_9 : decode cX4_valueOf 9 = .ok (.iload_n 3, 1) := by decide +kernel
theorem dX4_valueOf_10 : decode cX4_valueOf 10 = .ok (.aload_n 0, 1) := by decide +kernel
theorem dX4_valueOf_11 : decode cX4_valueOf 11 = .ok (.getfield 25, 3) := by decide +kernel
theorem dX4_valueOf_14 : decode cX4_valueOf 14 = .ok (.invokestatic 40, 3) := by decide +kernel
theorem dX4_valueOf_17 : decode cX4_valueOf 17 = .ok (.ifCond .eq 7, 3) := by decide +kernel
theorem dX4_valueOf_20 : decode cX4_valueOf 20 = .ok (.iconst (-1), 1) := by decide +kernel
theorem dX4_valueOf_21 : decode cX4_valueOf 21 = .ok (.goto 9, 3) := by decide +kernel
theorem dX4_valueOf_24 : decode cX4_valueOf 24 = .ok (.aload_n 0, 1) := by decide +kernel
theorem dX4_valueOf_25 : decode cX4_valueOf 25 = .ok (.getfield 21, 3) := by decide +kernel
theorem dX4_valueOf_28 : decode cX4_valueOf 28 = .ok (.iload_n 3, 1) := by decide +kernel
theorem dX4_valueOf_29 : decode cX4_valueOf 29 = .ok (.iaload, 1) := by decide +kernel
theorem dX4_valueOf_30 : decode cX4_valueOf 30 = .ok (.ireturn, 1) := by decide +kernel
theorem dX4_meaning_0 : decode cX4_meaning 0 = .ok (.iload_n 1, 1) := by decide +kernel
theorem dX4_meaning_1 : decode cX4_meaning 1 = .ok (.aload_n 0, 1) := by decide +kernel
theorem dX4_meaning_2 : decode cX4_meaning 2 = .ok (.getfield 18, 3) := by decide +kernel
theorem dX4_meaning_5 : decode cX4_meaning 5 = .ok (.iconst 1, 1) := by decide +kernel
theorem dX4_meaning_6 : decode cX4_meaning 6 = .ok (.isub, 1) := by decide +kernel
theorem dX4_meaning_7 : decode cX4_meaning 7 = .ok (.if_icmp .ne 15, 3) := by decide +kernel
theorem dX4_meaning_10 : decode cX4_meaning 10 = .ok (.iload_n 2, 1) := by decide +kernel
theorem dX4_meaning_11 : decode cX4_meaning 11 = .ok (.bipush 59, 2) := by decide +kernel
theorem dX4_meaning_13 : decode cX4_meaning 13 = .ok (.if_icmp .ne 7, 3) := by decide +kernel
theorem dX4_meaning_16 : decode cX4_meaning 16 = .ok (.iconst 0, 1) := by decide +kernel
theorem dX4_meaning_17 : decode cX4_meaning 17 = .ok (.goto 4, 3) := by decide +kernel
theorem dX4_meaning_20 : decode cX4_meaning 20 = .ok (.iconst (-1), 1) := by decide +kernel
theorem dX4_meaning_21 : decode cX4_meaning 21 = .ok (.ireturn, 1) := by decide +kernel
theorem dX4_meaning_22 : decode cX4_meaning 22 = .ok (.aload_n 0, 1) := by decide +kernel
theorem dX4_meaning_23 : decode cX4_meaning 23 = .ok (.getfield 15, 3) := by decide +kernel
theorem dX4_meaning_26 : decode cX4_meaning 26 = .ok (.ifCond .ne 25, 3) := by decide +kernel
theorem dX4_meaning_29 : decode cX4_meaning 29 = .ok (.iload_n 1, 1) := by decide +kernel
theorem dX4_meaning_30 : decode cX4_meaning 30 = .ok (.ifCond .ne 10, 3) := by decide +kernel
theorem dX4_meaning_33 : decode cX4_meaning 33 = .ok (.iload_n 2, 1) := by decide +kernel
theorem dX4_meaning_34 : decode cX4_meaning 34 = .ok (.invokestatic 44, 3) := by decide +kernel
theorem dX4_meaning_37 : decode cX4_meaning 37 = .ok (.goto 13, 3) := by decide +kernel
theorem dX4_meaning_40 : decode cX4_meaning 40 = .ok (.iload_n 2, 1) := by decide +kernel
theorem dX4_meaning_41 : decode cX4_meaning 41 = .ok (.bipush 97, 2) := by decide +kernel
theorem dX4_meaning_43 : decode cX4_meaning 43 = .ok (.bipush 120, 2) := by decide +kernel
theorem dX4_meaning_45 : decode cX4_meaning 45 = .ok (.bipush 97, 2) := by decide +kernel
theorem dX4_meaning_47 : decode cX4_meaning 47 = .ok (.invokestatic 48, 3) := by decide +kernel
theorem dX4_meaning_50 : decode cX4_meaning 50 = .ok (.ireturn, 1) := by decide +kernel
theorem dX4_meaning_51 : decode cX4_meaning 51 = .ok (.aload_n 0, 1) := by decide +kernel
theorem dX4_meaning_52 : decode cX4_meaning 52 = .ok (.getfield 15, 3) := by decide +kernel
theorem dX4_meaning_55 : decode cX4_meaning 55 = .ok (.iconst 1, 1) := by decide +kernel
theorem dX4_meaning_56 : decode cX4_meaning 56 = .ok (.if_icmp .ne 34, 3) := by decide +kernel
theorem dX4_meaning_59 : decode cX4_meaning 59 = .ok (.iload_n 2, 1) := by decide +kernel
theorem dX4_meaning_60 : decode cX4_meaning 60 = .ok (.iload_n 1, 1) := by decide +kernel
theorem dX4_meaning_61 : decode cX4_meaning 61 = .ok (.iconst 2, 1) := by decide +kernel
theorem dX4_meaning_62 : decode cX4_meaning 62 = .ok (.if_icmp .ne 8, 3) := by decide +kernel
theorem dX4_meaning_65 : decode cX4_meaning 65 = .ok (.bipush 49, 2) := by decide +kernel
theorem dX4_meaning_67 : decode cX4_meaning 67 = .ok (.goto 5, 3) := by decide +kernel
theorem dX4_meaning_70 : decode cX4_meaning 70 = .ok (.bipush 48, 2) := by decide +kernel
theorem dX4_meaning_72 : decode cX4_meaning 72 = .ok (.iload_n 1, 1) := by decide +kernel
theorem dX4_meaning_73 : decode cX4_meaning 73 = .ok (.iconst 2, 1) := by decide +kernel
theorem dX4_meaning_74 : decode cX4_meaning 74 = .ok (.if_icmp .ne 8, 3) := by decide +kernel
theorem dX4_meaning_77 : decode cX4_meaning 77 = .ok (.bipush 57, 2) := by decide +kernel
theorem dX4_meaning_79 : decode cX4_meaning 79 = .ok (.goto 5, 3) := by decide +kernel
theorem dX4_meaning_82 : decode cX4_meaning 82 = .ok (.bipush 55, 2) := by decide +kernel
theorem dX4_meaning_84 : decode cX4_meaning 84 = .ok (.bipush 48, 2) := by decide +kernel
theorem dX4_meaning_86 : decode cX4_meaning 86 = .ok (.invokestatic 48, 3) := by decide +kernel
theorem dX4_meaning_89 : decode cX4_meaning 89 = .ok (.ireturn, 1) := by decide +kernel
theorem dX4_meaning_90 : decode cX4_meaning 90 = .ok (.iload_n 1, 1) := by decide +kernel
theorem dX4_meaning_91 : decode cX4_meaning 91 = .ok (.ifCond .ne 16, 3) := by decide +kernel
theorem dX4_meaning_94 : decode cX4_meaning 94 = .ok (.iload_n 2, 1) := by decide +kernel
theorem dX4_meaning_95 : decode cX4_meaning 95 = .ok (.bipush 97, 2) := by decide +kernel
theorem dX4_meaning_97 : decode cX4_meaning 97 = .ok (.bipush 120, 2) := by decide +kernel
theorem dX4_meaning_99 : decode cX4_meaning 99 = .ok (.bipush 97, 2) := by decide +kernel
theorem dX4_meaning_101 : decode cX4_meaning 101 = .ok (.invokestatic 48, 3) := by decide +kernel
theorem dX4_meaning_104 : decode cX4_meaning 104 = .ok (.goto 13, 3) := by decide +kernel
theorem dX4_meaning_107 : decode cX4_meaning 107 = .ok (.iload_n 2, 1) := by decide +kernel
theorem dX4_meaning_108 : decode cX4_meaning 108 = .ok (.bipush 48, 2) := by decide +kernel
theorem dX4_meaning_110 : decode cX4_meaning 110 = .ok (.bipush 55, 2) := by decide +kernel
theorem dX4_meaning_112 : decode cX4_meaning 112 = .ok (.bipush 48, 2) := by decide +kernel
theorem dX4_meaning_114 : decode cX4_meaning 114 = .ok (.invokestatic 48, 3) := by decide +kernel
theorem dX4_meaning_117 : decode cX4_meaning 117 = .ok (.ireturn, 1) := by decide +kernel
theorem dX4_sortOf_0 : decode cX4_sortOf 0 = .ok (.iload_n 0, 1) := by decide +kernel
theorem dX4_sortOf_1 : decode cX4_sortOf 1 = .ok (.lookupswitch 51 #[(98, 49), (109, 47), (111, 45), (112, 43)], 43) := by decide +kernel
theorem dX4_sortOf_44 : decode cX4_sortOf 44 = .ok (.iconst 0, 1) := by decide +kernel
theorem dX4_sortOf_45 : decode cX4_sortOf 45 = .ok (.ireturn, 1) := by decide +kernel
theorem dX4_sortOf_46 : decode cX4_sortOf 46 = .ok (.iconst 1, 1) := by decide +kernel
theorem dX4_sortOf_47 : decode cX4_sortOf 47 = .ok (.ireturn, 1) := by decide +kernel
theorem dX4_sortOf_48 : decode cX4_sortOf 48 = .ok (.iconst 2, 1) := by decide +kernel
theorem dX4_sortOf_49 : decode cX4_sortOf 49 = .ok (.ireturn, 1) := by decide +kernel
theorem dX4_sortOf_50 : decode cX4_sortOf 50 = .ok (.iconst 3, 1) := by decide +kernel
theorem dX4_sortOf_51 : decode cX4_sortOf 51 = .ok (.ireturn, 1) := by decide +kernel
theorem dX4_sortOf_52 : decode cX4_sortOf 52 = .ok (.iconst (-1), 1) := by decide +kernel
theorem dX4_sortOf_53 : decode cX4_sortOf 53 = .ok (.ireturn, 1) := by decide +kernel
theorem dX4_within_0 : decode cX4_within 0 = .ok (.iload_n 0, 1) := by decide +kernel
theorem dX4_within_1 : decode cX4_within 1 = .ok (.iload_n 1, 1) := by decide +kernel
theorem dX4_within_2 : decode cX4_within 2 = .ok (.if_icmp .lt 8, 3) := by decide +kernel
theorem dX4_within_5 : decode cX4_within 5 = .ok (.iload_n 0, 1) := by decide +kernel
theorem dX4_within_6 : decode cX4_within 6 = .ok (.iload_n 2, 1) := by decide +kernel
theorem dX4_within_7 : decode cX4_within 7 = .ok (.if_icmp .le 7, 3) := by decide +kernel
theorem dX4_within_10 : decode cX4_within 10 = .ok (.iconst (-1), 1) := by decide +kernel
theorem dX4_within_11 : decode cX4_within 11 = .ok (.goto 6, 3) := by decide +kernel
theorem dX4_within_14 : decode cX4_within 14 = .ok (.iload_n 0, 1) := by decide +kernel
theorem dX4_within_15 : decode cX4_within 15 = .ok (.iload_n 3, 1) := by decide +kernel
theorem dX4_within_16 : decode cX4_within 16 = .ok (.isub, 1) := by decide +kernel
theorem dX4_within_17 : decode cX4_within 17 = .ok (.ireturn, 1) := by decide +kernel
theorem dX5_init_0 : decode cX5_init 0 = .ok (.aload_n 0, 1) := by decide +kernel
theorem dX5_init_1 : decode cX5_init 1 = .ok (.invokespecial 3, 3) := by decide +kernel
theorem dX5_init_4 : decode cX5_init 4 = .ok (.aload_n 0, 1) := by decide +kernel
theorem dX5_init_5 : decode cX5_init 5 = .ok (.bipush 8, 2) := by decide +kernel
theorem dX5_init_7 : decode cX5_init 7 = .ok (.newarray .int, 2) := by decide +kernel
theorem dX5_init_9 : decode cX5_init 9 = .ok (.putfield 9, 3) := by decide +kernel
theorem dX5_init_12 : decode cX5_init 12 = .ok (.aload_n 0, 1) := by decide +kernel
theorem dX5_init_13 : decode cX5_init 13 = .ok (.bipush 8, 2) := by decide +kernel
theorem dX5_init_15 : decode cX5_init 15 = .ok (.newarray .int, 2) := by decide +kernel
theorem dX5_init_17 : decode cX5_init 17 = .ok (.putfield 15, 3) := by decide +kernel
theorem dX5_init_20 : decode cX5_init 20 = .ok (.aload_n 0, 1) := by decide +kernel
theorem dX5_init_21 : decode cX5_init 21 = .ok (.bipush 12, 2) := by decide +kernel
theorem dX5_init_23 : decode cX5_init 23 = .ok (.newarray .int, 2) := by decide +kernel
theorem dX5_init_25 : decode cX5_init 25 = .ok (.putfield 18, 3) := by decide +kernel
theorem dX5_init_28 : decode cX5_init 28 = .ok (.aload_n 0, 1) := by decide +kernel
theorem dX5_init_29 : decode cX5_init 29 = .ok (.bipush 12, 2) := by decide +kernel
theorem dX5_init_31 : decode cX5_init 31 = .ok (.newarray .int, 2) := by decide +kernel
theorem dX5_init_33 : decode cX5_init 33 = .ok (.putfield 21, 3) := by decide +kernel
theorem dX5_init_36 : decode cX5_init 36 = .ok (.aload_n 0, 1) := by decide +kernel
theorem dX5_init_37 : decode cX5_init 37 = .ok (.bipush 12, 2) := by decide +kernel
theorem dX5_init_39 : decode cX5_init 39 = .ok (.newarray .int, 2) := by decide +kernel
theorem dX5_init_41 : decode cX5_init 41 = .ok (.putfield 24, 3) := by decide +kernel
theorem dX5_init_44 : decode cX5_init 44 = .ok (.aload_n 0, 1) := by decide +kernel
theorem dX5_init_45 : decode cX5_init 45 = .ok (.bipush 13, 2) := by decide +kernel
theorem dX5_init_47 : decode cX5_init 47 = .ok (.newarray .int, 2) := by decide +kernel
theorem dX5_init_49 : decode cX5_init 49 = .ok (.putfield 27, 3) := by decide +kernel
theorem dX5_init_52 : decode cX5_init 52 = .ok (.aload_n 0, 1) := by decide +kernel
theorem dX5_init_53 : decode cX5_init 53 = .ok (.bipush 13, 2) := by decide +kernel
theorem dX5_init_55 : decode cX5_init 55 = .ok (.newarray .int, 2) := by decide +kernel
theorem dX5_init_57 : decode cX5_init 57 = .ok (.putfield 30, 3) := by decide +kernel
theorem dX5_init_60 : decode cX5_init 60 = .ok (.aload_n 0, 1) := by decide +kernel
theorem dX5_init_61 : decode cX5_init 61 = .ok (.bipush 13, 2) := by decide +kernel
theorem dX5_init_63 : decode cX5_init 63 = .ok (.newarray .int, 2) := by decide +kernel
theorem dX5_init_65 : decode cX5_init 65 = .ok (.putfield 33, 3) := by decide +kernel
theorem dX5_init_68 : decode cX5_init 68 = .ok (.return_, 1) := by decide +kernel
theorem dX5_readPeople_0 : decode cX5_readPeople 0 = .ok (.aload_n 0, 1) := by decide +kernel
theorem dX5_readPeople_1 : decode cX5_readPeople 1 = .ok (.aload_n 1, 1) := by decide +kernel
theorem dX5_readPeople_2 : decode cX5_readPeople 2 = .ok (.invokevirtual 36, 3) := by decide +kernel
theorem dX5_readPeople_5 : decode cX5_readPeople 5 = .ok (.bipush 8, 2) := by decide +kernel
theorem dX5_readPeople_7 : decode cX5_readPeople 7 = .ok (.invokestatic 42, 3) := by decide +kernel
theorem dX5_readPeople_10 : decode cX5_readPeople 10 = .ok (.putfield 48, 3) := by decide +kernel
theorem dX5_readPeople_13 : decode cX5_readPeople 13 = .ok (.iconst 0, 1) := by decide +kernel
theorem dX5_readPeople_14 : decode cX5_readPeople 14 = .ok (.istore_n 2, 1) := by decide +kernel
theorem dX5_readPeople_15 : decode cX5_readPeople 15 = .ok (.iload_n 2, 1) := by decide +kernel
theorem dX5_readPeople_16 : decode cX5_readPeople 16 = .ok (.aload_n 0, 1) := by decide +kernel
theorem dX5_readPeople_17 : decode cX5_readPeople 17 = .ok (.getfield 48, 3) := by decide +kernel
theorem dX5_readPeople_20 : decode cX5_readPeople 20 = .ok (.if_icmp .ge 33, 3) := by decide +kernel
theorem dX5_readPeople_23 : decode cX5_readPeople 23 = .ok (.aload_n 0, 1) := by decide +kernel
theorem dX5_readPeople_24 : decode cX5_readPeople 24 = .ok (.getfield 9, 3) := by decide +kernel
theorem dX5_readPeople_27 : decode cX5_readPeople 27 = .ok (.iload_n 2, 1) := by decide +kernel
theorem dX5_readPeople_28 : decode cX5_readPeople 28 = .ok (.aload_n 1, 1) := by decide +kernel
theorem dX5_readPeople_29 : decode cX5_readPeople 29 = .ok (.iload_n 2, 1) := by decide +kernel
theorem dX5_readPeople_30 : decode cX5_readPeople 30 = .ok (.iconst 0, 1) := by decide +kernel
theorem dX5_readPeople_31 : decode cX5_readPeople 31 = .ok (.invokevirtual 52, 3) := by decide +kernel
theorem dX5_readPeople_34 : decode cX5_readPeople 34 = .ok (.iastore, 1) := by decide +kernel
theorem dX5_readPeople_35 : decode cX5_readPeople 35 = .ok (.aload_n 0, 1) := by decide +kernel
theorem dX5_readPeople_36 : decode cX5_readPeople 36 = .ok (.getfield 15, 3) := by decide +kernel
theorem dX5_readPeople_39 : decode cX5_readPeople 39 = .ok (.iload_n 2, 1) := by decide +kernel
theorem dX5_readPeople_40 : decode cX5_readPeople 40 = .ok (.aload_n 1, 1) := by decide +kernel
theorem dX5_readPeople_41 : decode cX5_readPeople 41 = .ok (.iload_n 2, 1) := by decide +kernel
theorem dX5_readPeople_42 : decode cX5_readPeople 42 = .ok (.iconst 1, 1) := by decide +kernel
theorem dX5_readPeople_43 : decode cX5_readPeople 43 = .ok (.invokevirtual 52, 3) := by decide +kernel
theorem dX5_readPeople_46 : decode cX5_readPeople 46 = .ok (.iastore, 1) := by decide +kernel
theorem dX5_readPeople_47 : decode cX5_readPeople 47 = .ok (.iinc 2 1, 3) := by decide +kernel
theorem dX5_readPeople_50 : decode cX5_readPeople 50 = .ok (.goto (-35), 3) := by decide +kernel
theorem dX5_readPeople_53 : decode cX5_readPeople 53 = .ok (.return_, 1) := by decide +kernel
theorem dX5_readWords_0 : decode cX5_readWords 0 = .ok (.aload_n 0, 1) := by decide +kernel
theorem dX5_readWords_1 : decode cX5_readWords 1 = .ok (.aload_n 1, 1) := by decide +kernel
theorem dX5_readWords_2 : decode cX5_readWords 2 = .ok (.invokevirtual 36, 3) := by decide +kernel
theorem dX5_readWords_5 : decode cX5_readWords 5 = .ok (.bipush 12, 2) := by decide +kernel
theorem dX5_readWords_7 : decode cX5_readWords 7 = .ok (.invokestatic 42, 3) := by decide +kernel
theorem dX5_readWords_10 : decode cX5_readWords 10 = .ok (.putfield 55, 3) := by decide +kernel
theorem dX5_readWords_13 : decode cX5_readWords 13 = .ok (.iconst 0, 1) := by decide +kernel
theorem dX5_readWords_14 : decode cX5_readWords 14 = .ok (.istore_n 2, 1) := by decide +kernel
theorem dX5_readWords_15 : decode cX5_readWords 15 = .ok (.iload_n 2, 1) := by decide +kernel
theorem dX5_readWords_16 : decode cX5_readWords 16 = .ok (.aload_n 0, 1) := by decide +kernel
theorem dX5_readWords_17 : decode cX5_readWords 17 = .ok (.getfield 55, 3) := by decide +kernel
theorem dX5_readWords_20 : decode cX5_readWords 20 = .ok (.if_icmp .ge 45, 3) := by decide +kernel
theorem dX5_readWords_23 : decode cX5_readWords 23 = .ok (.aload_n 0, 1) := by decide +kernel
theorem dX5_readWords_24 : decode cX5_readWords 24 = .ok (.getfield 18, 3) := by decide +kernel
theorem dX5_readWords_27 : decode cX5_readWords 27 = .ok (.iload_n 2, 1) := by decide +kernel
theorem dX5_readWords_28 : decode cX5_readWords 28 = .ok (.aload_n 1, 1) := by decide +kernel
theorem dX5_readWords_29 : decode cX5_readWords 29 = .ok (.iload_n 2, 1) := by decide +kernel
theorem dX5_readWords_30 : decode cX5_readWords 30 = .ok (.iconst 0, 1) := by decide +kernel
theorem dX5_readWords_31 : decode cX5_readWords 31 = .ok (.invokevirtual 52, 3) := by decide +kernel
theorem dX5_readWords_34 : decode cX5_readWords 34 = .ok (.iastore, 1) := by decide +kernel
theorem dX5_readWords_35 : decode cX5_readWords 35 = .ok (.aload_n 0, 1) := by decide +kernel
theorem dX5_readWords_36 : decode cX5_readWords 36 = .ok (.getfield 21, 3) := by decide +kernel
theorem dX5_readWords_39 : decode cX5_readWords 39 = .ok (.iload_n 2, 1) := by decide +kernel
theorem dX5_readWords_40 : decode cX5_readWords 40 = .ok (.aload_n 1, 1) := by decide +kernel
theorem dX5_readWords_41 : decode cX5_readWords 41 = .ok (.iload_n 2, 1) := by decide +kernel
theorem dX5_readWords_42 : decode cX5_readWords 42 = .ok (.iconst 1, 1) := by decide +kernel
theorem dX5_readWords_43 : decode cX5_readWords 43 = .ok (.invokevirtual 52, 3) := by decide +kernel
theorem dX5_readWords_46 : decode cX5_readWords 46 = .ok (.iastore, 1) := by decide +kernel
theorem dX5_readWords_47 : decode cX5_readWords 47 = .ok (.aload_n 0, 1) := by decide +kernel
theorem dX5_readWords_48 : decode cX5_readWords 48 = .ok (.getfield 24, 3) := by decide +kernel
theorem dX5_readWords_51 : decode cX5_readWords 51 = .ok (.iload_n 2, 1) := by decide +kernel
theorem dX5_readWords_52 : decode cX5_readWords 52 = .ok (.aload_n 1, 1) := by decide +kernel
theorem dX5_readWords_53 : decode cX5_readWords 53 = .ok (.iload_n 2, 1) := by decide +kernel
theorem dX5_readWords_54 : decode cX5_readWords 54 = .ok (.iconst 2, 1) := by decide +kernel
theorem dX5_readWords_55 : decode cX5_readWords 55 = .ok (.invokevirtual 52, 3) := by decide +kernel
theorem dX5_readWords_58 : decode cX5_readWords 58 = .ok (.iastore, 1) := by decide +kernel
theorem dX5_readWords_59 : decode cX5_readWords 59 = .ok (.iinc 2 1, 3) := by decide +kernel
theorem dX5_readWords_62 : decode cX5_readWords 62 = .ok (.goto (-47), 3) := by decide +kernel
theorem dX5_readWords_65 : decode cX5_readWords 65 = .ok (.return_, 1) := by decide +kernel
theorem dX5_readMeetings_0 : decode cX5_readMeetings 0 = .ok (.aload_n 1, 1) := by decide +kernel
theorem dX5_readMeetings_1 : decode cX5_readMeetings 1 = .ok (.invokevirtual 36, 3) := by decide +kernel
theorem dX5_readMeetings_4 : decode cX5_readMeetings 4 = .ok (.bipush 12, 2) := by decide +kernel
theorem dX5_readMeetings_6 : decode cX5_readMeetings 6 = .ok (.invokestatic 42, 3) := by decide +kernel
theorem dX5_readMeetings_9 : decode cX5_readMeetings 9 = .ok (.istore_n 2, 1) := by decide +kernel
theorem dX5_readMeetings_10 : decode cX5_readMeetings 10 = .ok (.aload_n 0, 1) := by decide +kernel
theorem dX5_readMeetings_11 : decode cX5_readMeetings 11 = .ok (.iconst 0, 1) := by decide +kernel
theorem dX5_readMeetings_12 : decode cX5_readMeetings 12 = .ok (.putfield 58, 3) := by decide +kernel
theorem dX5_readMeetings_15 : decode cX5_readMeetings 15 = .ok (.iconst 0, 1) := by decide +kernel
theorem dX5_readMeetings_16 : decode cX5_readMeetings 16 = .ok (.istore_n 3, 1) := by decide +kernel
theorem dX5_readMeetings_17 : decode cX5_readMeetings 17 = .ok (.iload_n 3, 1) := by decide +kernel
theorem dX5_readMeetings_18 : decode cX5_readMeetings 18 = .ok (.iload_n 2, 1) := by decide +kernel
theorem dX5_readMeetings_19 : decode cX5_readMeetings 19 = .ok (.if_icmp .ge 31, 3) := by decide +kernel
theorem dX5_readMeetings_22 : decode cX5_readMeetings 22 = .ok (.aload_n 0, 1) := by decide +kernel
theorem dX5_readMeetings_23 : decode cX5_readMeetings 23 = .ok (.aload_n 1, 1) := by decide +kernel
theorem dX5_readMeetings_24 : decode cX5_readMeetings 24 = .ok (.iload_n 3, 1) := by decide +kernel
theorem dX5_readMeetings_25 : decode cX5_readMeetings 25 = .ok (.iconst 0, 1) := by decide +kernel
theorem dX5_readMeetings_26 : decode cX5_readMeetings 26 = .ok (.invokevirtual 52, 3) := by decide +kernel
theorem dX5_readMeetings_29 : decode cX5_readMeetings 29 = .ok (.aload_n 1, 1) := by decide +kernel
theorem dX5_readMeetings_30 : decode cX5_readMeetings 30 = .ok (.iload_n 3, 1) := by decide +kernel
theorem dX5_readMeetings_31 : decode cX5_readMeetings 31 = .ok (.iconst 1, 1) := by decide +kernel
theorem dX5_readMeetings_32 : decode cX5_readMeetings 32 = .ok (.invokevirtual 52, 3) := by decide +kernel
theorem dX5_readMeetings_35 : decode cX5_readMeetings 35 = .ok (.aload_n 1, 1) := by decide +kernel
theorem dX5_readMeetings_36 : decode cX5_readMeetings 36 = .ok (.iload_n 3, 1) := by decide +kernel
theorem dX5_readMeetings_37 : decode cX5_readMeetings 37 = .ok (.iconst 2, 1) := by decide +kernel
theorem dX5_readMeetings_38 : decode cX5_readMeetings 38 = .ok (.invokevirtual 52, 3) := by decide +kernel
theorem dX5_readMeetings_41 : decode cX5_readMeetings 41 = .ok (.invokevirtual 61, 3) := by decide +kernel
theorem dX5_readMeetings_44 : decode cX5_readMeetings 44 = .ok (.iinc 3 1, 3) := by decide +kernel
theorem dX5_readMeetings_47 : decode cX5_readMeetings 47 = .ok (.goto (-30), 3) := by decide +kernel
theorem dX5_readMeetings_50 : decode cX5_readMeetings 50 = .ok (.return_, 1) := by decide +kernel
theorem dX5_addMeeting_0 : decode cX5_addMeeting 0 = .ok (.aload_n 0, 1) := by decide +kernel
theorem dX5_addMeeting_1 : decode cX5_addMeeting 1 = .ok (.getfield 58, 3) := by decide +kernel
theorem dX5_addMeeting_4 : decode cX5_addMeeting 4 = .ok (.aload_n 0, 1) := by decide +kernel
theorem dX5_addMeeting_5 : decode cX5_addMeeting 5 = .ok (.getfield 27, 3) := by decide +kernel
theorem dX5_addMeeting_8 : decode cX5_addMeeting 8 = .ok (.arraylength, 1) := by decide +kernel
theorem dX5_addMeeting_9 : decode cX5_addMeeting 9 = .ok (.if_icmp .ge 43, 3) := by decide +kernel
theorem dX5_addMeeting_12 : decode cX5_addMeeting 12 = .ok (.aload_n 0, 1) := by decide +kernel
theorem dX5_addMeeting_13 : decode cX5_addMeeting 13 = .ok (.getfield 27, 3) := by decide +kernel
theorem dX5_addMeeting_16 : decode cX5_addMeeting 16 = .ok (.aload_n 0, 1) := by decide +kernel
theorem dX5_addMeeting_17 : decode cX5_addMeeting 17 = .ok (.getfield 58, 3) := by decide +kernel
theorem dX5_addMeeting_20 : decode cX5_addMeeting 20 = .ok (.iload_n 1, 1) := by decide +kernel
theorem dX5_addMeeting_21 : decode cX5_addMeeting 21 = .ok (.iastore, 1) := by decide +kernel
theorem dX5_addMeeting_22 : decode cX5_addMeeting 22 = .ok (.aload_n 0, 1) := by decide +kernel
theorem dX5_addMeeting_23 : decode cX5_addMeeting 23 = .ok (.getfield 30, 3) := by decide +kernel
theorem dX5_addMeeting_26 : decode cX5_addMeeting 26 = .ok (.aload_n 0, 1) := by decide +kernel
theorem dX5_addMeeting_27 : decode cX5_addMeeting 27 = .ok (.getfield 58, 3) := by decide +kernel
theorem dX5_addMeeting_30 : decode cX5_addMeeting 30 = .ok (.iload_n 2, 1) := by decide +kernel
theorem dX5_addMeeting_31 : decode cX5_addMeeting 31 = .ok (.iastore, 1) := by decide +kernel
theorem dX5_addMeeting_32 : decode cX5_addMeeting 32 = .ok (.aload_n 0, 1) := by decide +kernel
theorem dX5_addMeeting_33 : decode cX5_addMeeting 33 = .ok (.getfield 33, 3) := by decide +kernel
theorem dX5_addMeeting_36 : decode cX5_addMeeting 36 = .ok (.aload_n 0, 1) := by decide +kernel
theorem dX5_addMeeting_37 : decode cX5_addMeeting 37 = .ok (.getfield 58, 3) := by decide +kernel
theorem dX5_addMeeting_40 : decode cX5_addMeeting 40 = .ok (.iload_n 3, 1) := by decide +kernel
theorem dX5_addMeeting_41 : decode cX5_addMeeting 41 = .ok (.iastore, 1) := by decide +kernel
theorem dX5_addMeeting_42 : decode cX5_addMeeting 42 = .ok (.aload_n 0, 1) := by decide +kernel
theorem dX5_addMeeting_43 : decode cX5_addMeeting 43 = .ok (.dup, 1) := by decide +kernel
theorem dX5_addMeeting_44 : decode cX5_addMeeting 44 = .ok (.getfield 58, 3) := by decide +kernel
theorem dX5_addMeeting_47 : decode cX5_addMeeting 47 = .ok (.iconst 1, 1) := by decide +kernel
theorem dX5_addMeeting_48 : decode cX5_addMeeting 48 = .ok (.iadd, 1) := by decide +kernel
theorem dX5_addMeeting_49 : decode cX5_addMeeting 49 = .ok (.putfield 58, 3) := by decide +kernel
theorem dX5_addMeeting_52 : decode cX5_addMeeting 52 = .ok (.return_, 1) := by decide +kernel
theorem dX5_drawMeetings_0 : decode cX5_drawMeetings 0 = .ok (.aload_n 0, 1) := by decide +kernel
theorem dX5_drawMeetings_1 : decode cX5_drawMeetings 1 = .ok (.iconst 0, 1) := by decide +kernel
theorem dX5_drawMeetings_2 : decode cX5_drawMeetings 2 = .ok (.putfield 58, 3) := by decide +kernel
theorem dX5_drawMeetings_5 : decode cX5_drawMeetings 5 = .ok (.iload_n 1, 1) := by decide +kernel
theorem dX5_drawMeetings_6 : decode cX5_drawMeetings 6 = .ok (.istore_n 3, 1) := by decide +kernel
theorem dX5_drawMeetings_7 : decode cX5_drawMeetings 7 = .ok (.iconst 0, 1) := by decide +kernel
theorem dX5_drawMeetings_8 : decode cX5_drawMeetings 8 = .ok (.istore 4, 2) := by decide +kernel
theorem dX5_drawMeetings_10 : decode cX5_drawMeetings 10 = .ok (.iload 4, 2) := by decide +kernel
theorem dX5_drawMeetings_12 : decode cX5_drawMeetings 12 = .ok (.iload_n 2, 1) := by decide +kernel
theorem dX5_drawMeetings_13 : decode cX5_drawMeetings 13 = .ok (.if_icmp .ge 68, 3) := by decide +kernel
theorem dX5_drawMeetings_16 : decode cX5_drawMeetings 16 = .ok (.aload_n 0, 1) := by decide +kernel
theorem dX5_drawMeetings_17 : decode cX5_drawMeetings 17 = .ok (.getfield 48, 3) := by decide +kernel
theorem dX5_drawMeetings_20 : decode cX5_drawMeetings 20 = .ok (.ifCond .le 61, 3) := by decide +kernel
theorem dX5_drawMeetings_23 : decode cX5_drawMeetings 23 = .ok (.iload_n 3, 1) := by decide +kernel
theorem dX5_drawMeetings_24 : decode cX5_drawMeetings 24 = .ok (.invokestatic 65, 3) := by decide +kernel
theorem dX5_drawMeetings_27 : decode cX5_drawMeetings 27 = .ok (.istore_n 3, 1) := by decide +kernel
theorem dX5_drawMeetings_28 : decode cX5_drawMeetings 28 = .ok (.iload_n 3, 1) := by decide +kernel
theorem dX5_drawMeetings_29 : decode cX5_drawMeetings 29 = .ok (.bipush 16, 2) := by decide +kernel
theorem dX5_drawMeetings_31 : decode cX5_drawMeetings 31 = .ok (.iushr, 1) := by decide +kernel
theorem dX5_drawMeetings_32 : decode cX5_drawMeetings 32 = .ok (.bipush 24, 2) := by decide +kernel
theorem dX5_drawMeetings_34 : decode cX5_drawMeetings 34 = .ok (.irem, 1) := by decide +kernel
theorem dX5_drawMeetings_35 : decode cX5_drawMeetings 35 = .ok (.istore 5, 2) := by decide +kernel
theorem dX5_drawMeetings_37 : decode cX5_drawMeetings 37 = .ok (.iload_n 3, 1) := by decide +kernel
theorem dX5_drawMeetings_38 : decode cX5_drawMeetings 38 = .ok (.invokestatic 65, 3) := by decide +kernel
theorem dX5_drawMeetings_41 : decode cX5_drawMeetings 41 = .ok (.istore_n 3, 1) := by decide +kernel
theorem dX5_drawMeetings_42 : decode cX5_drawMeetings 42 = .ok (.iload_n 3, 1) := by decide +kernel
theorem dX5_drawMeetings_43 : decode cX5_drawMeetings 43 = .ok (.bipush 16, 2) := by decide +kernel
theorem dX5_drawMeetings_45 : decode cX5_drawMeetings 45 = .ok (.iushr, 1) := by decide +kernel
theorem dX5_drawMeetings_46 : decode cX5_drawMeetings 46 = .ok (.aload_n 0, 1) := by decide +kernel
theorem dX5_drawMeetings_47 : decode cX5_drawMeetings 47 = .ok (.getfield 48, 3) := by decide +kernel
theorem dX5_drawMeetings_50 : decode cX5_drawMeetings 50 = .ok (.irem, 1) := by decide +kernel
theorem dX5_drawMeetings_51 : decode cX5_drawMeetings 51 = .ok (.istore 6, 2) := by decide +kernel
theorem dX5_drawMeetings_53 : decode cX5_drawMeetings 53 = .ok (.iload_n 3, 1) := by decide +kernel
theorem dX5_drawMeetings_54 : decode cX5_drawMeetings 54 = .ok (.invokestatic 65, 3) := by decide +kernel
theorem dX5_drawMeetings_57 : decode cX5_drawMeetings 57 = .ok (.istore_n 3, 1) := by decide +kernel
theorem dX5_drawMeetings_58 : decode cX5_drawMeetings 58 = .ok (.aload_n 0, 1) := by decide +kernel
theorem dX5_drawMeetings_59 : decode cX5_drawMeetings 59 = .ok (.iload 5, 2) := by decide +kernel
theorem dX5_drawMeetings_61 : decode cX5_drawMeetings 61 = .ok (.iload 6, 2) := by decide +kernel
theorem dX5_drawMeetings_63 : decode cX5_drawMeetings 63 = .ok (.iload_n 3, 1) := by decide +kernel
theorem dX5_drawMeetings_64 : decode cX5_drawMeetings 64 = .ok (.bipush 16, 2) := by decide +kernel
theorem dX5_drawMeetings_66 : decode cX5_drawMeetings 66 = .ok (.iushr, 1) := by decide +kernel
theorem dX5_drawMeetings_67 : decode cX5_drawMeetings 67 = .ok (.aload_n 0, 1) := by decide +kernel
theorem dX5_drawMeetings_68 : decode cX5_drawMeetings 68 = .ok (.getfield 48, 3) := by decide +kernel
theorem dX5_drawMeetings_71 : decode cX5_drawMeetings 71 = .ok (.irem, 1) := by decide +kernel
theorem dX5_drawMeetings_72 : decode cX5_drawMeetings 72 = .ok (.invokevirtual 61, 3) := by decide +kernel
theorem dX5_drawMeetings_75 : decode cX5_drawMeetings 75 = .ok (.iinc 4 1, 3) := by decide +kernel
theorem dX5_drawMeetings_78 : decode cX5_drawMeetings 78 = .ok (.goto (-68), 3) := by decide +kernel
theorem dX5_drawMeetings_81 : decode cX5_drawMeetings 81 = .ok (.return_, 1) := by decide +kernel
theorem dX5_nextSeed_0 : decode cX5_nextSeed 0 = .ok (.ldc 69, 2) := by decide +kernel
theorem dX5_nextSeed_2 : decode cX5_nextSeed 2 = .ok (.iload_n 0, 1) := by decide +kernel
theorem dX5_nextSeed_3 : decode cX5_nextSeed 3 = .ok (.imul, 1) := by decide +kernel
theorem dX5_nextSeed_4 : decode cX5_nextSeed 4 = .ok (.sipush 12345, 3) := by decide +kernel
theorem dX5_nextSeed_7 : decode cX5_nextSeed 7 = .ok (.iadd, 1) := by decide +kernel
theorem dX5_nextSeed_8 : decode cX5_nextSeed 8 = .ok (.ireturn, 1) := by decide +kernel
theorem dX5_becomeLike_0 : decode cX5_becomeLike 0 = .ok (.aload_n 0, 1) := by decide +kernel
theorem dX5_becomeLike_1 : decode cX5_becomeLike 1 = .ok (.aload_n 1, 1) := by decide +kernel
theorem dX5_becomeLike_2 : decode cX5_becomeLike 2 = .ok (.getfield 48, 3) := by decide +kernel
theorem dX5_becomeLike_5 : decode cX5_becomeLike 5 = .ok (.putfield 48, 3) := by decide +kernel
theorem dX5_becomeLike_8 : decode cX5_becomeLike 8 = .ok (.aload_n 1, 1) := by decide +kernel
theorem dX5_becomeLike_9 : decode cX5_becomeLike 9 = .ok (.getfield 9, 3) := by decide +kernel
theorem dX5_becomeLike_12 : decode cX5_becomeLike 12 = .ok (.iconst 0, 1) := by decide +kernel
theorem dX5_becomeLike_13 : decode cX5_becomeLike 13 = .ok (.aload_n 0, 1) := by decide +kernel
theorem dX5_becomeLike_14 : decode cX5_becomeLike 14 = .ok (.getfield 9, 3) := by decide +kernel
theorem dX5_becomeLike_17 : decode cX5_becomeLike 17 = .ok (.iconst 0, 1) := by decide +kernel
theorem dX5_becomeLike_18 : decode cX5_becomeLike 18 = .ok (.aload_n 0, 1) := by decide +kernel
theorem dX5_becomeLike_19 : decode cX5_becomeLike 19 = .ok (.getfield 48, 3) := by decide +kernel
theorem dX5_becomeLike_22 : decode cX5_becomeLike 22 = .ok (.invokestatic 70, 3) := by decide +kernel
theorem dX5_becomeLike_25 : decode cX5_becomeLike 25 = .ok (.aload_n 1, 1) := by decide +kernel
theorem dX5_becomeLike_26 : decode cX5_becomeLike 26 = .ok (.getfield 15, 3) := by decide +kernel
theorem dX5_becomeLike_29 : decode cX5_becomeLike 29 = .ok (.iconst 0, 1) := by decide +kernel
theorem dX5_becomeLike_30 : decode cX5_becomeLike 30 = .ok (.aload_n 0, 1) := by decide +kernel
theorem dX5_becomeLike_31 : decode cX5_becomeLike 31 = .ok (.getfield 15, 3) := by decide +kernel
theorem dX5_becomeLike_34 : decode cX5_becomeLike 34 = .ok (.iconst 0, 1) := by decide +kernel
theorem dX5_becomeLike_35 : decode cX5_becomeLike 35 = .ok (.aload_n 0, 1) := by decide +kernel
theorem dX5_becomeLike_36 : decode cX5_becomeLike 36 = .ok (.getfield 48, 3) := by decide +kernel
theorem dX5_becomeLike_39 : decode cX5_becomeLike 39 = .ok (.invokestatic 70, 3) := by decide +kernel
theorem dX5_becomeLike_42 : decode cX5_becomeLike 42 = .ok (.aload_n 0, 1) := by decide +kernel
theorem dX5_becomeLike_43 : decode cX5_becomeLike 43 = .ok (.aload_n 1, 1) := by decide +kernel
theorem dX5_becomeLike_44 : decode cX5_becomeLike 44 = .ok (.getfield 55, 3) := by decide +kernel
theorem dX5_becomeLike_47 : decode cX5_becomeLike 47 = .ok (.putfield 55, 3) := by decide +kernel
theorem dX5_becomeLike_50 : decode cX5_becomeLike 50 = .ok (.aload_n 1, 1) := by decide +kernel
theorem dX5_becomeLike_51 : decode cX5_becomeLike 51 = .ok (.getfield 18, 3) := by decide +kernel
theorem dX5_becomeLike_54 : decode cX5_becomeLike 54 = .ok (.iconst 0, 1) := by decide +kernel
theorem dX5_becomeLike_55 : decode cX5_becomeLike 55 = .ok (.aload_n 0, 1) := by decide +kernel
theorem dX5_becomeLike_56 : decode cX5_becomeLike 56 = .ok (.getfield 18, 3) := by decide +kernel
theorem dX5_becomeLike_59 : decode cX5_becomeLike 59 = .ok (.iconst 0, 1) := by decide +kernel
theorem dX5_becomeLike_60 : decode cX5_becomeLike 60 = .ok (.aload_n 0, 1) := by decide +kernel
theorem dX5_becomeLike_61 : decode cX5_becomeLike 61 = .ok (.getfield 55, 3) := by decide +kernel
theorem dX5_becomeLike_64 : decode cX5_becomeLike 64 = .ok (.invokestatic 70, 3) := by decide +kernel
theorem dX5_becomeLike_67 : decode cX5_becomeLike 67 = .ok (.aload_n 1, 1) := by decide +kernel
theorem dX5_becomeLike_68 : decode cX5_becomeLike 68 = .ok (.getfield 21, 3) := by decide +kernel
theorem dX5_becomeLike_71 : decode cX5_becomeLike 71 = .ok (.iconst 0, 1) := by decide +kernel
theorem dX5_becomeLike_72 : decode cX5_becomeLike 72 = .ok (.aload_n 0, 1) := by decide +kernel
theorem dX5_becomeLike_73 : decode cX5_becomeLike 73 = .ok (.getfield 21, 3) := by decide +kernel
theorem dX5_becomeLike_76 : decode cX5_becomeLike 76 = .ok (.iconst 0, 1) := by decide +kernel
theorem dX5_becomeLike_77 : decode cX5_becomeLike 77 = .ok (.aload_n 0, 1) := by decide +kernel
theorem dX5_becomeLike_78 : decode cX5_becomeLike 78 = .ok (.getfield 55, 3) := by decide +kernel
theorem dX5_becomeLike_81 : decode cX5_becomeLike 81 = .ok (.invokestatic 70, 3) := by decide +kernel
theorem dX5_becomeLike_84 : decode cX5_becomeLike 84 = .ok (.aload_n 1, 1) := by decide +kernel
theorem dX5_becomeLike_85 : decode cX5_becomeLike 85 = .ok (.getfield 24, 3) := by decide +kernel
theorem dX5_becomeLike_88 : decode cX5_becomeLike 88 = .ok (.iconst 0, 1) := by decide +kernel
theorem dX5_becomeLike_89 : decode cX5_becomeLike 89 = .ok (.aload_n 0, 1) := by decide +kernel
theorem dX5_becomeLike_90 : decode cX5_becomeLike 90 = .ok (.getfield 24, 3) := by decide +kernel
theorem dX5_becomeLike_93 : decode cX5_becomeLike 93 = .ok (.iconst 0, 1) := by decide +kernel
theorem dX5_becomeLike_94 : decode cX5_becomeLike 94 = .ok (.aload_n 0, 1) := by decide +kernel
theorem dX5_becomeLike_95 : decode cX5_becomeLike 95 = .ok (.getfield 55, 3) := by decide +kernel
theorem dX5_becomeLike_98 : decode cX5_becomeLike 98 = .ok (.invokestatic 70, 3) := by decide +kernel
theorem dX5_becomeLike_101 : decode cX5_becomeLike 101 = .ok (.aload_n 0, 1) := by decide +kernel
theorem dX5_becomeLike_102 : decode cX5_becomeLike 102 = .ok (.aload_n 1, 1) := by decide +kernel
theorem dX5_becomeLike_103 : decode cX5_becomeLike 103 = .ok (.getfield 58, 3) := by decide +kernel
theorem dX5_becomeLike_106 : decode cX5_becomeLike 106 = .ok (.putfield 58, 3) := by decide +kernel
theorem dX5_becomeLike_109 : decode cX5_becomeLike 109 = .ok (.aload_n 1, 1) := by decide +kernel
theorem dX5_becomeLike_110 : decode cX5_becomeLike 110 = .ok (.getfield 27, 3) := by decide +kernel
theorem dX5_becomeLike_113 : decode cX5_becomeLike 113 = .ok (.iconst 0, 1) := by decide +kernel
theorem dX5_becomeLike_114 : decode cX5_becomeLike 114 = .ok (.aload_n 0, 1) := by decide +kernel
theorem dX5_becomeLike_115 : decode cX5_becomeLike 115 = .ok (.getfield 27, 3) := by decide +kernel
theorem dX5_becomeLike_118 : decode cX5_becomeLike 118 = .ok (.iconst 0, 1) := by decide +kernel
theorem dX5_becomeLike_119 : decode cX5_becomeLike 119 = .ok (.aload_n 0, 1) := by decide +kernel
theorem dX5_becomeLike_120 : decode cX5_becomeLike 120 = .ok (.getfield 58, 3) := by decide +kernel
theorem dX5_becomeLike_123 : decode cX5_becomeLike 123 = .ok (.invokestatic 70, 3) := by decide +kernel
theorem dX5_becomeLike_126 : decode cX5_becomeLike 126 = .ok (.aload_n 1, 1) := by decide +kernel
theorem dX5_becomeLike_127 : decode cX5_becomeLike 127 = .ok (.getfield 30, 3) := by decide +kernel
theorem dX5_becomeLike_130 : decode cX5_becomeLike 130 = .ok (.iconst 0, 1) := by decide +kernel
theorem dX5_becomeLike_131 : decode cX5_becomeLike 131 = .ok (.aload_n 0, 1) := by decide +kernel
theorem dX5_becomeLike_132 : decode cX5_becomeLike 132 = .ok (.getfield 30, 3) := by decide +kernel
theorem dX5_becomeLike_135 : decode cX5_becomeLike 135 = .ok (.iconst 0, 1) := by decide +kernel
theorem dX5_becomeLike_136 : decode cX5_becomeLike 136 = .ok (.aload_n 0, 1) := by decide +kernel
theorem dX5_becomeLike_137 : decode cX5_becomeLike 137 = .ok (.getfield 58, 3) := by decide +kernel
theorem dX5_becomeLike_140 : decode cX5_becomeLike 140 = .ok (.invokestatic 70, 3) := by decide +kernel
theorem dX5_becomeLike_143 : decode cX5_becomeLike 143 = .ok (.aload_n 1, 1) := by decide +kernel
theorem dX5_becomeLike_144 : decode cX5_becomeLike 144 = .ok (.getfield 33, 3) := by decide +kernel
theorem dX5_becomeLike_147 : decode cX5_becomeLike 147 = .ok (.iconst 0, 1) := by decide +kernel
theorem dX5_becomeLike_148 : decode cX5_becomeLike 148 = .ok (.aload_n 0, 1) := by decide +kernel
theorem dX5_becomeLike_149 : decode cX5_becomeLike 149 = .ok (.getfield 33, 3) := by decide +kernel
theorem dX5_becomeLike_152 : decode cX5_becomeLike 152 = .ok (.iconst 0, 1) := by decide +kernel
theorem dX5_becomeLike_153 : decode cX5_becomeLike 153 = .ok (.aload_n 0, 1) := by decide +kernel
theorem dX5_becomeLike_154 : decode cX5_becomeLike 154 = .ok (.getfield 58, 3) := by decide +kernel
theorem dX5_becomeLike_157 : decode cX5_becomeLike 157 = .ok (.invokestatic 70, 3) := by decide +kernel
theorem dX5_becomeLike_160 : decode cX5_becomeLike 160 = .ok (.return_, 1) := by decide +kernel
theorem dX5_areTwo_0 : decode cX5_areTwo 0 = .ok (.iload_n 1, 1) := by decide +kernel
theorem dX5_areTwo_1 : decode cX5_areTwo 1 = .ok (.iload_n 2, 1) := by decide +kernel
theorem dX5_areTwo_2 : decode cX5_areTwo 2 = .ok (.if_icmp .eq 31, 3) := by decide +kernel
theorem dX5_areTwo_5 : decode cX5_areTwo 5 = .ok (.iload_n 1, 1) := by decide +kernel
theorem dX5_areTwo_6 : decode cX5_areTwo 6 = .ok (.ifCond .lt 27, 3) := by decide +kernel
theorem dX5_areTwo_9 : decode cX5_areTwo 9 = .ok (.iload_n 1, 1) := by decide +kernel
theorem dX5_areTwo_10 : decode cX5_areTwo 10 = .ok (.aload_n 0, 1) := by decide +kernel
theorem dX5_areTwo_11 : decode cX5_areTwo 11 = .ok (.getfield 48, 3) := by decide +kernel
theorem dX5_areTwo_14 : decode cX5_areTwo 14 = .ok (.if_icmp .ge 19, 3) := by decide +kernel
theorem dX5_areTwo_17 : decode cX5_areTwo 17 = .ok (.iload_n 2, 1) := by decide +kernel
theorem dX5_areTwo_18 : decode cX5_areTwo 18 = .ok (.ifCond .lt 15, 3) := by decide +kernel
theorem dX5_areTwo_21 : decode cX5_areTwo 21 = .ok (.iload_n 2, 1) := by decide +kernel
theorem dX5_areTwo_22 : decode cX5_areTwo 22 = .ok (.aload_n 0, 1) := by decide +kernel
theorem dX5_areTwo_23 : decode cX5_areTwo 23 = .ok (.getfield 48, 3) := by decide +kernel
theorem dX5_areTwo_26 : decode cX5_areTwo 26 = .ok (.if_icmp .ge 7, 3) := by decide +kernel
theorem dX5_areTwo_29 : decode cX5_areTwo 29 = .ok (.iconst 1, 1) := by decide +kernel
theorem dX5_areTwo_30 : decode cX5_areTwo 30 = .ok (.goto 4, 3) := by decide +kernel
theorem dX5_areTwo_33 : decode cX5_areTwo 33 = .ok (.iconst 0, 1) := by decide +kernel
theorem dX5_areTwo_34 : decode cX5_areTwo 34 = .ok (.ireturn, 1) := by decide +kernel
theorem dJ6_bitCount_0f7a4_0 : decode cJ6_bitCount_0f7a4 0 = .ok (.iload_n 0, 1) := by decide +kernel
theorem dJ6_bitCount_0f7a4_1 : decode cJ6_bitCount_0f7a4 1 = .ok (.iload_n 0, 1) := by decide +kernel
theorem dJ6_bitCount_0f7a4_2 : decode cJ6_bitCount_0f7a4 2 = .ok (.iconst 1, 1) := by decide +kernel
theorem dJ6_bitCount_0f7a4_3 : decode cJ6_bitCount_0f7a4 3 = .ok (.iushr, 1) := by decide +kernel
theorem dJ6_bitCount_0f7a4_4 : decode cJ6_bitCount_0f7a4 4 = .ok (.ldc_w 265, 3) := by decide +kernel
theorem dJ6_bitCount_0f7a4_7 : decode cJ6_bitCount_0f7a4 7 = .ok (.iand, 1) := by decide +kernel
theorem dJ6_bitCount_0f7a4_8 : decode cJ6_bitCount_0f7a4 8 = .ok (.isub, 1) := by decide +kernel
theorem dJ6_bitCount_0f7a4_9 : decode cJ6_bitCount_0f7a4 9 = .ok (.istore_n 0, 1) := by decide +kernel
theorem dJ6_bitCount_0f7a4_10 : decode cJ6_bitCount_0f7a4 10 = .ok (.iload_n 0, 1) := by decide +kernel
theorem dJ6_bitCount_0f7a4_11 : decode cJ6_bitCount_0f7a4 11 = .ok (.ldc_w 266, 3) := by decide +kernel
theorem dJ6_bitCount_0f7a4_14 : decode cJ6_bitCount_0f7a4 14 = .ok (.iand, 1) := by decide +kernel
theorem dJ6_bitCount_0f7a4_15 : decode cJ6_bitCount_0f7a4 15 = .ok (.iload_n 0, 1) := by decide +kernel
theorem dJ6_bitCount_0f7a4_16 : decode cJ6_bitCount_0f7a4 16 = .ok (.iconst 2, 1) := by decide +kernel
theorem dJ6_bitCount_0f7a4_17 : decode cJ6_bitCount_0f7a4 17 = .ok (.iushr, 1) := by decide +kernel
theorem dJ6_bitCount_0f7a4_18 : decode cJ6_bitCount_0f7a4 18 = .ok (.ldc_w 266, 3) := by decide +kernel
theorem dJ6_bitCount_0f7a4_21 : decode cJ6_bitCount_0f7a4 21 = .ok (.iand, 1) := by decide +kernel
theorem dJ6_bitCount_0f7a4_22 : decode cJ6_bitCount_0f7a4 22 = .ok (.iadd, 1) := by decide +kernel
theorem dJ6_bitCount_0f7a4_23 : decode cJ6_bitCount_0f7a4 23 = .ok (.istore_n 0, 1) := by decide +kernel
theorem dJ6_bitCount_0f7a4_24 : decode cJ6_bitCount_0f7a4 24 = .ok (.iload_n 0, 1) := by decide +kernel
theorem dJ6_bitCount_0f7a4_25 : decode cJ6_bitCount_0f7a4 25 = .ok (.iload_n 0, 1) := by decide +kernel
theorem dJ6_bitCount_0f7a4_26 : decode cJ6_bitCount_0f7a4 26 = .ok (.iconst 4, 1) := by decide +kernel
theorem dJ6_bitCount_0f7a4_27 : decode cJ6_bitCount_0f7a4 27 = .ok (.iushr, 1) := by decide +kernel
theorem dJ6_bitCount_0f7a4_28 : decode cJ6_bitCount_0f7a4 28 = .ok (.iadd, 1) := by decide +kernel
theorem dJ6_bitCount_0f7a4_29 : decode cJ6_bitCount_0f7a4 29 = .ok (.ldc_w 267, 3) := by decide +kernel
theorem dJ6_bitCount_0f7a4_32 : decode cJ6_bitCount_0f7a4 32 = .ok (.iand, 1) := by decide +kernel
theorem dJ6_bitCount_0f7a4_33 : decode cJ6_bitCount_0f7a4 33 = .ok (.istore_n 0, 1) := by decide +kernel
theorem dJ6_bitCount_0f7a4_34 : decode cJ6_bitCount_0f7a4 34 = .ok (.iload_n 0, 1) := by decide +kernel
theorem dJ6_bitCount_0f7a4_35 : decode cJ6_bitCount_0f7a4 35 = .ok (.iload_n 0, 1) := by decide +kernel
theorem dJ6_bitCount_0f7a4_36 : decode cJ6_bitCount_0f7a4 36 = .ok (.bipush 8, 2) := by decide +kernel
theorem dJ6_bitCount_0f7a4_38 : decode cJ6_bitCount_0f7a4 38 = .ok (.iushr, 1) := by decide +kernel
theorem dJ6_bitCount_0f7a4_39 : decode cJ6_bitCount_0f7a4 39 = .ok (.iadd, 1) := by decide +kernel
theorem dJ6_bitCount_0f7a4_40 : decode cJ6_bitCount_0f7a4 40 = .ok (.istore_n 0, 1) := by decide +kernel
theorem dJ6_bitCount_0f7a4_41 : decode cJ6_bitCount_0f7a4 41 = .ok (.iload_n 0, 1) := by decide +kernel
theorem dJ6_bitCount_0f7a4_42 : decode cJ6_bitCount_0f7a4 42 = .ok (.iload_n 0, 1) := by decide +kernel
theorem dJ6_bitCount_0f7a4_43 : decode cJ6_bitCount_0f7a4 43 = .ok (.bipush 16, 2) := by decide +kernel
theorem dJ6_bitCount_0f7a4_45 : decode cJ6_bitCount_0f7a4 45 = .ok (.iushr, 1) := by decide +kernel
theorem dJ6_bitCount_0f7a4_46 : decode cJ6_bitCount_0f7a4 46 = .ok (.iadd, 1) := by decide +kernel
theorem dJ6_bitCount_0f7a4_47 : decode cJ6_bitCount_0f7a4 47 = .ok (.istore_n 0, 1) := by decide +kernel
theorem dJ6_bitCount_0f7a4_48 : decode cJ6_bitCount_0f7a4 48 = .ok (.iload_n 0, 1) := by decide +kernel
theorem dJ6_bitCount_0f7a4_49 : decode cJ6_bitCount_0f7a4 49 = .ok (.bipush 63, 2) := by decide +kernel
theorem dJ6_bitCount_0f7a4_51 : decode cJ6_bitCount_0f7a4 51 = .ok (.iand, 1) := by decide +kernel
theorem dJ6_bitCount_0f7a4_52 : decode cJ6_bitCount_0f7a4 52 = .ok (.ireturn, 1) := by decide +kernel
theorem dJ9_max_7cf53_0 : decode cJ9_max_7cf53 0 = .ok (.iload_n 0, 1) := by decide +kernel
theorem dJ9_max_7cf53_1 : decode cJ9_max_7cf53 1 = .ok (.iload_n 1, 1) := by decide +kernel
theorem dJ9_max_7cf53_2 : decode cJ9_max_7cf53 2 = .ok (.if_icmp .lt 7, 3) := by decide +kernel
theorem dJ9_max_7cf53_5 : decode cJ9_max_7cf53 5 = .ok (.iload_n 0, 1) := by decide +kernel
theorem dJ9_max_7cf53_6 : decode cJ9_max_7cf53 6 = .ok (.goto 4, 3) := by decide +kernel
theorem dJ9_max_7cf53_9 : decode cJ9_max_7cf53 9 = .ok (.iload_n 1, 1) := by decide +kernel
theorem dJ9_max_7cf53_10 : decode cJ9_max_7cf53 10 = .ok (.ireturn, 1) := by decide +kernel
theorem dJ9_min_7cf53_0 : decode cJ9_min_7cf53 0 = .ok (.iload_n 0, 1) := by decide +kernel
theorem dJ9_min_7cf53_1 : decode cJ9_min_7cf53 1 = .ok (.iload_n 1, 1) := by decide +kernel
theorem dJ9_min_7cf53_2 : decode cJ9_min_7cf53 2 = .ok (.if_icmp .gt 7, 3) := by decide +kernel
theorem dJ9_min_7cf53_5 : decode cJ9_min_7cf53 5 = .ok (.iload_n 0, 1) := by decide +kernel
theorem dJ9_min_7cf53_6 : decode cJ9_min_7cf53 6 = .ok (.goto 4, 3) := by decide +kernel
theorem dJ9_min_7cf53_9 : decode cJ9_min_7cf53 9 = .ok (.iload_n 1, 1) := by decide +kernel
theorem dJ9_min_7cf53_10 : decode cJ9_min_7cf53 10 = .ok (.ireturn, 1) := by decide +kernel
end
section
theorem dX6_init_0 : decode cX6_init 0 = .ok (.aload_n 0, 1) := by decide +kernel
theorem dX6_init_1 : decode cX6_init 1 = .ok (.invokespecial 1, 3) := by decide +kernel
theorem dX6_init_4 : decode cX6_init 4 = .ok (.aload_n 0, 1) := by decide +kernel
theorem dX6_init_5 : decode cX6_init 5 = .ok (.iconst 3, 1) := by decide +kernel
theorem dX6_init_6 : decode cX6_init 6 = .ok (.anewarray 9, 3) := by decide +kernel
theorem dX6_init_9 : decode cX6_init 9 = .ok (.putfield 11, 3) := by decide +kernel
theorem dX6_init_12 : decode cX6_init 12 = .ok (.aload_n 0, 1) := by decide +kernel
theorem dX6_init_13 : decode cX6_init 13 = .ok (.new 15, 3) := by decide +kernel
theorem dX6_init_16 : decode cX6_init 16 = .ok (.dup, 1) := by decide +kernel
theorem dX6_init_17 : decode cX6_init 17 = .ok (.invokespecial 17, 3) := by decide +kernel
theorem dX6_init_20 : decode cX6_init 20 = .ok (.putfield 18, 3) := by decide +kernel
theorem dX6_init_23 : decode cX6_init 23 = .ok (.aload_n 0, 1) := by decide +kernel
theorem dX6_init_24 : decode cX6_init 24 = .ok (.new 22, 3) := by decide +kernel
theorem dX6_init_27 : decode cX6_init 27 = .ok (.dup, 1) := by decide +kernel
theorem dX6_init_28 : decode cX6_init 28 = .ok (.invokespecial 24, 3) := by decide +kernel
theorem dX6_init_31 : decode cX6_init 31 = .ok (.putfield 25, 3) := by decide +kernel
theorem dX6_init_34 : decode cX6_init 34 = .ok (.aload_n 0, 1) := by decide +kernel
theorem dX6_init_35 : decode cX6_init 35 = .ok (.iconst 4, 1) := by decide +kernel
theorem dX6_init_36 : decode cX6_init 36 = .ok (.anewarray 29, 3) := by decide +kernel
theorem dX6_init_39 : decode cX6_init 39 = .ok (.putfield 31, 3) := by decide +kernel
theorem dX6_init_42 : decode cX6_init 42 = .ok (.aload_n 0, 1) := by decide +kernel
theorem dX6_init_43 : decode cX6_init 43 = .ok (.new 35, 3) := by decide +kernel
theorem dX6_init_46 : decode cX6_init 46 = .ok (.dup, 1) := by decide +kernel
theorem dX6_init_47 : decode cX6_init 47 = .ok (.invokespecial 37, 3) := by decide +kernel
theorem dX6_init_50 : decode cX6_init 50 = .ok (.putfield 38, 3) := by decide +kernel
theorem dX6_init_53 : decode cX6_init 53 = .ok (.aload_n 0, 1) := by decide +kernel
theorem dX6_init_54 : decode cX6_init 54 = .ok (.new 42, 3) := by decide +kernel
theorem dX6_init_57 : decode cX6_init 57 = .ok (.dup, 1) := by decide +kernel
theorem dX6_init_58 : decode cX6_init 58 = .ok (.invokespecial 44, 3) := by decide +kernel
theorem dX6_init_61 : decode cX6_init 61 = .ok (.putfield 45, 3) := by decide +kernel
theorem dX6_init_64 : decode cX6_init 64 = .ok (.aload_n 0, 1) := by decide +kernel
theorem dX6_init_65 : decode cX6_init 65 = .ok (.new 35, 3) := by decide +kernel
theorem dX6_init_68 : decode cX6_init 68 = .ok (.dup, 1) := by decide +kernel
theorem dX6_init_69 : decode cX6_init 69 = .ok (.invokespecial 37, 3) := by decide +kernel
theorem dX6_init_72 : decode cX6_init 72 = .ok (.putfield 49, 3) := by decide +kernel
theorem dX6_init_75 : decode cX6_init 75 = .ok (.aload_n 0, 1) := by decide +kernel
theorem dX6_init_76 : decode cX6_init 76 = .ok (.new 42, 3) := by decide +kernel
theorem dX6_init_79 : decode cX6_init 79 = .ok (.dup, 1) := by decide +kernel
theorem dX6_init_80 : decode cX6_init 80 = .ok (.invokespecial 44, 3) := by decide +kernel
theorem dX6_init_83 : decode cX6_init 83 = .ok (.putfield 52, 3) := by decide +kernel
theorem dX6_init_86 : decode cX6_init 86 = .ok (.aload_n 0, 1) := by decide +kernel
theorem dX6_init_87 : decode cX6_init 87 = .ok (.sipush 240, 3) := by decide +kernel
theorem dX6_init_90 : decode cX6_init 90 = .ok (.newarray .int, 2) := by decide +kernel
theorem dX6_init_92 : decode cX6_init 92 = .ok (.putfield 55, 3) := by decide +kernel
theorem dX6_init_95 : decode cX6_init 95 = .ok (.aload_n 0, 1) := by decide +kernel
theorem dX6_init_96 : decode cX6_init 96 = .ok (.bipush 108, 2) := by decide +kernel
theorem dX6_init_98 : decode cX6_init 98 = .ok (.newarray .int, 2) := by decide +kernel
theorem dX6_init_100 : decode cX6_init 100 = .ok (.putfield 59, 3) := by decide +kernel
theorem dX6_init_103 : decode cX6_init 103 = .ok (.iconst 0, 1) := by decide +kernel
theorem dX6_init_104 : decode cX6_init 104 = .ok (.istore_n 1, 1) := by decide +kernel
theorem dX6_init_105 : decode cX6_init 105 = .ok (.iload_n 1, 1) := by decide +kernel
theorem dX6_init_106 : decode cX6_init 106 = .ok (.iconst 3, 1) := by decide +kernel
theorem dX6_init_107 : decode cX6_init 107 = .ok (.if_icmp .ge 23, 3) := by decide +kernel
theorem dX6_init_110 : decode cX6_init 110 = .ok (.aload_n 0, 1) := by decide +kernel
theorem dX6_init_111 : decode cX6_init 111 = .ok (.getfield 11, 3) := by decide +kernel
theorem dX6_init_114 : decode cX6_init 114 = .ok (.iload_n 1, 1) := by decide +kernel
theorem dX6_init_115 : decode cX6_init 115 = .ok (.new 9, 3) := by decide +kernel
theorem dX6_init_118 : decode cX6_init 118 = .ok (.dup, 1) := by decide +kernel
theorem dX6_init_119 : decode cX6_init 119 = .ok (.iload_n 1, 1) := by decide +kernel
theorem dX6_init_120 : decode cX6_init 120 = .ok (.invokespecial 62, 3) := by decide +kernel
theorem dX6_init_123 : decode cX6_init 123 = .ok (.aastore, 1) := by decide +kernel
theorem dX6_init_124 : decode cX6_init 124 = .ok (.iinc 1 1, 3) := by decide +kernel
theorem dX6_init_127 : decode cX6_init 127 = .ok (.goto (-22), 3) := by decide +kernel
theorem dX6_init_130 : decode cX6_init 130 = .ok (.iconst 0, 1) := by decide +kernel
theorem dX6_init_131 : decode cX6_init 131 = .ok (.istore_n 1, 1) := by decide +kernel
theorem dX6_init_132 : decode cX6_init 132 = .ok (.iload_n 1, 1) := by decide +kernel
theorem dX6_init_133 : decode cX6_init 133 = .ok (.iconst 4, 1) := by decide +kernel
theorem dX6_init_134 : decode cX6_init 134 = .ok (.if_icmp .ge 22, 3) := by decide +kernel
theorem dX6_init_137 : decode cX6_init 137 = .ok (.aload_n 0, 1) := by decide +kernel
theorem dX6_init_138 : decode cX6_init 138 = .ok (.getfield 31, 3) := by decide +kernel
theorem dX6_init_141 : decode cX6_init 141 = .ok (.iload_n 1, 1) := by decide +kernel
theorem dX6_init_142 : decode cX6_init 142 = .ok (.new 29, 3) := by decide +kernel
theorem dX6_init_145 : decode cX6_init 145 = .ok (.dup, 1) := by decide +kernel
theorem dX6_init_146 : decode cX6_init 146 = .ok (.invokespecial 65, 3) := by decide +kernel
theorem dX6_init_149 : decode cX6_init 149 = .ok (.aastore, 1) := by decide +kernel
theorem dX6_init_150 : decode cX6_init 150 = .ok (.iinc 1 1, 3) := by decide +kernel
theorem dX6_init_153 : decode cX6_init 153 = .ok (.goto (-21), 3) := by decide +kernel
theorem dX6_init_156 : decode cX6_init 156 = .ok (.return_, 1) := by decide +kernel
theorem dX6_type_0 : decode cX6_type 0 = .ok (.iload_n 1, 1) := by decide +kernel
theorem dX6_type_1 : decode cX6_type 1 = .ok (.iconst 3, 1) := by decide +kernel
theorem dX6_type_2 : decode cX6_type 2 = .ok (.invokestatic 66, 3) := by decide +kernel
theorem dX6_type_5 : decode cX6_type 5 = .ok (.ifCond .ne 13, 3) := by decide +kernel
theorem dX6_type_8 : decode cX6_type 8 = .ok (.iload_n 2, 1) := by decide +kernel
theorem dX6_type_9 : decode cX6_type 9 = .ok (.sipush 256, 3) := by decide +kernel
theorem dX6_type_12 : decode cX6_type 12 = .ok (.invokestatic 66, 3) := by decide +kernel
theorem dX6_type_15 : decode cX6_type 15 = .ok (.ifCond .eq 6, 3) := by decide +kernel
theorem dX6_type_18 : decode cX6_type 18 = .ok (.bipush (-2), 2) := by decide +kernel
theorem dX6_type_20 : decode cX6_type 20 = .ok (.ireturn, 1) := by decide +kernel
theorem dX6_type_21 : decode cX6_type 21 = .ok (.aload_n 0, 1) := by decide +kernel
theorem dX6_type_22 : decode cX6_type 22 = .ok (.getfield 11, 3) := by decide +kernel
theorem dX6_type_25 : decode cX6_type 25 = .ok (.iload_n 1, 1) := by decide +kernel
theorem dX6_type_26 : decode cX6_type 26 = .ok (.aaload, 1) := by decide +kernel
theorem dX6_type_27 : decode cX6_type 27 = .ok (.invokevirtual 70, 3) := by decide +kernel
theorem dX6_type_30 : decode cX6_type 30 = .ok (.ifCond .eq 6, 3) := by decide +kernel
theorem dX6_type_33 : decode cX6_type 33 = .ok (.bipush (-4), 2) := by decide +kernel
theorem dX6_type_35 : decode cX6_type 35 = .ok (.ireturn, 1) := by decide +kernel
theorem dX6_type_36 : decode cX6_type 36 = .ok (.aload_n 0, 1) := by decide +kernel
theorem dX6_type_37 : decode cX6_type 37 = .ok (.getfield 11, 3) := by decide +kernel
theorem dX6_type_40 : decode cX6_type 40 = .ok (.iload_n 1, 1) := by decide +kernel
theorem dX6_type_41 : decode cX6_type 41 = .ok (.aaload, 1) := by decide +kernel
theorem dX6_type_42 : decode cX6_type 42 = .ok (.iload_n 2, 1) := by decide +kernel
theorem dX6_type_43 : decode cX6_type 43 = .ok (.invokevirtual 74, 3) := by decide +kernel
theorem dX6_type_46 : decode cX6_type 46 = .ok (.aload_n 0, 1) := by decide +kernel
theorem dX6_type_47 : decode cX6_type 47 = .ok (.iload_n 1, 1) := by decide +kernel
theorem dX6_type_48 : decode cX6_type 48 = .ok (.invokevirtual 77, 3) := by decide +kernel
theorem dX6_type_51 : decode cX6_type 51 = .ok (.aload_n 0, 1) := by decide +kernel
theorem dX6_type_52 : decode cX6_type 52 = .ok (.getfield 11, 3) := by decide +kernel
theorem dX6_type_55 : decode cX6_type 55 = .ok (.iload_n 1, 1) := by decide +kernel
theorem dX6_type_56 : decode cX6_type 56 = .ok (.aaload, 1) := by decide +kernel
theorem dX6_type_57 : decode cX6_type 57 = .ok (.invokevirtual 80, 3) := by decide +kernel
theorem dX6_type_60 : decode cX6_type 60 = .ok (.ireturn, 1) := by decide +kernel
theorem dX6_wipe_0 : decode cX6_wipe 0 = .ok (.iload_n 1, 1) := by decide +kernel
theorem dX6_wipe_1 : decode cX6_wipe 1 = .ok (.iconst 3, 1) := by decide +kernel
theorem dX6_wipe_2 : decode cX6_wipe 2 = .ok (.invokestatic 66, 3) := by decide +kernel
theorem dX6_wipe_5 : decode cX6_wipe 5 = .ok (.ifCond .eq 6, 3) := by decide +kernel
theorem dX6_wipe_8 : decode cX6_wipe 8 = .ok (.bipush (-2), 2) := by decide +kernel
theorem dX6_wipe_10 : decode cX6_wipe 10 = .ok (.ireturn, 1) := by decide +kernel
theorem dX6_wipe_11 : decode cX6_wipe 11 = .ok (.aload_n 0, 1) := by decide +kernel
theorem dX6_wipe_12 : decode cX6_wipe 12 = .ok (.getfield 11, 3) := by decide +kernel
theorem dX6_wipe_15 : decode cX6_wipe 15 = .ok (.iload_n 1, 1) := by decide +kernel
theorem dX6_wipe_16 : decode cX6_wipe 16 = .ok (.aaload, 1) := by decide +kernel
theorem dX6_wipe_17 : decode cX6_wipe 17 = .ok (.invokevirtual 80, 3) := by decide +kernel
theorem dX6_wipe_20 : decode cX6_wipe 20 = .ok (.istore_n 2, 1) := by decide +kernel
theorem dX6_wipe_21 : decode cX6_wipe 21 = .ok (.aload_n 0, 1) := by decide +kernel
theorem dX6_wipe_22 : decode cX6_wipe 22 = .ok (.getfield 11, 3) := by decide +kernel
theorem dX6_wipe_25 : decode cX6_wipe 25 = .ok (.iload_n 1, 1) := by decide +kernel
theorem dX6_wipe_26 : decode cX6_wipe 26 = .ok (.aaload, 1) := by decide +kernel
theorem dX6_wipe_27 : decode cX6_wipe 27 = .ok (.iconst 0, 1) := by decide +kernel
theorem dX6_wipe_28 : decode cX6_wipe 28 = .ok (.invokevirtual 84, 3) := by decide +kernel
theorem dX6_wipe_31 : decode cX6_wipe 31 = .ok (.aload_n 0, 1) := by decide +kernel
theorem dX6_wipe_32 : decode cX6_wipe 32 = .ok (.iload_n 1, 1) := by decide +kernel
theorem dX6_wipe_33 : decode cX6_wipe 33 = .ok (.invokevirtual 77, 3) := by decide +kernel
theorem dX6_wipe_36 : decode cX6_wipe 36 = .ok (.iload_n 2, 1) := by decide +kernel
theorem dX6_wipe_37 : decode cX6_wipe 37 = .ok (.ireturn, 1) := by decide +kernel
theorem dX6_undo_0 : decode cX6_undo 0 = .ok (.iload_n 1, 1) := by decide +kernel
theorem dX6_undo_1 : decode cX6_undo 1 = .ok (.iconst 3, 1) := by decide +kernel
theorem dX6_undo_2 : decode cX6_undo 2 = .ok (.invokestatic 66, 3) := by decide +kernel
theorem dX6_undo_5 : decode cX6_undo 5 = .ok (.ifCond .eq 6, 3) := by decide +kernel
theorem dX6_undo_8 : decode cX6_undo 8 = .ok (.bipush (-2), 2) := by decide +kernel
theorem dX6_undo_10 : decode cX6_undo 10 = .ok (.ireturn, 1) := by decide +kernel
theorem dX6_undo_11 : decode cX6_undo 11 = .ok (.aload_n 0, 1) := by decide +kernel
theorem dX6_undo_12 : decode cX6_undo 12 = .ok (.getfield 11, 3) := by decide +kernel
theorem dX6_undo_15 : decode cX6_undo 15 = .ok (.iload_n 1, 1) := by decide +kernel
theorem dX6_undo_16 : decode cX6_undo 16 = .ok (.aaload, 1) := by decide +kernel
theorem dX6_undo_17 : decode cX6_undo 17 = .ok (.invokevirtual 80, 3) := by decide +kernel
theorem dX6_undo_20 : decode cX6_undo 20 = .ok (.istore_n 2, 1) := by decide +kernel
theorem dX6_undo_21 : decode cX6_undo 21 = .ok (.iload_n 2, 1) := by decide +kernel
theorem dX6_undo_22 : decode cX6_undo 22 = .ok (.ifCond .ne 6, 3) := by decide +kernel
theorem dX6_undo_25 : decode cX6_undo 25 = .ok (.bipush (-3), 2) := by decide +kernel
theorem dX6_undo_27 : decode cX6_undo 27 = .ok (.ireturn, 1) := by decide +kernel
theorem dX6_undo_28 : decode cX6_undo 28 = .ok (.aload_n 0, 1) := by decide +kernel
theorem dX6_undo_29 : decode cX6_undo 29 = .ok (.getfield 11, 3) := by decide +kernel
theorem dX6_undo_32 : decode cX6_undo 32 = .ok (.iload_n 1, 1) := by decide +kernel
theorem dX6_undo_33 : decode cX6_undo 33 = .ok (.aaload, 1) := by decide +kernel
theorem dX6_undo_34 : decode cX6_undo 34 = .ok (.iload_n 2, 1) := by decide +kernel
theorem dX6_undo_35 : decode cX6_undo 35 = .ok (.iconst 1, 1) := by decide +kernel
theorem dX6_undo_36 : decode cX6_undo 36 = .ok (.isub, 1) := by decide +kernel
theorem dX6_undo_37 : decode cX6_undo 37 = .ok (.invokevirtual 84, 3) := by decide +kernel
theorem dX6_undo_40 : decode cX6_undo 40 = .ok (.aload_n 0, 1) := by decide +kernel
theorem dX6_undo_41 : decode cX6_undo 41 = .ok (.iload_n 1, 1) := by decide +kernel
theorem dX6_undo_42 : decode cX6_undo 42 = .ok (.invokevirtual 77, 3) := by decide +kernel
theorem dX6_undo_45 : decode cX6_undo 45 = .ok (.iload_n 2, 1) := by decide +kernel
theorem dX6_undo_46 : decode cX6_undo 46 = .ok (.iconst 1, 1) := by decide +kernel
theorem dX6_undo_47 : decode cX6_undo 47 = .ok (.isub, 1) := by decide +kernel
theorem dX6_undo_48 : decode cX6_undo 48 = .ok (.ireturn, 1) := by decide +kernel
theorem dX6_fault_0 : decode cX6_fault 0 = .ok (.iload_n 1, 1) := by decide +kernel
theorem dX6_fault_1 : decode cX6_fault 1 = .ok (.iconst 3, 1) := by decide +kernel
theorem dX6_fault_2 : decode cX6_fault 2 = .ok (.invokestatic 66, 3) := by decide +kernel
theorem dX6_fault_5 : decode cX6_fault 5 = .ok (.ifCond .eq 8, 3) := by decide +kernel
theorem dX6_fault_8 : decode cX6_fault 8 = .ok (.bipush (-2), 2) := by decide +kernel
theorem dX6_fault_10 : decode cX6_fault 10 = .ok (.goto 12, 3) := by decide +kernel
theorem dX6_fault_13 : decode cX6_fault 13 = .ok (.aload_n 0, 1) := by decide +kernel
theorem dX6_fault_14 : decode cX6_fault 14 = .ok (.getfield 11, 3) := by decide +kernel
theorem dX6_fault_17 : decode cX6_fault 17 = .ok (.iload_n 1, 1) := by decide +kernel
theorem dX6_fault_18 : decode cX6_fault 18 = .ok (.aaload, 1) := by decide +kernel
theorem dX6_fault_19 : decode cX6_fault 19 = .ok (.invokevirtual 87, 3) := by decide +kernel
theorem dX6_fault_22 : decode cX6_fault 22 = .ok (.ireturn, 1) := by decide +kernel
theorem dX6_person_0 : decode cX6_person 0 = .ok (.iload_n 1, 1) := by decide +kernel
theorem dX6_person_1 : decode cX6_person 1 = .ok (.aload_n 0, 1) := by decide +kernel
theorem dX6_person_2 : decode cX6_person 2 = .ok (.getfield 38, 3) := by decide +kernel
theorem dX6_person_5 : decode cX6_person 5 = .ok (.getfield 90, 3) := by decide +kernel
theorem dX6_person_8 : decode cX6_person 8 = .ok (.invokestatic 66, 3) := by decide +kernel
theorem dX6_person_11 : decode cX6_person 11 = .ok (.ifCond .ne 11, 3) := by decide +kernel
theorem dX6_person_14 : decode cX6_person 14 = .ok (.iload_n 2, 1) := by decide +kernel
theorem dX6_person_15 : decode cX6_person 15 = .ok (.iconst 2, 1) := by decide +kernel
theorem dX6_person_16 : decode cX6_person 16 = .ok (.invokestatic 66, 3) := by decide +kernel
theorem dX6_person_19 : decode cX6_person 19 = .ok (.ifCond .eq 6, 3) := by decide +kernel
theorem dX6_person_22 : decode cX6_person 22 = .ok (.bipush (-2), 2) := by decide +kernel
theorem dX6_person_24 : decode cX6_person 24 = .ok (.ireturn, 1) := by decide +kernel
theorem dX6_person_25 : decode cX6_person 25 = .ok (.iload_n 2, 1) := by decide +kernel
theorem dX6_person_26 : decode cX6_person 26 = .ok (.ifCond .ne 15, 3) := by decide +kernel
theorem dX6_person_29 : decode cX6_person 29 = .ok (.aload_n 0, 1) := by decide +kernel
theorem dX6_person_30 : decode cX6_person 30 = .ok (.getfield 38, 3) := by decide +kernel
theorem dX6_person_33 : decode cX6_person 33 = .ok (.getfield 94, 3) := by decide +kernel
theorem dX6_person_36 : decode cX6_person 36 = .ok (.iload_n 1, 1) := by decide +kernel
theorem dX6_person_37 : decode cX6_person 37 = .ok (.iaload, 1) := by decide +kernel
theorem dX6_person_38 : decode cX6_person 38 = .ok (.goto 12, 3) := by decide +kernel
theorem dX6_person_41 : decode cX6_person 41 = .ok (.aload_n 0, 1) := by decide +kernel
theorem dX6_person_42 : decode cX6_person 42 = .ok (.getfield 38, 3) := by decide +kernel
theorem dX6_person_45 : decode cX6_person 45 = .ok (.getfield 97, 3) := by decide +kernel
theorem dX6_person_48 : decode cX6_person 48 = .ok (.iload_n 1, 1) := by decide +kernel
theorem dX6_person_49 : decode cX6_person 49 = .ok (.iaload, 1) := by decide +kernel
theorem dX6_person_50 : decode cX6_person 50 = .ok (.ireturn, 1) := by decide +kernel
theorem dX6_word_0 : decode cX6_word 0 = .ok (.iload_n 1, 1) := by decide +kernel
theorem dX6_word_1 : decode cX6_word 1 = .ok (.aload_n 0, 1) := by decide +kernel
theorem dX6_word_2 : decode cX6_word 2 = .ok (.getfield 38, 3) := by decide +kernel
theorem dX6_word_5 : decode cX6_word 5 = .ok (.getfield 100, 3) := by decide +kernel
theorem dX6_word_8 : decode cX6_word 8 = .ok (.invokestatic 66, 3) := by decide +kernel
theorem dX6_word_11 : decode cX6_word 11 = .ok (.ifCond .ne 11, 3) := by decide +kernel
theorem dX6_word_14 : decode cX6_word 14 = .ok (.iload_n 2, 1) := by decide +kernel
theorem dX6_word_15 : decode cX6_word 15 = .ok (.iconst 3, 1) := by decide +kernel
theorem dX6_word_16 : decode cX6_word 16 = .ok (.invokestatic 66, 3) := by decide +kernel
theorem dX6_word_19 : decode cX6_word 19 = .ok (.ifCond .eq 6, 3) := by decide +kernel
theorem dX6_word_22 : decode cX6_word 22 = .ok (.bipush (-2), 2) := by decide +kernel
theorem dX6_word_24 : decode cX6_word 24 = .ok (.ireturn, 1) := by decide +kernel
theorem dX6_word_25 : decode cX6_word 25 = .ok (.iload_n 2, 1) := by decide +kernel
theorem dX6_word_26 : decode cX6_word 26 = .ok (.ifCond .ne 13, 3) := by decide +kernel
theorem dX6_word_29 : decode cX6_word 29 = .ok (.aload_n 0, 1) := by decide +kernel
theorem dX6_word_30 : decode cX6_word 30 = .ok (.getfield 38, 3) := by decide +kernel
theorem dX6_word_33 : decode cX6_word 33 = .ok (.getfield 103, 3) := by decide +kernel
theorem dX6_word_36 : decode cX6_word 36 = .ok (.iload_n 1, 1) := by decide +kernel
theorem dX6_word_37 : decode cX6_word 37 = .ok (.iaload, 1) := by decide +kernel
theorem dX6_word_38 : decode cX6_word 38 = .ok (.ireturn, 1) := by decide +kernel
theorem dX6_word_39 : decode cX6_word 39 = .ok (.iload_n 2, 1) := by decide +kernel
theorem dX6_word_40 : decode cX6_word 40 = .ok (.iconst 1, 1) := by decide +kernel
theorem dX6_word_41 : decode cX6_word 41 = .ok (.if_icmp .ne 15, 3) := by decide +kernel
theorem dX6_word_44 : decode cX6_word 44 = .ok (.aload_n 0, 1) := by decide +kernel
theorem dX6_word_45 : decode cX6_word 45 = .ok (.getfield 38, 3) := by decide +kernel
theorem dX6_word_48 : decode cX6_word 48 = .ok (.getfield 106, 3) := by decide +kernel
theorem dX6_word_51 : decode cX6_word 51 = .ok (.iload_n 1, 1) := by decide +kernel
theorem dX6_word_52 : decode cX6_word 52 = .ok (.iaload, 1) := by decide +kernel
theorem dX6_word_53 : decode cX6_word 53 = .ok (.goto 12, 3) := by decide +kernel
theorem dX6_word_56 : decode cX6_word 56 = .ok (.aload_n 0, 1) := by decide +kernel
theorem dX6_word_57 : decode cX6_word 57 = .ok (.getfield 38, 3) := by decide +kernel
theorem dX6_word_60 : decode cX6_word 60 = .ok (.getfield 109, 3) := by decide +kernel
theorem dX6_word_63 : decode cX6_word 63 = .ok (.iload_n 1, 1) := by decide +kernel
theorem dX6_word_64 : decode cX6_word 64 = .ok (.iaload, 1) := by decide +kernel
theorem dX6_word_65 : decode cX6_word 65 = .ok (.ireturn, 1) := by decide +kernel
theorem dX6_meeting_0 : decode cX6_meeting 0 = .ok (.iload_n 1, 1) := by decide +kernel
theorem dX6_meeting_1 : decode cX6_meeting 1 = .ok (.bipush 12, 2) := by decide +kernel
theorem dX6_meeting_3 : decode cX6_meeting 3 = .ok (.invokestatic 66, 3) := by decide +kernel
theorem dX6_meeting_6 : decode cX6_meeting 6 = .ok (.ifCond .ne 11, 3) := by decide +kernel
theorem dX6_meeting_9 : decode cX6_meeting 9 = .ok (.iload_n 2, 1) := by decide +kernel
theorem dX6_meeting_10 : decode cX6_meeting 10 = .ok (.iconst 3, 1) := by decide +kernel
theorem dX6_meeting_11 : decode cX6_meeting 11 = .ok (.invokestatic 66, 3) := by decide +kernel
theorem dX6_meeting_14 : decode cX6_meeting 14 = .ok (.ifCond .eq 6, 3) := by decide +kernel
theorem dX6_meeting_17 : decode cX6_meeting 17 = .ok (.bipush (-2), 2) := by decide +kernel
theorem dX6_meeting_19 : decode cX6_meeting 19 = .ok (.ireturn, 1) := by decide +kernel
theorem dX6_meeting_20 : decode cX6_meeting 20 = .ok (.iload_n 1, 1) := by decide +kernel
theorem dX6_meeting_21 : decode cX6_meeting 21 = .ok (.aload_n 0, 1) := by decide +kernel
theorem dX6_meeting_22 : decode cX6_meeting 22 = .ok (.getfield 38, 3) := by decide +kernel
theorem dX6_meeting_25 : decode cX6_meeting 25 = .ok (.getfield 112, 3) := by decide +kernel
theorem dX6_meeting_28 : decode cX6_meeting 28 = .ok (.if_icmp .lt 5, 3) := by decide +kernel
theorem dX6_meeting_31 : decode cX6_meeting 31 = .ok (.iconst (-1), 1) := by decide +kernel
theorem dX6_meeting_32 : decode cX6_meeting 32 = .ok (.ireturn, 1) := by decide +kernel
theorem dX6_meeting_33 : decode cX6_meeting 33 = .ok (.iload_n 2, 1) := by decide +kernel
theorem dX6_meeting_34 : decode cX6_meeting 34 = .ok (.ifCond .ne 13, 3) := by decide +kernel
theorem dX6_meeting_37 : decode cX6_meeting 37 = .ok (.aload_n 0, 1) := by decide +kernel
theorem dX6_meeting_38 : decode cX6_meeting 38 = .ok (.getfield 38, 3) := by decide +kernel
theorem dX6_meeting_41 : decode cX6_meeting 41 = .ok (.getfield 115, 3) := by decide +kernel
theorem dX6_meeting_44 : decode cX6_meeting 44 = .ok (.iload_n 1, 1) := by decide +kernel
theorem dX6_meeting_45 : decode cX6_meeting 45 = .ok (.iaload, 1) := by decide +kernel
theorem dX6_meeting_46 : decode cX6_meeting 46 = .ok (.ireturn, 1) := by decide +kernel
theorem dX6_meeting_47 : decode cX6_meeting 47 = .ok (.iload_n 2, 1) := by decide +kernel
theorem dX6_meeting_48 : decode cX6_meeting 48 = .ok (.iconst 1, 1) := by decide +kernel
theorem dX6_meeting_49 : decode cX6_meeting 49 = .ok (.if_icmp .ne 15, 3) := by decide +kernel
theorem dX6_meeting_52 : decode cX6_meeting 52 = .ok (.aload_n 0, 1) := by decide +kernel
theorem dX6_meeting_53 : decode cX6_meeting 53 = .ok (.getfield 38, 3) := by decide +kernel
theorem dX6_meeting_56 : decode cX6_meeting 56 = .ok (.getfield 118, 3) := by decide +kernel
theorem dX6_meeting_59 : decode cX6_meeting 59 = .ok (.iload_n 1, 1) := by decide +kernel
theorem dX6_meeting_60 : decode cX6_meeting 60 = .ok (.iaload, 1) := by decide +kernel
theorem dX6_meeting_61 : decode cX6_meeting 61 = .ok (.goto 12, 3) := by decide +kernel
theorem dX6_meeting_64 : decode cX6_meeting 64 = .ok (.aload_n 0, 1) := by decide +kernel
theorem dX6_meeting_65 : decode cX6_meeting 65 = .ok (.getfield 38, 3) := by decide +kernel
theorem dX6_meeting_68 : decode cX6_meeting 68 = .ok (.getfield 121, 3) := by decide +kernel
theorem dX6_meeting_71 : decode cX6_meeting 71 = .ok (.iload_n 1, 1) := by decide +kernel
theorem dX6_meeting_72 : decode cX6_meeting 72 = .ok (.iaload, 1) := by decide +kernel
theorem dX6_meeting_73 : decode cX6_meeting 73 = .ok (.ireturn, 1) := by decide +kernel
theorem dX6_echo_0 : decode cX6_echo 0 = .ok (.iload_n 1, 1) := by decide +kernel
theorem dX6_echo_1 : decode cX6_echo 1 = .ok (.iload_n 2, 1) := by decide +kernel
theorem dX6_echo_2 : decode cX6_echo 2 = .ok (.invokestatic 124, 3) := by decide +kernel
theorem dX6_echo_5 : decode cX6_echo 5 = .ok (.ifCond .ne 6, 3) := by decide +kernel
theorem dX6_echo_8 : decode cX6_echo 8 = .ok (.bipush (-2), 2) := by decide +kernel
theorem dX6_echo_10 : decode cX6_echo 10 = .ok (.ireturn, 1) := by decide +kernel
theorem dX6_echo_11 : decode cX6_echo 11 = .ok (.aload_n 0, 1) := by decide +kernel
theorem dX6_echo_12 : decode cX6_echo 12 = .ok (.getfield 18, 3) := by decide +kernel
theorem dX6_echo_15 : decode cX6_echo 15 = .ok (.invokevirtual 127, 3) := by decide +kernel
theorem dX6_echo_18 : decode cX6_echo 18 = .ok (.ifCond .eq 6, 3) := by decide +kernel
theorem dX6_echo_21 : decode cX6_echo 21 = .ok (.bipush (-4), 2) := by decide +kernel
theorem dX6_echo_23 : decode cX6_echo 23 = .ok (.ireturn, 1) := by decide +kernel
theorem dX6_echo_24 : decode cX6_echo 24 = .ok (.aload_n 0, 1) := by decide +kernel
theorem dX6_echo_25 : decode cX6_echo 25 = .ok (.getfield 18, 3) := by decide +kernel
theorem dX6_echo_28 : decode cX6_echo 28 = .ok (.iload_n 1, 1) := by decide +kernel
theorem dX6_echo_29 : decode cX6_echo 29 = .ok (.iload_n 2, 1) := by decide +kernel
theorem dX6_echo_30 : decode cX6_echo 30 = .ok (.invokevirtual 128, 3) := by decide +kernel
theorem dX6_echo_33 : decode cX6_echo 33 = .ok (.aload_n 0, 1) := by decide +kernel
theorem dX6_echo_34 : decode cX6_echo 34 = .ok (.invokevirtual 131, 3) := by decide +kernel
theorem dX6_echo_37 : decode cX6_echo 37 = .ok (.aload_n 0, 1) := by decide +kernel
theorem dX6_echo_38 : decode cX6_echo 38 = .ok (.getfield 18, 3) := by decide +kernel
theorem dX6_echo_41 : decode cX6_echo 41 = .ok (.getfield 134, 3) := by decide +kernel
theorem dX6_echo_44 : decode cX6_echo 44 = .ok (.ireturn, 1) := by decide +kernel
theorem dX6_back_0 : decode cX6_back 0 = .ok (.aload_n 0, 1) := by decide +kernel
theorem dX6_back_1 : decode cX6_back 1 = .ok (.getfield 18, 3) := by decide +kernel
theorem dX6_back_4 : decode cX6_back 4 = .ok (.getfield 134, 3) := by decide +kernel
theorem dX6_back_7 : decode cX6_back 7 = .ok (.ifCond .ne 6, 3) := by decide +kernel
theorem dX6_back_10 : decode cX6_back 10 = .ok (.bipush (-3), 2) := by decide +kernel
theorem dX6_back_12 : decode cX6_back 12 = .ok (.ireturn, 1) := by decide +kernel
theorem dX6_back_13 : decode cX6_back 13 = .ok (.aload_n 0, 1) := by decide +kernel
theorem dX6_back_14 : decode cX6_back 14 = .ok (.getfield 18, 3) := by decide +kernel
theorem dX6_back_17 : decode cX6_back 17 = .ok (.dup, 1) := by decide +kernel
theorem dX6_back_18 : decode cX6_back 18 = .ok (.getfield 134, 3) := by decide +kernel
theorem dX6_back_21 : decode cX6_back 21 = .ok (.iconst 1, 1) := by decide +kernel
theorem dX6_back_22 : decode cX6_back 22 = .ok (.isub, 1) := by decide +kernel
theorem dX6_back_23 : decode cX6_back 23 = .ok (.putfield 134, 3) := by decide +kernel
theorem dX6_back_26 : decode cX6_back 26 = .ok (.aload_n 0, 1) := by decide +kernel
theorem dX6_back_27 : decode cX6_back 27 = .ok (.invokevirtual 131, 3) := by decide +kernel
theorem dX6_back_30 : decode cX6_back 30 = .ok (.aload_n 0, 1) := by decide +kernel
theorem dX6_back_31 : decode cX6_back 31 = .ok (.getfield 18, 3) := by decide +kernel
theorem dX6_back_34 : decode cX6_back 34 = .ok (.getfield 134, 3) := by decide +kernel
theorem dX6_back_37 : decode cX6_back 37 = .ok (.ireturn, 1) := by decide +kernel
theorem dX6_read_0 : decode cX6_read 0 = .ok (.iload_n 1, 1) := by decide +kernel
theorem dX6_read_1 : decode cX6_read 1 = .ok (.iconst 4, 1) := by decide +kernel
theorem dX6_read_2 : decode cX6_read 2 = .ok (.invokestatic 66, 3) := by decide +kernel
theorem dX6_read_5 : decode cX6_read 5 = .ok (.ifCond .eq 6, 3) := by decide +kernel
theorem dX6_read_8 : decode cX6_read 8 = .ok (.bipush (-2), 2) := by decide +kernel
theorem dX6_read_10 : decode cX6_read 10 = .ok (.ireturn, 1) := by decide +kernel
theorem dX6_read_11 : decode cX6_read 11 = .ok (.aload_n 0, 1) := by decide +kernel
theorem dX6_read_12 : decode cX6_read 12 = .ok (.getfield 31, 3) := by decide +kernel
theorem dX6_read_15 : decode cX6_read 15 = .ok (.iload_n 1, 1) := by decide +kernel
theorem dX6_read_16 : decode cX6_read 16 = .ok (.aaload, 1) := by decide +kernel
theorem dX6_read_17 : decode cX6_read 17 = .ok (.astore_n 2, 1) := by decide +kernel
theorem dX6_read_18 : decode cX6_read 18 = .ok (.aload_n 2, 1) := by decide +kernel
theorem dX6_read_19 : decode cX6_read 19 = .ok (.invokevirtual 137, 3) := by decide +kernel
theorem dX6_read_22 : decode cX6_read 22 = .ok (.ifCond .eq 9, 3) := by decide +kernel
theorem dX6_read_25 : decode cX6_read 25 = .ok (.aload_n 0, 1) := by decide +kernel
theorem dX6_read_26 : decode cX6_read 26 = .ok (.iconst 1, 1) := by decide +kernel
theorem dX6_read_27 : decode cX6_read 27 = .ok (.invokevirtual 140, 3) := by decide +kernel
theorem dX6_read_30 : decode cX6_read 30 = .ok (.ireturn, 1) := by decide +kernel
theorem dX6_read_31 : decode cX6_read 31 = .ok (.iconst 0, 1) := by decide +kernel
theorem dX6_read_32 : decode cX6_read 32 = .ok (.istore_n 3, 1) := by decide +kernel
theorem dX6_read_33 : decode cX6_read 33 = .ok (.iconst 0, 1) := by decide +kernel
theorem dX6_read_34 : decode cX6_read 34 = .ok (.istore 4, 2) := by decide +kernel
theorem dX6_read_36 : decode cX6_read 36 = .ok (.iload 4, 2) := by decide +kernel
theorem dX6_read_38 : decode cX6_read 38 = .ok (.iconst 1, 1) := by decide +kernel
theorem dX6_read_39 : decode cX6_read 39 = .ok (.iadd, 1) := by decide +kernel
theorem dX6_read_40 : decode cX6_read 40 = .ok (.aload_n 2, 1) := by decide +kernel
theorem dX6_read_41 : decode cX6_read 41 = .ok (.getfield 144, 3) := by decide +kernel
theorem dX6_read_44 : decode cX6_read 44 = .ok (.if_icmp .ge 70, 3) := by decide +kernel
theorem dX6_read_47 : decode cX6_read 47 = .ok (.aload_n 0, 1) := by decide +kernel
theorem dX6_read_48 : decode cX6_read 48 = .ok (.getfield 18, 3) := by decide +kernel
theorem dX6_read_51 : decode cX6_read 51 = .ok (.invokevirtual 127, 3) := by decide +kernel
theorem dX6_read_54 : decode cX6_read 54 = .ok (.ifCond .ne 60, 3) := by decide +kernel
theorem dX6_read_57 : decode cX6_read 57 = .ok (.aload_n 2, 1) := by decide +kernel
theorem dX6_read_58 : decode cX6_read 58 = .ok (.getfield 146, 3) := by decide +kernel
theorem dX6_read_61 : decode cX6_read 61 = .ok (.iload 4, 2) := by decide +kernel
theorem dX6_read_63 : decode cX6_read 63 = .ok (.iaload, 1) := by decide +kernel
theorem dX6_read_64 : decode cX6_read 64 = .ok (.aload_n 2, 1) := by decide +kernel
theorem dX6_read_65 : decode cX6_read 65 = .ok (.getfield 146, 3) := by decide +kernel
theorem dX6_read_68 : decode cX6_read 68 = .ok (.iload 4, 2) := by decide +kernel
theorem dX6_read_70 : decode cX6_read 70 = .ok (.iconst 1, 1) := by decide +kernel
theorem dX6_read_71 : decode cX6_read 71 = .ok (.iadd, 1) := by decide +kernel
theorem dX6_read_72 : decode cX6_read 72 = .ok (.iaload, 1) := by decide +kernel
theorem dX6_read_73 : decode cX6_read 73 = .ok (.invokestatic 124, 3) := by decide +kernel
theorem dX6_read_76 : decode cX6_read 76 = .ok (.ifCond .ne 6, 3) := by decide +kernel
theorem dX6_read_79 : decode cX6_read 79 = .ok (.goto 35, 3) := by decide +kernel
theorem dX6_read_82 : decode cX6_read 82 = .ok (.aload_n 0, 1) := by decide +kernel
theorem dX6_read_83 : decode cX6_read 83 = .ok (.getfield 18, 3) := by decide +kernel
theorem dX6_read_86 : decode cX6_read 86 = .ok (.aload_n 2, 1) := by decide +kernel
theorem dX6_read_87 : decode cX6_read 87 = .ok (.getfield 146, 3) := by decide +kernel
theorem dX6_read_90 : decode cX6_read 90 = .ok (.iload 4, 2) := by decide +kernel
theorem dX6_read_92 : decode cX6_read 92 = .ok (.iaload, 1) := by decide +kernel
theorem dX6_read_93 : decode cX6_read 93 = .ok (.aload_n 2, 1) := by decide +kernel
theorem dX6_read_94 : decode cX6_read 94 = .ok (.getfield 146, 3) := by decide +kernel
theorem dX6_read_97 : decode cX6_read 97 = .ok (.iload 4, 2) := by decide +kernel
theorem dX6_read_99 : decode cX6_read 99 = .ok (.iconst 1, 1) := by decide +kernel
theorem dX6_read_100 : decode cX6_read 100 = .ok (.iadd, 1) := by decide +kernel
theorem dX6_read_101 : decode cX6_read 101 = .ok (.iaload, 1) := by decide +kernel
theorem dX6_read_102 : decode cX6_read 102 = .ok (.invokevirtual 128, 3) := by decide +kernel
theorem dX6_read_105 : decode cX6_read 105 = .ok (.iinc 3 1, 3) := by decide +kernel
theorem dX6_read_108 : decode cX6_read 108 = .ok (.iinc 4 2, 3) := by decide +kernel
theorem dX6_read_111 : decode cX6_read 111 = .ok (.goto (-75), 3) := by decide +kernel
theorem dX6_read_114 : decode cX6_read 114 = .ok (.aload_n 0, 1) := by decide +kernel
theorem dX6_read_115 : decode cX6_read 115 = .ok (.invokevirtual 131, 3) := by decide +kernel
theorem dX6_read_118 : decode cX6_read 118 = .ok (.iload_n 3, 1) := by decide +kernel
theorem dX6_read_119 : decode cX6_read 119 = .ok (.ireturn, 1) := by decide +kernel
theorem dX6_stands_0 : decode cX6_stands 0 = .ok (.iload_n 1, 1) := by decide +kernel
theorem dX6_stands_1 : decode cX6_stands 1 = .ok (.bipush 24, 2) := by decide +kernel
theorem dX6_stands_3 : decode cX6_stands 3 = .ok (.invokestatic 66, 3) := by decide +kernel
theorem dX6_stands_6 : decode cX6_stands 6 = .ok (.ifCond .ne 25, 3) := by decide +kernel
theorem dX6_stands_9 : decode cX6_stands 9 = .ok (.iload_n 2, 1) := by decide +kernel
theorem dX6_stands_10 : decode cX6_stands 10 = .ok (.aload_n 0, 1) := by decide +kernel
theorem dX6_stands_11 : decode cX6_stands 11 = .ok (.getfield 38, 3) := by decide +kernel
theorem dX6_stands_14 : decode cX6_stands 14 = .ok (.getfield 100, 3) := by decide +kernel
theorem dX6_stands_17 : decode cX6_stands 17 = .ok (.invokestatic 66, 3) := by decide +kernel
theorem dX6_stands_20 : decode cX6_stands 20 = .ok (.ifCond .ne 11, 3) := by decide +kernel
theorem dX6_stands_23 : decode cX6_stands 23 = .ok (.iload_n 3, 1) := by decide +kernel
theorem dX6_stands_24 : decode cX6_stands 24 = .ok (.iconst 2, 1) := by decide +kernel
theorem dX6_stands_25 : decode cX6_stands 25 = .ok (.invokestatic 66, 3) := by decide +kernel
theorem dX6_stands_28 : decode cX6_stands 28 = .ok (.ifCond .eq 6, 3) := by decide +kernel
theorem dX6_stands_31 : decode cX6_stands 31 = .ok (.bipush (-2), 2) := by decide +kernel
theorem dX6_stands_33 : decode cX6_stands 33 = .ok (.ireturn, 1) := by decide +kernel
theorem dX6_stands_34 : decode cX6_stands 34 = .ok (.aload_n 0, 1) := by decide +kernel
theorem dX6_stands_35 : decode cX6_stands 35 = .ok (.invokevirtual 149, 3) := by decide +kernel
theorem dX6_stands_38 : decode cX6_stands 38 = .ok (.iload_n 3, 1) := by decide +kernel
theorem dX6_stands_39 : decode cX6_stands 39 = .ok (.ifCond .ne 15, 3) := by decide +kernel
theorem dX6_stands_42 : decode cX6_stands 42 = .ok (.aload_n 0, 1) := by decide +kernel
theorem dX6_stands_43 : decode cX6_stands 43 = .ok (.getfield 45, 3) := by decide +kernel
theorem dX6_stands_46 : decode cX6_stands 46 = .ok (.iload_n 1, 1) := by decide +kernel
theorem dX6_stands_47 : decode cX6_stands 47 = .ok (.iload_n 2, 1) := by decide +kernel
theorem dX6_stands_48 : decode cX6_stands 48 = .ok (.invokevirtual 152, 3) := by decide +kernel
theorem dX6_stands_51 : decode cX6_stands 51 = .ok (.goto 12, 3) := by decide +kernel
theorem dX6_stands_54 : decode cX6_stands 54 = .ok (.aload_n 0, 1) := by decide +kernel
theorem dX6_stands_55 : decode cX6_stands 55 = .ok (.getfield 45, 3) := by decide +kernel
theorem dX6_stands_58 : decode cX6_stands 58 = .ok (.iload_n 1, 1) := by decide +kernel
theorem dX6_stands_59 : decode cX6_stands 59 = .ok (.iload_n 2, 1) := by decide +kernel
theorem dX6_stands_60 : decode cX6_stands 60 = .ok (.invokevirtual 156, 3) := by decide +kernel
theorem dX6_stands_63 : decode cX6_stands 63 = .ok (.ireturn, 1) := by decide +kernel
theorem dX6_at_0 : decode cX6_at 0 = .ok (.iload_n 1, 1) := by decide +kernel
theorem dX6_at_1 : decode cX6_at 1 = .ok (.bipush 24, 2) := by decide +kernel
theorem dX6_at_3 : decode cX6_at 3 = .ok (.invokestatic 66, 3) := by decide +kernel
theorem dX6_at_6 : decode cX6_at 6 = .ok (.ifCond .ne 25, 3) := by decide +kernel
theorem dX6_at_9 : decode cX6_at 9 = .ok (.iload_n 2, 1) := by decide +kernel
theorem dX6_at_10 : decode cX6_at 10 = .ok (.aload_n 0, 1) := by decide +kernel
theorem dX6_at_11 : decode cX6_at 11 = .ok (.getfield 38, 3) := by decide +kernel
theorem dX6_at_14 : decode cX6_at 14 = .ok (.getfield 90, 3) := by decide +kernel
theorem dX6_at_17 : decode cX6_at 17 = .ok (.invokestatic 66, 3) := by decide +kernel
theorem dX6_at_20 : decode cX6_at 20 = .ok (.ifCond .ne 11, 3) := by decide +kernel
theorem dX6_at_23 : decode cX6_at 23 = .ok (.iload_n 3, 1) := by decide +kernel
theorem dX6_at_24 : decode cX6_at 24 = .ok (.iconst 4, 1) := by decide +kernel
theorem dX6_at_25 : decode cX6_at 25 = .ok (.invokestatic 66, 3) := by decide +kernel
theorem dX6_at_28 : decode cX6_at 28 = .ok (.ifCond .eq 6, 3) := by decide +kernel
theorem dX6_at_31 : decode cX6_at 31 = .ok (.bipush (-2), 2) := by decide +kernel
theorem dX6_at_33 : decode cX6_at 33 = .ok (.ireturn, 1) := by decide +kernel
theorem dX6_at_34 : decode cX6_at 34 = .ok (.aload_n 0, 1) := by decide +kernel
theorem dX6_at_35 : decode cX6_at 35 = .ok (.invokevirtual 149, 3) := by decide +kernel
theorem dX6_at_38 : decode cX6_at 38 = .ok (.iload_n 3, 1) := by decide +kernel
theorem dX6_at_39 : decode cX6_at 39 = .ok (.ifCond .ne 22, 3) := by decide +kernel
theorem dX6_at_42 : decode cX6_at 42 = .ok (.aload_n 0, 1) := by decide +kernel
theorem dX6_at_43 : decode cX6_at 43 = .ok (.getfield 38, 3) := by decide +kernel
theorem dX6_at_46 : decode cX6_at 46 = .ok (.getfield 97, 3) := by decide +kernel
theorem dX6_at_49 : decode cX6_at 49 = .ok (.iload_n 2, 1) := by decide +kernel
theorem dX6_at_50 : decode cX6_at 50 = .ok (.iaload, 1) := by decide +kernel
theorem dX6_at_51 : decode cX6_at 51 = .ok (.iload_n 1, 1) := by decide +kernel
theorem dX6_at_52 : decode cX6_at 52 = .ok (.if_icmp .gt 7, 3) := by decide +kernel
theorem dX6_at_55 : decode cX6_at 55 = .ok (.iconst 1, 1) := by decide +kernel
theorem dX6_at_56 : decode cX6_at 56 = .ok (.goto 4, 3) := by decide +kernel
theorem dX6_at_59 : decode cX6_at 59 = .ok (.iconst 0, 1) := by decide +kernel
theorem dX6_at_60 : decode cX6_at 60 = .ok (.ireturn, 1) := by decide +kernel
theorem dX6_at_61 : decode cX6_at 61 = .ok (.iload_n 3, 1) := by decide +kernel
theorem dX6_at_62 : decode cX6_at 62 = .ok (.iconst 1, 1) := by decide +kernel
theorem dX6_at_63 : decode cX6_at 63 = .ok (.if_icmp .ne 20, 3) := by decide +kernel
theorem dX6_at_66 : decode cX6_at 66 = .ok (.aload_n 0, 1) := by decide +kernel
theorem dX6_at_67 : decode cX6_at 67 = .ok (.getfield 45, 3) := by decide +kernel
theorem dX6_at_70 : decode cX6_at 70 = .ok (.iload_n 1, 1) := by decide +kernel
theorem dX6_at_71 : decode cX6_at 71 = .ok (.aload_n 0, 1) := by decide +kernel
theorem dX6_at_72 : decode cX6_at 72 = .ok (.getfield 38, 3) := by decide +kernel
theorem dX6_at_75 : decode cX6_at 75 = .ok (.getfield 106, 3) := by decide +kernel
theorem dX6_at_78 : decode cX6_at 78 = .ok (.iload_n 2, 1) := by decide +kernel
theorem dX6_at_79 : decode cX6_at 79 = .ok (.invokevirtual 159, 3) := by decide +kernel
theorem dX6_at_82 : decode cX6_at 82 = .ok (.ireturn, 1) := by decide +kernel
theorem dX6_at_83 : decode cX6_at 83 = .ok (.iload_n 3, 1) := by decide +kernel
theorem dX6_at_84 : decode cX6_at 84 = .ok (.iconst 2, 1) := by decide +kernel
theorem dX6_at_85 : decode cX6_at 85 = .ok (.if_icmp .ne 22, 3) := by decide +kernel
theorem dX6_at_88 : decode cX6_at 88 = .ok (.aload_n 0, 1) := by decide +kernel
theorem dX6_at_89 : decode cX6_at 89 = .ok (.getfield 45, 3) := by decide +kernel
theorem dX6_at_92 : decode cX6_at 92 = .ok (.iload_n 1, 1) := by decide +kernel
theorem dX6_at_93 : decode cX6_at 93 = .ok (.aload_n 0, 1) := by decide +kernel
theorem dX6_at_94 : decode cX6_at 94 = .ok (.getfield 38, 3) := by decide +kernel
theorem dX6_at_97 : decode cX6_at 97 = .ok (.getfield 103, 3) := by decide +kernel
theorem dX6_at_100 : decode cX6_at 100 = .ok (.iload_n 2, 1) := by decide +kernel
theorem dX6_at_101 : decode cX6_at 101 = .ok (.invokevirtual 159, 3) := by decide +kernel
theorem dX6_at_104 : decode cX6_at 104 = .ok (.goto 12, 3) := by decide +kernel
theorem dX6_at_107 : decode cX6_at 107 = .ok (.aload_n 0, 1) := by decide +kernel
theorem dX6_at_108 : decode cX6_at 108 = .ok (.getfield 45, 3) := by decide +kernel
theorem dX6_at_111 : decode cX6_at 111 = .ok (.iload_n 1, 1) := by decide +kernel
theorem dX6_at_112 : decode cX6_at 112 = .ok (.iload_n 2, 1) := by decide +kernel
theorem dX6_at_113 : decode cX6_at 113 = .ok (.invokevirtual 163, 3) := by decide +kernel
theorem dX6_at_116 : decode cX6_at 116 = .ok (.ireturn, 1) := by decide +kernel
theorem dX6_clear_0 : decode cX6_clear 0 = .ok (.iload_n 1, 1) := by decide +kernel
theorem dX6_clear_1 : decode cX6_clear 1 = .ok (.aload_n 0, 1) := by decide +kernel
theorem dX6_clear_2 : decode cX6_clear 2 = .ok (.getfield 38, 3) := by decide +kernel
theorem dX6_clear_5 : decode cX6_clear 5 = .ok (.getfield 90, 3) := by decide +kernel
theorem dX6_clear_8 : decode cX6_clear 8 = .ok (.invokestatic 66, 3) := by decide +kernel
theorem dX6_clear_11 : decode cX6_clear 11 = .ok (.ifCond .eq 6, 3) := by decide +kernel
theorem dX6_clear_14 : decode cX6_clear 14 = .ok (.bipush (-2), 2) := by decide +kernel
theorem dX6_clear_16 : decode cX6_clear 16 = .ok (.ireturn, 1) := by decide +kernel
theorem dX6_clear_17 : decode cX6_clear 17 = .ok (.aload_n 0, 1) := by decide +kernel
theorem dX6_clear_18 : decode cX6_clear 18 = .ok (.invokevirtual 149, 3) := by decide +kernel
theorem dX6_clear_21 : decode cX6_clear 21 = .ok (.iconst 0, 1) := by decide +kernel
theorem dX6_clear_22 : decode cX6_clear 22 = .ok (.istore_n 2, 1) := by decide +kernel
theorem dX6_clear_23 : decode cX6_clear 23 = .ok (.iload_n 2, 1) := by decide +kernel
theorem dX6_clear_24 : decode cX6_clear 24 = .ok (.bipush 24, 2) := by decide +kernel
theorem dX6_clear_26 : decode cX6_clear 26 = .ok (.if_icmp .ge 27, 3) := by decide +kernel
theorem dX6_clear_29 : decode cX6_clear 29 = .ok (.aload_n 0, 1) := by decide +kernel
theorem dX6_clear_30 : decode cX6_clear 30 = .ok (.getfield 45, 3) := by decide +kernel
theorem dX6_clear_33 : decode cX6_clear 33 = .ok (.aload_n 0, 1) := by decide +kernel
theorem dX6_clear_34 : decode cX6_clear 34 = .ok (.getfield 38, 3) := by decide +kernel
theorem dX6_clear_37 : decode cX6_clear 37 = .ok (.iload_n 2, 1) := by decide +kernel
theorem dX6_clear_38 : decode cX6_clear 38 = .ok (.iload_n 1, 1) := by decide +kernel
theorem dX6_clear_39 : decode cX6_clear 39 = .ok (.invokevirtual 166, 3) := by decide +kernel
theorem dX6_clear_42 : decode cX6_clear 42 = .ok (.ifCond .eq 5, 3) := by decide +kernel
theorem dX6_clear_45 : decode cX6_clear 45 = .ok (.iload_n 2, 1) := by decide +kernel
theorem dX6_clear_46 : decode cX6_clear 46 = .ok (.ireturn, 1) := by decide +kernel
theorem dX6_clear_47 : decode cX6_clear 47 = .ok (.iinc 2 1, 3) := by decide +kernel
theorem dX6_clear_50 : decode cX6_clear 50 = .ok (.goto (-27), 3) := by decide +kernel
theorem dX6_clear_53 : decode cX6_clear 53 = .ok (.iconst (-1), 1) := by decide +kernel
theorem dX6_clear_54 : decode cX6_clear 54 = .ok (.ireturn, 1) := by decide +kernel
theorem dX6_bank_0 : decode cX6_bank 0 = .ok (.iload_n 1, 1) := by decide +kernel
theorem dX6_bank_1 : decode cX6_bank 1 = .ok (.bipush 24, 2) := by decide +kernel
theorem dX6_bank_3 : decode cX6_bank 3 = .ok (.invokestatic 66, 3) := by decide +kernel
theorem dX6_bank_6 : decode cX6_bank 6 = .ok (.ifCond .eq 6, 3) := by decide +kernel
theorem dX6_bank_9 : decode cX6_bank 9 = .ok (.bipush (-2), 2) := by decide +kernel
theorem dX6_bank_11 : decode cX6_bank 11 = .ok (.ireturn, 1) := by decide +kernel
theorem dX6_bank_12 : decode cX6_bank 12 = .ok (.aload_n 0, 1) := by decide +kernel
theorem dX6_bank_13 : decode cX6_bank 13 = .ok (.invokevirtual 149, 3) := by decide +kernel
theorem dX6_bank_16 : decode cX6_bank 16 = .ok (.iconst (-1), 1) := by decide +kernel
theorem dX6_bank_17 : decode cX6_bank 17 = .ok (.istore_n 2, 1) := by decide +kernel
theorem dX6_bank_18 : decode cX6_bank 18 = .ok (.iconst 0, 1) := by decide +kernel
theorem dX6_bank_19 : decode cX6_bank 19 = .ok (.istore_n 3, 1) := by decide +kernel
theorem dX6_bank_20 : decode cX6_bank 20 = .ok (.iconst 0, 1) := by decide +kernel
theorem dX6_bank_21 : decode cX6_bank 21 = .ok (.istore 4, 2) := by decide +kernel
theorem dX6_bank_23 : decode cX6_bank 23 = .ok (.iload 4, 2) := by decide +kernel
theorem dX6_bank_25 : decode cX6_bank 25 = .ok (.aload_n 0, 1) := by decide +kernel
theorem dX6_bank_26 : decode cX6_bank 26 = .ok (.getfield 38, 3) := by decide +kernel
theorem dX6_bank_29 : decode cX6_bank 29 = .ok (.getfield 90, 3) := by decide +kernel
theorem dX6_bank_32 : decode cX6_bank 32 = .ok (.if_icmp .ge 40, 3) := by decide +kernel
theorem dX6_bank_35 : decode cX6_bank 35 = .ok (.aload_n 0, 1) := by decide +kernel
theorem dX6_bank_36 : decode cX6_bank 36 = .ok (.getfield 45, 3) := by decide +kernel
theorem dX6_bank_39 : decode cX6_bank 39 = .ok (.iload_n 1, 1) := by decide +kernel
theorem dX6_bank_40 : decode cX6_bank 40 = .ok (.aload_n 0, 1) := by decide +kernel
theorem dX6_bank_41 : decode cX6_bank 41 = .ok (.getfield 38, 3) := by decide +kernel
theorem dX6_bank_44 : decode cX6_bank 44 = .ok (.getfield 103, 3) := by decide +kernel
theorem dX6_bank_47 : decode cX6_bank 47 = .ok (.iload 4, 2) := by decide +kernel
theorem dX6_bank_49 : decode cX6_bank 49 = .ok (.invokevirtual 159, 3) := by decide +kernel
theorem dX6_bank_52 : decode cX6_bank 52 = .ok (.istore 5, 2) := by decide +kernel
theorem dX6_bank_54 : decode cX6_bank 54 = .ok (.iload 5, 2) := by decide +kernel
theorem dX6_bank_56 : decode cX6_bank 56 = .ok (.iload_n 3, 1) := by decide +kernel
theorem dX6_bank_57 : decode cX6_bank 57 = .ok (.if_icmp .le 9, 3) := by decide +kernel
theorem dX6_bank_60 : decode cX6_bank 60 = .ok (.iload 5, 2) := by decide +kernel
theorem dX6_bank_62 : decode cX6_bank 62 = .ok (.istore_n 3, 1) := by decide +kernel
theorem dX6_bank_63 : decode cX6_bank 63 = .ok (.iload 4, 2) := by decide +kernel
theorem dX6_bank_65 : decode cX6_bank 65 = .ok (.istore_n 2, 1) := by decide +kernel
theorem dX6_bank_66 : decode cX6_bank 66 = .ok (.iinc 4 1, 3) := by decide +kernel
theorem dX6_bank_69 : decode cX6_bank 69 = .ok (.goto (-46), 3) := by decide +kernel
theorem dX6_bank_72 : decode cX6_bank 72 = .ok (.iload_n 2, 1) := by decide +kernel
theorem dX6_bank_73 : decode cX6_bank 73 = .ok (.ireturn, 1) := by decide +kernel
theorem dX6_ring_0 : decode cX6_ring 0 = .ok (.iload_n 1, 1) := by decide +kernel
theorem dX6_ring_1 : decode cX6_ring 1 = .ok (.bipush 24, 2) := by decide +kernel
theorem dX6_ring_3 : decode cX6_ring 3 = .ok (.invokestatic 66, 3) := by decide +kernel
theorem dX6_ring_6 : decode cX6_ring 6 = .ok (.ifCond .ne 11, 3) := by decide +kernel
theorem dX6_ring_9 : decode cX6_ring 9 = .ok (.iload_n 2, 1) := by decide +kernel
theorem dX6_ring_10 : decode cX6_ring 10 = .ok (.iconst 2, 1) := by decide +kernel
theorem dX6_ring_11 : decode cX6_ring 11 = .ok (.invokestatic 66, 3) := by decide +kernel
theorem dX6_ring_14 : decode cX6_ring 14 = .ok (.ifCond .eq 6, 3) := by decide +kernel
theorem dX6_ring_17 : decode cX6_ring 17 = .ok (.bipush (-2), 2) := by decide +kernel
theorem dX6_ring_19 : decode cX6_ring 19 = .ok (.ireturn, 1) := by decide +kernel
theorem dX6_ring_20 : decode cX6_ring 20 = .ok (.aload_n 0, 1) := by decide +kernel
theorem dX6_ring_21 : decode cX6_ring 21 = .ok (.invokevirtual 149, 3) := by decide +kernel
theorem dX6_ring_24 : decode cX6_ring 24 = .ok (.aload_n 0, 1) := by decide +kernel
theorem dX6_ring_25 : decode cX6_ring 25 = .ok (.getfield 45, 3) := by decide +kernel
theorem dX6_ring_28 : decode cX6_ring 28 = .ok (.aload_n 0, 1) := by decide +kernel
theorem dX6_ring_29 : decode cX6_ring 29 = .ok (.getfield 38, 3) := by decide +kernel
theorem dX6_ring_32 : decode cX6_ring 32 = .ok (.iload_n 1, 1) := by decide +kernel
theorem dX6_ring_33 : decode cX6_ring 33 = .ok (.invokevirtual 170, 3) := by decide +kernel
theorem dX6_ring_36 : decode cX6_ring 36 = .ok (.iconst (-1), 1) := by decide +kernel
theorem dX6_ring_37 : decode cX6_ring 37 = .ok (.istore_n 3, 1) := by decide +kernel
theorem dX6_ring_38 : decode cX6_ring 38 = .ok (.bipush 9, 2) := by decide +kernel
theorem dX6_ring_40 : decode cX6_ring 40 = .ok (.istore 4, 2) := by decide +kernel
theorem dX6_ring_42 : decode cX6_ring 42 = .ok (.iconst 0, 1) := by decide +kernel
theorem dX6_ring_43 : decode cX6_ring 43 = .ok (.istore 5, 2) := by decide +kernel
theorem dX6_ring_45 : decode cX6_ring 45 = .ok (.iload 5, 2) := by decide +kernel
theorem dX6_ring_47 : decode cX6_ring 47 = .ok (.aload_n 0, 1) := by decide +kernel
theorem dX6_ring_48 : decode cX6_ring 48 = .ok (.getfield 38, 3) := by decide +kernel
theorem dX6_ring_51 : decode cX6_ring 51 = .ok (.getfield 90, 3) := by decide +kernel
theorem dX6_ring_54 : decode cX6_ring 54 = .ok (.if_icmp .ge 40, 3) := by decide +kernel
theorem dX6_ring_57 : decode cX6_ring 57 = .ok (.aload_n 0, 1) := by decide +kernel
theorem dX6_ring_58 : decode cX6_ring 58 = .ok (.getfield 45, 3) := by decide +kernel
theorem dX6_ring_61 : decode cX6_ring 61 = .ok (.iload 5, 2) := by decide +kernel
theorem dX6_ring_63 : decode cX6_ring 63 = .ok (.invokevirtual 174, 3) := by decide +kernel
theorem dX6_ring_66 : decode cX6_ring 66 = .ok (.istore 6, 2) := by decide +kernel
theorem dX6_ring_68 : decode cX6_ring 68 = .ok (.iload 6, 2) := by decide +kernel
theorem dX6_ring_70 : decode cX6_ring 70 = .ok (.iconst (-1), 1) := by decide +kernel
theorem dX6_ring_71 : decode cX6_ring 71 = .ok (.if_icmp .eq 17, 3) := by decide +kernel
theorem dX6_ring_74 : decode cX6_ring 74 = .ok (.iload 6, 2) := by decide +kernel
theorem dX6_ring_76 : decode cX6_ring 76 = .ok (.iload 4, 2) := by decide +kernel
theorem dX6_ring_78 : decode cX6_ring 78 = .ok (.if_icmp .ge 10, 3) := by decide +kernel
theorem dX6_ring_81 : decode cX6_ring 81 = .ok (.iload 6, 2) := by decide +kernel
theorem dX6_ring_83 : decode cX6_ring 83 = .ok (.istore 4, 2) := by decide +kernel
theorem dX6_ring_85 : decode cX6_ring 85 = .ok (.iload 5, 2) := by decide +kernel
theorem dX6_ring_87 : decode cX6_ring 87 = .ok (.istore_n 3, 1) := by decide +kernel
theorem dX6_ring_88 : decode cX6_ring 88 = .ok (.iinc 5 1, 3) := by decide +kernel
theorem dX6_ring_91 : decode cX6_ring 91 = .ok (.goto (-46), 3) := by decide +kernel
theorem dX6_ring_94 : decode cX6_ring 94 = .ok (.iload_n 3, 1) := by decide +kernel
theorem dX6_ring_95 : decode cX6_ring 95 = .ok (.iconst (-1), 1) := by decide +kernel
theorem dX6_ring_96 : decode cX6_ring 96 = .ok (.if_icmp .eq 8, 3) := by decide +kernel
theorem dX6_ring_99 : decode cX6_ring 99 = .ok (.iload_n 2, 1) := by decide +kernel
theorem dX6_ring_100 : decode cX6_ring 100 = .ok (.iconst 1, 1) := by decide +kernel
theorem dX6_ring_101 : decode cX6_ring 101 = .ok (.if_icmp .ne 7, 3) := by decide +kernel
theorem dX6_ring_104 : decode cX6_ring 104 = .ok (.iload_n 3, 1) := by decide +kernel
theorem dX6_ring_105 : decode cX6_ring 105 = .ok (.goto 5, 3) := by decide +kernel
theorem dX6_ring_108 : decode cX6_ring 108 = .ok (.iload 4, 2) := by decide +kernel
theorem dX6_ring_110 : decode cX6_ring 110 = .ok (.ireturn, 1) := by decide +kernel
theorem dX6_silent_0 : decode cX6_silent 0 = .ok (.aload_n 0, 1) := by decide +kernel
theorem dX6_silent_1 : decode cX6_silent 1 = .ok (.invokevirtual 149, 3) := by decide +kernel
theorem dX6_silent_4 : decode cX6_silent 4 = .ok (.iconst 0, 1) := by decide +kernel
theorem dX6_silent_5 : decode cX6_silent 5 = .ok (.istore_n 1, 1) := by decide +kernel
theorem dX6_silent_6 : decode cX6_silent 6 = .ok (.iconst 0, 1) := by decide +kernel
theorem dX6_silent_7 : decode cX6_silent 7 = .ok (.istore_n 2, 1) := by decide +kernel
theorem dX6_silent_8 : decode cX6_silent 8 = .ok (.iload_n 2, 1) := by decide +kernel
theorem dX6_silent_9 : decode cX6_silent 9 = .ok (.aload_n 0, 1) := by decide +kernel
theorem dX6_silent_10 : decode cX6_silent 10 = .ok (.getfield 38, 3) := by decide +kernel
theorem dX6_silent_13 : decode cX6_silent 13 = .ok (.getfield 90, 3) := by decide +kernel
theorem dX6_silent_16 : decode cX6_silent 16 = .ok (.if_icmp .ge 28, 3) := by decide +kernel
theorem dX6_silent_19 : decode cX6_silent 19 = .ok (.aload_n 0, 1) := by decide +kernel
theorem dX6_silent_20 : decode cX6_silent 20 = .ok (.getfield 45, 3) := by decide +kernel
theorem dX6_silent_23 : decode cX6_silent 23 = .ok (.bipush 23, 2) := by decide +kernel
theorem dX6_silent_25 : decode cX6_silent 25 = .ok (.iload_n 2, 1) := by decide +kernel
theorem dX6_silent_26 : decode cX6_silent 26 = .ok (.invokevirtual 163, 3) := by decide +kernel
theorem dX6_silent_29 : decode cX6_silent 29 = .ok (.ifCond .ne 9, 3) := by decide +kernel
theorem dX6_silent_32 : decode cX6_silent 32 = .ok (.iload_n 1, 1) := by decide +kernel
theorem dX6_silent_33 : decode cX6_silent 33 = .ok (.iconst 1, 1) := by decide +kernel
theorem dX6_silent_34 : decode cX6_silent 34 = .ok (.iload_n 2, 1) := by decide +kernel
theorem dX6_silent_35 : decode cX6_silent 35 = .ok (.ishl, 1) := by decide +kernel
theorem dX6_silent_36 : decode cX6_silent 36 = .ok (.ior, 1) := by decide +kernel
theorem dX6_silent_37 : decode cX6_silent 37 = .ok (.istore_n 1, 1) := by decide +kernel
theorem dX6_silent_38 : decode cX6_silent 38 = .ok (.iinc 2 1, 3) := by decide +kernel
theorem dX6_silent_41 : decode cX6_silent 41 = .ok (.goto (-33), 3) := by decide +kernel
theorem dX6_silent_44 : decode cX6_silent 44 = .ok (.iload_n 1, 1) := by decide +kernel
theorem dX6_silent_45 : decode cX6_silent 45 = .ok (.ireturn, 1) := by decide +kernel
theorem dX6_meet_0 : decode cX6_meet 0 = .ok (.iload_n 1, 1) := by decide +kernel
theorem dX6_meet_1 : decode cX6_meet 1 = .ok (.bipush 24, 2) := by decide +kernel
theorem dX6_meet_3 : decode cX6_meet 3 = .ok (.invokestatic 66, 3) := by decide +kernel
theorem dX6_meet_6 : decode cX6_meet 6 = .ok (.ifCond .ne 11, 3) := by decide +kernel
theorem dX6_meet_9 : decode cX6_meet 9 = .ok (.iload_n 2, 1) := by decide +kernel
theorem dX6_meet_10 : decode cX6_meet 10 = .ok (.iconst 3, 1) := by decide +kernel
theorem dX6_meet_11 : decode cX6_meet 11 = .ok (.invokestatic 66, 3) := by decide +kernel
theorem dX6_meet_14 : decode cX6_meet 14 = .ok (.ifCond .eq 6, 3) := by decide +kernel
theorem dX6_meet_17 : decode cX6_meet 17 = .ok (.bipush (-2), 2) := by decide +kernel
theorem dX6_meet_19 : decode cX6_meet 19 = .ok (.ireturn, 1) := by decide +kernel
theorem dX6_meet_20 : decode cX6_meet 20 = .ok (.aload_n 0, 1) := by decide +kernel
theorem dX6_meet_21 : decode cX6_meet 21 = .ok (.getfield 49, 3) := by decide +kernel
theorem dX6_meet_24 : decode cX6_meet 24 = .ok (.aload_n 0, 1) := by decide +kernel
theorem dX6_meet_25 : decode cX6_meet 25 = .ok (.getfield 38, 3) := by decide +kernel
theorem dX6_meet_28 : decode cX6_meet 28 = .ok (.invokevirtual 177, 3) := by decide +kernel
theorem dX6_meet_31 : decode cX6_meet 31 = .ok (.iconst (-1), 1) := by decide +kernel
theorem dX6_meet_32 : decode cX6_meet 32 = .ok (.istore_n 3, 1) := by decide +kernel
theorem dX6_meet_33 : decode cX6_meet 33 = .ok (.iconst (-1), 1) := by decide +kernel
theorem dX6_meet_34 : decode cX6_meet 34 = .ok (.istore 4, 2) := by decide +kernel
theorem dX6_meet_36 : decode cX6_meet 36 = .ok (.iconst (-1), 1) := by decide +kernel
theorem dX6_meet_37 : decode cX6_meet 37 = .ok (.istore 5, 2) := by decide +kernel
theorem dX6_meet_39 : decode cX6_meet 39 = .ok (.iconst 0, 1) := by decide +kernel
theorem dX6_meet_40 : decode cX6_meet 40 = .ok (.istore 6, 2) := by decide +kernel
theorem dX6_meet_42 : decode cX6_meet 42 = .ok (.iload 6, 2) := by decide +kernel
theorem dX6_meet_44 : decode cX6_meet 44 = .ok (.aload_n 0, 1) := by decide +kernel
theorem dX6_meet_45 : decode cX6_meet 45 = .ok (.getfield 49, 3) := by decide +kernel
theorem dX6_meet_48 : decode cX6_meet 48 = .ok (.getfield 90, 3) := by decide +kernel
theorem dX6_meet_51 : decode cX6_meet 51 = .ok (.if_icmp .ge 114, 3) := by decide +kernel
theorem dX6_meet_54 : decode cX6_meet 54 = .ok (.iload 6, 2) := by decide +kernel
theorem dX6_meet_56 : decode cX6_meet 56 = .ok (.iconst 1, 1) := by decide +kernel
theorem dX6_meet_57 : decode cX6_meet 57 = .ok (.iadd, 1) := by decide +kernel
theorem dX6_meet_58 : decode cX6_meet 58 = .ok (.istore 7, 2) := by decide +kernel
theorem dX6_meet_60 : decode cX6_meet 60 = .ok (.iload 7, 2) := by decide +kernel
theorem dX6_meet_62 : decode cX6_meet 62 = .ok (.aload_n 0, 1) := by decide +kernel
theorem dX6_meet_63 : decode cX6_meet 63 = .ok (.getfield 49, 3) := by decide +kernel
theorem dX6_meet_66 : decode cX6_meet 66 = .ok (.getfield 90, 3) := by decide +kernel
theorem dX6_meet_69 : decode cX6_meet 69 = .ok (.if_icmp .ge 90, 3) := by decide +kernel
theorem dX6_meet_72 : decode cX6_meet 72 = .ok (.aload_n 0, 1) := by decide +kernel
theorem dX6_meet_73 : decode cX6_meet 73 = .ok (.getfield 49, 3) := by decide +kernel
theorem dX6_meet_76 : decode cX6_meet 76 = .ok (.aload_n 0, 1) := by decide +kernel
theorem dX6_meet_77 : decode cX6_meet 77 = .ok (.getfield 38, 3) := by decide +kernel
theorem dX6_meet_80 : decode cX6_meet 80 = .ok (.getfield 112, 3) := by decide +kernel
theorem dX6_meet_83 : decode cX6_meet 83 = .ok (.putfield 112, 3) := by decide +kernel
theorem dX6_meet_86 : decode cX6_meet 86 = .ok (.aload_n 0, 1) := by decide +kernel
theorem dX6_meet_87 : decode cX6_meet 87 = .ok (.getfield 49, 3) := by decide +kernel
theorem dX6_meet_90 : decode cX6_meet 90 = .ok (.iload_n 1, 1) := by decide +kernel
theorem dX6_meet_91 : decode cX6_meet 91 = .ok (.iload 6, 2) := by decide +kernel
theorem dX6_meet_93 : decode cX6_meet 93 = .ok (.iload 7, 2) := by decide +kernel
theorem dX6_meet_95 : decode cX6_meet 95 = .ok (.invokevirtual 181, 3) := by decide +kernel
theorem dX6_meet_98 : decode cX6_meet 98 = .ok (.aload_n 0, 1) := by decide +kernel
theorem dX6_meet_99 : decode cX6_meet 99 = .ok (.getfield 52, 3) := by decide +kernel
theorem dX6_meet_102 : decode cX6_meet 102 = .ok (.aload_n 0, 1) := by decide +kernel
theorem dX6_meet_103 : decode cX6_meet 103 = .ok (.getfield 49, 3) := by decide +kernel
theorem dX6_meet_106 : decode cX6_meet 106 = .ok (.aload_n 0, 1) := by decide +kernel
theorem dX6_meet_107 : decode cX6_meet 107 = .ok (.getfield 18, 3) := by decide +kernel
theorem dX6_meet_110 : decode cX6_meet 110 = .ok (.aload_n 0, 1) := by decide +kernel
theorem dX6_meet_111 : decode cX6_meet 111 = .ok (.getfield 18, 3) := by decide +kernel
theorem dX6_meet_114 : decode cX6_meet 114 = .ok (.invokevirtual 185, 3) := by decide +kernel
theorem dX6_meet_117 : decode cX6_meet 117 = .ok (.invokevirtual 188, 3) := by decide +kernel
theorem dX6_meet_120 : decode cX6_meet 120 = .ok (.aload_n 0, 1) := by decide +kernel
theorem dX6_meet_121 : decode cX6_meet 121 = .ok (.getfield 52, 3) := by decide +kernel
theorem dX6_meet_124 : decode cX6_meet 124 = .ok (.invokevirtual 192, 3) := by decide +kernel
theorem dX6_meet_127 : decode cX6_meet 127 = .ok (.istore 8, 2) := by decide +kernel
theorem dX6_meet_129 : decode cX6_meet 129 = .ok (.iload 5, 2) := by decide +kernel
theorem dX6_meet_131 : decode cX6_meet 131 = .ok (.iconst (-1), 1) := by decide +kernel
theorem dX6_meet_132 : decode cX6_meet 132 = .ok (.if_icmp .eq 10, 3) := by decide +kernel
theorem dX6_meet_135 : decode cX6_meet 135 = .ok (.iload 8, 2) := by decide +kernel
theorem dX6_meet_137 : decode cX6_meet 137 = .ok (.iload 5, 2) := by decide +kernel
theorem dX6_meet_139 : decode cX6_meet 139 = .ok (.if_icmp .ge 14, 3) := by decide +kernel
theorem dX6_meet_142 : decode cX6_meet 142 = .ok (.iload 8, 2) := by decide +kernel
theorem dX6_meet_144 : decode cX6_meet 144 = .ok (.istore 5, 2) := by decide +kernel
theorem dX6_meet_146 : decode cX6_meet 146 = .ok (.iload 6, 2) := by decide +kernel
theorem dX6_meet_148 : decode cX6_meet 148 = .ok (.istore_n 3, 1) := by decide +kernel
theorem dX6_meet_149 : decode cX6_meet 149 = .ok (.iload 7, 2) := by decide +kernel
theorem dX6_meet_151 : decode cX6_meet 151 = .ok (.istore 4, 2) := by decide +kernel
theorem dX6_meet_153 : decode cX6_meet 153 = .ok (.iinc 7 1, 3) := by decide +kernel
theorem dX6_meet_156 : decode cX6_meet 156 = .ok (.goto (-96), 3) := by decide +kernel
theorem dX6_meet_159 : decode cX6_meet 159 = .ok (.iinc 6 1, 3) := by decide +kernel
theorem dX6_meet_162 : decode cX6_meet 162 = .ok (.goto (-120), 3) := by decide +kernel
theorem dX6_meet_165 : decode cX6_meet 165 = .ok (.iload_n 2, 1) := by decide +kernel
theorem dX6_meet_166 : decode cX6_meet 166 = .ok (.ifCond .ne 5, 3) := by decide +kernel
theorem dX6_meet_169 : decode cX6_meet 169 = .ok (.iload_n 3, 1) := by decide +kernel
theorem dX6_meet_170 : decode cX6_meet 170 = .ok (.ireturn, 1) := by decide +kernel
theorem dX6_meet_171 : decode cX6_meet 171 = .ok (.iload_n 2, 1) := by decide +kernel
theorem dX6_meet_172 : decode cX6_meet 172 = .ok (.iconst 1, 1) := by decide +kernel
theorem dX6_meet_173 : decode cX6_meet 173 = .ok (.if_icmp .ne 8, 3) := by decide +kernel
theorem dX6_meet_176 : decode cX6_meet 176 = .ok (.iload 4, 2) := by decide +kernel
theorem dX6_meet_178 : decode cX6_meet 178 = .ok (.goto 5, 3) := by decide +kernel
theorem dX6_meet_181 : decode cX6_meet 181 = .ok (.iload 5, 2) := by decide +kernel
theorem dX6_meet_183 : decode cX6_meet 183 = .ok (.ireturn, 1) := by decide +kernel
theorem dX6_live_0 : decode cX6_live 0 = .ok (.iload_n 1, 1) := by decide +kernel
theorem dX6_live_1 : decode cX6_live 1 = .ok (.aload_n 0, 1) := by decide +kernel
theorem dX6_live_2 : decode cX6_live 2 = .ok (.getfield 38, 3) := by decide +kernel
theorem dX6_live_5 : decode cX6_live 5 = .ok (.getfield 90, 3) := by decide +kernel
theorem dX6_live_8 : decode cX6_live 8 = .ok (.invokestatic 66, 3) := by decide +kernel
theorem dX6_live_11 : decode cX6_live 11 = .ok (.ifCond .eq 6, 3) := by decide +kernel
theorem dX6_live_14 : decode cX6_live 14 = .ok (.bipush (-2), 2) := by decide +kernel
theorem dX6_live_16 : decode cX6_live 16 = .ok (.ireturn, 1) := by decide +kernel
theorem dX6_live_17 : decode cX6_live 17 = .ok (.aload_n 0, 1) := by decide +kernel
theorem dX6_live_18 : decode cX6_live 18 = .ok (.getfield 49, 3) := by decide +kernel
theorem dX6_live_21 : decode cX6_live 21 = .ok (.aload_n 0, 1) := by decide +kernel
theorem dX6_live_22 : decode cX6_live 22 = .ok (.getfield 38, 3) := by decide +kernel
theorem dX6_live_25 : decode cX6_live 25 = .ok (.invokevirtual 177, 3) := by decide +kernel
theorem dX6_live_28 : decode cX6_live 28 = .ok (.iconst 0, 1) := by decide +kernel
theorem dX6_live_29 : decode cX6_live 29 = .ok (.istore_n 2, 1) := by decide +kernel
theorem dX6_live_30 : decode cX6_live 30 = .ok (.iload_n 2, 1) := by decide +kernel
theorem dX6_live_31 : decode cX6_live 31 = .ok (.bipush 24, 2) := by decide +kernel
theorem dX6_live_33 : decode cX6_live 33 = .ok (.if_icmp .ge 60, 3) := by decide +kernel
theorem dX6_live_36 : decode cX6_live 36 = .ok (.aload_n 0, 1) := by decide +kernel
theorem dX6_live_37 : decode cX6_live 37 = .ok (.getfield 49, 3) := by decide +kernel
theorem dX6_live_40 : decode cX6_live 40 = .ok (.getfield 97, 3) := by decide +kernel
theorem dX6_live_43 : decode cX6_live 43 = .ok (.iload_n 1, 1) := by decide +kernel
theorem dX6_live_44 : decode cX6_live 44 = .ok (.iload_n 2, 1) := by decide +kernel
theorem dX6_live_45 : decode cX6_live 45 = .ok (.iastore, 1) := by decide +kernel
theorem dX6_live_46 : decode cX6_live 46 = .ok (.aload_n 0, 1) := by decide +kernel
theorem dX6_live_47 : decode cX6_live 47 = .ok (.getfield 52, 3) := by decide +kernel
theorem dX6_live_50 : decode cX6_live 50 = .ok (.aload_n 0, 1) := by decide +kernel
theorem dX6_live_51 : decode cX6_live 51 = .ok (.getfield 49, 3) := by decide +kernel
theorem dX6_live_54 : decode cX6_live 54 = .ok (.aload_n 0, 1) := by decide +kernel
theorem dX6_live_55 : decode cX6_live 55 = .ok (.getfield 18, 3) := by decide +kernel
theorem dX6_live_58 : decode cX6_live 58 = .ok (.aload_n 0, 1) := by decide +kernel
theorem dX6_live_59 : decode cX6_live 59 = .ok (.getfield 18, 3) := by decide +kernel
theorem dX6_live_62 : decode cX6_live 62 = .ok (.invokevirtual 185, 3) := by decide +kernel
theorem dX6_live_65 : decode cX6_live 65 = .ok (.invokevirtual 188, 3) := by decide +kernel
theorem dX6_live_68 : decode cX6_live 68 = .ok (.aload_n 0, 1) := by decide +kernel
theorem dX6_live_69 : decode cX6_live 69 = .ok (.getfield 52, 3) := by decide +kernel
theorem dX6_live_72 : decode cX6_live 72 = .ok (.aload_n 0, 1) := by decide +kernel
theorem dX6_live_73 : decode cX6_live 73 = .ok (.getfield 49, 3) := by decide +kernel
theorem dX6_live_76 : decode cX6_live 76 = .ok (.bipush 23, 2) := by decide +kernel
theorem dX6_live_78 : decode cX6_live 78 = .ok (.iload_n 1, 1) := by decide +kernel
theorem dX6_live_79 : decode cX6_live 79 = .ok (.invokevirtual 195, 3) := by decide +kernel
theorem dX6_live_82 : decode cX6_live 82 = .ok (.ifCond .ne 5, 3) := by decide +kernel
theorem dX6_live_85 : decode cX6_live 85 = .ok (.iload_n 2, 1) := by decide +kernel
theorem dX6_live_86 : decode cX6_live 86 = .ok (.ireturn, 1) := by decide +kernel
theorem dX6_live_87 : decode cX6_live 87 = .ok (.iinc 2 1, 3) := by decide +kernel
theorem dX6_live_90 : decode cX6_live 90 = .ok (.goto (-60), 3) := by decide +kernel
theorem dX6_live_93 : decode cX6_live 93 = .ok (.iconst (-1), 1) := by decide +kernel
theorem dX6_live_94 : decode cX6_live 94 = .ok (.ireturn, 1) := by decide +kernel
theorem dX6_voice_0 : decode cX6_voice 0 = .ok (.iload_n 1, 1) := by decide +kernel
theorem dX6_voice_1 : decode cX6_voice 1 = .ok (.iconst 2, 1) := by decide +kernel
theorem dX6_voice_2 : decode cX6_voice 2 = .ok (.invokestatic 66, 3) := by decide +kernel
theorem dX6_voice_5 : decode cX6_voice 5 = .ok (.ifCond .eq 6, 3) := by decide +kernel
theorem dX6_voice_8 : decode cX6_voice 8 = .ok (.bipush (-2), 2) := by decide +kernel
theorem dX6_voice_10 : decode cX6_voice 10 = .ok (.ireturn, 1) := by decide +kernel
theorem dX6_voice_11 : decode cX6_voice 11 = .ok (.aload_n 0, 1) := by decide +kernel
theorem dX6_voice_12 : decode cX6_voice 12 = .ok (.getfield 49, 3) := by decide +kernel
theorem dX6_voice_15 : decode cX6_voice 15 = .ok (.aload_n 0, 1) := by decide +kernel
theorem dX6_voice_16 : decode cX6_voice 16 = .ok (.getfield 38, 3) := by decide +kernel
theorem dX6_voice_19 : decode cX6_voice 19 = .ok (.invokevirtual 177, 3) := by decide +kernel
theorem dX6_voice_22 : decode cX6_voice 22 = .ok (.iconst (-1), 1) := by decide +kernel
theorem dX6_voice_23 : decode cX6_voice 23 = .ok (.istore_n 2, 1) := by decide +kernel
theorem dX6_voice_24 : decode cX6_voice 24 = .ok (.iconst (-1), 1) := by decide +kernel
theorem dX6_voice_25 : decode cX6_voice 25 = .ok (.istore_n 3, 1) := by decide +kernel
theorem dX6_voice_26 : decode cX6_voice 26 = .ok (.iconst 0, 1) := by decide +kernel
theorem dX6_voice_27 : decode cX6_voice 27 = .ok (.istore 4, 2) := by decide +kernel
theorem dX6_voice_29 : decode cX6_voice 29 = .ok (.iload 4, 2) := by decide +kernel
theorem dX6_voice_31 : decode cX6_voice 31 = .ok (.aload_n 0, 1) := by decide +kernel
theorem dX6_voice_32 : decode cX6_voice 32 = .ok (.getfield 49, 3) := by decide +kernel
theorem dX6_voice_35 : decode cX6_voice 35 = .ok (.getfield 90, 3) := by decide +kernel
theorem dX6_voice_38 : decode cX6_voice 38 = .ok (.if_icmp .ge 84, 3) := by decide +kernel
theorem dX6_voice_41 : decode cX6_voice 41 = .ok (.aload_n 0, 1) := by decide +kernel
theorem dX6_voice_42 : decode cX6_voice 42 = .ok (.getfield 49, 3) := by decide +kernel
theorem dX6_voice_45 : decode cX6_voice 45 = .ok (.getfield 94, 3) := by decide +kernel
theorem dX6_voice_48 : decode cX6_voice 48 = .ok (.iload 4, 2) := by decide +kernel
theorem dX6_voice_50 : decode cX6_voice 50 = .ok (.iconst 3, 1) := by decide +kernel
theorem dX6_voice_51 : decode cX6_voice 51 = .ok (.iastore, 1) := by decide +kernel
theorem dX6_voice_52 : decode cX6_voice 52 = .ok (.aload_n 0, 1) := by decide +kernel
theorem dX6_voice_53 : decode cX6_voice 53 = .ok (.getfield 52, 3) := by decide +kernel
theorem dX6_voice_56 : decode cX6_voice 56 = .ok (.aload_n 0, 1) := by decide +kernel
theorem dX6_voice_57 : decode cX6_voice 57 = .ok (.getfield 49, 3) := by decide +kernel
theorem dX6_voice_60 : decode cX6_voice 60 = .ok (.aload_n 0, 1) := by decide +kernel
theorem dX6_voice_61 : decode cX6_voice 61 = .ok (.getfield 18, 3) := by decide +kernel
theorem dX6_voice_64 : decode cX6_voice 64 = .ok (.aload_n 0, 1) := by decide +kernel
theorem dX6_voice_65 : decode cX6_voice 65 = .ok (.getfield 18, 3) := by decide +kernel
theorem dX6_voice_68 : decode cX6_voice 68 = .ok (.invokevirtual 185, 3) := by decide +kernel
theorem dX6_voice_71 : decode cX6_voice 71 = .ok (.invokevirtual 188, 3) := by decide +kernel
theorem dX6_voice_74 : decode cX6_voice 74 = .ok (.aload_n 0, 1) := by decide +kernel
theorem dX6_voice_75 : decode cX6_voice 75 = .ok (.getfield 52, 3) := by decide +kernel
theorem dX6_voice_78 : decode cX6_voice 78 = .ok (.iconst 1, 1) := by decide +kernel
theorem dX6_voice_79 : decode cX6_voice 79 = .ok (.invokevirtual 198, 3) := by decide +kernel
theorem dX6_voice_82 : decode cX6_voice 82 = .ok (.istore 5, 2) := by decide +kernel
theorem dX6_voice_84 : decode cX6_voice 84 = .ok (.iload 5, 2) := by decide +kernel
theorem dX6_voice_86 : decode cX6_voice 86 = .ok (.iload_n 3, 1) := by decide +kernel
theorem dX6_voice_87 : decode cX6_voice 87 = .ok (.if_icmp .le 9, 3) := by decide +kernel
theorem dX6_voice_90 : decode cX6_voice 90 = .ok (.iload 5, 2) := by decide +kernel
theorem dX6_voice_92 : decode cX6_voice 92 = .ok (.istore_n 3, 1) := by decide +kernel
theorem dX6_voice_93 : decode cX6_voice 93 = .ok (.iload 4, 2) := by decide +kernel
theorem dX6_voice_95 : decode cX6_voice 95 = .ok (.istore_n 2, 1) := by decide +kernel
theorem dX6_voice_96 : decode cX6_voice 96 = .ok (.aload_n 0, 1) := by decide +kernel
theorem dX6_voice_97 : decode cX6_voice 97 = .ok (.getfield 49, 3) := by decide +kernel
theorem dX6_voice_100 : decode cX6_voice 100 = .ok (.getfield 94, 3) := by decide +kernel
theorem dX6_voice_103 : decode cX6_voice 103 = .ok (.iload 4, 2) := by decide +kernel
theorem dX6_voice_105 : decode cX6_voice 105 = .ok (.aload_n 0, 1) := by decide +kernel
theorem dX6_voice_106 : decode cX6_voice 106 = .ok (.getfield 38, 3) := by decide +kernel
theorem dX6_voice_109 : decode cX6_voice 109 = .ok (.getfield 94, 3) := by decide +kernel
theorem dX6_voice_112 : decode cX6_voice 112 = .ok (.iload 4, 2) := by decide +kernel
theorem dX6_voice_114 : decode cX6_voice 114 = .ok (.iaload, 1) := by decide +kernel
theorem dX6_voice_115 : decode cX6_voice 115 = .ok (.iastore, 1) := by decide +kernel
theorem dX6_voice_116 : decode cX6_voice 116 = .ok (.iinc 4 1, 3) := by decide +kernel
theorem dX6_voice_119 : decode cX6_voice 119 = .ok (.goto (-90), 3) := by decide +kernel
theorem dX6_voice_122 : decode cX6_voice 122 = .ok (.iload_n 1, 1) := by decide +kernel
theorem dX6_voice_123 : decode cX6_voice 123 = .ok (.ifCond .ne 7, 3) := by decide +kernel
theorem dX6_voice_126 : decode cX6_voice 126 = .ok (.iload_n 2, 1) := by decide +kernel
theorem dX6_voice_127 : decode cX6_voice 127 = .ok (.goto 4, 3) := by decide +kernel
theorem dX6_voice_130 : decode cX6_voice 130 = .ok (.iload_n 3, 1) := by decide +kernel
theorem dX6_voice_131 : decode cX6_voice 131 = .ok (.ireturn, 1) := by decide +kernel
theorem dX6_spare_0 : decode cX6_spare 0 = .ok (.iload_n 1, 1) := by decide +kernel
theorem dX6_spare_1 : decode cX6_spare 1 = .ok (.iconst (-1), 1) := by decide +kernel
theorem dX6_spare_2 : decode cX6_spare 2 = .ok (.if_icmp .lt 8, 3) := by decide +kernel
theorem dX6_spare_5 : decode cX6_spare 5 = .ok (.iload_n 1, 1) := by decide +kernel
theorem dX6_spare_6 : decode cX6_spare 6 = .ok (.iconst 1, 1) := by decide +kernel
theorem dX6_spare_7 : decode cX6_spare 7 = .ok (.if_icmp .le 6, 3) := by decide +kernel
theorem dX6_spare_10 : decode cX6_spare 10 = .ok (.bipush (-2), 2) := by decide +kernel
theorem dX6_spare_12 : decode cX6_spare 12 = .ok (.ireturn, 1) := by decide +kernel
theorem dX6_spare_13 : decode cX6_spare 13 = .ok (.aload_n 0, 1) := by decide +kernel
theorem dX6_spare_14 : decode cX6_spare 14 = .ok (.invokevirtual 201, 3) := by decide +kernel
theorem dX6_spare_17 : decode cX6_spare 17 = .ok (.istore_n 2, 1) := by decide +kernel
theorem dX6_spare_18 : decode cX6_spare 18 = .ok (.iload_n 2, 1) := by decide +kernel
theorem dX6_spare_19 : decode cX6_spare 19 = .ok (.iconst (-1), 1) := by decide +kernel
theorem dX6_spare_20 : decode cX6_spare 20 = .ok (.if_icmp .ne 5, 3) := by decide +kernel
theorem dX6_spare_23 : decode cX6_spare 23 = .ok (.iconst (-1), 1) := by decide +kernel
theorem dX6_spare_24 : decode cX6_spare 24 = .ok (.ireturn, 1) := by decide +kernel
theorem dX6_spare_25 : decode cX6_spare 25 = .ok (.iload_n 1, 1) := by decide +kernel
theorem dX6_spare_26 : decode cX6_spare 26 = .ok (.iconst (-1), 1) := by decide +kernel
theorem dX6_spare_27 : decode cX6_spare 27 = .ok (.if_icmp .ne 8, 3) := by decide +kernel
theorem dX6_spare_30 : decode cX6_spare 30 = .ok (.iload_n 2, 1) := by decide +kernel
theorem dX6_spare_31 : decode cX6_spare 31 = .ok (.invokestatic 204, 3) := by decide +kernel
theorem dX6_spare_34 : decode cX6_spare 34 = .ok (.ireturn, 1) := by decide +kernel
theorem dX6_spare_35 : decode cX6_spare 35 = .ok (.iload_n 1, 1) := by decide +kernel
theorem dX6_spare_36 : decode cX6_spare 36 = .ok (.ifCond .ne 7, 3) := by decide +kernel
theorem dX6_spare_39 : decode cX6_spare 39 = .ok (.iload_n 2, 1) := by decide +kernel
theorem dX6_spare_40 : decode cX6_spare 40 = .ok (.goto 8, 3) := by decide +kernel
theorem dX6_spare_43 : decode cX6_spare 43 = .ok (.iload_n 2, 1) := by decide +kernel
theorem dX6_spare_44 : decode cX6_spare 44 = .ok (.iload_n 2, 1) := by decide +kernel
theorem dX6_spare_45 : decode cX6_spare 45 = .ok (.iconst 1, 1) := by decide +kernel
theorem dX6_spare_46 : decode cX6_spare 46 = .ok (.isub, 1) := by decide +kernel
theorem dX6_spare_47 : decode cX6_spare 47 = .ok (.iand, 1) := by decide +kernel
theorem dX6_spare_48 : decode cX6_spare 48 = .ok (.invokestatic 209, 3) := by decide +kernel
theorem dX6_spare_51 : decode cX6_spare 51 = .ok (.ireturn, 1) := by decide +kernel
theorem dX6_tally_0 : decode cX6_tally 0 = .ok (.iload_n 1, 1) := by decide +kernel
theorem dX6_tally_1 : decode cX6_tally 1 = .ok (.bipush 24, 2) := by decide +kernel
theorem dX6_tally_3 : decode cX6_tally 3 = .ok (.invokestatic 66, 3) := by decide +kernel
theorem dX6_tally_6 : decode cX6_tally 6 = .ok (.ifCond .ne 21, 3) := by decide +kernel
theorem dX6_tally_9 : decode cX6_tally 9 = .ok (.iload_n 2, 1) := by decide +kernel
theorem dX6_tally_10 : decode cX6_tally 10 = .ok (.bipush 12, 2) := by decide +kernel
theorem dX6_tally_12 : decode cX6_tally 12 = .ok (.invokestatic 66, 3) := by decide +kernel
theorem dX6_tally_15 : decode cX6_tally 15 = .ok (.ifCond .ne 12, 3) := by decide +kernel
theorem dX6_tally_18 : decode cX6_tally 18 = .ok (.iload_n 3, 1) := by decide +kernel
theorem dX6_tally_19 : decode cX6_tally 19 = .ok (.bipush 10, 2) := by decide +kernel
theorem dX6_tally_21 : decode cX6_tally 21 = .ok (.invokestatic 66, 3) := by decide +kernel
theorem dX6_tally_24 : decode cX6_tally 24 = .ok (.ifCond .eq 6, 3) := by decide +kernel
theorem dX6_tally_27 : decode cX6_tally 27 = .ok (.bipush (-2), 2) := by decide +kernel
theorem dX6_tally_29 : decode cX6_tally 29 = .ok (.ireturn, 1) := by decide +kernel
theorem dX6_tally_30 : decode cX6_tally 30 = .ok (.aload_n 0, 1) := by decide +kernel
theorem dX6_tally_31 : decode cX6_tally 31 = .ok (.getfield 25, 3) := by decide +kernel
theorem dX6_tally_34 : decode cX6_tally 34 = .ok (.getfield 212, 3) := by decide +kernel
theorem dX6_tally_37 : decode cX6_tally 37 = .ok (.bipush 8, 2) := by decide +kernel
theorem dX6_tally_39 : decode cX6_tally 39 = .ok (.if_icmp .ne 6, 3) := by decide +kernel
theorem dX6_tally_42 : decode cX6_tally 42 = .ok (.bipush (-4), 2) := by decide +kernel
theorem dX6_tally_44 : decode cX6_tally 44 = .ok (.ireturn, 1) := by decide +kernel
theorem dX6_tally_45 : decode cX6_tally 45 = .ok (.aload_n 0, 1) := by decide +kernel
theorem dX6_tally_46 : decode cX6_tally 46 = .ok (.getfield 25, 3) := by decide +kernel
theorem dX6_tally_49 : decode cX6_tally 49 = .ok (.iload_n 1, 1) := by decide +kernel
theorem dX6_tally_50 : decode cX6_tally 50 = .ok (.iload_n 2, 1) := by decide +kernel
theorem dX6_tally_51 : decode cX6_tally 51 = .ok (.iload_n 3, 1) := by decide +kernel
theorem dX6_tally_52 : decode cX6_tally 52 = .ok (.invokevirtual 213, 3) := by decide +kernel
theorem dX6_tally_55 : decode cX6_tally 55 = .ok (.aload_n 0, 1) := by decide +kernel
theorem dX6_tally_56 : decode cX6_tally 56 = .ok (.getfield 25, 3) := by decide +kernel
theorem dX6_tally_59 : decode cX6_tally 59 = .ok (.getfield 212, 3) := by decide +kernel
theorem dX6_tally_62 : decode cX6_tally 62 = .ok (.ireturn, 1) := by decide +kernel
theorem dX6_forget_0 : decode cX6_forget 0 = .ok (.aload_n 0, 1) := by decide +kernel
theorem dX6_forget_1 : decode cX6_forget 1 = .ok (.getfield 25, 3) := by decide +kernel
theorem dX6_forget_4 : decode cX6_forget 4 = .ok (.getfield 212, 3) := by decide +kernel
theorem dX6_forget_7 : decode cX6_forget 7 = .ok (.istore_n 1, 1) := by decide +kernel
theorem dX6_forget_8 : decode cX6_forget 8 = .ok (.aload_n 0, 1) := by decide +kernel
theorem dX6_forget_9 : decode cX6_forget 9 = .ok (.getfield 25, 3) := by decide +kernel
theorem dX6_forget_12 : decode cX6_forget 12 = .ok (.iconst 0, 1) := by decide +kernel
theorem dX6_forget_13 : decode cX6_forget 13 = .ok (.putfield 212, 3) := by decide +kernel
theorem dX6_forget_16 : decode cX6_forget 16 = .ok (.iload_n 1, 1) := by decide +kernel
theorem dX6_forget_17 : decode cX6_forget 17 = .ok (.ireturn, 1) := by decide +kernel
theorem dX6_never_0 : decode cX6_never 0 = .ok (.iconst 0, 1) := by decide +kernel
theorem dX6_never_1 : decode cX6_never 1 = .ok (.istore_n 1, 1) := by decide +kernel
theorem dX6_never_2 : decode cX6_never 2 = .ok (.iconst 0, 1) := by decide +kernel
theorem dX6_never_3 : decode cX6_never 3 = .ok (.istore_n 2, 1) := by decide +kernel
theorem dX6_never_4 : decode cX6_never 4 = .ok (.iload_n 2, 1) := by decide +kernel
theorem dX6_never_5 : decode cX6_never 5 = .ok (.aload_n 0, 1) := by decide +kernel
theorem dX6_never_6 : decode cX6_never 6 = .ok (.getfield 18, 3) := by decide +kernel
theorem dX6_never_9 : decode cX6_never 9 = .ok (.getfield 134, 3) := by decide +kernel
theorem dX6_never_12 : decode cX6_never 12 = .ok (.if_icmp .ge 57, 3) := by decide +kernel
theorem dX6_never_15 : decode cX6_never 15 = .ok (.aload_n 0, 1) := by decide +kernel
theorem dX6_never_16 : decode cX6_never 16 = .ok (.getfield 52, 3) := by decide +kernel
theorem dX6_never_19 : decode cX6_never 19 = .ok (.aload_n 0, 1) := by decide +kernel
theorem dX6_never_20 : decode cX6_never 20 = .ok (.getfield 38, 3) := by decide +kernel
theorem dX6_never_23 : decode cX6_never 23 = .ok (.aload_n 0, 1) := by decide +kernel
theorem dX6_never_24 : decode cX6_never 24 = .ok (.getfield 18, 3) := by decide +kernel
theorem dX6_never_27 : decode cX6_never 27 = .ok (.aload_n 0, 1) := by decide +kernel
theorem dX6_never_28 : decode cX6_never 28 = .ok (.getfield 18, 3) := by decide +kernel
theorem dX6_never_31 : decode cX6_never 31 = .ok (.invokevirtual 185, 3) := by decide +kernel
theorem dX6_never_34 : decode cX6_never 34 = .ok (.iconst 1, 1) := by decide +kernel
theorem dX6_never_35 : decode cX6_never 35 = .ok (.iload_n 2, 1) := by decide +kernel
theorem dX6_never_36 : decode cX6_never 36 = .ok (.ishl, 1) := by decide +kernel
theorem dX6_never_37 : decode cX6_never 37 = .ok (.iconst (-1), 1) := by decide +kernel
theorem dX6_never_38 : decode cX6_never 38 = .ok (.ixor, 1) := by decide +kernel
theorem dX6_never_39 : decode cX6_never 39 = .ok (.iand, 1) := by decide +kernel
theorem dX6_never_40 : decode cX6_never 40 = .ok (.invokevirtual 188, 3) := by decide +kernel
theorem dX6_never_43 : decode cX6_never 43 = .ok (.aload_n 0, 1) := by decide +kernel
theorem dX6_never_44 : decode cX6_never 44 = .ok (.getfield 25, 3) := by decide +kernel
theorem dX6_never_47 : decode cX6_never 47 = .ok (.aload_n 0, 1) := by decide +kernel
theorem dX6_never_48 : decode cX6_never 48 = .ok (.getfield 52, 3) := by decide +kernel
theorem dX6_never_51 : decode cX6_never 51 = .ok (.invokevirtual 215, 3) := by decide +kernel
theorem dX6_never_54 : decode cX6_never 54 = .ok (.ifCond .eq 9, 3) := by decide +kernel
theorem dX6_never_57 : decode cX6_never 57 = .ok (.iload_n 1, 1) := by decide +kernel
theorem dX6_never_58 : decode cX6_never 58 = .ok (.iconst 1, 1) := by decide +kernel
theorem dX6_never_59 : decode cX6_never 59 = .ok (.iload_n 2, 1) := by decide +kernel
theorem dX6_never_60 : decode cX6_never 60 = .ok (.ishl, 1) := by decide +kernel
theorem dX6_never_61 : decode cX6_never 61 = .ok (.ior, 1) := by decide +kernel
theorem dX6_never_62 : decode cX6_never 62 = .ok (.istore_n 1, 1) := by decide +kernel
theorem dX6_never_63 : decode cX6_never 63 = .ok (.iinc 2 1, 3) := by decide +kernel
theorem dX6_never_66 : decode cX6_never 66 = .ok (.goto (-62), 3) := by decide +kernel
theorem dX6_never_69 : decode cX6_never 69 = .ok (.iload_n 1, 1) := by decide +kernel
theorem dX6_never_70 : decode cX6_never 70 = .ok (.ireturn, 1) := by decide +kernel
theorem dX6_sort_0 : decode cX6_sort 0 = .ok (.iload_n 1, 1) := by decide +kernel
theorem dX6_sort_1 : decode cX6_sort 1 = .ok (.aload_n 0, 1) := by decide +kernel
theorem dX6_sort_2 : decode cX6_sort 2 = .ok (.getfield 38, 3) := by decide +kernel
theorem dX6_sort_5 : decode cX6_sort 5 = .ok (.getfield 90, 3) := by decide +kernel
theorem dX6_sort_8 : decode cX6_sort 8 = .ok (.invokestatic 66, 3) := by decide +kernel
theorem dX6_sort_11 : decode cX6_sort 11 = .ok (.ifCond .eq 6, 3) := by decide +kernel
theorem dX6_sort_14 : decode cX6_sort 14 = .ok (.bipush (-2), 2) := by decide +kernel
theorem dX6_sort_16 : decode cX6_sort 16 = .ok (.ireturn, 1) := by decide +kernel
theorem dX6_sort_17 : decode cX6_sort 17 = .ok (.aload_n 0, 1) := by decide +kernel
theorem dX6_sort_18 : decode cX6_sort 18 = .ok (.getfield 49, 3) := by decide +kernel
theorem dX6_sort_21 : decode cX6_sort 21 = .ok (.aload_n 0, 1) := by decide +kernel
theorem dX6_sort_22 : decode cX6_sort 22 = .ok (.getfield 38, 3) := by decide +kernel
theorem dX6_sort_25 : decode cX6_sort 25 = .ok (.invokevirtual 177, 3) := by decide +kernel
theorem dX6_sort_28 : decode cX6_sort 28 = .ok (.iconst 0, 1) := by decide +kernel
theorem dX6_sort_29 : decode cX6_sort 29 = .ok (.istore_n 2, 1) := by decide +kernel
theorem dX6_sort_30 : decode cX6_sort 30 = .ok (.iconst 0, 1) := by decide +kernel
theorem dX6_sort_31 : decode cX6_sort 31 = .ok (.istore_n 3, 1) := by decide +kernel
theorem dX6_sort_32 : decode cX6_sort 32 = .ok (.iload_n 3, 1) := by decide +kernel
theorem dX6_sort_33 : decode cX6_sort 33 = .ok (.iconst 4, 1) := by decide +kernel
theorem dX6_sort_34 : decode cX6_sort 34 = .ok (.if_icmp .ge 61, 3) := by decide +kernel
theorem dX6_sort_37 : decode cX6_sort 37 = .ok (.aload_n 0, 1) := by decide +kernel
theorem dX6_sort_38 : decode cX6_sort 38 = .ok (.getfield 49, 3) := by decide +kernel
theorem dX6_sort_41 : decode cX6_sort 41 = .ok (.getfield 94, 3) := by decide +kernel
theorem dX6_sort_44 : decode cX6_sort 44 = .ok (.iload_n 1, 1) := by decide +kernel
theorem dX6_sort_45 : decode cX6_sort 45 = .ok (.iload_n 3, 1) := by decide +kernel
theorem dX6_sort_46 : decode cX6_sort 46 = .ok (.iastore, 1) := by decide +kernel
theorem dX6_sort_47 : decode cX6_sort 47 = .ok (.aload_n 0, 1) := by decide +kernel
theorem dX6_sort_48 : decode cX6_sort 48 = .ok (.getfield 52, 3) := by decide +kernel
theorem dX6_sort_51 : decode cX6_sort 51 = .ok (.aload_n 0, 1) := by decide +kernel
theorem dX6_sort_52 : decode cX6_sort 52 = .ok (.getfield 49, 3) := by decide +kernel
theorem dX6_sort_55 : decode cX6_sort 55 = .ok (.aload_n 0, 1) := by decide +kernel
theorem dX6_sort_56 : decode cX6_sort 56 = .ok (.getfield 18, 3) := by decide +kernel
theorem dX6_sort_59 : decode cX6_sort 59 = .ok (.aload_n 0, 1) := by decide +kernel
theorem dX6_sort_60 : decode cX6_sort 60 = .ok (.getfield 18, 3) := by decide +kernel
theorem dX6_sort_63 : decode cX6_sort 63 = .ok (.invokevirtual 185, 3) := by decide +kernel
theorem dX6_sort_66 : decode cX6_sort 66 = .ok (.invokevirtual 188, 3) := by decide +kernel
theorem dX6_sort_69 : decode cX6_sort 69 = .ok (.aload_n 0, 1) := by decide +kernel
theorem dX6_sort_70 : decode cX6_sort 70 = .ok (.getfield 25, 3) := by decide +kernel
theorem dX6_sort_73 : decode cX6_sort 73 = .ok (.aload_n 0, 1) := by decide +kernel
theorem dX6_sort_74 : decode cX6_sort 74 = .ok (.getfield 52, 3) := by decide +kernel
theorem dX6_sort_77 : decode cX6_sort 77 = .ok (.invokevirtual 215, 3) := by decide +kernel
theorem dX6_sort_80 : decode cX6_sort 80 = .ok (.ifCond .eq 9, 3) := by decide +kernel
theorem dX6_sort_83 : decode cX6_sort 83 = .ok (.iload_n 2, 1) := by decide +kernel
theorem dX6_sort_84 : decode cX6_sort 84 = .ok (.iconst 1, 1) := by decide +kernel
theorem dX6_sort_85 : decode cX6_sort 85 = .ok (.iload_n 3, 1) := by decide +kernel
theorem dX6_sort_86 : decode cX6_sort 86 = .ok (.ishl, 1) := by decide +kernel
theorem dX6_sort_87 : decode cX6_sort 87 = .ok (.ior, 1) := by decide +kernel
theorem dX6_sort_88 : decode cX6_sort 88 = .ok (.istore_n 2, 1) := by decide +kernel
theorem dX6_sort_89 : decode cX6_sort 89 = .ok (.iinc 3 1, 3) := by decide +kernel
theorem dX6_sort_92 : decode cX6_sort 92 = .ok (.goto (-60), 3) := by decide +kernel
theorem dX6_sort_95 : decode cX6_sort 95 = .ok (.iload_n 2, 1) := by decide +kernel
theorem dX6_sort_96 : decode cX6_sort 96 = .ok (.ireturn, 1) := by decide +kernel
theorem dX6_lent_0 : decode cX6_lent 0 = .ok (.iload_n 1, 1) := by decide +kernel
theorem dX6_lent_1 : decode cX6_lent 1 = .ok (.aload_n 0, 1) := by decide +kernel
theorem dX6_lent_2 : decode cX6_lent 2 = .ok (.getfield 38, 3) := by decide +kernel
theorem dX6_lent_5 : decode cX6_lent 5 = .ok (.getfield 100, 3) := by decide +kernel
theorem dX6_lent_8 : decode cX6_lent 8 = .ok (.invokestatic 66, 3) := by decide +kernel
theorem dX6_lent_11 : decode cX6_lent 11 = .ok (.ifCond .eq 6, 3) := by decide +kernel
theorem dX6_lent_14 : decode cX6_lent 14 = .ok (.bipush (-2), 2) := by decide +kernel
theorem dX6_lent_16 : decode cX6_lent 16 = .ok (.ireturn, 1) := by decide +kernel
theorem dX6_lent_17 : decode cX6_lent 17 = .ok (.aload_n 0, 1) := by decide +kernel
theorem dX6_lent_18 : decode cX6_lent 18 = .ok (.getfield 49, 3) := by decide +kernel
theorem dX6_lent_21 : decode cX6_lent 21 = .ok (.aload_n 0, 1) := by decide +kernel
theorem dX6_lent_22 : decode cX6_lent 22 = .ok (.getfield 38, 3) := by decide +kernel
theorem dX6_lent_25 : decode cX6_lent 25 = .ok (.invokevirtual 177, 3) := by decide +kernel
theorem dX6_lent_28 : decode cX6_lent 28 = .ok (.iconst 0, 1) := by decide +kernel
theorem dX6_lent_29 : decode cX6_lent 29 = .ok (.istore_n 2, 1) := by decide +kernel
theorem dX6_lent_30 : decode cX6_lent 30 = .ok (.iconst 1, 1) := by decide +kernel
theorem dX6_lent_31 : decode cX6_lent 31 = .ok (.istore_n 3, 1) := by decide +kernel
theorem dX6_lent_32 : decode cX6_lent 32 = .ok (.iload_n 3, 1) := by decide +kernel
theorem dX6_lent_33 : decode cX6_lent 33 = .ok (.bipush 9, 2) := by decide +kernel
theorem dX6_lent_35 : decode cX6_lent 35 = .ok (.if_icmp .gt 61, 3) := by decide +kernel
theorem dX6_lent_38 : decode cX6_lent 38 = .ok (.aload_n 0, 1) := by decide +kernel
theorem dX6_lent_39 : decode cX6_lent 39 = .ok (.getfield 49, 3) := by decide +kernel
theorem dX6_lent_42 : decode cX6_lent 42 = .ok (.getfield 109, 3) := by decide +kernel
theorem dX6_lent_45 : decode cX6_lent 45 = .ok (.iload_n 1, 1) := by decide +kernel
theorem dX6_lent_46 : decode cX6_lent 46 = .ok (.iload_n 3, 1) := by decide +kernel
theorem dX6_lent_47 : decode cX6_lent 47 = .ok (.iastore, 1) := by decide +kernel
theorem dX6_lent_48 : decode cX6_lent 48 = .ok (.aload_n 0, 1) := by decide +kernel
theorem dX6_lent_49 : decode cX6_lent 49 = .ok (.getfield 52, 3) := by decide +kernel
theorem dX6_lent_52 : decode cX6_lent 52 = .ok (.aload_n 0, 1) := by decide +kernel
theorem dX6_lent_53 : decode cX6_lent 53 = .ok (.getfield 49, 3) := by decide +kernel
theorem dX6_lent_56 : decode cX6_lent 56 = .ok (.aload_n 0, 1) := by decide +kernel
theorem dX6_lent_57 : decode cX6_lent 57 = .ok (.getfield 18, 3) := by decide +kernel
theorem dX6_lent_60 : decode cX6_lent 60 = .ok (.aload_n 0, 1) := by decide +kernel
theorem dX6_lent_61 : decode cX6_lent 61 = .ok (.getfield 18, 3) := by decide +kernel
theorem dX6_lent_64 : decode cX6_lent 64 = .ok (.invokevirtual 185, 3) := by decide +kernel
theorem dX6_lent_67 : decode cX6_lent 67 = .ok (.invokevirtual 188, 3) := by decide +kernel
theorem dX6_lent_70 : decode cX6_lent 70 = .ok (.aload_n 0, 1) := by decide +kernel
theorem dX6_lent_71 : decode cX6_lent 71 = .ok (.getfield 25, 3) := by decide +kernel
theorem dX6_lent_74 : decode cX6_lent 74 = .ok (.aload_n 0, 1) := by decide +kernel
theorem dX6_lent_75 : decode cX6_lent 75 = .ok (.getfield 52, 3) := by decide +kernel
theorem dX6_lent_78 : decode cX6_lent 78 = .ok (.invokevirtual 215, 3) := by decide +kernel
theorem dX6_lent_81 : decode cX6_lent 81 = .ok (.ifCond .eq 9, 3) := by decide +kernel
theorem dX6_lent_84 : decode cX6_lent 84 = .ok (.iload_n 2, 1) := by decide +kernel
theorem dX6_lent_85 : decode cX6_lent 85 = .ok (.iconst 1, 1) := by decide +kernel
theorem dX6_lent_86 : decode cX6_lent 86 = .ok (.iload_n 3, 1) := by decide +kernel
theorem dX6_lent_87 : decode cX6_lent 87 = .ok (.ishl, 1) := by decide +kernel
theorem dX6_lent_88 : decode cX6_lent 88 = .ok (.ior, 1) := by decide +kernel
theorem dX6_lent_89 : decode cX6_lent 89 = .ok (.istore_n 2, 1) := by decide +kernel
theorem dX6_lent_90 : decode cX6_lent 90 = .ok (.iinc 3 1, 3) := by decide +kernel
theorem dX6_lent_93 : decode cX6_lent 93 = .ok (.goto (-61), 3) := by decide +kernel
theorem dX6_lent_96 : decode cX6_lent 96 = .ok (.iload_n 2, 1) := by decide +kernel
theorem dX6_lent_97 : decode cX6_lent 97 = .ok (.ireturn, 1) := by decide +kernel
theorem dX6_ask_0 : decode cX6_ask 0 = .ok (.iload_n 1, 1) := by decide +kernel
theorem dX6_ask_1 : decode cX6_ask 1 = .ok (.aload_n 0, 1) := by decide +kernel
theorem dX6_ask_2 : decode cX6_ask 2 = .ok (.getfield 38, 3) := by decide +kernel
theorem dX6_ask_5 : decode cX6_ask 5 = .ok (.getfield 100, 3) := by decide +kernel
theorem dX6_ask_8 : decode cX6_ask 8 = .ok (.invokestatic 66, 3) := by decide +kernel
theorem dX6_ask_11 : decode cX6_ask 11 = .ok (.ifCond .eq 6, 3) := by decide +kernel
theorem dX6_ask_14 : decode cX6_ask 14 = .ok (.bipush (-2), 2) := by decide +kernel
theorem dX6_ask_16 : decode cX6_ask 16 = .ok (.ireturn, 1) := by decide +kernel
theorem dX6_ask_17 : decode cX6_ask 17 = .ok (.aload_n 0, 1) := by decide +kernel
theorem dX6_ask_18 : decode cX6_ask 18 = .ok (.iload_n 1, 1) := by decide +kernel
theorem dX6_ask_19 : decode cX6_ask 19 = .ok (.invokevirtual 219, 3) := by decide +kernel
theorem dX6_ask_22 : decode cX6_ask 22 = .ok (.iconst 0, 1) := by decide +kernel
theorem dX6_ask_23 : decode cX6_ask 23 = .ok (.istore_n 2, 1) := by decide +kernel
theorem dX6_ask_24 : decode cX6_ask 24 = .ok (.aload_n 0, 1) := by decide +kernel
theorem dX6_ask_25 : decode cX6_ask 25 = .ok (.iconst 0, 1) := by decide +kernel
theorem dX6_ask_26 : decode cX6_ask 26 = .ok (.invokevirtual 222, 3) := by decide +kernel
theorem dX6_ask_29 : decode cX6_ask 29 = .ok (.istore_n 3, 1) := by decide +kernel
theorem dX6_ask_30 : decode cX6_ask 30 = .ok (.iconst 1, 1) := by decide +kernel
theorem dX6_ask_31 : decode cX6_ask 31 = .ok (.istore 4, 2) := by decide +kernel
theorem dX6_ask_33 : decode cX6_ask 33 = .ok (.iload 4, 2) := by decide +kernel
theorem dX6_ask_35 : decode cX6_ask 35 = .ok (.bipush 24, 2) := by decide +kernel
theorem dX6_ask_37 : decode cX6_ask 37 = .ok (.if_icmp .ge 29, 3) := by decide +kernel
theorem dX6_ask_40 : decode cX6_ask 40 = .ok (.aload_n 0, 1) := by decide +kernel
theorem dX6_ask_41 : decode cX6_ask 41 = .ok (.iload 4, 2) := by decide +kernel
theorem dX6_ask_43 : decode cX6_ask 43 = .ok (.invokevirtual 222, 3) := by decide +kernel
theorem dX6_ask_46 : decode cX6_ask 46 = .ok (.istore 5, 2) := by decide +kernel
theorem dX6_ask_48 : decode cX6_ask 48 = .ok (.iload 5, 2) := by decide +kernel
theorem dX6_ask_50 : decode cX6_ask 50 = .ok (.iload_n 3, 1) := by decide +kernel
theorem dX6_ask_51 : decode cX6_ask 51 = .ok (.if_icmp .ge 9, 3) := by decide +kernel
theorem dX6_ask_54 : decode cX6_ask 54 = .ok (.iload 5, 2) := by decide +kernel
theorem dX6_ask_56 : decode cX6_ask 56 = .ok (.istore_n 3, 1) := by decide +kernel
theorem dX6_ask_57 : decode cX6_ask 57 = .ok (.iload 4, 2) := by decide +kernel
theorem dX6_ask_59 : decode cX6_ask 59 = .ok (.istore_n 2, 1) := by decide +kernel
theorem dX6_ask_60 : decode cX6_ask 60 = .ok (.iinc 4 1, 3) := by decide +kernel
theorem dX6_ask_63 : decode cX6_ask 63 = .ok (.goto (-30), 3) := by decide +kernel
theorem dX6_ask_66 : decode cX6_ask 66 = .ok (.iload_n 2, 1) := by decide +kernel
theorem dX6_ask_67 : decode cX6_ask 67 = .ok (.ireturn, 1) := by decide +kernel
theorem dX6_chance_0 : decode cX6_chance 0 = .ok (.iload_n 1, 1) := by decide +kernel
theorem dX6_chance_1 : decode cX6_chance 1 = .ok (.bipush 17, 2) := by decide +kernel
theorem dX6_chance_3 : decode cX6_chance 3 = .ok (.invokestatic 66, 3) := by decide +kernel
theorem dX6_chance_6 : decode cX6_chance 6 = .ok (.ifCond .ne 25, 3) := by decide +kernel
theorem dX6_chance_9 : decode cX6_chance 9 = .ok (.iload_n 2, 1) := by decide +kernel
theorem dX6_chance_10 : decode cX6_chance 10 = .ok (.aload_n 0, 1) := by decide +kernel
theorem dX6_chance_11 : decode cX6_chance 11 = .ok (.getfield 38, 3) := by decide +kernel
theorem dX6_chance_14 : decode cX6_chance 14 = .ok (.getfield 100, 3) := by decide +kernel
theorem dX6_chance_17 : decode cX6_chance 17 = .ok (.invokestatic 66, 3) := by decide +kernel
theorem dX6_chance_20 : decode cX6_chance 20 = .ok (.ifCond .ne 11, 3) := by decide +kernel
theorem dX6_chance_23 : decode cX6_chance 23 = .ok (.iload_n 3, 1) := by decide +kernel
theorem dX6_chance_24 : decode cX6_chance 24 = .ok (.iconst 2, 1) := by decide +kernel
theorem dX6_chance_25 : decode cX6_chance 25 = .ok (.invokestatic 66, 3) := by decide +kernel
theorem dX6_chance_28 : decode cX6_chance 28 = .ok (.ifCond .eq 7, 3) := by decide +kernel
theorem dX6_chance_31 : decode cX6_chance 31 = .ok (.ldc2_w 227, 3) := by decide +kernel
theorem dX6_chance_34 : decode cX6_chance 34 = .ok (.lreturn, 1) := by decide +kernel
theorem dX6_chance_35 : decode cX6_chance 35 = .ok (.aload_n 0, 1) := by decide +kernel
theorem dX6_chance_36 : decode cX6_chance 36 = .ok (.invokevirtual 229, 3) := by decide +kernel
theorem dX6_chance_39 : decode cX6_chance 39 = .ok (.iconst 4, 1) := by decide +kernel
theorem dX6_chance_40 : decode cX6_chance 40 = .ok (.aload_n 0, 1) := by decide +kernel
theorem dX6_chance_41 : decode cX6_chance 41 = .ok (.getfield 18, 3) := by decide +kernel
theorem dX6_chance_44 : decode cX6_chance 44 = .ok (.getfield 134, 3) := by decide +kernel
theorem dX6_chance_47 : decode cX6_chance 47 = .ok (.imul, 1) := by decide +kernel
theorem dX6_chance_48 : decode cX6_chance 48 = .ok (.istore 4, 2) := by decide +kernel
theorem dX6_chance_50 : decode cX6_chance 50 = .ok (.lconst 0, 1) := by decide +kernel
theorem dX6_chance_51 : decode cX6_chance 51 = .ok (.lstore 5, 2) := by decide +kernel
theorem dX6_chance_53 : decode cX6_chance 53 = .ok (.iconst 0, 1) := by decide +kernel
theorem dX6_chance_54 : decode cX6_chance 54 = .ok (.istore 7, 2) := by decide +kernel
theorem dX6_chance_56 : decode cX6_chance 56 = .ok (.iload 7, 2) := by decide +kernel
theorem dX6_chance_58 : decode cX6_chance 58 = .ok (.aload_n 0, 1) := by decide +kernel
theorem dX6_chance_59 : decode cX6_chance 59 = .ok (.getfield 18, 3) := by decide +kernel
theorem dX6_chance_62 : decode cX6_chance 62 = .ok (.getfield 134, 3) := by decide +kernel
theorem dX6_chance_65 : decode cX6_chance 65 = .ok (.if_icmp .gt 58, 3) := by decide +kernel
theorem dX6_chance_68 : decode cX6_chance 68 = .ok (.aload_n 0, 1) := by decide +kernel
theorem dX6_chance_69 : decode cX6_chance 69 = .ok (.getfield 59, 3) := by decide +kernel
theorem dX6_chance_72 : decode cX6_chance 72 = .ok (.iload_n 2, 1) := by decide +kernel
theorem dX6_chance_73 : decode cX6_chance 73 = .ok (.bipush 9, 2) := by decide +kernel
theorem dX6_chance_75 : decode cX6_chance 75 = .ok (.imul, 1) := by decide +kernel
theorem dX6_chance_76 : decode cX6_chance 76 = .ok (.iload 7, 2) := by decide +kernel
theorem dX6_chance_78 : decode cX6_chance 78 = .ok (.iadd, 1) := by decide +kernel
theorem dX6_chance_79 : decode cX6_chance 79 = .ok (.iaload, 1) := by decide +kernel
theorem dX6_chance_80 : decode cX6_chance 80 = .ok (.i2l, 1) := by decide +kernel
theorem dX6_chance_81 : decode cX6_chance 81 = .ok (.lstore 8, 2) := by decide +kernel
theorem dX6_chance_83 : decode cX6_chance 83 = .ok (.lload 5, 2) := by decide +kernel
theorem dX6_chance_85 : decode cX6_chance 85 = .ok (.lload 8, 2) := by decide +kernel
theorem dX6_chance_87 : decode cX6_chance 87 = .ok (.iload_n 1, 1) := by decide +kernel
theorem dX6_chance_88 : decode cX6_chance 88 = .ok (.i2l, 1) := by decide +kernel
theorem dX6_chance_89 : decode cX6_chance 89 = .ok (.iload 7, 2) := by decide +kernel
theorem dX6_chance_91 : decode cX6_chance 91 = .ok (.invokestatic 232, 3) := by decide +kernel
theorem dX6_chance_94 : decode cX6_chance 94 = .ok (.lmul, 1) := by decide +kernel
theorem dX6_chance_95 : decode cX6_chance 95 = .ok (.bipush 16, 2) := by decide +kernel
theorem dX6_chance_97 : decode cX6_chance 97 = .ok (.iload_n 1, 1) := by decide +kernel
theorem dX6_chance_98 : decode cX6_chance 98 = .ok (.isub, 1) := by decide +kernel
theorem dX6_chance_99 : decode cX6_chance 99 = .ok (.i2l, 1) := by decide +kernel
theorem dX6_chance_100 : decode cX6_chance 100 = .ok (.aload_n 0, 1) := by decide +kernel
theorem dX6_chance_101 : decode cX6_chance 101 = .ok (.getfield 18, 3) := by decide +kernel
theorem dX6_chance_104 : decode cX6_chance 104 = .ok (.getfield 134, 3) := by decide +kernel
theorem dX6_chance_107 : decode cX6_chance 107 = .ok (.iload 7, 2) := by decide +kernel
theorem dX6_chance_109 : decode cX6_chance 109 = .ok (.isub, 1) := by decide +kernel
theorem dX6_chance_110 : decode cX6_chance 110 = .ok (.invokestatic 232, 3) := by decide +kernel
theorem dX6_chance_113 : decode cX6_chance 113 = .ok (.lmul, 1) := by decide +kernel
theorem dX6_chance_114 : decode cX6_chance 114 = .ok (.ladd, 1) := by decide +kernel
theorem dX6_chance_115 : decode cX6_chance 115 = .ok (.lstore 5, 2) := by decide +kernel
theorem dX6_chance_117 : decode cX6_chance 117 = .ok (.iinc 7 1, 3) := by decide +kernel
theorem dX6_chance_120 : decode cX6_chance 120 = .ok (.goto (-64), 3) := by decide +kernel
theorem dX6_chance_123 : decode cX6_chance 123 = .ok (.lconst 1, 1) := by decide +kernel
theorem dX6_chance_124 : decode cX6_chance 124 = .ok (.iload 4, 2) := by decide +kernel
theorem dX6_chance_126 : decode cX6_chance 126 = .ok (.lshl, 1) := by decide +kernel
theorem dX6_chance_127 : decode cX6_chance 127 = .ok (.lstore 7, 2) := by decide +kernel
theorem dX6_chance_129 : decode cX6_chance 129 = .ok (.iconst 0, 1) := by decide +kernel
theorem dX6_chance_130 : decode cX6_chance 130 = .ok (.istore 9, 2) := by decide +kernel
theorem dX6_chance_132 : decode cX6_chance 132 = .ok (.iload 9, 2) := by decide +kernel
theorem dX6_chance_134 : decode cX6_chance 134 = .ok (.iload 4, 2) := by decide +kernel
theorem dX6_chance_136 : decode cX6_chance 136 = .ok (.if_icmp .ge 30, 3) := by decide +kernel
theorem dX6_chance_139 : decode cX6_chance 139 = .ok (.lload 5, 2) := by decide +kernel
theorem dX6_chance_141 : decode cX6_chance 141 = .ok (.lconst 1, 1) := by decide +kernel
theorem dX6_chance_142 : decode cX6_chance 142 = .ok (.land, 1) := by decide +kernel
theorem dX6_chance_143 : decode cX6_chance 143 = .ok (.lconst 0, 1) := by decide +kernel
theorem dX6_chance_144 : decode cX6_chance 144 = .ok (.lcmp, 1) := by decide +kernel
theorem dX6_chance_145 : decode cX6_chance 145 = .ok (.ifCond .ne 21, 3) := by decide +kernel
theorem dX6_chance_148 : decode cX6_chance 148 = .ok (.lload 5, 2) := by decide +kernel
theorem dX6_chance_150 : decode cX6_chance 150 = .ok (.iconst 1, 1) := by decide +kernel
theorem dX6_chance_151 : decode cX6_chance 151 = .ok (.lshr, 1) := by decide +kernel
theorem dX6_chance_152 : decode cX6_chance 152 = .ok (.lstore 5, 2) := by decide +kernel
theorem dX6_chance_154 : decode cX6_chance 154 = .ok (.lload 7, 2) := by decide +kernel
theorem dX6_chance_156 : decode cX6_chance 156 = .ok (.iconst 1, 1) := by decide +kernel
theorem dX6_chance_157 : decode cX6_chance 157 = .ok (.lshr, 1) := by decide +kernel
theorem dX6_chance_158 : decode cX6_chance 158 = .ok (.lstore 7, 2) := by decide +kernel
theorem dX6_chance_160 : decode cX6_chance 160 = .ok (.iinc 9 1, 3) := by decide +kernel
theorem dX6_chance_163 : decode cX6_chance 163 = .ok (.goto (-31), 3) := by decide +kernel
theorem dX6_chance_166 : decode cX6_chance 166 = .ok (.iload_n 3, 1) := by decide +kernel
theorem dX6_chance_167 : decode cX6_chance 167 = .ok (.ifCond .ne 8, 3) := by decide +kernel
theorem dX6_chance_170 : decode cX6_chance 170 = .ok (.lload 5, 2) := by decide +kernel
theorem dX6_chance_172 : decode cX6_chance 172 = .ok (.goto 5, 3) := by decide +kernel
theorem dX6_chance_175 : decode cX6_chance 175 = .ok (.lload 7, 2) := by decide +kernel
theorem dX6_chance_177 : decode cX6_chance 177 = .ok (.lreturn, 1) := by decide +kernel
theorem dX6_lives_0 : decode cX6_lives 0 = .ok (.iload_n 2, 1) := by decide +kernel
theorem dX6_lives_1 : decode cX6_lives 1 = .ok (.bipush 13, 2) := by decide +kernel
theorem dX6_lives_3 : decode cX6_lives 3 = .ok (.invokestatic 66, 3) := by decide +kernel
theorem dX6_lives_6 : decode cX6_lives 6 = .ok (.ifCond .ne 11, 3) := by decide +kernel
theorem dX6_lives_9 : decode cX6_lives 9 = .ok (.iload_n 3, 1) := by decide +kernel
theorem dX6_lives_10 : decode cX6_lives 10 = .ok (.iconst 2, 1) := by decide +kernel
theorem dX6_lives_11 : decode cX6_lives 11 = .ok (.invokestatic 66, 3) := by decide +kernel
theorem dX6_lives_14 : decode cX6_lives 14 = .ok (.ifCond .eq 6, 3) := by decide +kernel
theorem dX6_lives_17 : decode cX6_lives 17 = .ok (.bipush (-2), 2) := by decide +kernel
theorem dX6_lives_19 : decode cX6_lives 19 = .ok (.ireturn, 1) := by decide +kernel
theorem dX6_lives_20 : decode cX6_lives 20 = .ok (.aload_n 0, 1) := by decide +kernel
theorem dX6_lives_21 : decode cX6_lives 21 = .ok (.getfield 49, 3) := by decide +kernel
theorem dX6_lives_24 : decode cX6_lives 24 = .ok (.aload_n 0, 1) := by decide +kernel
theorem dX6_lives_25 : decode cX6_lives 25 = .ok (.getfield 38, 3) := by decide +kernel
theorem dX6_lives_28 : decode cX6_lives 28 = .ok (.invokevirtual 177, 3) := by decide +kernel
theorem dX6_lives_31 : decode cX6_lives 31 = .ok (.aload_n 0, 1) := by decide +kernel
theorem dX6_lives_32 : decode cX6_lives 32 = .ok (.getfield 49, 3) := by decide +kernel
theorem dX6_lives_35 : decode cX6_lives 35 = .ok (.iload_n 1, 1) := by decide +kernel
theorem dX6_lives_36 : decode cX6_lives 36 = .ok (.iload_n 2, 1) := by decide +kernel
theorem dX6_lives_37 : decode cX6_lives 37 = .ok (.invokevirtual 236, 3) := by decide +kernel
theorem dX6_lives_40 : decode cX6_lives 40 = .ok (.aload_n 0, 1) := by decide +kernel
theorem dX6_lives_41 : decode cX6_lives 41 = .ok (.getfield 52, 3) := by decide +kernel
theorem dX6_lives_44 : decode cX6_lives 44 = .ok (.aload_n 0, 1) := by decide +kernel
theorem dX6_lives_45 : decode cX6_lives 45 = .ok (.getfield 49, 3) := by decide +kernel
theorem dX6_lives_48 : decode cX6_lives 48 = .ok (.aload_n 0, 1) := by decide +kernel
theorem dX6_lives_49 : decode cX6_lives 49 = .ok (.getfield 18, 3) := by decide +kernel
theorem dX6_lives_52 : decode cX6_lives 52 = .ok (.aload_n 0, 1) := by decide +kernel
theorem dX6_lives_53 : decode cX6_lives 53 = .ok (.getfield 18, 3) := by decide +kernel
theorem dX6_lives_56 : decode cX6_lives 56 = .ok (.invokevirtual 185, 3) := by decide +kernel
theorem dX6_lives_59 : decode cX6_lives 59 = .ok (.invokevirtual 188, 3) := by decide +kernel
theorem dX6_lives_62 : decode cX6_lives 62 = .ok (.aload_n 0, 1) := by decide +kernel
theorem dX6_lives_63 : decode cX6_lives 63 = .ok (.getfield 52, 3) := by decide +kernel
theorem dX6_lives_66 : decode cX6_lives 66 = .ok (.iload_n 3, 1) := by decide +kernel
theorem dX6_lives_67 : decode cX6_lives 67 = .ok (.ifCond .ne 7, 3) := by decide +kernel
theorem dX6_lives_70 : decode cX6_lives 70 = .ok (.iconst 1, 1) := by decide +kernel
theorem dX6_lives_71 : decode cX6_lives 71 = .ok (.goto 4, 3) := by decide +kernel
theorem dX6_lives_74 : decode cX6_lives 74 = .ok (.iconst 3, 1) := by decide +kernel
theorem dX6_lives_75 : decode cX6_lives 75 = .ok (.invokevirtual 198, 3) := by decide +kernel
theorem dX6_lives_78 : decode cX6_lives 78 = .ok (.ireturn, 1) := by decide +kernel
theorem dX6_sheet_0 : decode cX6_sheet 0 = .ok (.iload_n 1, 1) := by decide +kernel
theorem dX6_sheet_1 : decode cX6_sheet 1 = .ok (.iconst 4, 1) := by decide +kernel
theorem dX6_sheet_2 : decode cX6_sheet 2 = .ok (.invokestatic 66, 3) := by decide +kernel
theorem dX6_sheet_5 : decode cX6_sheet 5 = .ok (.ifCond .ne 17, 3) := by decide +kernel
theorem dX6_sheet_8 : decode cX6_sheet 8 = .ok (.iload_n 2, 1) := by decide +kernel
theorem dX6_sheet_9 : decode cX6_sheet 9 = .ok (.iconst 3, 1) := by decide +kernel
theorem dX6_sheet_10 : decode cX6_sheet 10 = .ok (.invokestatic 66, 3) := by decide +kernel
theorem dX6_sheet_13 : decode cX6_sheet 13 = .ok (.ifCond .ne 9, 3) := by decide +kernel
theorem dX6_sheet_16 : decode cX6_sheet 16 = .ok (.iload_n 3, 1) := by decide +kernel
theorem dX6_sheet_17 : decode cX6_sheet 17 = .ok (.bipush 60, 2) := by decide +kernel
theorem dX6_sheet_19 : decode cX6_sheet 19 = .ok (.if_icmp .le 6, 3) := by decide +kernel
theorem dX6_sheet_22 : decode cX6_sheet 22 = .ok (.bipush (-2), 2) := by decide +kernel
theorem dX6_sheet_24 : decode cX6_sheet 24 = .ok (.ireturn, 1) := by decide +kernel
theorem dX6_sheet_25 : decode cX6_sheet 25 = .ok (.iload_n 3, 1) := by decide +kernel
theorem dX6_sheet_26 : decode cX6_sheet 26 = .ok (.ifCond .ge 9, 3) := by decide +kernel
theorem dX6_sheet_29 : decode cX6_sheet 29 = .ok (.aload_n 0, 1) := by decide +kernel
theorem dX6_sheet_30 : decode cX6_sheet 30 = .ok (.iconst 5, 1) := by decide +kernel
theorem dX6_sheet_31 : decode cX6_sheet 31 = .ok (.invokevirtual 140, 3) := by decide +kernel
theorem dX6_sheet_34 : decode cX6_sheet 34 = .ok (.ireturn, 1) := by decide +kernel
theorem dX6_sheet_35 : decode cX6_sheet 35 = .ok (.aload_n 0, 1) := by decide +kernel
theorem dX6_sheet_36 : decode cX6_sheet 36 = .ok (.getfield 31, 3) := by decide +kernel
theorem dX6_sheet_39 : decode cX6_sheet 39 = .ok (.iload_n 1, 1) := by decide +kernel
theorem dX6_sheet_40 : decode cX6_sheet 40 = .ok (.aaload, 1) := by decide +kernel
theorem dX6_sheet_41 : decode cX6_sheet 41 = .ok (.iload_n 2, 1) := by decide +kernel
theorem dX6_sheet_42 : decode cX6_sheet 42 = .ok (.iload_n 3, 1) := by decide +kernel
theorem dX6_sheet_43 : decode cX6_sheet 43 = .ok (.invokevirtual 239, 3) := by decide +kernel
theorem dX6_sheet_46 : decode cX6_sheet 46 = .ok (.iload_n 3, 1) := by decide +kernel
theorem dX6_sheet_47 : decode cX6_sheet 47 = .ok (.ireturn, 1) := by decide +kernel
theorem dX6_lose_0 : decode cX6_lose 0 = .ok (.iload_n 1, 1) := by decide +kernel
theorem dX6_lose_1 : decode cX6_lose 1 = .ok (.iconst 4, 1) := by decide +kernel
theorem dX6_lose_2 : decode cX6_lose 2 = .ok (.invokestatic 66, 3) := by decide +kernel
theorem dX6_lose_5 : decode cX6_lose 5 = .ok (.ifCond .eq 6, 3) := by decide +kernel
theorem dX6_lose_8 : decode cX6_lose 8 = .ok (.bipush (-2), 2) := by decide +kernel
theorem dX6_lose_10 : decode cX6_lose 10 = .ok (.ireturn, 1) := by decide +kernel
theorem dX6_lose_11 : decode cX6_lose 11 = .ok (.aload_n 0, 1) := by decide +kernel
theorem dX6_lose_12 : decode cX6_lose 12 = .ok (.getfield 31, 3) := by decide +kernel
theorem dX6_lose_15 : decode cX6_lose 15 = .ok (.iload_n 1, 1) := by decide +kernel
theorem dX6_lose_16 : decode cX6_lose 16 = .ok (.aaload, 1) := by decide +kernel
theorem dX6_lose_17 : decode cX6_lose 17 = .ok (.invokevirtual 137, 3) := by decide +kernel
theorem dX6_lose_20 : decode cX6_lose 20 = .ok (.ifCond .eq 9, 3) := by decide +kernel
theorem dX6_lose_23 : decode cX6_lose 23 = .ok (.aload_n 0, 1) := by decide +kernel
theorem dX6_lose_24 : decode cX6_lose 24 = .ok (.iconst 1, 1) := by decide +kernel
theorem dX6_lose_25 : decode cX6_lose 25 = .ok (.invokevirtual 140, 3) := by decide +kernel
theorem dX6_lose_28 : decode cX6_lose 28 = .ok (.ireturn, 1) := by decide +kernel
theorem dX6_lose_29 : decode cX6_lose 29 = .ok (.aload_n 0, 1) := by decide +kernel
theorem dX6_lose_30 : decode cX6_lose 30 = .ok (.getfield 31, 3) := by decide +kernel
theorem dX6_lose_33 : decode cX6_lose 33 = .ok (.iload_n 1, 1) := by decide +kernel
theorem dX6_lose_34 : decode cX6_lose 34 = .ok (.aaload, 1) := by decide +kernel
theorem dX6_lose_35 : decode cX6_lose 35 = .ok (.getfield 144, 3) := by decide +kernel
theorem dX6_lose_38 : decode cX6_lose 38 = .ok (.istore_n 2, 1) := by decide +kernel
theorem dX6_lose_39 : decode cX6_lose 39 = .ok (.aload_n 0, 1) := by decide +kernel
theorem dX6_lose_40 : decode cX6_lose 40 = .ok (.getfield 31, 3) := by decide +kernel
theorem dX6_lose_43 : decode cX6_lose 43 = .ok (.iload_n 1, 1) := by decide +kernel
theorem dX6_lose_44 : decode cX6_lose 44 = .ok (.aaload, 1) := by decide +kernel
theorem dX6_lose_45 : decode cX6_lose 45 = .ok (.iconst (-1), 1) := by decide +kernel
theorem dX6_lose_46 : decode cX6_lose 46 = .ok (.iconst 0, 1) := by decide +kernel
theorem dX6_lose_47 : decode cX6_lose 47 = .ok (.invokevirtual 239, 3) := by decide +kernel
theorem dX6_lose_50 : decode cX6_lose 50 = .ok (.iload_n 2, 1) := by decide +kernel
theorem dX6_lose_51 : decode cX6_lose 51 = .ok (.ireturn, 1) := by decide +kernel
theorem dX6_lay_0 : decode cX6_lay 0 = .ok (.iload_n 1, 1) := by decide +kernel
theorem dX6_lay_1 : decode cX6_lay 1 = .ok (.iconst 4, 1) := by decide +kernel
theorem dX6_lay_2 : decode cX6_lay 2 = .ok (.invokestatic 66, 3) := by decide +kernel
theorem dX6_lay_5 : decode cX6_lay 5 = .ok (.ifCond .ne 11, 3) := by decide +kernel
theorem dX6_lay_8 : decode cX6_lay 8 = .ok (.iload_n 2, 1) := by decide +kernel
theorem dX6_lay_9 : decode cX6_lay 9 = .ok (.iconst 3, 1) := by decide +kernel
theorem dX6_lay_10 : decode cX6_lay 10 = .ok (.invokestatic 66, 3) := by decide +kernel
theorem dX6_lay_13 : decode cX6_lay 13 = .ok (.ifCond .eq 6, 3) := by decide +kernel
theorem dX6_lay_16 : decode cX6_lay 16 = .ok (.bipush (-2), 2) := by decide +kernel
theorem dX6_lay_18 : decode cX6_lay 18 = .ok (.ireturn, 1) := by decide +kernel
theorem dX6_lay_19 : decode cX6_lay 19 = .ok (.aload_n 0, 1) := by decide +kernel
theorem dX6_lay_20 : decode cX6_lay 20 = .ok (.getfield 31, 3) := by decide +kernel
theorem dX6_lay_23 : decode cX6_lay 23 = .ok (.iload_n 1, 1) := by decide +kernel
theorem dX6_lay_24 : decode cX6_lay 24 = .ok (.aaload, 1) := by decide +kernel
theorem dX6_lay_25 : decode cX6_lay 25 = .ok (.iload_n 2, 1) := by decide +kernel
theorem dX6_lay_26 : decode cX6_lay 26 = .ok (.iload_n 3, 1) := by decide +kernel
theorem dX6_lay_27 : decode cX6_lay 27 = .ok (.invokestatic 242, 3) := by decide +kernel
theorem dX6_lay_30 : decode cX6_lay 30 = .ok (.istore 5, 2) := by decide +kernel
theorem dX6_lay_32 : decode cX6_lay 32 = .ok (.iload 5, 2) := by decide +kernel
theorem dX6_lay_34 : decode cX6_lay 34 = .ok (.ifCond .eq 10, 3) := by decide +kernel
theorem dX6_lay_37 : decode cX6_lay 37 = .ok (.aload_n 0, 1) := by decide +kernel
theorem dX6_lay_38 : decode cX6_lay 38 = .ok (.iload 5, 2) := by decide +kernel
theorem dX6_lay_40 : decode cX6_lay 40 = .ok (.invokevirtual 140, 3) := by decide +kernel
theorem dX6_lay_43 : decode cX6_lay 43 = .ok (.ireturn, 1) := by decide +kernel
theorem dX6_lay_44 : decode cX6_lay 44 = .ok (.aload_n 0, 1) := by decide +kernel
theorem dX6_lay_45 : decode cX6_lay 45 = .ok (.getfield 31, 3) := by decide +kernel
theorem dX6_lay_48 : decode cX6_lay 48 = .ok (.iload_n 1, 1) := by decide +kernel
theorem dX6_lay_49 : decode cX6_lay 49 = .ok (.aaload, 1) := by decide +kernel
theorem dX6_lay_50 : decode cX6_lay 50 = .ok (.iload_n 3, 1) := by decide +kernel
theorem dX6_lay_51 : decode cX6_lay 51 = .ok (.iload 4, 2) := by decide +kernel
theorem dX6_lay_53 : decode cX6_lay 53 = .ok (.invokevirtual 246, 3) := by decide +kernel
theorem dX6_lay_56 : decode cX6_lay 56 = .ok (.iconst 1, 1) := by decide +kernel
theorem dX6_lay_57 : decode cX6_lay 57 = .ok (.ireturn, 1) := by decide +kernel
theorem dX6_get_0 : decode cX6_get 0 = .ok (.iload_n 1, 1) := by decide +kernel
theorem dX6_get_1 : decode cX6_get 1 = .ok (.iconst 4, 1) := by decide +kernel
theorem dX6_get_2 : decode cX6_get 2 = .ok (.invokestatic 66, 3) := by decide +kernel
theorem dX6_get_5 : decode cX6_get 5 = .ok (.ifCond .ne 11, 3) := by decide +kernel
theorem dX6_get_8 : decode cX6_get 8 = .ok (.iload_n 2, 1) := by decide +kernel
theorem dX6_get_9 : decode cX6_get 9 = .ok (.iconst 3, 1) := by decide +kernel
theorem dX6_get_10 : decode cX6_get 10 = .ok (.invokestatic 66, 3) := by decide +kernel
theorem dX6_get_13 : decode cX6_get 13 = .ok (.ifCond .eq 6, 3) := by decide +kernel
theorem dX6_get_16 : decode cX6_get 16 = .ok (.ldc 249, 2) := by decide +kernel
theorem dX6_get_18 : decode cX6_get 18 = .ok (.ireturn, 1) := by decide +kernel
theorem dX6_get_19 : decode cX6_get 19 = .ok (.aload_n 0, 1) := by decide +kernel
theorem dX6_get_20 : decode cX6_get 20 = .ok (.getfield 31, 3) := by decide +kernel
theorem dX6_get_23 : decode cX6_get 23 = .ok (.iload_n 1, 1) := by decide +kernel
theorem dX6_get_24 : decode cX6_get 24 = .ok (.aaload, 1) := by decide +kernel
theorem dX6_get_25 : decode cX6_get 25 = .ok (.iload_n 2, 1) := by decide +kernel
theorem dX6_get_26 : decode cX6_get 26 = .ok (.iload_n 3, 1) := by decide +kernel
theorem dX6_get_27 : decode cX6_get 27 = .ok (.invokestatic 242, 3) := by decide +kernel
theorem dX6_get_30 : decode cX6_get 30 = .ok (.istore 4, 2) := by decide +kernel
theorem dX6_get_32 : decode cX6_get 32 = .ok (.iload 4, 2) := by decide +kernel
theorem dX6_get_34 : decode cX6_get 34 = .ok (.ifCond .eq 13, 3) := by decide +kernel
theorem dX6_get_37 : decode cX6_get 37 = .ok (.aload_n 0, 1) := by decide +kernel
theorem dX6_get_38 : decode cX6_get 38 = .ok (.iload 4, 2) := by decide +kernel
theorem dX6_get_40 : decode cX6_get 40 = .ok (.invokevirtual 140, 3) := by decide +kernel
theorem dX6_get_43 : decode cX6_get 43 = .ok (.pop, 1) := by decide +kernel
theorem dX6_get_44 : decode cX6_get 44 = .ok (.ldc 249, 2) := by decide +kernel
theorem dX6_get_46 : decode cX6_get 46 = .ok (.ireturn, 1) := by decide +kernel
theorem dX6_get_47 : decode cX6_get 47 = .ok (.aload_n 0, 1) := by decide +kernel
theorem dX6_get_48 : decode cX6_get 48 = .ok (.getfield 31, 3) := by decide +kernel
theorem dX6_get_51 : decode cX6_get 51 = .ok (.iload_n 1, 1) := by decide +kernel
theorem dX6_get_52 : decode cX6_get 52 = .ok (.aaload, 1) := by decide +kernel
theorem dX6_get_53 : decode cX6_get 53 = .ok (.getfield 146, 3) := by decide +kernel
theorem dX6_get_56 : decode cX6_get 56 = .ok (.iload_n 3, 1) := by decide +kernel
theorem dX6_get_57 : decode cX6_get 57 = .ok (.iaload, 1) := by decide +kernel
theorem dX6_get_58 : decode cX6_get 58 = .ok (.ireturn, 1) := by decide +kernel
theorem dX6_copy_0 : decode cX6_copy 0 = .ok (.iload_n 1, 1) := by decide +kernel
theorem dX6_copy_1 : decode cX6_copy 1 = .ok (.iconst 4, 1) := by decide +kernel
theorem dX6_copy_2 : decode cX6_copy 2 = .ok (.invokestatic 66, 3) := by decide +kernel
theorem dX6_copy_5 : decode cX6_copy 5 = .ok (.ifCond .ne 11, 3) := by decide +kernel
theorem dX6_copy_8 : decode cX6_copy 8 = .ok (.iload_n 3, 1) := by decide +kernel
theorem dX6_copy_9 : decode cX6_copy 9 = .ok (.iconst 4, 1) := by decide +kernel
theorem dX6_copy_10 : decode cX6_copy 10 = .ok (.invokestatic 66, 3) := by decide +kernel
theorem dX6_copy_13 : decode cX6_copy 13 = .ok (.ifCond .eq 6, 3) := by decide +kernel
theorem dX6_copy_16 : decode cX6_copy 16 = .ok (.bipush (-2), 2) := by decide +kernel
theorem dX6_copy_18 : decode cX6_copy 18 = .ok (.ireturn, 1) := by decide +kernel
theorem dX6_copy_19 : decode cX6_copy 19 = .ok (.aload_n 0, 1) := by decide +kernel
theorem dX6_copy_20 : decode cX6_copy 20 = .ok (.getfield 31, 3) := by decide +kernel
theorem dX6_copy_23 : decode cX6_copy 23 = .ok (.iload_n 1, 1) := by decide +kernel
theorem dX6_copy_24 : decode cX6_copy 24 = .ok (.aaload, 1) := by decide +kernel
theorem dX6_copy_25 : decode cX6_copy 25 = .ok (.astore 6, 2) := by decide +kernel
theorem dX6_copy_27 : decode cX6_copy 27 = .ok (.aload_n 0, 1) := by decide +kernel
theorem dX6_copy_28 : decode cX6_copy 28 = .ok (.getfield 31, 3) := by decide +kernel
theorem dX6_copy_31 : decode cX6_copy 31 = .ok (.iload_n 3, 1) := by decide +kernel
theorem dX6_copy_32 : decode cX6_copy 32 = .ok (.aaload, 1) := by decide +kernel
theorem dX6_copy_33 : decode cX6_copy 33 = .ok (.astore 7, 2) := by decide +kernel
theorem dX6_copy_35 : decode cX6_copy 35 = .ok (.aload 6, 2) := by decide +kernel
theorem dX6_copy_37 : decode cX6_copy 37 = .ok (.invokevirtual 137, 3) := by decide +kernel
theorem dX6_copy_40 : decode cX6_copy 40 = .ok (.ifCond .ne 11, 3) := by decide +kernel
theorem dX6_copy_43 : decode cX6_copy 43 = .ok (.aload 7, 2) := by decide +kernel
theorem dX6_copy_45 : decode cX6_copy 45 = .ok (.invokevirtual 137, 3) := by decide +kernel
theorem dX6_copy_48 : decode cX6_copy 48 = .ok (.ifCond .eq 9, 3) := by decide +kernel
theorem dX6_copy_51 : decode cX6_copy 51 = .ok (.aload_n 0, 1) := by decide +kernel
theorem dX6_copy_52 : decode cX6_copy 52 = .ok (.iconst 1, 1) := by decide +kernel
theorem dX6_copy_53 : decode cX6_copy 53 = .ok (.invokevirtual 140, 3) := by decide +kernel
theorem dX6_copy_56 : decode cX6_copy 56 = .ok (.ireturn, 1) := by decide +kernel
theorem dX6_copy_57 : decode cX6_copy 57 = .ok (.aload 6, 2) := by decide +kernel
theorem dX6_copy_59 : decode cX6_copy 59 = .ok (.getfield 250, 3) := by decide +kernel
theorem dX6_copy_62 : decode cX6_copy 62 = .ok (.aload 7, 2) := by decide +kernel
theorem dX6_copy_64 : decode cX6_copy 64 = .ok (.getfield 250, 3) := by decide +kernel
theorem dX6_copy_67 : decode cX6_copy 67 = .ok (.if_icmp .eq 9, 3) := by decide +kernel
theorem dX6_copy_70 : decode cX6_copy 70 = .ok (.aload_n 0, 1) := by decide +kernel
theorem dX6_copy_71 : decode cX6_copy 71 = .ok (.iconst 4, 1) := by decide +kernel
theorem dX6_copy_72 : decode cX6_copy 72 = .ok (.invokevirtual 140, 3) := by decide +kernel
theorem dX6_copy_75 : decode cX6_copy 75 = .ok (.ireturn, 1) := by decide +kernel
theorem dX6_copy_76 : decode cX6_copy 76 = .ok (.aload 6, 2) := by decide +kernel
theorem dX6_copy_78 : decode cX6_copy 78 = .ok (.iload_n 2, 1) := by decide +kernel
theorem dX6_copy_79 : decode cX6_copy 79 = .ok (.iload 5, 2) := by decide +kernel
theorem dX6_copy_81 : decode cX6_copy 81 = .ok (.invokevirtual 253, 3) := by decide +kernel
theorem dX6_copy_84 : decode cX6_copy 84 = .ok (.ifCond .eq 15, 3) := by decide +kernel
theorem dX6_copy_87 : decode cX6_copy 87 = .ok (.aload 7, 2) := by decide +kernel
theorem dX6_copy_89 : decode cX6_copy 89 = .ok (.iload 4, 2) := by decide +kernel
theorem dX6_copy_91 : decode cX6_copy 91 = .ok (.iload 5, 2) := by decide +kernel
theorem dX6_copy_93 : decode cX6_copy 93 = .ok (.invokevirtual 253, 3) := by decide +kernel
theorem dX6_copy_96 : decode cX6_copy 96 = .ok (.ifCond .ne 9, 3) := by decide +kernel
theorem dX6_copy_99 : decode cX6_copy 99 = .ok (.aload_n 0, 1) := by decide +kernel
theorem dX6_copy_100 : decode cX6_copy 100 = .ok (.iconst 2, 1) := by decide +kernel
theorem dX6_copy_101 : decode cX6_copy 101 = .ok (.invokevirtual 140, 3) := by decide +kernel
theorem dX6_copy_104 : decode cX6_copy 104 = .ok (.ireturn, 1) := by decide +kernel
theorem dX6_copy_105 : decode cX6_copy 105 = .ok (.aload 6, 2) := by decide +kernel
theorem dX6_copy_107 : decode cX6_copy 107 = .ok (.getfield 146, 3) := by decide +kernel
theorem dX6_copy_110 : decode cX6_copy 110 = .ok (.iload_n 2, 1) := by decide +kernel
theorem dX6_copy_111 : decode cX6_copy 111 = .ok (.aload 7, 2) := by decide +kernel
theorem dX6_copy_113 : decode cX6_copy 113 = .ok (.getfield 146, 3) := by decide +kernel
theorem dX6_copy_116 : decode cX6_copy 116 = .ok (.iload 4, 2) := by decide +kernel
theorem dX6_copy_118 : decode cX6_copy 118 = .ok (.iload 5, 2) := by decide +kernel
theorem dX6_copy_120 : decode cX6_copy 120 = .ok (.invokestatic 256, 3) := by decide +kernel
theorem dX6_copy_123 : decode cX6_copy 123 = .ok (.iconst 1, 1) := by decide +kernel
theorem dX6_copy_124 : decode cX6_copy 124 = .ok (.ireturn, 1) := by decide +kernel
theorem dX6_write_0 : decode cX6_write 0 = .ok (.iload_n 1, 1) := by decide +kernel
theorem dX6_write_1 : decode cX6_write 1 = .ok (.aload_n 0, 1) := by decide +kernel
theorem dX6_write_2 : decode cX6_write 2 = .ok (.getfield 38, 3) := by decide +kernel
theorem dX6_write_5 : decode cX6_write 5 = .ok (.getfield 100, 3) := by decide +kernel
theorem dX6_write_8 : decode cX6_write 8 = .ok (.invokestatic 66, 3) := by decide +kernel
theorem dX6_write_11 : decode cX6_write 11 = .ok (.ifCond .ne 11, 3) := by decide +kernel
theorem dX6_write_14 : decode cX6_write 14 = .ok (.iload_n 2, 1) := by decide +kernel
theorem dX6_write_15 : decode cX6_write 15 = .ok (.iconst 4, 1) := by decide +kernel
theorem dX6_write_16 : decode cX6_write 16 = .ok (.invokestatic 66, 3) := by decide +kernel
theorem dX6_write_19 : decode cX6_write 19 = .ok (.ifCond .eq 6, 3) := by decide +kernel
theorem dX6_write_22 : decode cX6_write 22 = .ok (.bipush (-2), 2) := by decide +kernel
theorem dX6_write_24 : decode cX6_write 24 = .ok (.ireturn, 1) := by decide +kernel
theorem dX6_write_25 : decode cX6_write 25 = .ok (.aload_n 0, 1) := by decide +kernel
theorem dX6_write_26 : decode cX6_write 26 = .ok (.getfield 31, 3) := by decide +kernel
theorem dX6_write_29 : decode cX6_write 29 = .ok (.iload_n 2, 1) := by decide +kernel
theorem dX6_write_30 : decode cX6_write 30 = .ok (.aaload, 1) := by decide +kernel
theorem dX6_write_31 : decode cX6_write 31 = .ok (.astore_n 3, 1) := by decide +kernel
theorem dX6_write_32 : decode cX6_write 32 = .ok (.aload_n 3, 1) := by decide +kernel
theorem dX6_write_33 : decode cX6_write 33 = .ok (.invokevirtual 137, 3) := by decide +kernel
theorem dX6_write_36 : decode cX6_write 36 = .ok (.ifCond .eq 9, 3) := by decide +kernel
theorem dX6_write_39 : decode cX6_write 39 = .ok (.aload_n 0, 1) := by decide +kernel
theorem dX6_write_40 : decode cX6_write 40 = .ok (.iconst 1, 1) := by decide +kernel
theorem dX6_write_41 : decode cX6_write 41 = .ok (.invokevirtual 140, 3) := by decide +kernel
theorem dX6_write_44 : decode cX6_write 44 = .ok (.ireturn, 1) := by decide +kernel
theorem dX6_write_45 : decode cX6_write 45 = .ok (.aload_n 0, 1) := by decide +kernel
theorem dX6_write_46 : decode cX6_write 46 = .ok (.invokevirtual 149, 3) := by decide +kernel
theorem dX6_write_49 : decode cX6_write 49 = .ok (.aload_n 3, 1) := by decide +kernel
theorem dX6_write_50 : decode cX6_write 50 = .ok (.getfield 144, 3) := by decide +kernel
theorem dX6_write_53 : decode cX6_write 53 = .ok (.bipush 24, 2) := by decide +kernel
theorem dX6_write_55 : decode cX6_write 55 = .ok (.invokestatic 262, 3) := by decide +kernel
theorem dX6_write_58 : decode cX6_write 58 = .ok (.istore 4, 2) := by decide +kernel
theorem dX6_write_60 : decode cX6_write 60 = .ok (.iconst 0, 1) := by decide +kernel
theorem dX6_write_61 : decode cX6_write 61 = .ok (.istore 5, 2) := by decide +kernel
theorem dX6_write_63 : decode cX6_write 63 = .ok (.iload 5, 2) := by decide +kernel
theorem dX6_write_65 : decode cX6_write 65 = .ok (.iload 4, 2) := by decide +kernel
theorem dX6_write_67 : decode cX6_write 67 = .ok (.if_icmp .ge 25, 3) := by decide +kernel
theorem dX6_write_70 : decode cX6_write 70 = .ok (.aload_n 3, 1) := by decide +kernel
theorem dX6_write_71 : decode cX6_write 71 = .ok (.iload 5, 2) := by decide +kernel
theorem dX6_write_73 : decode cX6_write 73 = .ok (.aload_n 0, 1) := by decide +kernel
theorem dX6_write_74 : decode cX6_write 74 = .ok (.getfield 45, 3) := by decide +kernel
theorem dX6_write_77 : decode cX6_write 77 = .ok (.iload 5, 2) := by decide +kernel
theorem dX6_write_79 : decode cX6_write 79 = .ok (.iload_n 1, 1) := by decide +kernel
theorem dX6_write_80 : decode cX6_write 80 = .ok (.invokevirtual 156, 3) := by decide +kernel
theorem dX6_write_83 : decode cX6_write 83 = .ok (.invokevirtual 246, 3) := by decide +kernel
theorem dX6_write_86 : decode cX6_write 86 = .ok (.iinc 5 1, 3) := by decide +kernel
theorem dX6_write_89 : decode cX6_write 89 = .ok (.goto (-26), 3) := by decide +kernel
theorem dX6_write_92 : decode cX6_write 92 = .ok (.iload 4, 2) := by decide +kernel
theorem dX6_write_94 : decode cX6_write 94 = .ok (.ireturn, 1) := by decide +kernel
theorem dX6_count_0 : decode cX6_count 0 = .ok (.iload_n 1, 1) := by decide +kernel
theorem dX6_count_1 : decode cX6_count 1 = .ok (.bipush 9, 2) := by decide +kernel
theorem dX6_count_3 : decode cX6_count 3 = .ok (.invokestatic 66, 3) := by decide +kernel
theorem dX6_count_6 : decode cX6_count 6 = .ok (.ifCond .eq 6, 3) := by decide +kernel
theorem dX6_count_9 : decode cX6_count 9 = .ok (.bipush (-2), 2) := by decide +kernel
theorem dX6_count_11 : decode cX6_count 11 = .ok (.ireturn, 1) := by decide +kernel
theorem dX6_count_12 : decode cX6_count 12 = .ok (.iload_n 1, 1) := by decide +kernel
theorem dX6_count_13 : decode cX6_count 13 = .ok (.tableswitch 96 0 8 #[51, 59, 67, 96, 96, 96, 75, 83, 91], 51) := by decide +kernel
theorem dX6_count_64 : decode cX6_count 64 = .ok (.aload_n 0, 1) := by decide +kernel
theorem dX6_count_65 : decode cX6_count 65 = .ok (.getfield 38, 3) := by decide +kernel
theorem dX6_count_68 : decode cX6_count 68 = .ok (.getfield 90, 3) := by decide +kernel
theorem dX6_count_71 : decode cX6_count 71 = .ok (.ireturn, 1) := by decide +kernel
theorem dX6_count_72 : decode cX6_count 72 = .ok (.aload_n 0, 1) := by decide +kernel
theorem dX6_count_73 : decode cX6_count 73 = .ok (.getfield 38, 3) := by decide +kernel
theorem dX6_count_76 : decode cX6_count 76 = .ok (.getfield 100, 3) := by decide +kernel
theorem dX6_count_79 : decode cX6_count 79 = .ok (.ireturn, 1) := by decide +kernel
theorem dX6_count_80 : decode cX6_count 80 = .ok (.aload_n 0, 1) := by decide +kernel
theorem dX6_count_81 : decode cX6_count 81 = .ok (.getfield 38, 3) := by decide +kernel
theorem dX6_count_84 : decode cX6_count 84 = .ok (.getfield 112, 3) := by decide +kernel
theorem dX6_count_87 : decode cX6_count 87 = .ok (.ireturn, 1) := by decide +kernel
theorem dX6_count_88 : decode cX6_count 88 = .ok (.aload_n 0, 1) := by decide +kernel
theorem dX6_count_89 : decode cX6_count 89 = .ok (.getfield 18, 3) := by decide +kernel
theorem dX6_count_92 : decode cX6_count 92 = .ok (.getfield 134, 3) := by decide +kernel
theorem dX6_count_95 : decode cX6_count 95 = .ok (.ireturn, 1) := by decide +kernel
theorem dX6_count_96 : decode cX6_count 96 = .ok (.aload_n 0, 1) := by decide +kernel
theorem dX6_count_97 : decode cX6_count 97 = .ok (.getfield 25, 3) := by decide +kernel
theorem dX6_count_100 : decode cX6_count 100 = .ok (.getfield 212, 3) := by decide +kernel
theorem dX6_count_103 : decode cX6_count 103 = .ok (.ireturn, 1) := by decide +kernel
theorem dX6_count_104 : decode cX6_count 104 = .ok (.aload_n 0, 1) := by decide +kernel
theorem dX6_count_105 : decode cX6_count 105 = .ok (.getfield 267, 3) := by decide +kernel
theorem dX6_count_108 : decode cX6_count 108 = .ok (.ireturn, 1) := by decide +kernel
theorem dX6_count_109 : decode cX6_count 109 = .ok (.aload_n 0, 1) := by decide +kernel
theorem dX6_count_110 : decode cX6_count 110 = .ok (.getfield 11, 3) := by decide +kernel
theorem dX6_count_113 : decode cX6_count 113 = .ok (.iload_n 1, 1) := by decide +kernel
theorem dX6_count_114 : decode cX6_count 114 = .ok (.iconst 3, 1) := by decide +kernel
theorem dX6_count_115 : decode cX6_count 115 = .ok (.isub, 1) := by decide +kernel
theorem dX6_count_116 : decode cX6_count 116 = .ok (.aaload, 1) := by decide +kernel
theorem dX6_count_117 : decode cX6_count 117 = .ok (.invokevirtual 80, 3) := by decide +kernel
theorem dX6_count_120 : decode cX6_count 120 = .ok (.ireturn, 1) := by decide +kernel
theorem dX6_digest_0 : decode cX6_digest 0 = .ok (.ldc2_w 270, 3) := by decide +kernel
theorem dX6_digest_3 : decode cX6_digest 3 = .ok (.lstore_n 1, 1) := by decide +kernel
theorem dX6_digest_4 : decode cX6_digest 4 = .ok (.iconst 0, 1) := by decide +kernel
theorem dX6_digest_5 : decode cX6_digest 5 = .ok (.istore_n 3, 1) := by decide +kernel
theorem dX6_digest_6 : decode cX6_digest 6 = .ok (.iload_n 3, 1) := by decide +kernel
theorem dX6_digest_7 : decode cX6_digest 7 = .ok (.bipush 8, 2) := by decide +kernel
theorem dX6_digest_9 : decode cX6_digest 9 = .ok (.if_icmp .ge 22, 3) := by decide +kernel
theorem dX6_digest_12 : decode cX6_digest 12 = .ok (.ldc2_w 272, 3) := by decide +kernel
theorem dX6_digest_15 : decode cX6_digest 15 = .ok (.lload_n 1, 1) := by decide +kernel
theorem dX6_digest_16 : decode cX6_digest 16 = .ok (.lmul, 1) := by decide +kernel
theorem dX6_digest_17 : decode cX6_digest 17 = .ok (.aload_n 0, 1) := by decide +kernel
theorem dX6_digest_18 : decode cX6_digest 18 = .ok (.iload_n 3, 1) := by decide +kernel
theorem dX6_digest_19 : decode cX6_digest 19 = .ok (.invokevirtual 274, 3) := by decide +kernel
theorem dX6_digest_22 : decode cX6_digest 22 = .ok (.i2l, 1) := by decide +kernel
theorem dX6_digest_23 : decode cX6_digest 23 = .ok (.ladd, 1) := by decide +kernel
theorem dX6_digest_24 : decode cX6_digest 24 = .ok (.lstore_n 1, 1) := by decide +kernel
theorem dX6_digest_25 : decode cX6_digest 25 = .ok (.iinc 3 1, 3) := by decide +kernel
theorem dX6_digest_28 : decode cX6_digest 28 = .ok (.goto (-22), 3) := by decide +kernel
theorem dX6_digest_31 : decode cX6_digest 31 = .ok (.iconst 0, 1) := by decide +kernel
theorem dX6_digest_32 : decode cX6_digest 32 = .ok (.istore_n 3, 1) := by decide +kernel
theorem dX6_digest_33 : decode cX6_digest 33 = .ok (.iload_n 3, 1) := by decide +kernel
theorem dX6_digest_34 : decode cX6_digest 34 = .ok (.iconst 3, 1) := by decide +kernel
theorem dX6_digest_35 : decode cX6_digest 35 = .ok (.if_icmp .ge 22, 3) := by decide +kernel
theorem dX6_digest_38 : decode cX6_digest 38 = .ok (.ldc2_w 272, 3) := by decide +kernel
theorem dX6_digest_41 : decode cX6_digest 41 = .ok (.lload_n 1, 1) := by decide +kernel
theorem dX6_digest_42 : decode cX6_digest 42 = .ok (.lmul, 1) := by decide +kernel
theorem dX6_digest_43 : decode cX6_digest 43 = .ok (.aload_n 0, 1) := by decide +kernel
theorem dX6_digest_44 : decode cX6_digest 44 = .ok (.iload_n 3, 1) := by decide +kernel
theorem dX6_digest_45 : decode cX6_digest 45 = .ok (.invokevirtual 277, 3) := by decide +kernel
theorem dX6_digest_48 : decode cX6_digest 48 = .ok (.i2l, 1) := by decide +kernel
theorem dX6_digest_49 : decode cX6_digest 49 = .ok (.ladd, 1) := by decide +kernel
theorem dX6_digest_50 : decode cX6_digest 50 = .ok (.lstore_n 1, 1) := by decide +kernel
theorem dX6_digest_51 : decode cX6_digest 51 = .ok (.iinc 3 1, 3) := by decide +kernel
theorem dX6_digest_54 : decode cX6_digest 54 = .ok (.goto (-21), 3) := by decide +kernel
theorem dX6_digest_57 : decode cX6_digest 57 = .ok (.iconst 0, 1) := by decide +kernel
theorem dX6_digest_58 : decode cX6_digest 58 = .ok (.istore_n 3, 1) := by decide +kernel
theorem dX6_digest_59 : decode cX6_digest 59 = .ok (.iload_n 3, 1) := by decide +kernel
theorem dX6_digest_60 : decode cX6_digest 60 = .ok (.bipush 12, 2) := by decide +kernel
theorem dX6_digest_62 : decode cX6_digest 62 = .ok (.if_icmp .ge 39, 3) := by decide +kernel
theorem dX6_digest_65 : decode cX6_digest 65 = .ok (.iconst 0, 1) := by decide +kernel
theorem dX6_digest_66 : decode cX6_digest 66 = .ok (.istore 4, 2) := by decide +kernel
theorem dX6_digest_68 : decode cX6_digest 68 = .ok (.iload 4, 2) := by decide +kernel
theorem dX6_digest_70 : decode cX6_digest 70 = .ok (.iconst 3, 1) := by decide +kernel
theorem dX6_digest_71 : decode cX6_digest 71 = .ok (.if_icmp .ge 24, 3) := by decide +kernel
theorem dX6_digest_74 : decode cX6_digest 74 = .ok (.ldc2_w 272, 3) := by decide +kernel
theorem dX6_digest_77 : decode cX6_digest 77 = .ok (.lload_n 1, 1) := by decide +kernel
theorem dX6_digest_78 : decode cX6_digest 78 = .ok (.lmul, 1) := by decide +kernel
theorem dX6_digest_79 : decode cX6_digest 79 = .ok (.aload_n 0, 1) := by decide +kernel
theorem dX6_digest_80 : decode cX6_digest 80 = .ok (.iload_n 3, 1) := by decide +kernel
theorem dX6_digest_81 : decode cX6_digest 81 = .ok (.iload 4, 2) := by decide +kernel
theorem dX6_digest_83 : decode cX6_digest 83 = .ok (.invokevirtual 280, 3) := by decide +kernel
theorem dX6_digest_86 : decode cX6_digest 86 = .ok (.i2l, 1) := by decide +kernel
theorem dX6_digest_87 : decode cX6_digest 87 = .ok (.ladd, 1) := by decide +kernel
theorem dX6_digest_88 : decode cX6_digest 88 = .ok (.lstore_n 1, 1) := by decide +kernel
theorem dX6_digest_89 : decode cX6_digest 89 = .ok (.iinc 4 1, 3) := by decide +kernel
theorem dX6_digest_92 : decode cX6_digest 92 = .ok (.goto (-24), 3) := by decide +kernel
theorem dX6_digest_95 : decode cX6_digest 95 = .ok (.iinc 3 1, 3) := by decide +kernel
theorem dX6_digest_98 : decode cX6_digest 98 = .ok (.goto (-39), 3) := by decide +kernel
theorem dX6_digest_101 : decode cX6_digest 101 = .ok (.iconst 0, 1) := by decide +kernel
theorem dX6_digest_102 : decode cX6_digest 102 = .ok (.istore_n 3, 1) := by decide +kernel
theorem dX6_digest_103 : decode cX6_digest 103 = .ok (.iload_n 3, 1) := by decide +kernel
theorem dX6_digest_104 : decode cX6_digest 104 = .ok (.aload_n 0, 1) := by decide +kernel
theorem dX6_digest_105 : decode cX6_digest 105 = .ok (.getfield 38, 3) := by decide +kernel
theorem dX6_digest_108 : decode cX6_digest 108 = .ok (.getfield 100, 3) := by decide +kernel
theorem dX6_digest_111 : decode cX6_digest 111 = .ok (.if_icmp .ge 16, 3) := by decide +kernel
theorem dX6_digest_114 : decode cX6_digest 114 = .ok (.aload_n 0, 1) := by decide +kernel
theorem dX6_digest_115 : decode cX6_digest 115 = .ok (.lload_n 1, 1) := by decide +kernel
theorem dX6_digest_116 : decode cX6_digest 116 = .ok (.iload_n 3, 1) := by decide +kernel
theorem dX6_digest_117 : decode cX6_digest 117 = .ok (.invokevirtual 283, 3) := by decide +kernel
theorem dX6_digest_120 : decode cX6_digest 120 = .ok (.lstore_n 1, 1) := by decide +kernel
theorem dX6_digest_121 : decode cX6_digest 121 = .ok (.iinc 3 1, 3) := by decide +kernel
theorem dX6_digest_124 : decode cX6_digest 124 = .ok (.goto (-21), 3) := by decide +kernel
theorem dX6_digest_127 : decode cX6_digest 127 = .ok (.iconst 0, 1) := by decide +kernel
theorem dX6_digest_128 : decode cX6_digest 128 = .ok (.istore_n 3, 1) := by decide +kernel
theorem dX6_digest_129 : decode cX6_digest 129 = .ok (.iload_n 3, 1) := by decide +kernel
theorem dX6_digest_130 : decode cX6_digest 130 = .ok (.aload_n 0, 1) := by decide +kernel
theorem dX6_digest_131 : decode cX6_digest 131 = .ok (.getfield 38, 3) := by decide +kernel
theorem dX6_digest_134 : decode cX6_digest 134 = .ok (.getfield 90, 3) := by decide +kernel
theorem dX6_digest_137 : decode cX6_digest 137 = .ok (.if_icmp .ge 16, 3) := by decide +kernel
theorem dX6_digest_140 : decode cX6_digest 140 = .ok (.aload_n 0, 1) := by decide +kernel
theorem dX6_digest_141 : decode cX6_digest 141 = .ok (.lload_n 1, 1) := by decide +kernel
theorem dX6_digest_142 : decode cX6_digest 142 = .ok (.iload_n 3, 1) := by decide +kernel
theorem dX6_digest_143 : decode cX6_digest 143 = .ok (.invokevirtual 286, 3) := by decide +kernel
theorem dX6_digest_146 : decode cX6_digest 146 = .ok (.lstore_n 1, 1) := by decide +kernel
theorem dX6_digest_147 : decode cX6_digest 147 = .ok (.iinc 3 1, 3) := by decide +kernel
theorem dX6_digest_150 : decode cX6_digest 150 = .ok (.goto (-21), 3) := by decide +kernel
theorem dX6_digest_153 : decode cX6_digest 153 = .ok (.iconst 0, 1) := by decide +kernel
theorem dX6_digest_154 : decode cX6_digest 154 = .ok (.istore_n 3, 1) := by decide +kernel
theorem dX6_digest_155 : decode cX6_digest 155 = .ok (.iload_n 3, 1) := by decide +kernel
theorem dX6_digest_156 : decode cX6_digest 156 = .ok (.bipush 24, 2) := by decide +kernel
theorem dX6_digest_158 : decode cX6_digest 158 = .ok (.if_icmp .ge 50, 3) := by decide +kernel
theorem dX6_digest_161 : decode cX6_digest 161 = .ok (.ldc2_w 272, 3) := by decide +kernel
theorem dX6_digest_164 : decode cX6_digest 164 = .ok (.lload_n 1, 1) := by decide +kernel
theorem dX6_digest_165 : decode cX6_digest 165 = .ok (.lmul, 1) := by decide +kernel
theorem dX6_digest_166 : decode cX6_digest 166 = .ok (.aload_n 0, 1) := by decide +kernel
theorem dX6_digest_167 : decode cX6_digest 167 = .ok (.iload_n 3, 1) := by decide +kernel
theorem dX6_digest_168 : decode cX6_digest 168 = .ok (.invokevirtual 289, 3) := by decide +kernel
theorem dX6_digest_171 : decode cX6_digest 171 = .ok (.i2l, 1) := by decide +kernel
theorem dX6_digest_172 : decode cX6_digest 172 = .ok (.ladd, 1) := by decide +kernel
theorem dX6_digest_173 : decode cX6_digest 173 = .ok (.lstore_n 1, 1) := by decide +kernel
theorem dX6_digest_174 : decode cX6_digest 174 = .ok (.ldc2_w 272, 3) := by decide +kernel
theorem dX6_digest_177 : decode cX6_digest 177 = .ok (.lload_n 1, 1) := by decide +kernel
theorem dX6_digest_178 : decode cX6_digest 178 = .ok (.lmul, 1) := by decide +kernel
theorem dX6_digest_179 : decode cX6_digest 179 = .ok (.aload_n 0, 1) := by decide +kernel
theorem dX6_digest_180 : decode cX6_digest 180 = .ok (.iload_n 3, 1) := by decide +kernel
theorem dX6_digest_181 : decode cX6_digest 181 = .ok (.iconst 0, 1) := by decide +kernel
theorem dX6_digest_182 : decode cX6_digest 182 = .ok (.invokevirtual 292, 3) := by decide +kernel
theorem dX6_digest_185 : decode cX6_digest 185 = .ok (.i2l, 1) := by decide +kernel
theorem dX6_digest_186 : decode cX6_digest 186 = .ok (.ladd, 1) := by decide +kernel
theorem dX6_digest_187 : decode cX6_digest 187 = .ok (.lstore_n 1, 1) := by decide +kernel
theorem dX6_digest_188 : decode cX6_digest 188 = .ok (.ldc2_w 272, 3) := by decide +kernel
theorem dX6_digest_191 : decode cX6_digest 191 = .ok (.lload_n 1, 1) := by decide +kernel
theorem dX6_digest_192 : decode cX6_digest 192 = .ok (.lmul, 1) := by decide +kernel
theorem dX6_digest_193 : decode cX6_digest 193 = .ok (.aload_n 0, 1) := by decide +kernel
theorem dX6_digest_194 : decode cX6_digest 194 = .ok (.iload_n 3, 1) := by decide +kernel
theorem dX6_digest_195 : decode cX6_digest 195 = .ok (.iconst 1, 1) := by decide +kernel
theorem dX6_digest_196 : decode cX6_digest 196 = .ok (.invokevirtual 292, 3) := by decide +kernel
theorem dX6_digest_199 : decode cX6_digest 199 = .ok (.i2l, 1) := by decide +kernel
theorem dX6_digest_200 : decode cX6_digest 200 = .ok (.ladd, 1) := by decide +kernel
theorem dX6_digest_201 : decode cX6_digest 201 = .ok (.lstore_n 1, 1) := by decide +kernel
theorem dX6_digest_202 : decode cX6_digest 202 = .ok (.iinc 3 1, 3) := by decide +kernel
theorem dX6_digest_205 : decode cX6_digest 205 = .ok (.goto (-50), 3) := by decide +kernel
theorem dX6_digest_208 : decode cX6_digest 208 = .ok (.ldc2_w 272, 3) := by decide +kernel
theorem dX6_digest_211 : decode cX6_digest 211 = .ok (.lload_n 1, 1) := by decide +kernel
theorem dX6_digest_212 : decode cX6_digest 212 = .ok (.lmul, 1) := by decide +kernel
theorem dX6_digest_213 : decode cX6_digest 213 = .ok (.aload_n 0, 1) := by decide +kernel
theorem dX6_digest_214 : decode cX6_digest 214 = .ok (.invokevirtual 295, 3) := by decide +kernel
theorem dX6_digest_217 : decode cX6_digest 217 = .ok (.i2l, 1) := by decide +kernel
theorem dX6_digest_218 : decode cX6_digest 218 = .ok (.ladd, 1) := by decide +kernel
theorem dX6_digest_219 : decode cX6_digest 219 = .ok (.lstore_n 1, 1) := by decide +kernel
theorem dX6_digest_220 : decode cX6_digest 220 = .ok (.iconst 0, 1) := by decide +kernel
theorem dX6_digest_221 : decode cX6_digest 221 = .ok (.istore_n 3, 1) := by decide +kernel
theorem dX6_digest_222 : decode cX6_digest 222 = .ok (.iload_n 3, 1) := by decide +kernel
theorem dX6_digest_223 : decode cX6_digest 223 = .ok (.iconst 3, 1) := by decide +kernel
theorem dX6_digest_224 : decode cX6_digest 224 = .ok (.if_icmp .ge 24, 3) := by decide +kernel
theorem dX6_digest_227 : decode cX6_digest 227 = .ok (.ldc2_w 272, 3) := by decide +kernel
theorem dX6_digest_230 : decode cX6_digest 230 = .ok (.lload_n 1, 1) := by decide +kernel
theorem dX6_digest_231 : decode cX6_digest 231 = .ok (.lmul, 1) := by decide +kernel
theorem dX6_digest_232 : decode cX6_digest 232 = .ok (.aload_n 0, 1) := by decide +kernel
theorem dX6_digest_233 : decode cX6_digest 233 = .ok (.bipush 8, 2) := by decide +kernel
theorem dX6_digest_235 : decode cX6_digest 235 = .ok (.iload_n 3, 1) := by decide +kernel
theorem dX6_digest_236 : decode cX6_digest 236 = .ok (.invokevirtual 298, 3) := by decide +kernel
theorem dX6_digest_239 : decode cX6_digest 239 = .ok (.i2l, 1) := by decide +kernel
theorem dX6_digest_240 : decode cX6_digest 240 = .ok (.ladd, 1) := by decide +kernel
theorem dX6_digest_241 : decode cX6_digest 241 = .ok (.lstore_n 1, 1) := by decide +kernel
theorem dX6_digest_242 : decode cX6_digest 242 = .ok (.iinc 3 1, 3) := by decide +kernel
theorem dX6_digest_245 : decode cX6_digest 245 = .ok (.goto (-23), 3) := by decide +kernel
theorem dX6_digest_248 : decode cX6_digest 248 = .ok (.ldc2_w 272, 3) := by decide +kernel
theorem dX6_digest_251 : decode cX6_digest 251 = .ok (.lload_n 1, 1) := by decide +kernel
theorem dX6_digest_252 : decode cX6_digest 252 = .ok (.lmul, 1) := by decide +kernel
theorem dX6_digest_253 : decode cX6_digest 253 = .ok (.aload_n 0, 1) := by decide +kernel
theorem dX6_digest_254 : decode cX6_digest 254 = .ok (.iconst 0, 1) := by decide +kernel
theorem dX6_digest_255 : decode cX6_digest 255 = .ok (.invokevirtual 301, 3) := by decide +kernel
theorem dX6_digest_258 : decode cX6_digest 258 = .ok (.i2l, 1) := by decide +kernel
theorem dX6_digest_259 : decode cX6_digest 259 = .ok (.ladd, 1) := by decide +kernel
theorem dX6_digest_260 : decode cX6_digest 260 = .ok (.lstore_n 1, 1) := by decide +kernel
theorem dX6_digest_261 : decode cX6_digest 261 = .ok (.ldc2_w 272, 3) := by decide +kernel
theorem dX6_digest_264 : decode cX6_digest 264 = .ok (.lload_n 1, 1) := by decide +kernel
theorem dX6_digest_265 : decode cX6_digest 265 = .ok (.lmul, 1) := by decide +kernel
theorem dX6_digest_266 : decode cX6_digest 266 = .ok (.aload_n 0, 1) := by decide +kernel
theorem dX6_digest_267 : decode cX6_digest 267 = .ok (.iconst 1, 1) := by decide +kernel
theorem dX6_digest_268 : decode cX6_digest 268 = .ok (.invokevirtual 301, 3) := by decide +kernel
theorem dX6_digest_271 : decode cX6_digest 271 = .ok (.i2l, 1) := by decide +kernel
theorem dX6_digest_272 : decode cX6_digest 272 = .ok (.ladd, 1) := by decide +kernel
theorem dX6_digest_273 : decode cX6_digest 273 = .ok (.lstore_n 1, 1) := by decide +kernel
theorem dX6_digest_274 : decode cX6_digest 274 = .ok (.ldc2_w 272, 3) := by decide +kernel
theorem dX6_digest_277 : decode cX6_digest 277 = .ok (.lload_n 1, 1) := by decide +kernel
theorem dX6_digest_278 : decode cX6_digest 278 = .ok (.lmul, 1) := by decide +kernel
theorem dX6_digest_279 : decode cX6_digest 279 = .ok (.aload_n 0, 1) := by decide +kernel
theorem dX6_digest_280 : decode cX6_digest 280 = .ok (.iconst (-1), 1) := by decide +kernel
theorem dX6_digest_281 : decode cX6_digest 281 = .ok (.invokevirtual 304, 3) := by decide +kernel
theorem dX6_digest_284 : decode cX6_digest 284 = .ok (.i2l, 1) := by decide +kernel
theorem dX6_digest_285 : decode cX6_digest 285 = .ok (.ladd, 1) := by decide +kernel
theorem dX6_digest_286 : decode cX6_digest 286 = .ok (.lstore_n 1, 1) := by decide +kernel
theorem dX6_digest_287 : decode cX6_digest 287 = .ok (.ldc2_w 272, 3) := by decide +kernel
theorem dX6_digest_290 : decode cX6_digest 290 = .ok (.lload_n 1, 1) := by decide +kernel
theorem dX6_digest_291 : decode cX6_digest 291 = .ok (.lmul, 1) := by decide +kernel
theorem dX6_digest_292 : decode cX6_digest 292 = .ok (.aload_n 0, 1) := by decide +kernel
theorem dX6_digest_293 : decode cX6_digest 293 = .ok (.iconst 0, 1) := by decide +kernel
theorem dX6_digest_294 : decode cX6_digest 294 = .ok (.invokevirtual 304, 3) := by decide +kernel
theorem dX6_digest_297 : decode cX6_digest 297 = .ok (.i2l, 1) := by decide +kernel
theorem dX6_digest_298 : decode cX6_digest 298 = .ok (.ladd, 1) := by decide +kernel
theorem dX6_digest_299 : decode cX6_digest 299 = .ok (.lstore_n 1, 1) := by decide +kernel
theorem dX6_digest_300 : decode cX6_digest 300 = .ok (.ldc2_w 272, 3) := by decide +kernel
theorem dX6_digest_303 : decode cX6_digest 303 = .ok (.lload_n 1, 1) := by decide +kernel
theorem dX6_digest_304 : decode cX6_digest 304 = .ok (.lmul, 1) := by decide +kernel
theorem dX6_digest_305 : decode cX6_digest 305 = .ok (.aload_n 0, 1) := by decide +kernel
theorem dX6_digest_306 : decode cX6_digest 306 = .ok (.invokevirtual 307, 3) := by decide +kernel
theorem dX6_digest_309 : decode cX6_digest 309 = .ok (.i2l, 1) := by decide +kernel
theorem dX6_digest_310 : decode cX6_digest 310 = .ok (.ladd, 1) := by decide +kernel
theorem dX6_digest_311 : decode cX6_digest 311 = .ok (.lstore_n 1, 1) := by decide +kernel
theorem dX6_digest_312 : decode cX6_digest 312 = .ok (.ldc2_w 272, 3) := by decide +kernel
theorem dX6_digest_315 : decode cX6_digest 315 = .ok (.lload_n 1, 1) := by decide +kernel
theorem dX6_digest_316 : decode cX6_digest 316 = .ok (.lmul, 1) := by decide +kernel
theorem dX6_digest_317 : decode cX6_digest 317 = .ok (.aload_n 0, 1) := by decide +kernel
theorem dX6_digest_318 : decode cX6_digest 318 = .ok (.bipush 7, 2) := by decide +kernel
theorem dX6_digest_320 : decode cX6_digest 320 = .ok (.bipush 9, 2) := by decide +kernel
theorem dX6_digest_322 : decode cX6_digest 322 = .ok (.iconst 0, 1) := by decide +kernel
theorem dX6_digest_323 : decode cX6_digest 323 = .ok (.invokevirtual 310, 3) := by decide +kernel
theorem dX6_digest_326 : decode cX6_digest 326 = .ok (.i2l, 1) := by decide +kernel
theorem dX6_digest_327 : decode cX6_digest 327 = .ok (.ladd, 1) := by decide +kernel
theorem dX6_digest_328 : decode cX6_digest 328 = .ok (.lstore_n 1, 1) := by decide +kernel
theorem dX6_digest_329 : decode cX6_digest 329 = .ok (.ldc2_w 272, 3) := by decide +kernel
theorem dX6_digest_332 : decode cX6_digest 332 = .ok (.lload_n 1, 1) := by decide +kernel
theorem dX6_digest_333 : decode cX6_digest 333 = .ok (.lmul, 1) := by decide +kernel
theorem dX6_digest_334 : decode cX6_digest 334 = .ok (.aload_n 0, 1) := by decide +kernel
theorem dX6_digest_335 : decode cX6_digest 335 = .ok (.bipush 7, 2) := by decide +kernel
theorem dX6_digest_337 : decode cX6_digest 337 = .ok (.bipush 9, 2) := by decide +kernel
theorem dX6_digest_339 : decode cX6_digest 339 = .ok (.iconst 1, 1) := by decide +kernel
theorem dX6_digest_340 : decode cX6_digest 340 = .ok (.invokevirtual 310, 3) := by decide +kernel
theorem dX6_digest_343 : decode cX6_digest 343 = .ok (.i2l, 1) := by decide +kernel
theorem dX6_digest_344 : decode cX6_digest 344 = .ok (.ladd, 1) := by decide +kernel
theorem dX6_digest_345 : decode cX6_digest 345 = .ok (.lreturn, 1) := by decide +kernel
theorem dX6_digestWord_0 : decode cX6_digestWord 0 = .ok (.lload_n 1, 1) := by decide +kernel
theorem dX6_digestWord_1 : decode cX6_digestWord 1 = .ok (.lstore 4, 2) := by decide +kernel
theorem dX6_digestWord_3 : decode cX6_digestWord 3 = .ok (.iconst 0, 1) := by decide +kernel
theorem dX6_digestWord_4 : decode cX6_digestWord 4 = .ok (.istore 6, 2) := by decide +kernel
theorem dX6_digestWord_6 : decode cX6_digestWord 6 = .ok (.iload 6, 2) := by decide +kernel
theorem dX6_digestWord_8 : decode cX6_digestWord 8 = .ok (.iconst 3, 1) := by decide +kernel
theorem dX6_digestWord_9 : decode cX6_digestWord 9 = .ok (.if_icmp .ge 26, 3) := by decide +kernel
theorem dX6_digestWord_12 : decode cX6_digestWord 12 = .ok (.ldc2_w 272, 3) := by decide +kernel
theorem dX6_digestWord_15 : decode cX6_digestWord 15 = .ok (.lload 4, 2) := by decide +kernel
theorem dX6_digestWord_17 : decode cX6_digestWord 17 = .ok (.lmul, 1) := by decide +kernel
theorem dX6_digestWord_18 : decode cX6_digestWord 18 = .ok (.aload_n 0, 1) := by decide +kernel
theorem dX6_digestWord_19 : decode cX6_digestWord 19 = .ok (.iload_n 3, 1) := by decide +kernel
theorem dX6_digestWord_20 : decode cX6_digestWord 20 = .ok (.iload 6, 2) := by decide +kernel
theorem dX6_digestWord_22 : decode cX6_digestWord 22 = .ok (.invokevirtual 314, 3) := by decide +kernel
theorem dX6_digestWord_25 : decode cX6_digestWord 25 = .ok (.i2l, 1) := by decide +kernel
theorem dX6_digestWord_26 : decode cX6_digestWord 26 = .ok (.ladd, 1) := by decide +kernel
theorem dX6_digestWord_27 : decode cX6_digestWord 27 = .ok (.lstore 4, 2) := by decide +kernel
theorem dX6_digestWord_29 : decode cX6_digestWord 29 = .ok (.iinc 6 1, 3) := by decide +kernel
theorem dX6_digestWord_32 : decode cX6_digestWord 32 = .ok (.goto (-26), 3) := by decide +kernel
theorem dX6_digestWord_35 : decode cX6_digestWord 35 = .ok (.getstatic 317, 3) := by decide +kernel
theorem dX6_digestWord_38 : decode cX6_digestWord 38 = .ok (.astore 6, 2) := by decide +kernel
theorem dX6_digestWord_40 : decode cX6_digestWord 40 = .ok (.aload 6, 2) := by decide +kernel
theorem dX6_digestWord_42 : decode cX6_digestWord 42 = .ok (.arraylength, 1) := by decide +kernel
theorem dX6_digestWord_43 : decode cX6_digestWord 43 = .ok (.istore 7, 2) := by decide +kernel
theorem dX6_digestWord_45 : decode cX6_digestWord 45 = .ok (.iconst 0, 1) := by decide +kernel
theorem dX6_digestWord_46 : decode cX6_digestWord 46 = .ok (.istore 8, 2) := by decide +kernel
theorem dX6_digestWord_48 : decode cX6_digestWord 48 = .ok (.iload 8, 2) := by decide +kernel
theorem dX6_digestWord_50 : decode cX6_digestWord 50 = .ok (.iload 7, 2) := by decide +kernel
theorem dX6_digestWord_52 : decode cX6_digestWord 52 = .ok (.if_icmp .ge 52, 3) := by decide +kernel
theorem dX6_digestWord_55 : decode cX6_digestWord 55 = .ok (.aload 6, 2) := by decide +kernel
theorem dX6_digestWord_57 : decode cX6_digestWord 57 = .ok (.iload 8, 2) := by decide +kernel
theorem dX6_digestWord_59 : decode cX6_digestWord 59 = .ok (.iaload, 1) := by decide +kernel
theorem dX6_digestWord_60 : decode cX6_digestWord 60 = .ok (.istore 9, 2) := by decide +kernel
theorem dX6_digestWord_62 : decode cX6_digestWord 62 = .ok (.ldc2_w 272, 3) := by decide +kernel
theorem dX6_digestWord_65 : decode cX6_digestWord 65 = .ok (.lload 4, 2) := by decide +kernel
theorem dX6_digestWord_67 : decode cX6_digestWord 67 = .ok (.lmul, 1) := by decide +kernel
theorem dX6_digestWord_68 : decode cX6_digestWord 68 = .ok (.aload_n 0, 1) := by decide +kernel
theorem dX6_digestWord_69 : decode cX6_digestWord 69 = .ok (.iload 9, 2) := by decide +kernel
theorem dX6_digestWord_71 : decode cX6_digestWord 71 = .ok (.iload_n 3, 1) := by decide +kernel
theorem dX6_digestWord_72 : decode cX6_digestWord 72 = .ok (.iconst 0, 1) := by decide +kernel
theorem dX6_digestWord_73 : decode cX6_digestWord 73 = .ok (.invokevirtual 320, 3) := by decide +kernel
theorem dX6_digestWord_76 : decode cX6_digestWord 76 = .ok (.i2l, 1) := by decide +kernel
theorem dX6_digestWord_77 : decode cX6_digestWord 77 = .ok (.ladd, 1) := by decide +kernel
theorem dX6_digestWord_78 : decode cX6_digestWord 78 = .ok (.lstore 4, 2) := by decide +kernel
theorem dX6_digestWord_80 : decode cX6_digestWord 80 = .ok (.ldc2_w 272, 3) := by decide +kernel
theorem dX6_digestWord_83 : decode cX6_digestWord 83 = .ok (.lload 4, 2) := by decide +kernel
theorem dX6_digestWord_85 : decode cX6_digestWord 85 = .ok (.lmul, 1) := by decide +kernel
theorem dX6_digestWord_86 : decode cX6_digestWord 86 = .ok (.aload_n 0, 1) := by decide +kernel
theorem dX6_digestWord_87 : decode cX6_digestWord 87 = .ok (.iload 9, 2) := by decide +kernel
theorem dX6_digestWord_89 : decode cX6_digestWord 89 = .ok (.iload_n 3, 1) := by decide +kernel
theorem dX6_digestWord_90 : decode cX6_digestWord 90 = .ok (.iconst 1, 1) := by decide +kernel
theorem dX6_digestWord_91 : decode cX6_digestWord 91 = .ok (.invokevirtual 320, 3) := by decide +kernel
theorem dX6_digestWord_94 : decode cX6_digestWord 94 = .ok (.i2l, 1) := by decide +kernel
theorem dX6_digestWord_95 : decode cX6_digestWord 95 = .ok (.ladd, 1) := by decide +kernel
theorem dX6_digestWord_96 : decode cX6_digestWord 96 = .ok (.lstore 4, 2) := by decide +kernel
theorem dX6_digestWord_98 : decode cX6_digestWord 98 = .ok (.iinc 8 1, 3) := by decide +kernel
theorem dX6_digestWord_101 : decode cX6_digestWord 101 = .ok (.goto (-53), 3) := by decide +kernel
theorem dX6_digestWord_104 : decode cX6_digestWord 104 = .ok (.ldc2_w 272, 3) := by decide +kernel
theorem dX6_digestWord_107 : decode cX6_digestWord 107 = .ok (.lload 4, 2) := by decide +kernel
theorem dX6_digestWord_109 : decode cX6_digestWord 109 = .ok (.lmul, 1) := by decide +kernel
theorem dX6_digestWord_110 : decode cX6_digestWord 110 = .ok (.aload_n 0, 1) := by decide +kernel
theorem dX6_digestWord_111 : decode cX6_digestWord 111 = .ok (.iload_n 3, 1) := by decide +kernel
theorem dX6_digestWord_112 : decode cX6_digestWord 112 = .ok (.invokevirtual 323, 3) := by decide +kernel
theorem dX6_digestWord_115 : decode cX6_digestWord 115 = .ok (.i2l, 1) := by decide +kernel
theorem dX6_digestWord_116 : decode cX6_digestWord 116 = .ok (.ladd, 1) := by decide +kernel
theorem dX6_digestWord_117 : decode cX6_digestWord 117 = .ok (.lstore 4, 2) := by decide +kernel
theorem dX6_digestWord_119 : decode cX6_digestWord 119 = .ok (.ldc2_w 272, 3) := by decide +kernel
theorem dX6_digestWord_122 : decode cX6_digestWord 122 = .ok (.lload 4, 2) := by decide +kernel
theorem dX6_digestWord_124 : decode cX6_digestWord 124 = .ok (.lmul, 1) := by decide +kernel
theorem dX6_digestWord_125 : decode cX6_digestWord 125 = .ok (.aload_n 0, 1) := by decide +kernel
theorem dX6_digestWord_126 : decode cX6_digestWord 126 = .ok (.iload_n 3, 1) := by decide +kernel
theorem dX6_digestWord_127 : decode cX6_digestWord 127 = .ok (.invokevirtual 326, 3) := by decide +kernel
theorem dX6_digestWord_130 : decode cX6_digestWord 130 = .ok (.i2l, 1) := by decide +kernel
theorem dX6_digestWord_131 : decode cX6_digestWord 131 = .ok (.ladd, 1) := by decide +kernel
theorem dX6_digestWord_132 : decode cX6_digestWord 132 = .ok (.lstore 4, 2) := by decide +kernel
theorem dX6_digestWord_134 : decode cX6_digestWord 134 = .ok (.ldc2_w 272, 3) := by decide +kernel
theorem dX6_digestWord_137 : decode cX6_digestWord 137 = .ok (.lload 4, 2) := by decide +kernel
theorem dX6_digestWord_139 : decode cX6_digestWord 139 = .ok (.lmul, 1) := by decide +kernel
theorem dX6_digestWord_140 : decode cX6_digestWord 140 = .ok (.aload_n 0, 1) := by decide +kernel
theorem dX6_digestWord_141 : decode cX6_digestWord 141 = .ok (.iconst 5, 1) := by decide +kernel
theorem dX6_digestWord_142 : decode cX6_digestWord 142 = .ok (.iload_n 3, 1) := by decide +kernel
theorem dX6_digestWord_143 : decode cX6_digestWord 143 = .ok (.iconst 0, 1) := by decide +kernel
theorem dX6_digestWord_144 : decode cX6_digestWord 144 = .ok (.invokevirtual 329, 3) := by decide +kernel
theorem dX6_digestWord_147 : decode cX6_digestWord 147 = .ok (.ladd, 1) := by decide +kernel
theorem dX6_digestWord_148 : decode cX6_digestWord 148 = .ok (.lstore 4, 2) := by decide +kernel
theorem dX6_digestWord_150 : decode cX6_digestWord 150 = .ok (.ldc2_w 272, 3) := by decide +kernel
theorem dX6_digestWord_153 : decode cX6_digestWord 153 = .ok (.lload 4, 2) := by decide +kernel
theorem dX6_digestWord_155 : decode cX6_digestWord 155 = .ok (.lmul, 1) := by decide +kernel
theorem dX6_digestWord_156 : decode cX6_digestWord 156 = .ok (.aload_n 0, 1) := by decide +kernel
theorem dX6_digestWord_157 : decode cX6_digestWord 157 = .ok (.iconst 5, 1) := by decide +kernel
theorem dX6_digestWord_158 : decode cX6_digestWord 158 = .ok (.iload_n 3, 1) := by decide +kernel
theorem dX6_digestWord_159 : decode cX6_digestWord 159 = .ok (.iconst 1, 1) := by decide +kernel
theorem dX6_digestWord_160 : decode cX6_digestWord 160 = .ok (.invokevirtual 329, 3) := by decide +kernel
theorem dX6_digestWord_163 : decode cX6_digestWord 163 = .ok (.ladd, 1) := by decide +kernel
theorem dX6_digestWord_164 : decode cX6_digestWord 164 = .ok (.lreturn, 1) := by decide +kernel
theorem dX6_digestPerson_0 : decode cX6_digestPerson 0 = .ok (.ldc2_w 272, 3) := by decide +kernel
theorem dX6_digestPerson_3 : decode cX6_digestPerson 3 = .ok (.lload_n 1, 1) := by decide +kernel
theorem dX6_digestPerson_4 : decode cX6_digestPerson 4 = .ok (.lmul, 1) := by decide +kernel
theorem dX6_digestPerson_5 : decode cX6_digestPerson 5 = .ok (.aload_n 0, 1) := by decide +kernel
theorem dX6_digestPerson_6 : decode cX6_digestPerson 6 = .ok (.iload_n 3, 1) := by decide +kernel
theorem dX6_digestPerson_7 : decode cX6_digestPerson 7 = .ok (.iconst 0, 1) := by decide +kernel
theorem dX6_digestPerson_8 : decode cX6_digestPerson 8 = .ok (.invokevirtual 333, 3) := by decide +kernel
theorem dX6_digestPerson_11 : decode cX6_digestPerson 11 = .ok (.i2l, 1) := by decide +kernel
theorem dX6_digestPerson_12 : decode cX6_digestPerson 12 = .ok (.ladd, 1) := by decide +kernel
theorem dX6_digestPerson_13 : decode cX6_digestPerson 13 = .ok (.lstore 4, 2) := by decide +kernel
theorem dX6_digestPerson_15 : decode cX6_digestPerson 15 = .ok (.ldc2_w 272, 3) := by decide +kernel
theorem dX6_digestPerson_18 : decode cX6_digestPerson 18 = .ok (.lload 4, 2) := by decide +kernel
theorem dX6_digestPerson_20 : decode cX6_digestPerson 20 = .ok (.lmul, 1) := by decide +kernel
theorem dX6_digestPerson_21 : decode cX6_digestPerson 21 = .ok (.aload_n 0, 1) := by decide +kernel
theorem dX6_digestPerson_22 : decode cX6_digestPerson 22 = .ok (.iload_n 3, 1) := by decide +kernel
theorem dX6_digestPerson_23 : decode cX6_digestPerson 23 = .ok (.iconst 1, 1) := by decide +kernel
theorem dX6_digestPerson_24 : decode cX6_digestPerson 24 = .ok (.invokevirtual 333, 3) := by decide +kernel
theorem dX6_digestPerson_27 : decode cX6_digestPerson 27 = .ok (.i2l, 1) := by decide +kernel
theorem dX6_digestPerson_28 : decode cX6_digestPerson 28 = .ok (.ladd, 1) := by decide +kernel
theorem dX6_digestPerson_29 : decode cX6_digestPerson 29 = .ok (.lstore 4, 2) := by decide +kernel
theorem dX6_digestPerson_31 : decode cX6_digestPerson 31 = .ok (.iconst 0, 1) := by decide +kernel
theorem dX6_digestPerson_32 : decode cX6_digestPerson 32 = .ok (.istore 6, 2) := by decide +kernel
theorem dX6_digestPerson_34 : decode cX6_digestPerson 34 = .ok (.iload 6, 2) := by decide +kernel
theorem dX6_digestPerson_36 : decode cX6_digestPerson 36 = .ok (.iconst 4, 1) := by decide +kernel
theorem dX6_digestPerson_37 : decode cX6_digestPerson 37 = .ok (.if_icmp .ge 28, 3) := by decide +kernel
theorem dX6_digestPerson_40 : decode cX6_digestPerson 40 = .ok (.ldc2_w 272, 3) := by decide +kernel
theorem dX6_digestPerson_43 : decode cX6_digestPerson 43 = .ok (.lload 4, 2) := by decide +kernel
theorem dX6_digestPerson_45 : decode cX6_digestPerson 45 = .ok (.lmul, 1) := by decide +kernel
theorem dX6_digestPerson_46 : decode cX6_digestPerson 46 = .ok (.aload_n 0, 1) := by decide +kernel
theorem dX6_digestPerson_47 : decode cX6_digestPerson 47 = .ok (.bipush 6, 2) := by decide +kernel
theorem dX6_digestPerson_49 : decode cX6_digestPerson 49 = .ok (.iload_n 3, 1) := by decide +kernel
theorem dX6_digestPerson_50 : decode cX6_digestPerson 50 = .ok (.iload 6, 2) := by decide +kernel
theorem dX6_digestPerson_52 : decode cX6_digestPerson 52 = .ok (.invokevirtual 336, 3) := by decide +kernel
theorem dX6_digestPerson_55 : decode cX6_digestPerson 55 = .ok (.i2l, 1) := by decide +kernel
theorem dX6_digestPerson_56 : decode cX6_digestPerson 56 = .ok (.ladd, 1) := by decide +kernel
theorem dX6_digestPerson_57 : decode cX6_digestPerson 57 = .ok (.lstore 4, 2) := by decide +kernel
theorem dX6_digestPerson_59 : decode cX6_digestPerson 59 = .ok (.iinc 6 1, 3) := by decide +kernel
theorem dX6_digestPerson_62 : decode cX6_digestPerson 62 = .ok (.goto (-28), 3) := by decide +kernel
theorem dX6_digestPerson_65 : decode cX6_digestPerson 65 = .ok (.iconst 0, 1) := by decide +kernel
theorem dX6_digestPerson_66 : decode cX6_digestPerson 66 = .ok (.istore 6, 2) := by decide +kernel
theorem dX6_digestPerson_68 : decode cX6_digestPerson 68 = .ok (.iload 6, 2) := by decide +kernel
theorem dX6_digestPerson_70 : decode cX6_digestPerson 70 = .ok (.iconst 4, 1) := by decide +kernel
theorem dX6_digestPerson_71 : decode cX6_digestPerson 71 = .ok (.if_icmp .ge 28, 3) := by decide +kernel
theorem dX6_digestPerson_74 : decode cX6_digestPerson 74 = .ok (.ldc2_w 272, 3) := by decide +kernel
theorem dX6_digestPerson_77 : decode cX6_digestPerson 77 = .ok (.lload 4, 2) := by decide +kernel
theorem dX6_digestPerson_79 : decode cX6_digestPerson 79 = .ok (.lmul, 1) := by decide +kernel
theorem dX6_digestPerson_80 : decode cX6_digestPerson 80 = .ok (.aload_n 0, 1) := by decide +kernel
theorem dX6_digestPerson_81 : decode cX6_digestPerson 81 = .ok (.bipush 23, 2) := by decide +kernel
theorem dX6_digestPerson_83 : decode cX6_digestPerson 83 = .ok (.iload_n 3, 1) := by decide +kernel
theorem dX6_digestPerson_84 : decode cX6_digestPerson 84 = .ok (.iload 6, 2) := by decide +kernel
theorem dX6_digestPerson_86 : decode cX6_digestPerson 86 = .ok (.invokevirtual 336, 3) := by decide +kernel
theorem dX6_digestPerson_89 : decode cX6_digestPerson 89 = .ok (.i2l, 1) := by decide +kernel
theorem dX6_digestPerson_90 : decode cX6_digestPerson 90 = .ok (.ladd, 1) := by decide +kernel
theorem dX6_digestPerson_91 : decode cX6_digestPerson 91 = .ok (.lstore 4, 2) := by decide +kernel
theorem dX6_digestPerson_93 : decode cX6_digestPerson 93 = .ok (.iinc 6 1, 3) := by decide +kernel
theorem dX6_digestPerson_96 : decode cX6_digestPerson 96 = .ok (.goto (-28), 3) := by decide +kernel
theorem dX6_digestPerson_99 : decode cX6_digestPerson 99 = .ok (.ldc2_w 272, 3) := by decide +kernel
theorem dX6_digestPerson_102 : decode cX6_digestPerson 102 = .ok (.lload 4, 2) := by decide +kernel
theorem dX6_digestPerson_104 : decode cX6_digestPerson 104 = .ok (.lmul, 1) := by decide +kernel
theorem dX6_digestPerson_105 : decode cX6_digestPerson 105 = .ok (.aload_n 0, 1) := by decide +kernel
theorem dX6_digestPerson_106 : decode cX6_digestPerson 106 = .ok (.iload_n 3, 1) := by decide +kernel
theorem dX6_digestPerson_107 : decode cX6_digestPerson 107 = .ok (.invokevirtual 339, 3) := by decide +kernel
theorem dX6_digestPerson_110 : decode cX6_digestPerson 110 = .ok (.i2l, 1) := by decide +kernel
theorem dX6_digestPerson_111 : decode cX6_digestPerson 111 = .ok (.ladd, 1) := by decide +kernel
theorem dX6_digestPerson_112 : decode cX6_digestPerson 112 = .ok (.lstore 4, 2) := by decide +kernel
theorem dX6_digestPerson_114 : decode cX6_digestPerson 114 = .ok (.ldc2_w 272, 3) := by decide +kernel
theorem dX6_digestPerson_117 : decode cX6_digestPerson 117 = .ok (.lload 4, 2) := by decide +kernel
theorem dX6_digestPerson_119 : decode cX6_digestPerson 119 = .ok (.lmul, 1) := by decide +kernel
theorem dX6_digestPerson_120 : decode cX6_digestPerson 120 = .ok (.aload_n 0, 1) := by decide +kernel
theorem dX6_digestPerson_121 : decode cX6_digestPerson 121 = .ok (.iload_n 3, 1) := by decide +kernel
theorem dX6_digestPerson_122 : decode cX6_digestPerson 122 = .ok (.invokevirtual 342, 3) := by decide +kernel
theorem dX6_digestPerson_125 : decode cX6_digestPerson 125 = .ok (.i2l, 1) := by decide +kernel
theorem dX6_digestPerson_126 : decode cX6_digestPerson 126 = .ok (.ladd, 1) := by decide +kernel
theorem dX6_digestPerson_127 : decode cX6_digestPerson 127 = .ok (.lstore 4, 2) := by decide +kernel
theorem dX6_digestPerson_129 : decode cX6_digestPerson 129 = .ok (.ldc2_w 272, 3) := by decide +kernel
theorem dX6_digestPerson_132 : decode cX6_digestPerson 132 = .ok (.lload 4, 2) := by decide +kernel
theorem dX6_digestPerson_134 : decode cX6_digestPerson 134 = .ok (.lmul, 1) := by decide +kernel
theorem dX6_digestPerson_135 : decode cX6_digestPerson 135 = .ok (.aload_n 0, 1) := by decide +kernel
theorem dX6_digestPerson_136 : decode cX6_digestPerson 136 = .ok (.iload_n 3, 1) := by decide +kernel
theorem dX6_digestPerson_137 : decode cX6_digestPerson 137 = .ok (.invokevirtual 345, 3) := by decide +kernel
theorem dX6_digestPerson_140 : decode cX6_digestPerson 140 = .ok (.i2l, 1) := by decide +kernel
theorem dX6_digestPerson_141 : decode cX6_digestPerson 141 = .ok (.ladd, 1) := by decide +kernel
theorem dX6_digestPerson_142 : decode cX6_digestPerson 142 = .ok (.lreturn, 1) := by decide +kernel
theorem dX6_tellAgain_0 : decode cX6_tellAgain 0 = .ok (.iload_n 1, 1) := by decide +kernel
theorem dX6_tellAgain_1 : decode cX6_tellAgain 1 = .ok (.ifCond .ne 19, 3) := by decide +kernel
theorem dX6_tellAgain_4 : decode cX6_tellAgain 4 = .ok (.aload_n 0, 1) := by decide +kernel
theorem dX6_tellAgain_5 : decode cX6_tellAgain 5 = .ok (.getfield 38, 3) := by decide +kernel
theorem dX6_tellAgain_8 : decode cX6_tellAgain 8 = .ok (.aload_n 0, 1) := by decide +kernel
theorem dX6_tellAgain_9 : decode cX6_tellAgain 9 = .ok (.getfield 11, 3) := by decide +kernel
theorem dX6_tellAgain_12 : decode cX6_tellAgain 12 = .ok (.iconst 0, 1) := by decide +kernel
theorem dX6_tellAgain_13 : decode cX6_tellAgain 13 = .ok (.aaload, 1) := by decide +kernel
theorem dX6_tellAgain_14 : decode cX6_tellAgain 14 = .ok (.invokevirtual 348, 3) := by decide +kernel
theorem dX6_tellAgain_17 : decode cX6_tellAgain 17 = .ok (.goto 37, 3) := by decide +kernel
theorem dX6_tellAgain_20 : decode cX6_tellAgain 20 = .ok (.iload_n 1, 1) := by decide +kernel
theorem dX6_tellAgain_21 : decode cX6_tellAgain 21 = .ok (.iconst 1, 1) := by decide +kernel
theorem dX6_tellAgain_22 : decode cX6_tellAgain 22 = .ok (.if_icmp .ne 19, 3) := by decide +kernel
theorem dX6_tellAgain_25 : decode cX6_tellAgain 25 = .ok (.aload_n 0, 1) := by decide +kernel
theorem dX6_tellAgain_26 : decode cX6_tellAgain 26 = .ok (.getfield 38, 3) := by decide +kernel
theorem dX6_tellAgain_29 : decode cX6_tellAgain 29 = .ok (.aload_n 0, 1) := by decide +kernel
theorem dX6_tellAgain_30 : decode cX6_tellAgain 30 = .ok (.getfield 11, 3) := by decide +kernel
theorem dX6_tellAgain_33 : decode cX6_tellAgain 33 = .ok (.iconst 1, 1) := by decide +kernel
theorem dX6_tellAgain_34 : decode cX6_tellAgain 34 = .ok (.aaload, 1) := by decide +kernel
theorem dX6_tellAgain_35 : decode cX6_tellAgain 35 = .ok (.invokevirtual 352, 3) := by decide +kernel
theorem dX6_tellAgain_38 : decode cX6_tellAgain 38 = .ok (.goto 16, 3) := by decide +kernel
theorem dX6_tellAgain_41 : decode cX6_tellAgain 41 = .ok (.aload_n 0, 1) := by decide +kernel
theorem dX6_tellAgain_42 : decode cX6_tellAgain 42 = .ok (.getfield 38, 3) := by decide +kernel
theorem dX6_tellAgain_45 : decode cX6_tellAgain 45 = .ok (.aload_n 0, 1) := by decide +kernel
theorem dX6_tellAgain_46 : decode cX6_tellAgain 46 = .ok (.getfield 11, 3) := by decide +kernel
theorem dX6_tellAgain_49 : decode cX6_tellAgain 49 = .ok (.iconst 2, 1) := by decide +kernel
theorem dX6_tellAgain_50 : decode cX6_tellAgain 50 = .ok (.aaload, 1) := by decide +kernel
theorem dX6_tellAgain_51 : decode cX6_tellAgain 51 = .ok (.invokevirtual 355, 3) := by decide +kernel
theorem dX6_tellAgain_54 : decode cX6_tellAgain 54 = .ok (.aload_n 0, 1) := by decide +kernel
theorem dX6_tellAgain_55 : decode cX6_tellAgain 55 = .ok (.invokevirtual 131, 3) := by decide +kernel
theorem dX6_tellAgain_58 : decode cX6_tellAgain 58 = .ok (.return_, 1) := by decide +kernel
theorem dX6_courseChanged_0 : decode cX6_courseChanged 0 = .ok (.aload_n 0, 1) := by decide +kernel
theorem dX6_courseChanged_1 : decode cX6_courseChanged 1 = .ok (.iconst 0, 1) := by decide +kernel
theorem dX6_courseChanged_2 : decode cX6_courseChanged 2 = .ok (.putfield 358, 3) := by decide +kernel
theorem dX6_courseChanged_5 : decode cX6_courseChanged 5 = .ok (.aload_n 0, 1) := by decide +kernel
theorem dX6_courseChanged_6 : decode cX6_courseChanged 6 = .ok (.iconst 0, 1) := by decide +kernel
theorem dX6_courseChanged_7 : decode cX6_courseChanged 7 = .ok (.putfield 362, 3) := by decide +kernel
theorem dX6_courseChanged_10 : decode cX6_courseChanged 10 = .ok (.return_, 1) := by decide +kernel
theorem dX6_learnCourse_0 : decode cX6_learnCourse 0 = .ok (.aload_n 0, 1) := by decide +kernel
theorem dX6_learnCourse_1 : decode cX6_learnCourse 1 = .ok (.getfield 358, 3) := by decide +kernel
theorem dX6_learnCourse_4 : decode cX6_learnCourse 4 = .ok (.ifCond .ne 30, 3) := by decide +kernel
theorem dX6_learnCourse_7 : decode cX6_learnCourse 7 = .ok (.aload_n 0, 1) := by decide +kernel
theorem dX6_learnCourse_8 : decode cX6_learnCourse 8 = .ok (.getfield 45, 3) := by decide +kernel
theorem dX6_learnCourse_11 : decode cX6_learnCourse 11 = .ok (.aload_n 0, 1) := by decide +kernel
theorem dX6_learnCourse_12 : decode cX6_learnCourse 12 = .ok (.getfield 38, 3) := by decide +kernel
theorem dX6_learnCourse_15 : decode cX6_learnCourse 15 = .ok (.aload_n 0, 1) := by decide +kernel
theorem dX6_learnCourse_16 : decode cX6_learnCourse 16 = .ok (.getfield 18, 3) := by decide +kernel
theorem dX6_learnCourse_19 : decode cX6_learnCourse 19 = .ok (.aload_n 0, 1) := by decide +kernel
theorem dX6_learnCourse_20 : decode cX6_learnCourse 20 = .ok (.getfield 18, 3) := by decide +kernel
theorem dX6_learnCourse_23 : decode cX6_learnCourse 23 = .ok (.invokevirtual 185, 3) := by decide +kernel
theorem dX6_learnCourse_26 : decode cX6_learnCourse 26 = .ok (.invokevirtual 188, 3) := by decide +kernel
theorem dX6_learnCourse_29 : decode cX6_learnCourse 29 = .ok (.aload_n 0, 1) := by decide +kernel
theorem dX6_learnCourse_30 : decode cX6_learnCourse 30 = .ok (.iconst 1, 1) := by decide +kernel
theorem dX6_learnCourse_31 : decode cX6_learnCourse 31 = .ok (.putfield 358, 3) := by decide +kernel
theorem dX6_learnCourse_34 : decode cX6_learnCourse 34 = .ok (.return_, 1) := by decide +kernel
theorem dX6_learnOdds_0 : decode cX6_learnOdds 0 = .ok (.aload_n 0, 1) := by decide +kernel
theorem dX6_learnOdds_1 : decode cX6_learnOdds 1 = .ok (.getfield 362, 3) := by decide +kernel
theorem dX6_learnOdds_4 : decode cX6_learnOdds 4 = .ok (.ifCond .eq 4, 3) := by decide +kernel
theorem dX6_learnOdds_7 : decode cX6_learnOdds 7 = .ok (.return_, 1) := by decide +kernel
theorem dX6_learnOdds_8 : decode cX6_learnOdds 8 = .ok (.iconst 0, 1) := by decide +kernel
theorem dX6_learnOdds_9 : decode cX6_learnOdds 9 = .ok (.istore_n 1, 1) := by decide +kernel
theorem dX6_learnOdds_10 : decode cX6_learnOdds 10 = .ok (.iload_n 1, 1) := by decide +kernel
theorem dX6_learnOdds_11 : decode cX6_learnOdds 11 = .ok (.aload_n 0, 1) := by decide +kernel
theorem dX6_learnOdds_12 : decode cX6_learnOdds 12 = .ok (.getfield 59, 3) := by decide +kernel
theorem dX6_learnOdds_15 : decode cX6_learnOdds 15 = .ok (.arraylength, 1) := by decide +kernel
theorem dX6_learnOdds_16 : decode cX6_learnOdds 16 = .ok (.if_icmp .ge 16, 3) := by decide +kernel
theorem dX6_learnOdds_19 : decode cX6_learnOdds 19 = .ok (.aload_n 0, 1) := by decide +kernel
theorem dX6_learnOdds_20 : decode cX6_learnOdds 20 = .ok (.getfield 59, 3) := by decide +kernel
theorem dX6_learnOdds_23 : decode cX6_learnOdds 23 = .ok (.iload_n 1, 1) := by decide +kernel
theorem dX6_learnOdds_24 : decode cX6_learnOdds 24 = .ok (.iconst 0, 1) := by decide +kernel
theorem dX6_learnOdds_25 : decode cX6_learnOdds 25 = .ok (.iastore, 1) := by decide +kernel
theorem dX6_learnOdds_26 : decode cX6_learnOdds 26 = .ok (.iinc 1 1, 3) := by decide +kernel
theorem dX6_learnOdds_29 : decode cX6_learnOdds 29 = .ok (.goto (-19), 3) := by decide +kernel
theorem dX6_learnOdds_32 : decode cX6_learnOdds 32 = .ok (.iconst 0, 1) := by decide +kernel
theorem dX6_learnOdds_33 : decode cX6_learnOdds 33 = .ok (.istore_n 1, 1) := by decide +kernel
theorem dX6_learnOdds_34 : decode cX6_learnOdds 34 = .ok (.iload_n 1, 1) := by decide +kernel
theorem dX6_learnOdds_35 : decode cX6_learnOdds 35 = .ok (.aload_n 0, 1) := by decide +kernel
theorem dX6_learnOdds_36 : decode cX6_learnOdds 36 = .ok (.getfield 18, 3) := by decide +kernel
theorem dX6_learnOdds_39 : decode cX6_learnOdds 39 = .ok (.invokevirtual 185, 3) := by decide +kernel
theorem dX6_learnOdds_42 : decode cX6_learnOdds 42 = .ok (.if_icmp .gt 78, 3) := by decide +kernel
theorem dX6_learnOdds_45 : decode cX6_learnOdds 45 = .ok (.aload_n 0, 1) := by decide +kernel
theorem dX6_learnOdds_46 : decode cX6_learnOdds 46 = .ok (.getfield 52, 3) := by decide +kernel
theorem dX6_learnOdds_49 : decode cX6_learnOdds 49 = .ok (.aload_n 0, 1) := by decide +kernel
theorem dX6_learnOdds_50 : decode cX6_learnOdds 50 = .ok (.getfield 38, 3) := by decide +kernel
theorem dX6_learnOdds_53 : decode cX6_learnOdds 53 = .ok (.aload_n 0, 1) := by decide +kernel
theorem dX6_learnOdds_54 : decode cX6_learnOdds 54 = .ok (.getfield 18, 3) := by decide +kernel
theorem dX6_learnOdds_57 : decode cX6_learnOdds 57 = .ok (.iload_n 1, 1) := by decide +kernel
theorem dX6_learnOdds_58 : decode cX6_learnOdds 58 = .ok (.invokevirtual 188, 3) := by decide +kernel
theorem dX6_learnOdds_61 : decode cX6_learnOdds 61 = .ok (.iload_n 1, 1) := by decide +kernel
theorem dX6_learnOdds_62 : decode cX6_learnOdds 62 = .ok (.invokestatic 204, 3) := by decide +kernel
theorem dX6_learnOdds_65 : decode cX6_learnOdds 65 = .ok (.istore_n 2, 1) := by decide +kernel
theorem dX6_learnOdds_66 : decode cX6_learnOdds 66 = .ok (.iconst 0, 1) := by decide +kernel
theorem dX6_learnOdds_67 : decode cX6_learnOdds 67 = .ok (.istore_n 3, 1) := by decide +kernel
theorem dX6_learnOdds_68 : decode cX6_learnOdds 68 = .ok (.iload_n 3, 1) := by decide +kernel
theorem dX6_learnOdds_69 : decode cX6_learnOdds 69 = .ok (.aload_n 0, 1) := by decide +kernel
theorem dX6_learnOdds_70 : decode cX6_learnOdds 70 = .ok (.getfield 38, 3) := by decide +kernel
theorem dX6_learnOdds_73 : decode cX6_learnOdds 73 = .ok (.getfield 100, 3) := by decide +kernel
theorem dX6_learnOdds_76 : decode cX6_learnOdds 76 = .ok (.if_icmp .ge 38, 3) := by decide +kernel
theorem dX6_learnOdds_79 : decode cX6_learnOdds 79 = .ok (.aload_n 0, 1) := by decide +kernel
theorem dX6_learnOdds_80 : decode cX6_learnOdds 80 = .ok (.getfield 52, 3) := by decide +kernel
theorem dX6_learnOdds_83 : decode cX6_learnOdds 83 = .ok (.bipush 23, 2) := by decide +kernel
theorem dX6_learnOdds_85 : decode cX6_learnOdds 85 = .ok (.iload_n 3, 1) := by decide +kernel
theorem dX6_learnOdds_86 : decode cX6_learnOdds 86 = .ok (.invokevirtual 152, 3) := by decide +kernel
theorem dX6_learnOdds_89 : decode cX6_learnOdds 89 = .ok (.iconst 1, 1) := by decide +kernel
theorem dX6_learnOdds_90 : decode cX6_learnOdds 90 = .ok (.if_icmp .ne 18, 3) := by decide +kernel
theorem dX6_learnOdds_93 : decode cX6_learnOdds 93 = .ok (.aload_n 0, 1) := by decide +kernel
theorem dX6_learnOdds_94 : decode cX6_learnOdds 94 = .ok (.getfield 59, 3) := by decide +kernel
theorem dX6_learnOdds_97 : decode cX6_learnOdds 97 = .ok (.iload_n 3, 1) := by decide +kernel
theorem dX6_learnOdds_98 : decode cX6_learnOdds 98 = .ok (.bipush 9, 2) := by decide +kernel
theorem dX6_learnOdds_100 : decode cX6_learnOdds 100 = .ok (.imul, 1) := by decide +kernel
theorem dX6_learnOdds_101 : decode cX6_learnOdds 101 = .ok (.iload_n 2, 1) := by decide +kernel
theorem dX6_learnOdds_102 : decode cX6_learnOdds 102 = .ok (.iadd, 1) := by decide +kernel
theorem dX6_learnOdds_103 : decode cX6_learnOdds 103 = .ok (.dup2, 1) := by decide +kernel
theorem dX6_learnOdds_104 : decode cX6_learnOdds 104 = .ok (.iaload, 1) := by decide +kernel
theorem dX6_learnOdds_105 : decode cX6_learnOdds 105 = .ok (.iconst 1, 1) := by decide +kernel
theorem dX6_learnOdds_106 : decode cX6_learnOdds 106 = .ok (.iadd, 1) := by decide +kernel
theorem dX6_learnOdds_107 : decode cX6_learnOdds 107 = .ok (.iastore, 1) := by decide +kernel
theorem dX6_learnOdds_108 : decode cX6_learnOdds 108 = .ok (.iinc 3 1, 3) := by decide +kernel
theorem dX6_learnOdds_111 : decode cX6_learnOdds 111 = .ok (.goto (-43), 3) := by decide +kernel
theorem dX6_learnOdds_114 : decode cX6_learnOdds 114 = .ok (.iinc 1 1, 3) := by decide +kernel
theorem dX6_learnOdds_117 : decode cX6_learnOdds 117 = .ok (.goto (-83), 3) := by decide +kernel
theorem dX6_learnOdds_120 : decode cX6_learnOdds 120 = .ok (.aload_n 0, 1) := by decide +kernel
theorem dX6_learnOdds_121 : decode cX6_learnOdds 121 = .ok (.iconst 1, 1) := by decide +kernel
theorem dX6_learnOdds_122 : decode cX6_learnOdds 122 = .ok (.putfield 362, 3) := by decide +kernel
theorem dX6_learnOdds_125 : decode cX6_learnOdds 125 = .ok (.return_, 1) := by decide +kernel
theorem dX6_sparedEchoes_0 : decode cX6_sparedEchoes 0 = .ok (.aload_n 0, 1) := by decide +kernel
theorem dX6_sparedEchoes_1 : decode cX6_sparedEchoes 1 = .ok (.iconst 0, 1) := by decide +kernel
theorem dX6_sparedEchoes_2 : decode cX6_sparedEchoes 2 = .ok (.invokevirtual 365, 3) := by decide +kernel
theorem dX6_sparedEchoes_5 : decode cX6_sparedEchoes 5 = .ok (.ifCond .eq 5, 3) := by decide +kernel
theorem dX6_sparedEchoes_8 : decode cX6_sparedEchoes 8 = .ok (.iconst 0, 1) := by decide +kernel
theorem dX6_sparedEchoes_9 : decode cX6_sparedEchoes 9 = .ok (.ireturn, 1) := by decide +kernel
theorem dX6_sparedEchoes_10 : decode cX6_sparedEchoes 10 = .ok (.iconst 0, 1) := by decide +kernel
theorem dX6_sparedEchoes_11 : decode cX6_sparedEchoes 11 = .ok (.istore_n 1, 1) := by decide +kernel
theorem dX6_sparedEchoes_12 : decode cX6_sparedEchoes 12 = .ok (.iload_n 1, 1) := by decide +kernel
theorem dX6_sparedEchoes_13 : decode cX6_sparedEchoes 13 = .ok (.aload_n 0, 1) := by decide +kernel
theorem dX6_sparedEchoes_14 : decode cX6_sparedEchoes 14 = .ok (.getfield 18, 3) := by decide +kernel
theorem dX6_sparedEchoes_17 : decode cX6_sparedEchoes 17 = .ok (.getfield 134, 3) := by decide +kernel
theorem dX6_sparedEchoes_20 : decode cX6_sparedEchoes 20 = .ok (.if_icmp .ge 23, 3) := by decide +kernel
theorem dX6_sparedEchoes_23 : decode cX6_sparedEchoes 23 = .ok (.aload_n 0, 1) := by decide +kernel
theorem dX6_sparedEchoes_24 : decode cX6_sparedEchoes 24 = .ok (.iconst 1, 1) := by decide +kernel
theorem dX6_sparedEchoes_25 : decode cX6_sparedEchoes 25 = .ok (.iload_n 1, 1) := by decide +kernel
theorem dX6_sparedEchoes_26 : decode cX6_sparedEchoes 26 = .ok (.ishl, 1) := by decide +kernel
theorem dX6_sparedEchoes_27 : decode cX6_sparedEchoes 27 = .ok (.invokevirtual 365, 3) := by decide +kernel
theorem dX6_sparedEchoes_30 : decode cX6_sparedEchoes 30 = .ok (.ifCond .eq 7, 3) := by decide +kernel
theorem dX6_sparedEchoes_33 : decode cX6_sparedEchoes 33 = .ok (.iconst 1, 1) := by decide +kernel
theorem dX6_sparedEchoes_34 : decode cX6_sparedEchoes 34 = .ok (.iload_n 1, 1) := by decide +kernel
theorem dX6_sparedEchoes_35 : decode cX6_sparedEchoes 35 = .ok (.ishl, 1) := by decide +kernel
theorem dX6_sparedEchoes_36 : decode cX6_sparedEchoes 36 = .ok (.ireturn, 1) := by decide +kernel
theorem dX6_sparedEchoes_37 : decode cX6_sparedEchoes 37 = .ok (.iinc 1 1, 3) := by decide +kernel
theorem dX6_sparedEchoes_40 : decode cX6_sparedEchoes 40 = .ok (.goto (-28), 3) := by decide +kernel
theorem dX6_sparedEchoes_43 : decode cX6_sparedEchoes 43 = .ok (.iconst 0, 1) := by decide +kernel
theorem dX6_sparedEchoes_44 : decode cX6_sparedEchoes 44 = .ok (.istore_n 1, 1) := by decide +kernel
theorem dX6_sparedEchoes_45 : decode cX6_sparedEchoes 45 = .ok (.iload_n 1, 1) := by decide +kernel
theorem dX6_sparedEchoes_46 : decode cX6_sparedEchoes 46 = .ok (.aload_n 0, 1) := by decide +kernel
theorem dX6_sparedEchoes_47 : decode cX6_sparedEchoes 47 = .ok (.getfield 18, 3) := by decide +kernel
theorem dX6_sparedEchoes_50 : decode cX6_sparedEchoes 50 = .ok (.getfield 134, 3) := by decide +kernel
theorem dX6_sparedEchoes_53 : decode cX6_sparedEchoes 53 = .ok (.if_icmp .ge 52, 3) := by decide +kernel
theorem dX6_sparedEchoes_56 : decode cX6_sparedEchoes 56 = .ok (.iload_n 1, 1) := by decide +kernel
theorem dX6_sparedEchoes_57 : decode cX6_sparedEchoes 57 = .ok (.iconst 1, 1) := by decide +kernel
theorem dX6_sparedEchoes_58 : decode cX6_sparedEchoes 58 = .ok (.iadd, 1) := by decide +kernel
theorem dX6_sparedEchoes_59 : decode cX6_sparedEchoes 59 = .ok (.istore_n 2, 1) := by decide +kernel
theorem dX6_sparedEchoes_60 : decode cX6_sparedEchoes 60 = .ok (.iload_n 2, 1) := by decide +kernel
theorem dX6_sparedEchoes_61 : decode cX6_sparedEchoes 61 = .ok (.aload_n 0, 1) := by decide +kernel
theorem dX6_sparedEchoes_62 : decode cX6_sparedEchoes 62 = .ok (.getfield 18, 3) := by decide +kernel
theorem dX6_sparedEchoes_65 : decode cX6_sparedEchoes 65 = .ok (.getfield 134, 3) := by decide +kernel
theorem dX6_sparedEchoes_68 : decode cX6_sparedEchoes 68 = .ok (.if_icmp .ge 31, 3) := by decide +kernel
theorem dX6_sparedEchoes_71 : decode cX6_sparedEchoes 71 = .ok (.aload_n 0, 1) := by decide +kernel
theorem dX6_sparedEchoes_72 : decode cX6_sparedEchoes 72 = .ok (.iconst 1, 1) := by decide +kernel
theorem dX6_sparedEchoes_73 : decode cX6_sparedEchoes 73 = .ok (.iload_n 1, 1) := by decide +kernel
theorem dX6_sparedEchoes_74 : decode cX6_sparedEchoes 74 = .ok (.ishl, 1) := by decide +kernel
theorem dX6_sparedEchoes_75 : decode cX6_sparedEchoes 75 = .ok (.iconst 1, 1) := by decide +kernel
theorem dX6_sparedEchoes_76 : decode cX6_sparedEchoes 76 = .ok (.iload_n 2, 1) := by decide +kernel
theorem dX6_sparedEchoes_77 : decode cX6_sparedEchoes 77 = .ok (.ishl, 1) := by decide +kernel
theorem dX6_sparedEchoes_78 : decode cX6_sparedEchoes 78 = .ok (.ior, 1) := by decide +kernel
theorem dX6_sparedEchoes_79 : decode cX6_sparedEchoes 79 = .ok (.invokevirtual 365, 3) := by decide +kernel
theorem dX6_sparedEchoes_82 : decode cX6_sparedEchoes 82 = .ok (.ifCond .eq 11, 3) := by decide +kernel
theorem dX6_sparedEchoes_85 : decode cX6_sparedEchoes 85 = .ok (.iconst 1, 1) := by decide +kernel
theorem dX6_sparedEchoes_86 : decode cX6_sparedEchoes 86 = .ok (.iload_n 1, 1) := by decide +kernel
theorem dX6_sparedEchoes_87 : decode cX6_sparedEchoes 87 = .ok (.ishl, 1) := by decide +kernel
theorem dX6_sparedEchoes_88 : decode cX6_sparedEchoes 88 = .ok (.iconst 1, 1) := by decide +kernel
theorem dX6_sparedEchoes_89 : decode cX6_sparedEchoes 89 = .ok (.iload_n 2, 1) := by decide +kernel
theorem dX6_sparedEchoes_90 : decode cX6_sparedEchoes 90 = .ok (.ishl, 1) := by decide +kernel
theorem dX6_sparedEchoes_91 : decode cX6_sparedEchoes 91 = .ok (.ior, 1) := by decide +kernel
theorem dX6_sparedEchoes_92 : decode cX6_sparedEchoes 92 = .ok (.ireturn, 1) := by decide +kernel
theorem dX6_sparedEchoes_93 : decode cX6_sparedEchoes 93 = .ok (.iinc 2 1, 3) := by decide +kernel
theorem dX6_sparedEchoes_96 : decode cX6_sparedEchoes 96 = .ok (.goto (-36), 3) := by decide +kernel
theorem dX6_sparedEchoes_99 : decode cX6_sparedEchoes 99 = .ok (.iinc 1 1, 3) := by decide +kernel
theorem dX6_sparedEchoes_102 : decode cX6_sparedEchoes 102 = .ok (.goto (-57), 3) := by decide +kernel
theorem dX6_sparedEchoes_105 : decode cX6_sparedEchoes 105 = .ok (.iconst (-1), 1) := by decide +kernel
theorem dX6_sparedEchoes_106 : decode cX6_sparedEchoes 106 = .ok (.ireturn, 1) := by decide +kernel
theorem dX6_losesNothingWithout_0 : decode cX6_losesNothingWithout 0 = .ok (.aload_n 0, 1) := by decide +kernel
theorem dX6_losesNothingWithout_1 : decode cX6_losesNothingWithout 1 = .ok (.getfield 52, 3) := by decide +kernel
theorem dX6_losesNothingWithout_4 : decode cX6_losesNothingWithout 4 = .ok (.aload_n 0, 1) := by decide +kernel
theorem dX6_losesNothingWithout_5 : decode cX6_losesNothingWithout 5 = .ok (.getfield 38, 3) := by decide +kernel
theorem dX6_losesNothingWithout_8 : decode cX6_losesNothingWithout 8 = .ok (.aload_n 0, 1) := by decide +kernel
theorem dX6_losesNothingWithout_9 : decode cX6_losesNothingWithout 9 = .ok (.getfield 18, 3) := by decide +kernel
theorem dX6_losesNothingWithout_12 : decode cX6_losesNothingWithout 12 = .ok (.aload_n 0, 1) := by decide +kernel
theorem dX6_losesNothingWithout_13 : decode cX6_losesNothingWithout 13 = .ok (.getfield 18, 3) := by decide +kernel
theorem dX6_losesNothingWithout_16 : decode cX6_losesNothingWithout 16 = .ok (.invokevirtual 185, 3) := by decide +kernel
theorem dX6_losesNothingWithout_19 : decode cX6_losesNothingWithout 19 = .ok (.iload_n 1, 1) := by decide +kernel
theorem dX6_losesNothingWithout_20 : decode cX6_losesNothingWithout 20 = .ok (.iconst (-1), 1) := by decide +kernel
theorem dX6_losesNothingWithout_21 : decode cX6_losesNothingWithout 21 = .ok (.ixor, 1) := by decide +kernel
theorem dX6_losesNothingWithout_22 : decode cX6_losesNothingWithout 22 = .ok (.iand, 1) := by decide +kernel
theorem dX6_losesNothingWithout_23 : decode cX6_losesNothingWithout 23 = .ok (.invokevirtual 188, 3) := by decide +kernel
theorem dX6_losesNothingWithout_26 : decode cX6_losesNothingWithout 26 = .ok (.aload_n 0, 1) := by decide +kernel
theorem dX6_losesNothingWithout_27 : decode cX6_losesNothingWithout 27 = .ok (.getfield 52, 3) := by decide +kernel
theorem dX6_losesNothingWithout_30 : decode cX6_losesNothingWithout 30 = .ok (.iconst 3, 1) := by decide +kernel
theorem dX6_losesNothingWithout_31 : decode cX6_losesNothingWithout 31 = .ok (.invokevirtual 198, 3) := by decide +kernel
theorem dX6_losesNothingWithout_34 : decode cX6_losesNothingWithout 34 = .ok (.ifCond .ne 7, 3) := by decide +kernel
theorem dX6_losesNothingWithout_37 : decode cX6_losesNothingWithout 37 = .ok (.iconst 1, 1) := by decide +kernel
theorem dX6_losesNothingWithout_38 : decode cX6_losesNothingWithout 38 = .ok (.goto 4, 3) := by decide +kernel
theorem dX6_losesNothingWithout_41 : decode cX6_losesNothingWithout 41 = .ok (.iconst 0, 1) := by decide +kernel
theorem dX6_losesNothingWithout_42 : decode cX6_losesNothingWithout 42 = .ok (.ireturn, 1) := by decide +kernel
theorem dX6_sortByWhatIsLeft_0 : decode cX6_sortByWhatIsLeft 0 = .ok (.iconst 0, 1) := by decide +kernel
theorem dX6_sortByWhatIsLeft_1 : decode cX6_sortByWhatIsLeft 1 = .ok (.istore_n 2, 1) := by decide +kernel
theorem dX6_sortByWhatIsLeft_2 : decode cX6_sortByWhatIsLeft 2 = .ok (.iload_n 2, 1) := by decide +kernel
theorem dX6_sortByWhatIsLeft_3 : decode cX6_sortByWhatIsLeft 3 = .ok (.aload_n 0, 1) := by decide +kernel
theorem dX6_sortByWhatIsLeft_4 : decode cX6_sortByWhatIsLeft 4 = .ok (.getfield 55, 3) := by decide +kernel
theorem dX6_sortByWhatIsLeft_7 : decode cX6_sortByWhatIsLeft 7 = .ok (.arraylength, 1) := by decide +kernel
theorem dX6_sortByWhatIsLeft_8 : decode cX6_sortByWhatIsLeft 8 = .ok (.if_icmp .ge 16, 3) := by decide +kernel
theorem dX6_sortByWhatIsLeft_11 : decode cX6_sortByWhatIsLeft 11 = .ok (.aload_n 0, 1) := by decide +kernel
theorem dX6_sortByWhatIsLeft_12 : decode cX6_sortByWhatIsLeft 12 = .ok (.getfield 55, 3) := by decide +kernel
theorem dX6_sortByWhatIsLeft_15 : decode cX6_sortByWhatIsLeft 15 = .ok (.iload_n 2, 1) := by decide +kernel
theorem dX6_sortByWhatIsLeft_16 : decode cX6_sortByWhatIsLeft 16 = .ok (.iconst 0, 1) := by decide +kernel
theorem dX6_sortByWhatIsLeft_17 : decode cX6_sortByWhatIsLeft 17 = .ok (.iastore, 1) := by decide +kernel
theorem dX6_sortByWhatIsLeft_18 : decode cX6_sortByWhatIsLeft 18 = .ok (.iinc 2 1, 3) := by decide +kernel
theorem dX6_sortByWhatIsLeft_21 : decode cX6_sortByWhatIsLeft 21 = .ok (.goto (-19), 3) := by decide +kernel
theorem dX6_sortByWhatIsLeft_24 : decode cX6_sortByWhatIsLeft 24 = .ok (.aload_n 0, 1) := by decide +kernel
theorem dX6_sortByWhatIsLeft_25 : decode cX6_sortByWhatIsLeft 25 = .ok (.getfield 49, 3) := by decide +kernel
theorem dX6_sortByWhatIsLeft_28 : decode cX6_sortByWhatIsLeft 28 = .ok (.aload_n 0, 1) := by decide +kernel
theorem dX6_sortByWhatIsLeft_29 : decode cX6_sortByWhatIsLeft 29 = .ok (.getfield 38, 3) := by decide +kernel
theorem dX6_sortByWhatIsLeft_32 : decode cX6_sortByWhatIsLeft 32 = .ok (.invokevirtual 177, 3) := by decide +kernel
theorem dX6_sortByWhatIsLeft_35 : decode cX6_sortByWhatIsLeft 35 = .ok (.iconst 1, 1) := by decide +kernel
theorem dX6_sortByWhatIsLeft_36 : decode cX6_sortByWhatIsLeft 36 = .ok (.istore_n 2, 1) := by decide +kernel
theorem dX6_sortByWhatIsLeft_37 : decode cX6_sortByWhatIsLeft 37 = .ok (.iload_n 2, 1) := by decide +kernel
theorem dX6_sortByWhatIsLeft_38 : decode cX6_sortByWhatIsLeft 38 = .ok (.bipush 9, 2) := by decide +kernel
theorem dX6_sortByWhatIsLeft_40 : decode cX6_sortByWhatIsLeft 40 = .ok (.if_icmp .gt 106, 3) := by decide +kernel
theorem dX6_sortByWhatIsLeft_43 : decode cX6_sortByWhatIsLeft 43 = .ok (.aload_n 0, 1) := by decide +kernel
theorem dX6_sortByWhatIsLeft_44 : decode cX6_sortByWhatIsLeft 44 = .ok (.getfield 49, 3) := by decide +kernel
theorem dX6_sortByWhatIsLeft_47 : decode cX6_sortByWhatIsLeft 47 = .ok (.getfield 109, 3) := by decide +kernel
theorem dX6_sortByWhatIsLeft_50 : decode cX6_sortByWhatIsLeft 50 = .ok (.iload_n 1, 1) := by decide +kernel
theorem dX6_sortByWhatIsLeft_51 : decode cX6_sortByWhatIsLeft 51 = .ok (.iload_n 2, 1) := by decide +kernel
theorem dX6_sortByWhatIsLeft_52 : decode cX6_sortByWhatIsLeft 52 = .ok (.iastore, 1) := by decide +kernel
theorem dX6_sortByWhatIsLeft_53 : decode cX6_sortByWhatIsLeft 53 = .ok (.aload_n 0, 1) := by decide +kernel
theorem dX6_sortByWhatIsLeft_54 : decode cX6_sortByWhatIsLeft 54 = .ok (.getfield 52, 3) := by decide +kernel
theorem dX6_sortByWhatIsLeft_57 : decode cX6_sortByWhatIsLeft 57 = .ok (.aload_n 0, 1) := by decide +kernel
theorem dX6_sortByWhatIsLeft_58 : decode cX6_sortByWhatIsLeft 58 = .ok (.getfield 49, 3) := by decide +kernel
theorem dX6_sortByWhatIsLeft_61 : decode cX6_sortByWhatIsLeft 61 = .ok (.aload_n 0, 1) := by decide +kernel
theorem dX6_sortByWhatIsLeft_62 : decode cX6_sortByWhatIsLeft 62 = .ok (.getfield 18, 3) := by decide +kernel
theorem dX6_sortByWhatIsLeft_65 : decode cX6_sortByWhatIsLeft 65 = .ok (.aload_n 0, 1) := by decide +kernel
theorem dX6_sortByWhatIsLeft_66 : decode cX6_sortByWhatIsLeft 66 = .ok (.getfield 18, 3) := by decide +kernel
theorem dX6_sortByWhatIsLeft_69 : decode cX6_sortByWhatIsLeft 69 = .ok (.invokevirtual 185, 3) := by decide +kernel
theorem dX6_sortByWhatIsLeft_72 : decode cX6_sortByWhatIsLeft 72 = .ok (.invokevirtual 188, 3) := by decide +kernel
theorem dX6_sortByWhatIsLeft_75 : decode cX6_sortByWhatIsLeft 75 = .ok (.aload_n 0, 1) := by decide +kernel
theorem dX6_sortByWhatIsLeft_76 : decode cX6_sortByWhatIsLeft 76 = .ok (.getfield 25, 3) := by decide +kernel
theorem dX6_sortByWhatIsLeft_79 : decode cX6_sortByWhatIsLeft 79 = .ok (.aload_n 0, 1) := by decide +kernel
theorem dX6_sortByWhatIsLeft_80 : decode cX6_sortByWhatIsLeft 80 = .ok (.getfield 52, 3) := by decide +kernel
theorem dX6_sortByWhatIsLeft_83 : decode cX6_sortByWhatIsLeft 83 = .ok (.invokevirtual 215, 3) := by decide +kernel
theorem dX6_sortByWhatIsLeft_86 : decode cX6_sortByWhatIsLeft 86 = .ok (.ifCond .eq 54, 3) := by decide +kernel
theorem dX6_sortByWhatIsLeft_89 : decode cX6_sortByWhatIsLeft 89 = .ok (.iconst 0, 1) := by decide +kernel
theorem dX6_sortByWhatIsLeft_90 : decode cX6_sortByWhatIsLeft 90 = .ok (.istore_n 3, 1) := by decide +kernel
theorem dX6_sortByWhatIsLeft_91 : decode cX6_sortByWhatIsLeft 91 = .ok (.iload_n 3, 1) := by decide +kernel
theorem dX6_sortByWhatIsLeft_92 : decode cX6_sortByWhatIsLeft 92 = .ok (.bipush 24, 2) := by decide +kernel
theorem dX6_sortByWhatIsLeft_94 : decode cX6_sortByWhatIsLeft 94 = .ok (.if_icmp .ge 46, 3) := by decide +kernel
theorem dX6_sortByWhatIsLeft_97 : decode cX6_sortByWhatIsLeft 97 = .ok (.aload_n 0, 1) := by decide +kernel
theorem dX6_sortByWhatIsLeft_98 : decode cX6_sortByWhatIsLeft 98 = .ok (.getfield 52, 3) := by decide +kernel
theorem dX6_sortByWhatIsLeft_101 : decode cX6_sortByWhatIsLeft 101 = .ok (.iload_n 3, 1) := by decide +kernel
theorem dX6_sortByWhatIsLeft_102 : decode cX6_sortByWhatIsLeft 102 = .ok (.iload_n 1, 1) := by decide +kernel
theorem dX6_sortByWhatIsLeft_103 : decode cX6_sortByWhatIsLeft 103 = .ok (.invokevirtual 156, 3) := by decide +kernel
theorem dX6_sortByWhatIsLeft_106 : decode cX6_sortByWhatIsLeft 106 = .ok (.istore 4, 2) := by decide +kernel
theorem dX6_sortByWhatIsLeft_108 : decode cX6_sortByWhatIsLeft 108 = .ok (.iload 4, 2) := by decide +kernel
theorem dX6_sortByWhatIsLeft_110 : decode cX6_sortByWhatIsLeft 110 = .ok (.bipush 10, 2) := by decide +kernel
theorem dX6_sortByWhatIsLeft_112 : decode cX6_sortByWhatIsLeft 112 = .ok (.invokestatic 66, 3) := by decide +kernel
theorem dX6_sortByWhatIsLeft_115 : decode cX6_sortByWhatIsLeft 115 = .ok (.ifCond .ne 19, 3) := by decide +kernel
theorem dX6_sortByWhatIsLeft_118 : decode cX6_sortByWhatIsLeft 118 = .ok (.aload_n 0, 1) := by decide +kernel
theorem dX6_sortByWhatIsLeft_119 : decode cX6_sortByWhatIsLeft 119 = .ok (.getfield 55, 3) := by decide +kernel
theorem dX6_sortByWhatIsLeft_122 : decode cX6_sortByWhatIsLeft 122 = .ok (.iload_n 3, 1) := by decide +kernel
theorem dX6_sortByWhatIsLeft_123 : decode cX6_sortByWhatIsLeft 123 = .ok (.bipush 10, 2) := by decide +kernel
theorem dX6_sortByWhatIsLeft_125 : decode cX6_sortByWhatIsLeft 125 = .ok (.imul, 1) := by decide +kernel
theorem dX6_sortByWhatIsLeft_126 : decode cX6_sortByWhatIsLeft 126 = .ok (.iload 4, 2) := by decide +kernel
theorem dX6_sortByWhatIsLeft_128 : decode cX6_sortByWhatIsLeft 128 = .ok (.iadd, 1) := by decide +kernel
theorem dX6_sortByWhatIsLeft_129 : decode cX6_sortByWhatIsLeft 129 = .ok (.dup2, 1) := by decide +kernel
theorem dX6_sortByWhatIsLeft_130 : decode cX6_sortByWhatIsLeft 130 = .ok (.iaload, 1) := by decide +kernel
theorem dX6_sortByWhatIsLeft_131 : decode cX6_sortByWhatIsLeft 131 = .ok (.iconst 1, 1) := by decide +kernel
theorem dX6_sortByWhatIsLeft_132 : decode cX6_sortByWhatIsLeft 132 = .ok (.iadd, 1) := by decide +kernel
theorem dX6_sortByWhatIsLeft_133 : decode cX6_sortByWhatIsLeft 133 = .ok (.iastore, 1) := by decide +kernel
theorem dX6_sortByWhatIsLeft_134 : decode cX6_sortByWhatIsLeft 134 = .ok (.iinc 3 1, 3) := by decide +kernel
theorem dX6_sortByWhatIsLeft_137 : decode cX6_sortByWhatIsLeft 137 = .ok (.goto (-46), 3) := by decide +kernel
theorem dX6_sortByWhatIsLeft_140 : decode cX6_sortByWhatIsLeft 140 = .ok (.iinc 2 1, 3) := by decide +kernel
theorem dX6_sortByWhatIsLeft_143 : decode cX6_sortByWhatIsLeft 143 = .ok (.goto (-106), 3) := by decide +kernel
theorem dX6_sortByWhatIsLeft_146 : decode cX6_sortByWhatIsLeft 146 = .ok (.return_, 1) := by decide +kernel
theorem dX6_mostAlike_0 : decode cX6_mostAlike 0 = .ok (.iconst 0, 1) := by decide +kernel
theorem dX6_mostAlike_1 : decode cX6_mostAlike 1 = .ok (.istore_n 2, 1) := by decide +kernel
theorem dX6_mostAlike_2 : decode cX6_mostAlike 2 = .ok (.iconst 0, 1) := by decide +kernel
theorem dX6_mostAlike_3 : decode cX6_mostAlike 3 = .ok (.istore_n 3, 1) := by decide +kernel
theorem dX6_mostAlike_4 : decode cX6_mostAlike 4 = .ok (.iload_n 3, 1) := by decide +kernel
theorem dX6_mostAlike_5 : decode cX6_mostAlike 5 = .ok (.bipush 9, 2) := by decide +kernel
theorem dX6_mostAlike_7 : decode cX6_mostAlike 7 = .ok (.if_icmp .gt 25, 3) := by decide +kernel
theorem dX6_mostAlike_10 : decode cX6_mostAlike 10 = .ok (.iload_n 2, 1) := by decide +kernel
theorem dX6_mostAlike_11 : decode cX6_mostAlike 11 = .ok (.aload_n 0, 1) := by decide +kernel
theorem dX6_mostAlike_12 : decode cX6_mostAlike 12 = .ok (.getfield 55, 3) := by decide +kernel
theorem dX6_mostAlike_15 : decode cX6_mostAlike 15 = .ok (.iload_n 1, 1) := by decide +kernel
theorem dX6_mostAlike_16 : decode cX6_mostAlike 16 = .ok (.bipush 10, 2) := by decide +kernel
theorem dX6_mostAlike_18 : decode cX6_mostAlike 18 = .ok (.imul, 1) := by decide +kernel
theorem dX6_mostAlike_19 : decode cX6_mostAlike 19 = .ok (.iload_n 3, 1) := by decide +kernel
theorem dX6_mostAlike_20 : decode cX6_mostAlike 20 = .ok (.iadd, 1) := by decide +kernel
theorem dX6_mostAlike_21 : decode cX6_mostAlike 21 = .ok (.iaload, 1) := by decide +kernel
theorem dX6_mostAlike_22 : decode cX6_mostAlike 22 = .ok (.invokestatic 369, 3) := by decide +kernel
theorem dX6_mostAlike_25 : decode cX6_mostAlike 25 = .ok (.istore_n 2, 1) := by decide +kernel
theorem dX6_mostAlike_26 : decode cX6_mostAlike 26 = .ok (.iinc 3 1, 3) := by decide +kernel
theorem dX6_mostAlike_29 : decode cX6_mostAlike 29 = .ok (.goto (-25), 3) := by decide +kernel
theorem dX6_mostAlike_32 : decode cX6_mostAlike 32 = .ok (.iload_n 2, 1) := by decide +kernel
theorem dX6_mostAlike_33 : decode cX6_mostAlike 33 = .ok (.ireturn, 1) := by decide +kernel
theorem dX6_finding_0 : decode cX6_finding 0 = .ok (.aload_n 0, 1) := by decide +kernel
theorem dX6_finding_1 : decode cX6_finding 1 = .ok (.iload_n 1, 1) := by decide +kernel
theorem dX6_finding_2 : decode cX6_finding 2 = .ok (.putfield 267, 3) := by decide +kernel
theorem dX6_finding_5 : decode cX6_finding 5 = .ok (.bipush (-10), 2) := by decide +kernel
theorem dX6_finding_7 : decode cX6_finding 7 = .ok (.iload_n 1, 1) := by decide +kernel
theorem dX6_finding_8 : decode cX6_finding 8 = .ok (.isub, 1) := by decide +kernel
theorem dX6_finding_9 : decode cX6_finding 9 = .ok (.ireturn, 1) := by decide +kernel
theorem dX6_whatIsAmiss_0 : decode cX6_whatIsAmiss 0 = .ok (.aload_n 0, 1) := by decide +kernel
theorem dX6_whatIsAmiss_1 : decode cX6_whatIsAmiss 1 = .ok (.invokevirtual 137, 3) := by decide +kernel
theorem dX6_whatIsAmiss_4 : decode cX6_whatIsAmiss 4 = .ok (.ifCond .eq 5, 3) := by decide +kernel
theorem dX6_whatIsAmiss_7 : decode cX6_whatIsAmiss 7 = .ok (.iconst 1, 1) := by decide +kernel
theorem dX6_whatIsAmiss_8 : decode cX6_whatIsAmiss 8 = .ok (.ireturn, 1) := by decide +kernel
theorem dX6_whatIsAmiss_9 : decode cX6_whatIsAmiss 9 = .ok (.aload_n 0, 1) := by decide +kernel
theorem dX6_whatIsAmiss_10 : decode cX6_whatIsAmiss 10 = .ok (.getfield 250, 3) := by decide +kernel
theorem dX6_whatIsAmiss_13 : decode cX6_whatIsAmiss 13 = .ok (.iload_n 1, 1) := by decide +kernel
theorem dX6_whatIsAmiss_14 : decode cX6_whatIsAmiss 14 = .ok (.if_icmp .eq 5, 3) := by decide +kernel
theorem dX6_whatIsAmiss_17 : decode cX6_whatIsAmiss 17 = .ok (.iconst 3, 1) := by decide +kernel
theorem dX6_whatIsAmiss_18 : decode cX6_whatIsAmiss 18 = .ok (.ireturn, 1) := by decide +kernel
theorem dX6_whatIsAmiss_19 : decode cX6_whatIsAmiss 19 = .ok (.iload_n 2, 1) := by decide +kernel
theorem dX6_whatIsAmiss_20 : decode cX6_whatIsAmiss 20 = .ok (.aload_n 0, 1) := by decide +kernel
theorem dX6_whatIsAmiss_21 : decode cX6_whatIsAmiss 21 = .ok (.getfield 144, 3) := by decide +kernel
theorem dX6_whatIsAmiss_24 : decode cX6_whatIsAmiss 24 = .ok (.invokestatic 66, 3) := by decide +kernel
theorem dX6_whatIsAmiss_27 : decode cX6_whatIsAmiss 27 = .ok (.ifCond .eq 7, 3) := by decide +kernel
theorem dX6_whatIsAmiss_30 : decode cX6_whatIsAmiss 30 = .ok (.iconst 2, 1) := by decide +kernel
theorem dX6_whatIsAmiss_31 : decode cX6_whatIsAmiss 31 = .ok (.goto 4, 3) := by decide +kernel
theorem dX6_whatIsAmiss_34 : decode cX6_whatIsAmiss 34 = .ok (.iconst 0, 1) := by decide +kernel
theorem dX6_whatIsAmiss_35 : decode cX6_whatIsAmiss 35 = .ok (.ireturn, 1) := by decide +kernel
theorem dX6_isOutside_0 : decode cX6_isOutside 0 = .ok (.iload_n 0, 1) := by decide +kernel
theorem dX6_isOutside_1 : decode cX6_isOutside 1 = .ok (.ifCond .lt 8, 3) := by decide +kernel
theorem dX6_isOutside_4 : decode cX6_isOutside 4 = .ok (.iload_n 0, 1) := by decide +kernel
theorem dX6_isOutside_5 : decode cX6_isOutside 5 = .ok (.iload_n 1, 1) := by decide +kernel
theorem dX6_isOutside_6 : decode cX6_isOutside 6 = .ok (.if_icmp .lt 7, 3) := by decide +kernel
theorem dX6_isOutside_9 : decode cX6_isOutside 9 = .ok (.iconst 1, 1) := by decide +kernel
theorem dX6_isOutside_10 : decode cX6_isOutside 10 = .ok (.goto 4, 3) := by decide +kernel
theorem dX6_isOutside_13 : decode cX6_isOutside 13 = .ok (.iconst 0, 1) := by decide +kernel
theorem dX6_isOutside_14 : decode cX6_isOutside 14 = .ok (.ireturn, 1) := by decide +kernel
theorem dX6_lowestBit_0 : decode cX6_lowestBit 0 = .ok (.iconst 0, 1) := by decide +kernel
theorem dX6_lowestBit_1 : decode cX6_lowestBit 1 = .ok (.istore_n 1, 1) := by decide +kernel
theorem dX6_lowestBit_2 : decode cX6_lowestBit 2 = .ok (.iload_n 1, 1) := by decide +kernel
theorem dX6_lowestBit_3 : decode cX6_lowestBit 3 = .ok (.bipush 32, 2) := by decide +kernel
theorem dX6_lowestBit_5 : decode cX6_lowestBit 5 = .ok (.if_icmp .ge 19, 3) := by decide +kernel
theorem dX6_lowestBit_8 : decode cX6_lowestBit 8 = .ok (.iload_n 0, 1) := by decide +kernel
theorem dX6_lowestBit_9 : decode cX6_lowestBit 9 = .ok (.iload_n 1, 1) := by decide +kernel
theorem dX6_lowestBit_10 : decode cX6_lowestBit 10 = .ok (.ishr, 1) := by decide +kernel
theorem dX6_lowestBit_11 : decode cX6_lowestBit 11 = .ok (.iconst 1, 1) := by decide +kernel
theorem dX6_lowestBit_12 : decode cX6_lowestBit 12 = .ok (.iand, 1) := by decide +kernel
theorem dX6_lowestBit_13 : decode cX6_lowestBit 13 = .ok (.ifCond .eq 5, 3) := by decide +kernel
theorem dX6_lowestBit_16 : decode cX6_lowestBit 16 = .ok (.iload_n 1, 1) := by decide +kernel
theorem dX6_lowestBit_17 : decode cX6_lowestBit 17 = .ok (.ireturn, 1) := by decide +kernel
theorem dX6_lowestBit_18 : decode cX6_lowestBit 18 = .ok (.iinc 1 1, 3) := by decide +kernel
theorem dX6_lowestBit_21 : decode cX6_lowestBit 21 = .ok (.goto (-19), 3) := by decide +kernel
theorem dX6_lowestBit_24 : decode cX6_lowestBit 24 = .ok (.iconst (-1), 1) := by decide +kernel
theorem dX6_lowestBit_25 : decode cX6_lowestBit 25 = .ok (.ireturn, 1) := by decide +kernel
theorem dX6_power_0 : decode cX6_power 0 = .ok (.lconst 1, 1) := by decide +kernel
theorem dX6_power_1 : decode cX6_power 1 = .ok (.lstore_n 3, 1) := by decide +kernel
theorem dX6_power_2 : decode cX6_power 2 = .ok (.iconst 0, 1) := by decide +kernel
theorem dX6_power_3 : decode cX6_power 3 = .ok (.istore 5, 2) := by decide +kernel
theorem dX6_power_5 : decode cX6_power 5 = .ok (.iload 5, 2) := by decide +kernel
theorem dX6_power_7 : decode cX6_power 7 = .ok (.iload_n 2, 1) := by decide +kernel
theorem dX6_power_8 : decode cX6_power 8 = .ok (.if_icmp .ge 13, 3) := by decide +kernel
theorem dX6_power_11 : decode cX6_power 11 = .ok (.lload_n 3, 1) := by decide +kernel
theorem dX6_power_12 : decode cX6_power 12 = .ok (.lload_n 0, 1) := by decide +kernel
theorem dX6_power_13 : decode cX6_power 13 = .ok (.lmul, 1) := by decide +kernel
theorem dX6_power_14 : decode cX6_power 14 = .ok (.lstore_n 3, 1) := by decide +kernel
theorem dX6_power_15 : decode cX6_power 15 = .ok (.iinc 5 1, 3) := by decide +kernel
theorem dX6_power_18 : decode cX6_power 18 = .ok (.goto (-13), 3) := by decide +kernel
theorem dX6_power_21 : decode cX6_power 21 = .ok (.lload_n 3, 1) := by decide +kernel
theorem dX6_power_22 : decode cX6_power 22 = .ok (.lreturn, 1) := by decide +kernel
end
section
theorem dX7_init_0 : decode cX7_init 0 = .ok (.aload_n 0, 1) := by decide +kernel
theorem dX7_init_1 : decode cX7_init 1 = .ok (.invokespecial 1, 3) := by decide +kernel
theorem dX7_init_4 : decode cX7_init 4 = .ok (.aload_n 0, 1) := by decide +kernel
theorem dX7_init_5 : decode cX7_init 5 = .ok (.iconst 4, 1) := by decide +kernel
theorem dX7_init_6 : decode cX7_init 6 = .ok (.newarray .int, 2) := by decide +kernel
theorem dX7_init_8 : decode cX7_init 8 = .ok (.putfield 7, 3) := by decide +kernel
theorem dX7_init_11 : decode cX7_init 11 = .ok (.aload_n 0, 1) := by decide +kernel
theorem dX7_init_12 : decode cX7_init 12 = .ok (.iconst 4, 1) := by decide +kernel
theorem dX7_init_13 : decode cX7_init 13 = .ok (.newarray .int, 2) := by decide +kernel
theorem dX7_init_15 : decode cX7_init 15 = .ok (.putfield 13, 3) := by decide +kernel
theorem dX7_init_18 : decode cX7_init 18 = .ok (.aload_n 0, 1) := by decide +kernel
theorem dX7_init_19 : decode cX7_init 19 = .ok (.sipush 240, 3) := by decide +kernel
theorem dX7_init_22 : decode cX7_init 22 = .ok (.newarray .int, 2) := by decide +kernel
theorem dX7_init_24 : decode cX7_init 24 = .ok (.putfield 16, 3) := by decide +kernel
theorem dX7_init_27 : decode cX7_init 27 = .ok (.aload_n 0, 1) := by decide +kernel
theorem dX7_init_28 : decode cX7_init 28 = .ok (.bipush 60, 2) := by decide +kernel
theorem dX7_init_30 : decode cX7_init 30 = .ok (.newarray .int, 2) := by decide +kernel
theorem dX7_init_32 : decode cX7_init 32 = .ok (.putfield 19, 3) := by decide +kernel
theorem dX7_init_35 : decode cX7_init 35 = .ok (.aload_n 0, 1) := by decide +kernel
theorem dX7_init_36 : decode cX7_init 36 = .ok (.sipush 144, 3) := by decide +kernel
theorem dX7_init_39 : decode cX7_init 39 = .ok (.newarray .int, 2) := by decide +kernel
theorem dX7_init_41 : decode cX7_init 41 = .ok (.putfield 22, 3) := by decide +kernel
theorem dX7_init_44 : decode cX7_init 44 = .ok (.aload_n 0, 1) := by decide +kernel
theorem dX7_init_45 : decode cX7_init 45 = .ok (.iconst 3, 1) := by decide +kernel
theorem dX7_init_46 : decode cX7_init 46 = .ok (.newarray .int, 2) := by decide +kernel
theorem dX7_init_48 : decode cX7_init 48 = .ok (.putfield 25, 3) := by decide +kernel
theorem dX7_init_51 : decode cX7_init 51 = .ok (.aload_n 0, 1) := by decide +kernel
theorem dX7_init_52 : decode cX7_init 52 = .ok (.bipush 16, 2) := by decide +kernel
theorem dX7_init_54 : decode cX7_init 54 = .ok (.newarray .int, 2) := by decide +kernel
theorem dX7_init_56 : decode cX7_init 56 = .ok (.putfield 28, 3) := by decide +kernel
theorem dX7_init_59 : decode cX7_init 59 = .ok (.aload_n 0, 1) := by decide +kernel
theorem dX7_init_60 : decode cX7_init 60 = .ok (.bipush 36, 2) := by decide +kernel
theorem dX7_init_62 : decode cX7_init 62 = .ok (.newarray .int, 2) := by decide +kernel
theorem dX7_init_64 : decode cX7_init 64 = .ok (.putfield 31, 3) := by decide +kernel
theorem dX7_init_67 : decode cX7_init 67 = .ok (.aload_n 0, 1) := by decide +kernel
theorem dX7_init_68 : decode cX7_init 68 = .ok (.bipush 36, 2) := by decide +kernel
theorem dX7_init_70 : decode cX7_init 70 = .ok (.newarray .int, 2) := by decide +kernel
theorem dX7_init_72 : decode cX7_init 72 = .ok (.putfield 34, 3) := by decide +kernel
theorem dX7_init_75 : decode cX7_init 75 = .ok (.aload_n 0, 1) := by decide +kernel
theorem dX7_init_76 : decode cX7_init 76 = .ok (.bipush 16, 2) := by decide +kernel
theorem dX7_init_78 : decode cX7_init 78 = .ok (.newarray .int, 2) := by decide +kernel
theorem dX7_init_80 : decode cX7_init 80 = .ok (.putfield 37, 3) := by decide +kernel
theorem dX7_init_83 : decode cX7_init 83 = .ok (.aload_n 0, 1) := by decide +kernel
theorem dX7_init_84 : decode cX7_init 84 = .ok (.bipush 12, 2) := by decide +kernel
theorem dX7_init_86 : decode cX7_init 86 = .ok (.newarray .int, 2) := by decide +kernel
theorem dX7_init_88 : decode cX7_init 88 = .ok (.putfield 40, 3) := by decide +kernel
theorem dX7_init_91 : decode cX7_init 91 = .ok (.aload_n 0, 1) := by decide +kernel
theorem dX7_init_92 : decode cX7_init 92 = .ok (.bipush 12, 2) := by decide +kernel
theorem dX7_init_94 : decode cX7_init 94 = .ok (.newarray .int, 2) := by decide +kernel
theorem dX7_init_96 : decode cX7_init 96 = .ok (.putfield 43, 3) := by decide +kernel
theorem dX7_init_99 : decode cX7_init 99 = .ok (.aload_n 0, 1) := by decide +kernel
theorem dX7_init_100 : decode cX7_init 100 = .ok (.bipush 8, 2) := by decide +kernel
theorem dX7_init_102 : decode cX7_init 102 = .ok (.newarray .int, 2) := by decide +kernel
theorem dX7_init_104 : decode cX7_init 104 = .ok (.putfield 46, 3) := by decide +kernel
theorem dX7_init_107 : decode cX7_init 107 = .ok (.aload_n 0, 1) := by decide +kernel
theorem dX7_init_108 : decode cX7_init 108 = .ok (.bipush 8, 2) := by decide +kernel
theorem dX7_init_110 : decode cX7_init 110 = .ok (.newarray .int, 2) := by decide +kernel
theorem dX7_init_112 : decode cX7_init 112 = .ok (.putfield 49, 3) := by decide +kernel
theorem dX7_init_115 : decode cX7_init 115 = .ok (.aload_n 0, 1) := by decide +kernel
theorem dX7_init_116 : decode cX7_init 116 = .ok (.sipush 288, 3) := by decide +kernel
theorem dX7_init_119 : decode cX7_init 119 = .ok (.newarray .int, 2) := by decide +kernel
theorem dX7_init_121 : decode cX7_init 121 = .ok (.putfield 52, 3) := by decide +kernel
theorem dX7_init_124 : decode cX7_init 124 = .ok (.aload_n 0, 1) := by decide +kernel
theorem dX7_init_125 : decode cX7_init 125 = .ok (.sipush 288, 3) := by decide +kernel
theorem dX7_init_128 : decode cX7_init 128 = .ok (.newarray .int, 2) := by decide +kernel
theorem dX7_init_130 : decode cX7_init 130 = .ok (.putfield 55, 3) := by decide +kernel
theorem dX7_init_133 : decode cX7_init 133 = .ok (.aload_n 0, 1) := by decide +kernel
theorem dX7_init_134 : decode cX7_init 134 = .ok (.sipush 192, 3) := by decide +kernel
theorem dX7_init_137 : decode cX7_init 137 = .ok (.newarray .int, 2) := by decide +kernel
theorem dX7_init_139 : decode cX7_init 139 = .ok (.putfield 58, 3) := by decide +kernel
theorem dX7_init_142 : decode cX7_init 142 = .ok (.aload_n 0, 1) := by decide +kernel
theorem dX7_init_143 : decode cX7_init 143 = .ok (.bipush 8, 2) := by decide +kernel
theorem dX7_init_145 : decode cX7_init 145 = .ok (.newarray .int, 2) := by decide +kernel
theorem dX7_init_147 : decode cX7_init 147 = .ok (.putfield 61, 3) := by decide +kernel
theorem dX7_init_150 : decode cX7_init 150 = .ok (.aload_n 0, 1) := by decide +kernel
theorem dX7_init_151 : decode cX7_init 151 = .ok (.bipush 24, 2) := by decide +kernel
theorem dX7_init_153 : decode cX7_init 153 = .ok (.newarray .int, 2) := by decide +kernel
theorem dX7_init_155 : decode cX7_init 155 = .ok (.putfield 64, 3) := by decide +kernel
theorem dX7_init_158 : decode cX7_init 158 = .ok (.aload_n 0, 1) := by decide +kernel
theorem dX7_init_159 : decode cX7_init 159 = .ok (.sipush 240, 3) := by decide +kernel
theorem dX7_init_162 : decode cX7_init 162 = .ok (.newarray .int, 2) := by decide +kernel
theorem dX7_init_164 : decode cX7_init 164 = .ok (.putfield 67, 3) := by decide +kernel
theorem dX7_init_167 : decode cX7_init 167 = .ok (.iconst 0, 1) := by decide +kernel
theorem dX7_init_168 : decode cX7_init 168 = .ok (.istore_n 1, 1) := by decide +kernel
theorem dX7_init_169 : decode cX7_init 169 = .ok (.iload_n 1, 1) := by decide +kernel
theorem dX7_init_170 : decode cX7_init 170 = .ok (.iconst 4, 1) := by decide +kernel
theorem dX7_init_171 : decode cX7_init 171 = .ok (.if_icmp .ge 16, 3) := by decide +kernel
theorem dX7_init_174 : decode cX7_init 174 = .ok (.aload_n 0, 1) := by decide +kernel
theorem dX7_init_175 : decode cX7_init 175 = .ok (.getfield 7, 3) := by decide +kernel
theorem dX7_init_178 : decode cX7_init 178 = .ok (.iload_n 1, 1) := by decide +kernel
theorem dX7_init_179 : decode cX7_init 179 = .ok (.iconst (-1), 1) := by decide +kernel
theorem dX7_init_180 : decode cX7_init 180 = .ok (.iastore, 1) := by decide +kernel
theorem dX7_init_181 : decode cX7_init 181 = .ok (.iinc 1 1, 3) := by decide +kernel
theorem dX7_init_184 : decode cX7_init 184 = .ok (.goto (-15), 3) := by decide +kernel
theorem dX7_init_187 : decode cX7_init 187 = .ok (.aload_n 0, 1) := by decide +kernel
theorem dX7_init_188 : decode cX7_init 188 = .ok (.iconst (-1), 1) := by decide +kernel
theorem dX7_init_189 : decode cX7_init 189 = .ok (.putfield 70, 3) := by decide +kernel
theorem dX7_init_192 : decode cX7_init 192 = .ok (.return_, 1) := by decide +kernel
theorem dX7_in_0 : decode cX7_in 0 = .ok (.lload_n 0, 1) := by decide +kernel
theorem dX7_in_1 : decode cX7_in 1 = .ok (.lload_n 2, 1) := by decide +kernel
theorem dX7_in_2 : decode cX7_in 2 = .ok (.lcmp, 1) := by decide +kernel
theorem dX7_in_3 : decode cX7_in 3 = .ok (.ifCond .lt 14, 3) := by decide +kernel
theorem dX7_in_6 : decode cX7_in 6 = .ok (.lload_n 0, 1) := by decide +kernel
theorem dX7_in_7 : decode cX7_in 7 = .ok (.lload 4, 2) := by decide +kernel
theorem dX7_in_9 : decode cX7_in 9 = .ok (.lcmp, 1) := by decide +kernel
theorem dX7_in_10 : decode cX7_in 10 = .ok (.ifCond .gt 7, 3) := by decide +kernel
theorem dX7_in_13 : decode cX7_in 13 = .ok (.iconst 1, 1) := by decide +kernel
theorem dX7_in_14 : decode cX7_in 14 = .ok (.goto 4, 3) := by decide +kernel
theorem dX7_in_17 : decode cX7_in 17 = .ok (.iconst 0, 1) := by decide +kernel
theorem dX7_in_18 : decode cX7_in 18 = .ok (.ireturn, 1) := by decide +kernel
theorem dX7_no_0 : decode cX7_no 0 = .ok (.ldc2_w 74, 3) := by decide +kernel
theorem dX7_no_3 : decode cX7_no 3 = .ok (.iload_n 0, 1) := by decide +kernel
theorem dX7_no_4 : decode cX7_no 4 = .ok (.i2l, 1) := by decide +kernel
theorem dX7_no_5 : decode cX7_no 5 = .ok (.lsub, 1) := by decide +kernel
theorem dX7_no_6 : decode cX7_no 6 = .ok (.lreturn, 1) := by decide +kernel
theorem dX7_isTwo_0 : decode cX7_isTwo 0 = .ok (.iload_n 0, 1) := by decide +kernel
theorem dX7_isTwo_1 : decode cX7_isTwo 1 = .ok (.i2l, 1) := by decide +kernel
theorem dX7_isTwo_2 : decode cX7_isTwo 2 = .ok (.lconst 0, 1) := by decide +kernel
theorem dX7_isTwo_3 : decode cX7_isTwo 3 = .ok (.lconst 1, 1) := by decide +kernel
theorem dX7_isTwo_4 : decode cX7_isTwo 4 = .ok (.invokestatic 76, 3) := by decide +kernel
theorem dX7_isTwo_7 : decode cX7_isTwo 7 = .ok (.ireturn, 1) := by decide +kernel
theorem dX7_isIn_0 : decode cX7_isIn 0 = .ok (.iload_n 0, 1) := by decide +kernel
theorem dX7_isIn_1 : decode cX7_isIn 1 = .ok (.iload_n 1, 1) := by decide +kernel
theorem dX7_isIn_2 : decode cX7_isIn 2 = .ok (.ishr, 1) := by decide +kernel
theorem dX7_isIn_3 : decode cX7_isIn 3 = .ok (.iconst 1, 1) := by decide +kernel
theorem dX7_isIn_4 : decode cX7_isIn 4 = .ok (.iand, 1) := by decide +kernel
theorem dX7_isIn_5 : decode cX7_isIn 5 = .ok (.iconst 1, 1) := by decide +kernel
theorem dX7_isIn_6 : decode cX7_isIn 6 = .ok (.if_icmp .ne 7, 3) := by decide +kernel
theorem dX7_isIn_9 : decode cX7_isIn 9 = .ok (.iconst 1, 1) := by decide +kernel
theorem dX7_isIn_10 : decode cX7_isIn 10 = .ok (.goto 4, 3) := by decide +kernel
theorem dX7_isIn_13 : decode cX7_isIn 13 = .ok (.iconst 0, 1) := by decide +kernel
theorem dX7_isIn_14 : decode cX7_isIn 14 = .ok (.ireturn, 1) := by decide +kernel
theorem dX7_lesser_0 : decode cX7_lesser 0 = .ok (.iload_n 0, 1) := by decide +kernel
theorem dX7_lesser_1 : decode cX7_lesser 1 = .ok (.iload_n 1, 1) := by decide +kernel
theorem dX7_lesser_2 : decode cX7_lesser 2 = .ok (.if_icmp .ge 7, 3) := by decide +kernel
theorem dX7_lesser_5 : decode cX7_lesser 5 = .ok (.iload_n 0, 1) := by decide +kernel
theorem dX7_lesser_6 : decode cX7_lesser 6 = .ok (.goto 4, 3) := by decide +kernel
theorem dX7_lesser_9 : decode cX7_lesser 9 = .ok (.iload_n 1, 1) := by decide +kernel
theorem dX7_lesser_10 : decode cX7_lesser 10 = .ok (.ireturn, 1) := by decide +kernel
theorem dX7_greater_0 : decode cX7_greater 0 = .ok (.iload_n 0, 1) := by decide +kernel
theorem dX7_greater_1 : decode cX7_greater 1 = .ok (.iload_n 1, 1) := by decide +kernel
theorem dX7_greater_2 : decode cX7_greater 2 = .ok (.if_icmp .le 7, 3) := by decide +kernel
theorem dX7_greater_5 : decode cX7_greater 5 = .ok (.iload_n 0, 1) := by decide +kernel
theorem dX7_greater_6 : decode cX7_greater 6 = .ok (.goto 4, 3) := by decide +kernel
theorem dX7_greater_9 : decode cX7_greater 9 = .ok (.iload_n 1, 1) := by decide +kernel
theorem dX7_greater_10 : decode cX7_greater 10 = .ok (.ireturn, 1) := by decide +kernel
theorem dX7_part_0 : decode cX7_part 0 = .ok (.lload_n 0, 1) := by decide +kernel
theorem dX7_part_1 : decode cX7_part 1 = .ok (.lstore 5, 2) := by decide +kernel
theorem dX7_part_3 : decode cX7_part 3 = .ok (.lload_n 2, 1) := by decide +kernel
theorem dX7_part_4 : decode cX7_part 4 = .ok (.lstore 7, 2) := by decide +kernel
theorem dX7_part_6 : decode cX7_part 6 = .ok (.lload 7, 2) := by decide +kernel
theorem dX7_part_8 : decode cX7_part 8 = .ok (.lconst 0, 1) := by decide +kernel
theorem dX7_part_9 : decode cX7_part 9 = .ok (.lcmp, 1) := by decide +kernel
theorem dX7_part_10 : decode cX7_part 10 = .ok (.ifCond .eq 21, 3) := by decide +kernel
theorem dX7_part_13 : decode cX7_part 13 = .ok (.lload 5, 2) := by decide +kernel
theorem dX7_part_15 : decode cX7_part 15 = .ok (.lload 7, 2) := by decide +kernel
theorem dX7_part_17 : decode cX7_part 17 = .ok (.lrem, 1) := by decide +kernel
theorem dX7_part_18 : decode cX7_part 18 = .ok (.lstore 9, 2) := by decide +kernel
theorem dX7_part_20 : decode cX7_part 20 = .ok (.lload 7, 2) := by decide +kernel
theorem dX7_part_22 : decode cX7_part 22 = .ok (.lstore 5, 2) := by decide +kernel
theorem dX7_part_24 : decode cX7_part 24 = .ok (.lload 9, 2) := by decide +kernel
theorem dX7_part_26 : decode cX7_part 26 = .ok (.lstore 7, 2) := by decide +kernel
theorem dX7_part_28 : decode cX7_part 28 = .ok (.goto (-22), 3) := by decide +kernel
theorem dX7_part_31 : decode cX7_part 31 = .ok (.iload 4, 2) := by decide +kernel
theorem dX7_part_33 : decode cX7_part 33 = .ok (.ifCond .ne 7, 3) := by decide +kernel
theorem dX7_part_36 : decode cX7_part 36 = .ok (.lload_n 0, 1) := by decide +kernel
theorem dX7_part_37 : decode cX7_part 37 = .ok (.goto 4, 3) := by decide +kernel
theorem dX7_part_40 : decode cX7_part 40 = .ok (.lload_n 2, 1) := by decide +kernel
theorem dX7_part_41 : decode cX7_part 41 = .ok (.lload 5, 2) := by decide +kernel
theorem dX7_part_43 : decode cX7_part 43 = .ok (.ldiv, 1) := by decide +kernel
theorem dX7_part_44 : decode cX7_part 44 = .ok (.lreturn, 1) := by decide +kernel
theorem dX7_finds_0 : decode cX7_finds 0 = .ok (.aload_n 0, 1) := by decide +kernel
theorem dX7_finds_1 : decode cX7_finds 1 = .ok (.iload_n 1, 1) := by decide +kernel
theorem dX7_finds_2 : decode cX7_finds 2 = .ok (.putfield 80, 3) := by decide +kernel
theorem dX7_finds_5 : decode cX7_finds 5 = .ok (.bipush (-10), 2) := by decide +kernel
theorem dX7_finds_7 : decode cX7_finds 7 = .ok (.iload_n 1, 1) := by decide +kernel
theorem dX7_finds_8 : decode cX7_finds 8 = .ok (.isub, 1) := by decide +kernel
theorem dX7_finds_9 : decode cX7_finds 9 = .ok (.ireturn, 1) := by decide +kernel
theorem dX7_isSheet_0 : decode cX7_isSheet 0 = .ok (.iload_n 0, 1) := by decide +kernel
theorem dX7_isSheet_1 : decode cX7_isSheet 1 = .ok (.i2l, 1) := by decide +kernel
theorem dX7_isSheet_2 : decode cX7_isSheet 2 = .ok (.lconst 0, 1) := by decide +kernel
theorem dX7_isSheet_3 : decode cX7_isSheet 3 = .ok (.ldc2_w 83, 3) := by decide +kernel
theorem dX7_isSheet_6 : decode cX7_isSheet 6 = .ok (.invokestatic 76, 3) := by decide +kernel
theorem dX7_isSheet_9 : decode cX7_isSheet 9 = .ok (.ireturn, 1) := by decide +kernel
theorem dX7_sheet_0 : decode cX7_sheet 0 = .ok (.iload_n 1, 1) := by decide +kernel
theorem dX7_sheet_1 : decode cX7_sheet 1 = .ok (.invokestatic 85, 3) := by decide +kernel
theorem dX7_sheet_4 : decode cX7_sheet 4 = .ok (.ifCond .eq 21, 3) := by decide +kernel
theorem dX7_sheet_7 : decode cX7_sheet 7 = .ok (.iload_n 2, 1) := by decide +kernel
theorem dX7_sheet_8 : decode cX7_sheet 8 = .ok (.i2l, 1) := by decide +kernel
theorem dX7_sheet_9 : decode cX7_sheet 9 = .ok (.lconst 0, 1) := by decide +kernel
theorem dX7_sheet_10 : decode cX7_sheet 10 = .ok (.ldc2_w 89, 3) := by decide +kernel
theorem dX7_sheet_13 : decode cX7_sheet 13 = .ok (.invokestatic 76, 3) := by decide +kernel
theorem dX7_sheet_16 : decode cX7_sheet 16 = .ok (.ifCond .eq 9, 3) := by decide +kernel
theorem dX7_sheet_19 : decode cX7_sheet 19 = .ok (.iload_n 3, 1) := by decide +kernel
theorem dX7_sheet_20 : decode cX7_sheet 20 = .ok (.bipush 60, 2) := by decide +kernel
theorem dX7_sheet_22 : decode cX7_sheet 22 = .ok (.if_icmp .le 6, 3) := by decide +kernel
theorem dX7_sheet_25 : decode cX7_sheet 25 = .ok (.bipush (-2), 2) := by decide +kernel
theorem dX7_sheet_27 : decode cX7_sheet 27 = .ok (.ireturn, 1) := by decide +kernel
theorem dX7_sheet_28 : decode cX7_sheet 28 = .ok (.iload_n 3, 1) := by decide +kernel
theorem dX7_sheet_29 : decode cX7_sheet 29 = .ok (.ifCond .ge 9, 3) := by decide +kernel
theorem dX7_sheet_32 : decode cX7_sheet 32 = .ok (.aload_n 0, 1) := by decide +kernel
theorem dX7_sheet_33 : decode cX7_sheet 33 = .ok (.iconst 5, 1) := by decide +kernel
theorem dX7_sheet_34 : decode cX7_sheet 34 = .ok (.invokevirtual 91, 3) := by decide +kernel
theorem dX7_sheet_37 : decode cX7_sheet 37 = .ok (.ireturn, 1) := by decide +kernel
theorem dX7_sheet_38 : decode cX7_sheet 38 = .ok (.aload_n 0, 1) := by decide +kernel
theorem dX7_sheet_39 : decode cX7_sheet 39 = .ok (.getfield 7, 3) := by decide +kernel
theorem dX7_sheet_42 : decode cX7_sheet 42 = .ok (.iload_n 1, 1) := by decide +kernel
theorem dX7_sheet_43 : decode cX7_sheet 43 = .ok (.iload_n 2, 1) := by decide +kernel
theorem dX7_sheet_44 : decode cX7_sheet 44 = .ok (.iastore, 1) := by decide +kernel
theorem dX7_sheet_45 : decode cX7_sheet 45 = .ok (.aload_n 0, 1) := by decide +kernel
theorem dX7_sheet_46 : decode cX7_sheet 46 = .ok (.getfield 13, 3) := by decide +kernel
theorem dX7_sheet_49 : decode cX7_sheet 49 = .ok (.iload_n 1, 1) := by decide +kernel
theorem dX7_sheet_50 : decode cX7_sheet 50 = .ok (.iload_n 3, 1) := by decide +kernel
theorem dX7_sheet_51 : decode cX7_sheet 51 = .ok (.iastore, 1) := by decide +kernel
theorem dX7_sheet_52 : decode cX7_sheet 52 = .ok (.iconst 0, 1) := by decide +kernel
theorem dX7_sheet_53 : decode cX7_sheet 53 = .ok (.istore 4, 2) := by decide +kernel
theorem dX7_sheet_55 : decode cX7_sheet 55 = .ok (.iload 4, 2) := by decide +kernel
theorem dX7_sheet_57 : decode cX7_sheet 57 = .ok (.iload_n 3, 1) := by decide +kernel
theorem dX7_sheet_58 : decode cX7_sheet 58 = .ok (.if_icmp .ge 22, 3) := by decide +kernel
theorem dX7_sheet_61 : decode cX7_sheet 61 = .ok (.aload_n 0, 1) := by decide +kernel
theorem dX7_sheet_62 : decode cX7_sheet 62 = .ok (.getfield 16, 3) := by decide +kernel
theorem dX7_sheet_65 : decode cX7_sheet 65 = .ok (.bipush 60, 2) := by decide +kernel
theorem dX7_sheet_67 : decode cX7_sheet 67 = .ok (.iload_n 1, 1) := by decide +kernel
theorem dX7_sheet_68 : decode cX7_sheet 68 = .ok (.imul, 1) := by decide +kernel
theorem dX7_sheet_69 : decode cX7_sheet 69 = .ok (.iload 4, 2) := by decide +kernel
theorem dX7_sheet_71 : decode cX7_sheet 71 = .ok (.iadd, 1) := by decide +kernel
theorem dX7_sheet_72 : decode cX7_sheet 72 = .ok (.iconst 0, 1) := by decide +kernel
theorem dX7_sheet_73 : decode cX7_sheet 73 = .ok (.iastore, 1) := by decide +kernel
theorem dX7_sheet_74 : decode cX7_sheet 74 = .ok (.iinc 4 1, 3) := by decide +kernel
theorem dX7_sheet_77 : decode cX7_sheet 77 = .ok (.goto (-22), 3) := by decide +kernel
theorem dX7_sheet_80 : decode cX7_sheet 80 = .ok (.iload_n 3, 1) := by decide +kernel
theorem dX7_sheet_81 : decode cX7_sheet 81 = .ok (.ireturn, 1) := by decide +kernel
theorem dX7_lose_0 : decode cX7_lose 0 = .ok (.iload_n 1, 1) := by decide +kernel
theorem dX7_lose_1 : decode cX7_lose 1 = .ok (.invokestatic 85, 3) := by decide +kernel
theorem dX7_lose_4 : decode cX7_lose 4 = .ok (.ifCond .ne 6, 3) := by decide +kernel
theorem dX7_lose_7 : decode cX7_lose 7 = .ok (.bipush (-2), 2) := by decide +kernel
theorem dX7_lose_9 : decode cX7_lose 9 = .ok (.ireturn, 1) := by decide +kernel
theorem dX7_lose_10 : decode cX7_lose 10 = .ok (.aload_n 0, 1) := by decide +kernel
theorem dX7_lose_11 : decode cX7_lose 11 = .ok (.getfield 7, 3) := by decide +kernel
theorem dX7_lose_14 : decode cX7_lose 14 = .ok (.iload_n 1, 1) := by decide +kernel
theorem dX7_lose_15 : decode cX7_lose 15 = .ok (.iaload, 1) := by decide +kernel
theorem dX7_lose_16 : decode cX7_lose 16 = .ok (.ifCond .ge 9, 3) := by decide +kernel
theorem dX7_lose_19 : decode cX7_lose 19 = .ok (.aload_n 0, 1) := by decide +kernel
theorem dX7_lose_20 : decode cX7_lose 20 = .ok (.iconst 1, 1) := by decide +kernel
theorem dX7_lose_21 : decode cX7_lose 21 = .ok (.invokevirtual 91, 3) := by decide +kernel
theorem dX7_lose_24 : decode cX7_lose 24 = .ok (.ireturn, 1) := by decide +kernel
theorem dX7_lose_25 : decode cX7_lose 25 = .ok (.aload_n 0, 1) := by decide +kernel
theorem dX7_lose_26 : decode cX7_lose 26 = .ok (.getfield 7, 3) := by decide +kernel
theorem dX7_lose_29 : decode cX7_lose 29 = .ok (.iload_n 1, 1) := by decide +kernel
theorem dX7_lose_30 : decode cX7_lose 30 = .ok (.iconst (-1), 1) := by decide +kernel
theorem dX7_lose_31 : decode cX7_lose 31 = .ok (.iastore, 1) := by decide +kernel
theorem dX7_lose_32 : decode cX7_lose 32 = .ok (.aload_n 0, 1) := by decide +kernel
theorem dX7_lose_33 : decode cX7_lose 33 = .ok (.getfield 13, 3) := by decide +kernel
theorem dX7_lose_36 : decode cX7_lose 36 = .ok (.iload_n 1, 1) := by decide +kernel
theorem dX7_lose_37 : decode cX7_lose 37 = .ok (.iaload, 1) := by decide +kernel
theorem dX7_lose_38 : decode cX7_lose 38 = .ok (.ireturn, 1) := by decide +kernel
theorem dX7_lacks_0 : decode cX7_lacks 0 = .ok (.aload_n 0, 1) := by decide +kernel
theorem dX7_lacks_1 : decode cX7_lacks 1 = .ok (.getfield 7, 3) := by decide +kernel
theorem dX7_lacks_4 : decode cX7_lacks 4 = .ok (.iload_n 1, 1) := by decide +kernel
theorem dX7_lacks_5 : decode cX7_lacks 5 = .ok (.iaload, 1) := by decide +kernel
theorem dX7_lacks_6 : decode cX7_lacks 6 = .ok (.ifCond .ge 9, 3) := by decide +kernel
theorem dX7_lacks_9 : decode cX7_lacks 9 = .ok (.aload_n 0, 1) := by decide +kernel
theorem dX7_lacks_10 : decode cX7_lacks 10 = .ok (.iconst 1, 1) := by decide +kernel
theorem dX7_lacks_11 : decode cX7_lacks 11 = .ok (.invokevirtual 91, 3) := by decide +kernel
theorem dX7_lacks_14 : decode cX7_lacks 14 = .ok (.ireturn, 1) := by decide +kernel
theorem dX7_lacks_15 : decode cX7_lacks 15 = .ok (.aload_n 0, 1) := by decide +kernel
theorem dX7_lacks_16 : decode cX7_lacks 16 = .ok (.getfield 7, 3) := by decide +kernel
theorem dX7_lacks_19 : decode cX7_lacks 19 = .ok (.iload_n 1, 1) := by decide +kernel
theorem dX7_lacks_20 : decode cX7_lacks 20 = .ok (.iaload, 1) := by decide +kernel
theorem dX7_lacks_21 : decode cX7_lacks 21 = .ok (.iload_n 2, 1) := by decide +kernel
theorem dX7_lacks_22 : decode cX7_lacks 22 = .ok (.if_icmp .eq 9, 3) := by decide +kernel
theorem dX7_lacks_25 : decode cX7_lacks 25 = .ok (.aload_n 0, 1) := by decide +kernel
theorem dX7_lacks_26 : decode cX7_lacks 26 = .ok (.iconst 3, 1) := by decide +kernel
theorem dX7_lacks_27 : decode cX7_lacks 27 = .ok (.invokevirtual 91, 3) := by decide +kernel
theorem dX7_lacks_30 : decode cX7_lacks 30 = .ok (.ireturn, 1) := by decide +kernel
theorem dX7_lacks_31 : decode cX7_lacks 31 = .ok (.iload_n 3, 1) := by decide +kernel
theorem dX7_lacks_32 : decode cX7_lacks 32 = .ok (.i2l, 1) := by decide +kernel
theorem dX7_lacks_33 : decode cX7_lacks 33 = .ok (.lconst 0, 1) := by decide +kernel
theorem dX7_lacks_34 : decode cX7_lacks 34 = .ok (.aload_n 0, 1) := by decide +kernel
theorem dX7_lacks_35 : decode cX7_lacks 35 = .ok (.getfield 13, 3) := by decide +kernel
theorem dX7_lacks_38 : decode cX7_lacks 38 = .ok (.iload_n 1, 1) := by decide +kernel
theorem dX7_lacks_39 : decode cX7_lacks 39 = .ok (.iaload, 1) := by decide +kernel
theorem dX7_lacks_40 : decode cX7_lacks 40 = .ok (.iconst 1, 1) := by decide +kernel
theorem dX7_lacks_41 : decode cX7_lacks 41 = .ok (.isub, 1) := by decide +kernel
theorem dX7_lacks_42 : decode cX7_lacks 42 = .ok (.i2l, 1) := by decide +kernel
theorem dX7_lacks_43 : decode cX7_lacks 43 = .ok (.invokestatic 76, 3) := by decide +kernel
theorem dX7_lacks_46 : decode cX7_lacks 46 = .ok (.ifCond .eq 7, 3) := by decide +kernel
theorem dX7_lacks_49 : decode cX7_lacks 49 = .ok (.iconst 0, 1) := by decide +kernel
theorem dX7_lacks_50 : decode cX7_lacks 50 = .ok (.goto 8, 3) := by decide +kernel
theorem dX7_lacks_53 : decode cX7_lacks 53 = .ok (.aload_n 0, 1) := by decide +kernel
theorem dX7_lacks_54 : decode cX7_lacks 54 = .ok (.iconst 2, 1) := by decide +kernel
theorem dX7_lacks_55 : decode cX7_lacks 55 = .ok (.invokevirtual 91, 3) := by decide +kernel
theorem dX7_lacks_58 : decode cX7_lacks 58 = .ok (.ireturn, 1) := by decide +kernel
theorem dX7_cut_0 : decode cX7_cut 0 = .ok (.iload_n 0, 1) := by decide +kernel
theorem dX7_cut_1 : decode cX7_cut 1 = .ok (.ifCond .ne 8, 3) := by decide +kernel
theorem dX7_cut_4 : decode cX7_cut 4 = .ok (.iload_n 1, 1) := by decide +kernel
theorem dX7_cut_5 : decode cX7_cut 5 = .ok (.i2b, 1) := by decide +kernel
theorem dX7_cut_6 : decode cX7_cut 6 = .ok (.goto 14, 3) := by decide +kernel
theorem dX7_cut_9 : decode cX7_cut 9 = .ok (.iload_n 0, 1) := by decide +kernel
theorem dX7_cut_10 : decode cX7_cut 10 = .ok (.iconst 1, 1) := by decide +kernel
theorem dX7_cut_11 : decode cX7_cut 11 = .ok (.if_icmp .ne 8, 3) := by decide +kernel
theorem dX7_cut_14 : decode cX7_cut 14 = .ok (.iload_n 1, 1) := by decide +kernel
theorem dX7_cut_15 : decode cX7_cut 15 = .ok (.i2s, 1) := by decide +kernel
theorem dX7_cut_16 : decode cX7_cut 16 = .ok (.goto 4, 3) := by decide +kernel
theorem dX7_cut_19 : decode cX7_cut 19 = .ok (.iload_n 1, 1) := by decide +kernel
theorem dX7_cut_20 : decode cX7_cut 20 = .ok (.ireturn, 1) := by decide +kernel
theorem dX7_lay_0 : decode cX7_lay 0 = .ok (.iload_n 1, 1) := by decide +kernel
theorem dX7_lay_1 : decode cX7_lay 1 = .ok (.invokestatic 85, 3) := by decide +kernel
theorem dX7_lay_4 : decode cX7_lay 4 = .ok (.ifCond .eq 15, 3) := by decide +kernel
theorem dX7_lay_7 : decode cX7_lay 7 = .ok (.iload_n 2, 1) := by decide +kernel
theorem dX7_lay_8 : decode cX7_lay 8 = .ok (.i2l, 1) := by decide +kernel
theorem dX7_lay_9 : decode cX7_lay 9 = .ok (.lconst 0, 1) := by decide +kernel
theorem dX7_lay_10 : decode cX7_lay 10 = .ok (.ldc2_w 89, 3) := by decide +kernel
theorem dX7_lay_13 : decode cX7_lay 13 = .ok (.invokestatic 76, 3) := by decide +kernel
theorem dX7_lay_16 : decode cX7_lay 16 = .ok (.ifCond .ne 6, 3) := by decide +kernel
theorem dX7_lay_19 : decode cX7_lay 19 = .ok (.bipush (-2), 2) := by decide +kernel
theorem dX7_lay_21 : decode cX7_lay 21 = .ok (.ireturn, 1) := by decide +kernel
theorem dX7_lay_22 : decode cX7_lay 22 = .ok (.aload_n 0, 1) := by decide +kernel
theorem dX7_lay_23 : decode cX7_lay 23 = .ok (.iload_n 1, 1) := by decide +kernel
theorem dX7_lay_24 : decode cX7_lay 24 = .ok (.iload_n 2, 1) := by decide +kernel
theorem dX7_lay_25 : decode cX7_lay 25 = .ok (.iload_n 3, 1) := by decide +kernel
theorem dX7_lay_26 : decode cX7_lay 26 = .ok (.invokevirtual 95, 3) := by decide +kernel
theorem dX7_lay_29 : decode cX7_lay 29 = .ok (.istore 5, 2) := by decide +kernel
theorem dX7_lay_31 : decode cX7_lay 31 = .ok (.iload 5, 2) := by decide +kernel
theorem dX7_lay_33 : decode cX7_lay 33 = .ok (.ifCond .eq 6, 3) := by decide +kernel
theorem dX7_lay_36 : decode cX7_lay 36 = .ok (.iload 5, 2) := by decide +kernel
theorem dX7_lay_38 : decode cX7_lay 38 = .ok (.ireturn, 1) := by decide +kernel
theorem dX7_lay_39 : decode cX7_lay 39 = .ok (.aload_n 0, 1) := by decide +kernel
theorem dX7_lay_40 : decode cX7_lay 40 = .ok (.getfield 16, 3) := by decide +kernel
theorem dX7_lay_43 : decode cX7_lay 43 = .ok (.bipush 60, 2) := by decide +kernel
theorem dX7_lay_45 : decode cX7_lay 45 = .ok (.iload_n 1, 1) := by decide +kernel
theorem dX7_lay_46 : decode cX7_lay 46 = .ok (.imul, 1) := by decide +kernel
theorem dX7_lay_47 : decode cX7_lay 47 = .ok (.iload_n 3, 1) := by decide +kernel
theorem dX7_lay_48 : decode cX7_lay 48 = .ok (.iadd, 1) := by decide +kernel
theorem dX7_lay_49 : decode cX7_lay 49 = .ok (.iload_n 2, 1) := by decide +kernel
theorem dX7_lay_50 : decode cX7_lay 50 = .ok (.iload 4, 2) := by decide +kernel
theorem dX7_lay_52 : decode cX7_lay 52 = .ok (.invokestatic 99, 3) := by decide +kernel
theorem dX7_lay_55 : decode cX7_lay 55 = .ok (.iastore, 1) := by decide +kernel
theorem dX7_lay_56 : decode cX7_lay 56 = .ok (.iconst 1, 1) := by decide +kernel
theorem dX7_lay_57 : decode cX7_lay 57 = .ok (.ireturn, 1) := by decide +kernel
theorem dX7_get_0 : decode cX7_get 0 = .ok (.iload_n 1, 1) := by decide +kernel
theorem dX7_get_1 : decode cX7_get 1 = .ok (.invokestatic 85, 3) := by decide +kernel
theorem dX7_get_4 : decode cX7_get 4 = .ok (.ifCond .eq 25, 3) := by decide +kernel
theorem dX7_get_7 : decode cX7_get 7 = .ok (.iload_n 2, 1) := by decide +kernel
theorem dX7_get_8 : decode cX7_get 8 = .ok (.i2l, 1) := by decide +kernel
theorem dX7_get_9 : decode cX7_get 9 = .ok (.lconst 0, 1) := by decide +kernel
theorem dX7_get_10 : decode cX7_get 10 = .ok (.ldc2_w 89, 3) := by decide +kernel
theorem dX7_get_13 : decode cX7_get 13 = .ok (.invokestatic 76, 3) := by decide +kernel
theorem dX7_get_16 : decode cX7_get 16 = .ok (.ifCond .eq 13, 3) := by decide +kernel
theorem dX7_get_19 : decode cX7_get 19 = .ok (.aload_n 0, 1) := by decide +kernel
theorem dX7_get_20 : decode cX7_get 20 = .ok (.iload_n 1, 1) := by decide +kernel
theorem dX7_get_21 : decode cX7_get 21 = .ok (.iload_n 2, 1) := by decide +kernel
theorem dX7_get_22 : decode cX7_get 22 = .ok (.iload_n 3, 1) := by decide +kernel
theorem dX7_get_23 : decode cX7_get 23 = .ok (.invokevirtual 95, 3) := by decide +kernel
theorem dX7_get_26 : decode cX7_get 26 = .ok (.ifCond .eq 6, 3) := by decide +kernel
theorem dX7_get_29 : decode cX7_get 29 = .ok (.ldc 103, 2) := by decide +kernel
theorem dX7_get_31 : decode cX7_get 31 = .ok (.ireturn, 1) := by decide +kernel
theorem dX7_get_32 : decode cX7_get 32 = .ok (.aload_n 0, 1) := by decide +kernel
theorem dX7_get_33 : decode cX7_get 33 = .ok (.getfield 16, 3) := by decide +kernel
theorem dX7_get_36 : decode cX7_get 36 = .ok (.bipush 60, 2) := by decide +kernel
theorem dX7_get_38 : decode cX7_get 38 = .ok (.iload_n 1, 1) := by decide +kernel
theorem dX7_get_39 : decode cX7_get 39 = .ok (.imul, 1) := by decide +kernel
theorem dX7_get_40 : decode cX7_get 40 = .ok (.iload_n 3, 1) := by decide +kernel
theorem dX7_get_41 : decode cX7_get 41 = .ok (.iadd, 1) := by decide +kernel
theorem dX7_get_42 : decode cX7_get 42 = .ok (.iaload, 1) := by decide +kernel
theorem dX7_get_43 : decode cX7_get 43 = .ok (.ireturn, 1) := by decide +kernel
theorem dX7_copy_0 : decode cX7_copy 0 = .ok (.iload_n 1, 1) := by decide +kernel
theorem dX7_copy_1 : decode cX7_copy 1 = .ok (.invokestatic 85, 3) := by decide +kernel
theorem dX7_copy_4 : decode cX7_copy 4 = .ok (.ifCond .eq 10, 3) := by decide +kernel
theorem dX7_copy_7 : decode cX7_copy 7 = .ok (.iload_n 3, 1) := by decide +kernel
theorem dX7_copy_8 : decode cX7_copy 8 = .ok (.invokestatic 85, 3) := by decide +kernel
theorem dX7_copy_11 : decode cX7_copy 11 = .ok (.ifCond .ne 6, 3) := by decide +kernel
theorem dX7_copy_14 : decode cX7_copy 14 = .ok (.bipush (-2), 2) := by decide +kernel
theorem dX7_copy_16 : decode cX7_copy 16 = .ok (.ireturn, 1) := by decide +kernel
theorem dX7_copy_17 : decode cX7_copy 17 = .ok (.aload_n 0, 1) := by decide +kernel
theorem dX7_copy_18 : decode cX7_copy 18 = .ok (.getfield 7, 3) := by decide +kernel
theorem dX7_copy_21 : decode cX7_copy 21 = .ok (.iload_n 1, 1) := by decide +kernel
theorem dX7_copy_22 : decode cX7_copy 22 = .ok (.iaload, 1) := by decide +kernel
theorem dX7_copy_23 : decode cX7_copy 23 = .ok (.ifCond .lt 12, 3) := by decide +kernel
theorem dX7_copy_26 : decode cX7_copy 26 = .ok (.aload_n 0, 1) := by decide +kernel
theorem dX7_copy_27 : decode cX7_copy 27 = .ok (.getfield 7, 3) := by decide +kernel
theorem dX7_copy_30 : decode cX7_copy 30 = .ok (.iload_n 3, 1) := by decide +kernel
theorem dX7_copy_31 : decode cX7_copy 31 = .ok (.iaload, 1) := by decide +kernel
theorem dX7_copy_32 : decode cX7_copy 32 = .ok (.ifCond .ge 9, 3) := by decide +kernel
theorem dX7_copy_35 : decode cX7_copy 35 = .ok (.aload_n 0, 1) := by decide +kernel
theorem dX7_copy_36 : decode cX7_copy 36 = .ok (.iconst 1, 1) := by decide +kernel
theorem dX7_copy_37 : decode cX7_copy 37 = .ok (.invokevirtual 91, 3) := by decide +kernel
theorem dX7_copy_40 : decode cX7_copy 40 = .ok (.ireturn, 1) := by decide +kernel
theorem dX7_copy_41 : decode cX7_copy 41 = .ok (.aload_n 0, 1) := by decide +kernel
theorem dX7_copy_42 : decode cX7_copy 42 = .ok (.getfield 7, 3) := by decide +kernel
theorem dX7_copy_45 : decode cX7_copy 45 = .ok (.iload_n 1, 1) := by decide +kernel
theorem dX7_copy_46 : decode cX7_copy 46 = .ok (.iaload, 1) := by decide +kernel
theorem dX7_copy_47 : decode cX7_copy 47 = .ok (.aload_n 0, 1) := by decide +kernel
theorem dX7_copy_48 : decode cX7_copy 48 = .ok (.getfield 7, 3) := by decide +kernel
theorem dX7_copy_51 : decode cX7_copy 51 = .ok (.iload_n 3, 1) := by decide +kernel
theorem dX7_copy_52 : decode cX7_copy 52 = .ok (.iaload, 1) := by decide +kernel
theorem dX7_copy_53 : decode cX7_copy 53 = .ok (.if_icmp .eq 9, 3) := by decide +kernel
theorem dX7_copy_56 : decode cX7_copy 56 = .ok (.aload_n 0, 1) := by decide +kernel
theorem dX7_copy_57 : decode cX7_copy 57 = .ok (.iconst 4, 1) := by decide +kernel
theorem dX7_copy_58 : decode cX7_copy 58 = .ok (.invokevirtual 91, 3) := by decide +kernel
theorem dX7_copy_61 : decode cX7_copy 61 = .ok (.ireturn, 1) := by decide +kernel
theorem dX7_copy_62 : decode cX7_copy 62 = .ok (.iload_n 2, 1) := by decide +kernel
theorem dX7_copy_63 : decode cX7_copy 63 = .ok (.ifCond .lt 48, 3) := by decide +kernel
theorem dX7_copy_66 : decode cX7_copy 66 = .ok (.iload 4, 2) := by decide +kernel
theorem dX7_copy_68 : decode cX7_copy 68 = .ok (.ifCond .lt 43, 3) := by decide +kernel
theorem dX7_copy_71 : decode cX7_copy 71 = .ok (.iload 5, 2) := by decide +kernel
theorem dX7_copy_73 : decode cX7_copy 73 = .ok (.ifCond .lt 38, 3) := by decide +kernel
theorem dX7_copy_76 : decode cX7_copy 76 = .ok (.iload_n 2, 1) := by decide +kernel
theorem dX7_copy_77 : decode cX7_copy 77 = .ok (.i2l, 1) := by decide +kernel
theorem dX7_copy_78 : decode cX7_copy 78 = .ok (.iload 5, 2) := by decide +kernel
theorem dX7_copy_80 : decode cX7_copy 80 = .ok (.i2l, 1) := by decide +kernel
theorem dX7_copy_81 : decode cX7_copy 81 = .ok (.ladd, 1) := by decide +kernel
theorem dX7_copy_82 : decode cX7_copy 82 = .ok (.aload_n 0, 1) := by decide +kernel
theorem dX7_copy_83 : decode cX7_copy 83 = .ok (.getfield 13, 3) := by decide +kernel
theorem dX7_copy_86 : decode cX7_copy 86 = .ok (.iload_n 1, 1) := by decide +kernel
theorem dX7_copy_87 : decode cX7_copy 87 = .ok (.iaload, 1) := by decide +kernel
theorem dX7_copy_88 : decode cX7_copy 88 = .ok (.i2l, 1) := by decide +kernel
theorem dX7_copy_89 : decode cX7_copy 89 = .ok (.lcmp, 1) := by decide +kernel
theorem dX7_copy_90 : decode cX7_copy 90 = .ok (.ifCond .gt 21, 3) := by decide +kernel
theorem dX7_copy_93 : decode cX7_copy 93 = .ok (.iload 4, 2) := by decide +kernel
theorem dX7_copy_95 : decode cX7_copy 95 = .ok (.i2l, 1) := by decide +kernel
theorem dX7_copy_96 : decode cX7_copy 96 = .ok (.iload 5, 2) := by decide +kernel
theorem dX7_copy_98 : decode cX7_copy 98 = .ok (.i2l, 1) := by decide +kernel
theorem dX7_copy_99 : decode cX7_copy 99 = .ok (.ladd, 1) := by decide +kernel
theorem dX7_copy_100 : decode cX7_copy 100 = .ok (.aload_n 0, 1) := by decide +kernel
theorem dX7_copy_101 : decode cX7_copy 101 = .ok (.getfield 13, 3) := by decide +kernel
theorem dX7_copy_104 : decode cX7_copy 104 = .ok (.iload_n 3, 1) := by decide +kernel
theorem dX7_copy_105 : decode cX7_copy 105 = .ok (.iaload, 1) := by decide +kernel
theorem dX7_copy_106 : decode cX7_copy 106 = .ok (.i2l, 1) := by decide +kernel
theorem dX7_copy_107 : decode cX7_copy 107 = .ok (.lcmp, 1) := by decide +kernel
theorem dX7_copy_108 : decode cX7_copy 108 = .ok (.ifCond .le 9, 3) := by decide +kernel
theorem dX7_copy_111 : decode cX7_copy 111 = .ok (.aload_n 0, 1) := by decide +kernel
theorem dX7_copy_112 : decode cX7_copy 112 = .ok (.iconst 2, 1) := by decide +kernel
theorem dX7_copy_113 : decode cX7_copy 113 = .ok (.invokevirtual 91, 3) := by decide +kernel
theorem dX7_copy_116 : decode cX7_copy 116 = .ok (.ireturn, 1) := by decide +kernel
theorem dX7_copy_117 : decode cX7_copy 117 = .ok (.iconst 0, 1) := by decide +kernel
theorem dX7_copy_118 : decode cX7_copy 118 = .ok (.istore 6, 2) := by decide +kernel
theorem dX7_copy_120 : decode cX7_copy 120 = .ok (.iload 6, 2) := by decide +kernel
theorem dX7_copy_122 : decode cX7_copy 122 = .ok (.iload 5, 2) := by decide +kernel
theorem dX7_copy_124 : decode cX7_copy 124 = .ok (.if_icmp .ge 30, 3) := by decide +kernel
theorem dX7_copy_127 : decode cX7_copy 127 = .ok (.aload_n 0, 1) := by decide +kernel
theorem dX7_copy_128 : decode cX7_copy 128 = .ok (.getfield 19, 3) := by decide +kernel
theorem dX7_copy_131 : decode cX7_copy 131 = .ok (.iload 6, 2) := by decide +kernel
theorem dX7_copy_133 : decode cX7_copy 133 = .ok (.aload_n 0, 1) := by decide +kernel
theorem dX7_copy_134 : decode cX7_copy 134 = .ok (.getfield 16, 3) := by decide +kernel
theorem dX7_copy_137 : decode cX7_copy 137 = .ok (.bipush 60, 2) := by decide +kernel
theorem dX7_copy_139 : decode cX7_copy 139 = .ok (.iload_n 1, 1) := by decide +kernel
theorem dX7_copy_140 : decode cX7_copy 140 = .ok (.imul, 1) := by decide +kernel
theorem dX7_copy_141 : decode cX7_copy 141 = .ok (.iload_n 2, 1) := by decide +kernel
theorem dX7_copy_142 : decode cX7_copy 142 = .ok (.iadd, 1) := by decide +kernel
theorem dX7_copy_143 : decode cX7_copy 143 = .ok (.iload 6, 2) := by decide +kernel
theorem dX7_copy_145 : decode cX7_copy 145 = .ok (.iadd, 1) := by decide +kernel
theorem dX7_copy_146 : decode cX7_copy 146 = .ok (.iaload, 1) := by decide +kernel
theorem dX7_copy_147 : decode cX7_copy 147 = .ok (.iastore, 1) := by decide +kernel
theorem dX7_copy_148 : decode cX7_copy 148 = .ok (.iinc 6 1, 3) := by decide +kernel
theorem dX7_copy_151 : decode cX7_copy 151 = .ok (.goto (-31), 3) := by decide +kernel
theorem dX7_copy_154 : decode cX7_copy 154 = .ok (.iconst 0, 1) := by decide +kernel
theorem dX7_copy_155 : decode cX7_copy 155 = .ok (.istore 6, 2) := by decide +kernel
theorem dX7_copy_157 : decode cX7_copy 157 = .ok (.iload 6, 2) := by decide +kernel
theorem dX7_copy_159 : decode cX7_copy 159 = .ok (.iload 5, 2) := by decide +kernel
theorem dX7_copy_161 : decode cX7_copy 161 = .ok (.if_icmp .ge 31, 3) := by decide +kernel
theorem dX7_copy_164 : decode cX7_copy 164 = .ok (.aload_n 0, 1) := by decide +kernel
theorem dX7_copy_165 : decode cX7_copy 165 = .ok (.getfield 16, 3) := by decide +kernel
theorem dX7_copy_168 : decode cX7_copy 168 = .ok (.bipush 60, 2) := by decide +kernel
theorem dX7_copy_170 : decode cX7_copy 170 = .ok (.iload_n 3, 1) := by decide +kernel
theorem dX7_copy_171 : decode cX7_copy 171 = .ok (.imul, 1) := by decide +kernel
theorem dX7_copy_172 : decode cX7_copy 172 = .ok (.iload 4, 2) := by decide +kernel
theorem dX7_copy_174 : decode cX7_copy 174 = .ok (.iadd, 1) := by decide +kernel
theorem dX7_copy_175 : decode cX7_copy 175 = .ok (.iload 6, 2) := by decide +kernel
theorem dX7_copy_177 : decode cX7_copy 177 = .ok (.iadd, 1) := by decide +kernel
theorem dX7_copy_178 : decode cX7_copy 178 = .ok (.aload_n 0, 1) := by decide +kernel
theorem dX7_copy_179 : decode cX7_copy 179 = .ok (.getfield 19, 3) := by decide +kernel
theorem dX7_copy_182 : decode cX7_copy 182 = .ok (.iload 6, 2) := by decide +kernel
theorem dX7_copy_184 : decode cX7_copy 184 = .ok (.iaload, 1) := by decide +kernel
theorem dX7_copy_185 : decode cX7_copy 185 = .ok (.iastore, 1) := by decide +kernel
theorem dX7_copy_186 : decode cX7_copy 186 = .ok (.iinc 6 1, 3) := by decide +kernel
theorem dX7_copy_189 : decode cX7_copy 189 = .ok (.goto (-32), 3) := by decide +kernel
theorem dX7_copy_192 : decode cX7_copy 192 = .ok (.iconst 1, 1) := by decide +kernel
theorem dX7_copy_193 : decode cX7_copy 193 = .ok (.ireturn, 1) := by decide +kernel
theorem dX7_isText_0 : decode cX7_isText 0 = .ok (.iload_n 0, 1) := by decide +kernel
theorem dX7_isText_1 : decode cX7_isText 1 = .ok (.i2l, 1) := by decide +kernel
theorem dX7_isText_2 : decode cX7_isText 2 = .ok (.lconst 0, 1) := by decide +kernel
theorem dX7_isText_3 : decode cX7_isText 3 = .ok (.ldc2_w 89, 3) := by decide +kernel
theorem dX7_isText_6 : decode cX7_isText 6 = .ok (.invokestatic 76, 3) := by decide +kernel
theorem dX7_isText_9 : decode cX7_isText 9 = .ok (.ireturn, 1) := by decide +kernel
theorem dX7_type_0 : decode cX7_type 0 = .ok (.iload_n 1, 1) := by decide +kernel
theorem dX7_type_1 : decode cX7_type 1 = .ok (.invokestatic 104, 3) := by decide +kernel
theorem dX7_type_4 : decode cX7_type 4 = .ok (.ifCond .eq 15, 3) := by decide +kernel
theorem dX7_type_7 : decode cX7_type 7 = .ok (.iload_n 2, 1) := by decide +kernel
theorem dX7_type_8 : decode cX7_type 8 = .ok (.i2l, 1) := by decide +kernel
theorem dX7_type_9 : decode cX7_type 9 = .ok (.lconst 0, 1) := by decide +kernel
theorem dX7_type_10 : decode cX7_type 10 = .ok (.ldc2_w 107, 3) := by decide +kernel
theorem dX7_type_13 : decode cX7_type 13 = .ok (.invokestatic 76, 3) := by decide +kernel
theorem dX7_type_16 : decode cX7_type 16 = .ok (.ifCond .ne 6, 3) := by decide +kernel
theorem dX7_type_19 : decode cX7_type 19 = .ok (.bipush (-2), 2) := by decide +kernel
theorem dX7_type_21 : decode cX7_type 21 = .ok (.ireturn, 1) := by decide +kernel
theorem dX7_type_22 : decode cX7_type 22 = .ok (.aload_n 0, 1) := by decide +kernel
theorem dX7_type_23 : decode cX7_type 23 = .ok (.getfield 25, 3) := by decide +kernel
theorem dX7_type_26 : decode cX7_type 26 = .ok (.iload_n 1, 1) := by decide +kernel
theorem dX7_type_27 : decode cX7_type 27 = .ok (.iaload, 1) := by decide +kernel
theorem dX7_type_28 : decode cX7_type 28 = .ok (.iload_n 1, 1) := by decide +kernel
theorem dX7_type_29 : decode cX7_type 29 = .ok (.ifCond .ne 8, 3) := by decide +kernel
theorem dX7_type_32 : decode cX7_type 32 = .ok (.bipush 23, 2) := by decide +kernel
theorem dX7_type_34 : decode cX7_type 34 = .ok (.goto 5, 3) := by decide +kernel
theorem dX7_type_37 : decode cX7_type 37 = .ok (.bipush 47, 2) := by decide +kernel
theorem dX7_type_39 : decode cX7_type 39 = .ok (.if_icmp .ne 6, 3) := by decide +kernel
theorem dX7_type_42 : decode cX7_type 42 = .ok (.bipush (-4), 2) := by decide +kernel
theorem dX7_type_44 : decode cX7_type 44 = .ok (.ireturn, 1) := by decide +kernel
theorem dX7_type_45 : decode cX7_type 45 = .ok (.aload_n 0, 1) := by decide +kernel
theorem dX7_type_46 : decode cX7_type 46 = .ok (.getfield 22, 3) := by decide +kernel
theorem dX7_type_49 : decode cX7_type 49 = .ok (.bipush 48, 2) := by decide +kernel
theorem dX7_type_51 : decode cX7_type 51 = .ok (.iload_n 1, 1) := by decide +kernel
theorem dX7_type_52 : decode cX7_type 52 = .ok (.imul, 1) := by decide +kernel
theorem dX7_type_53 : decode cX7_type 53 = .ok (.aload_n 0, 1) := by decide +kernel
theorem dX7_type_54 : decode cX7_type 54 = .ok (.getfield 25, 3) := by decide +kernel
theorem dX7_type_57 : decode cX7_type 57 = .ok (.iload_n 1, 1) := by decide +kernel
theorem dX7_type_58 : decode cX7_type 58 = .ok (.iaload, 1) := by decide +kernel
theorem dX7_type_59 : decode cX7_type 59 = .ok (.iadd, 1) := by decide +kernel
theorem dX7_type_60 : decode cX7_type 60 = .ok (.iload_n 2, 1) := by decide +kernel
theorem dX7_type_61 : decode cX7_type 61 = .ok (.iastore, 1) := by decide +kernel
theorem dX7_type_62 : decode cX7_type 62 = .ok (.aload_n 0, 1) := by decide +kernel
theorem dX7_type_63 : decode cX7_type 63 = .ok (.getfield 25, 3) := by decide +kernel
theorem dX7_type_66 : decode cX7_type 66 = .ok (.iload_n 1, 1) := by decide +kernel
theorem dX7_type_67 : decode cX7_type 67 = .ok (.dup2, 1) := by decide +kernel
theorem dX7_type_68 : decode cX7_type 68 = .ok (.iaload, 1) := by decide +kernel
theorem dX7_type_69 : decode cX7_type 69 = .ok (.iconst 1, 1) := by decide +kernel
theorem dX7_type_70 : decode cX7_type 70 = .ok (.iadd, 1) := by decide +kernel
theorem dX7_type_71 : decode cX7_type 71 = .ok (.iastore, 1) := by decide +kernel
theorem dX7_type_72 : decode cX7_type 72 = .ok (.aload_n 0, 1) := by decide +kernel
theorem dX7_type_73 : decode cX7_type 73 = .ok (.getfield 25, 3) := by decide +kernel
theorem dX7_type_76 : decode cX7_type 76 = .ok (.iload_n 1, 1) := by decide +kernel
theorem dX7_type_77 : decode cX7_type 77 = .ok (.iaload, 1) := by decide +kernel
theorem dX7_type_78 : decode cX7_type 78 = .ok (.ireturn, 1) := by decide +kernel
theorem dX7_wipe_0 : decode cX7_wipe 0 = .ok (.iload_n 1, 1) := by decide +kernel
theorem dX7_wipe_1 : decode cX7_wipe 1 = .ok (.invokestatic 104, 3) := by decide +kernel
theorem dX7_wipe_4 : decode cX7_wipe 4 = .ok (.ifCond .ne 6, 3) := by decide +kernel
theorem dX7_wipe_7 : decode cX7_wipe 7 = .ok (.bipush (-2), 2) := by decide +kernel
theorem dX7_wipe_9 : decode cX7_wipe 9 = .ok (.ireturn, 1) := by decide +kernel
theorem dX7_wipe_10 : decode cX7_wipe 10 = .ok (.aload_n 0, 1) := by decide +kernel
theorem dX7_wipe_11 : decode cX7_wipe 11 = .ok (.getfield 25, 3) := by decide +kernel
theorem dX7_wipe_14 : decode cX7_wipe 14 = .ok (.iload_n 1, 1) := by decide +kernel
theorem dX7_wipe_15 : decode cX7_wipe 15 = .ok (.iaload, 1) := by decide +kernel
theorem dX7_wipe_16 : decode cX7_wipe 16 = .ok (.istore_n 2, 1) := by decide +kernel
theorem dX7_wipe_17 : decode cX7_wipe 17 = .ok (.aload_n 0, 1) := by decide +kernel
theorem dX7_wipe_18 : decode cX7_wipe 18 = .ok (.getfield 25, 3) := by decide +kernel
theorem dX7_wipe_21 : decode cX7_wipe 21 = .ok (.iload_n 1, 1) := by decide +kernel
theorem dX7_wipe_22 : decode cX7_wipe 22 = .ok (.iconst 0, 1) := by decide +kernel
theorem dX7_wipe_23 : decode cX7_wipe 23 = .ok (.iastore, 1) := by decide +kernel
theorem dX7_wipe_24 : decode cX7_wipe 24 = .ok (.iload_n 2, 1) := by decide +kernel
theorem dX7_wipe_25 : decode cX7_wipe 25 = .ok (.ireturn, 1) := by decide +kernel
theorem dX7_undo_0 : decode cX7_undo 0 = .ok (.iload_n 1, 1) := by decide +kernel
theorem dX7_undo_1 : decode cX7_undo 1 = .ok (.invokestatic 104, 3) := by decide +kernel
theorem dX7_undo_4 : decode cX7_undo 4 = .ok (.ifCond .ne 6, 3) := by decide +kernel
theorem dX7_undo_7 : decode cX7_undo 7 = .ok (.bipush (-2), 2) := by decide +kernel
theorem dX7_undo_9 : decode cX7_undo 9 = .ok (.ireturn, 1) := by decide +kernel
theorem dX7_undo_10 : decode cX7_undo 10 = .ok (.aload_n 0, 1) := by decide +kernel
theorem dX7_undo_11 : decode cX7_undo 11 = .ok (.getfield 25, 3) := by decide +kernel
theorem dX7_undo_14 : decode cX7_undo 14 = .ok (.iload_n 1, 1) := by decide +kernel
theorem dX7_undo_15 : decode cX7_undo 15 = .ok (.iaload, 1) := by decide +kernel
theorem dX7_undo_16 : decode cX7_undo 16 = .ok (.ifCond .ne 6, 3) := by decide +kernel
theorem dX7_undo_19 : decode cX7_undo 19 = .ok (.bipush (-3), 2) := by decide +kernel
theorem dX7_undo_21 : decode cX7_undo 21 = .ok (.ireturn, 1) := by decide +kernel
theorem dX7_undo_22 : decode cX7_undo 22 = .ok (.aload_n 0, 1) := by decide +kernel
theorem dX7_undo_23 : decode cX7_undo 23 = .ok (.getfield 25, 3) := by decide +kernel
theorem dX7_undo_26 : decode cX7_undo 26 = .ok (.iload_n 1, 1) := by decide +kernel
theorem dX7_undo_27 : decode cX7_undo 27 = .ok (.dup2, 1) := by decide +kernel
theorem dX7_undo_28 : decode cX7_undo 28 = .ok (.iaload, 1) := by decide +kernel
theorem dX7_undo_29 : decode cX7_undo 29 = .ok (.iconst 1, 1) := by decide +kernel
theorem dX7_undo_30 : decode cX7_undo 30 = .ok (.isub, 1) := by decide +kernel
theorem dX7_undo_31 : decode cX7_undo 31 = .ok (.iastore, 1) := by decide +kernel
theorem dX7_undo_32 : decode cX7_undo 32 = .ok (.aload_n 0, 1) := by decide +kernel
theorem dX7_undo_33 : decode cX7_undo 33 = .ok (.getfield 25, 3) := by decide +kernel
theorem dX7_undo_36 : decode cX7_undo 36 = .ok (.iload_n 1, 1) := by decide +kernel
theorem dX7_undo_37 : decode cX7_undo 37 = .ok (.iaload, 1) := by decide +kernel
theorem dX7_undo_38 : decode cX7_undo 38 = .ok (.ireturn, 1) := by decide +kernel
theorem dX7_dayOf_0 : decode cX7_dayOf 0 = .ok (.iload_n 0, 1) := by decide +kernel
theorem dX7_dayOf_1 : decode cX7_dayOf 1 = .ok (.i2l, 1) := by decide +kernel
theorem dX7_dayOf_2 : decode cX7_dayOf 2 = .ok (.ldc2_w 109, 3) := by decide +kernel
theorem dX7_dayOf_5 : decode cX7_dayOf 5 = .ok (.ldc2_w 111, 3) := by decide +kernel
theorem dX7_dayOf_8 : decode cX7_dayOf 8 = .ok (.invokestatic 76, 3) := by decide +kernel
theorem dX7_dayOf_11 : decode cX7_dayOf 11 = .ok (.ifCond .eq 10, 3) := by decide +kernel
theorem dX7_dayOf_14 : decode cX7_dayOf 14 = .ok (.iload_n 0, 1) := by decide +kernel
theorem dX7_dayOf_15 : decode cX7_dayOf 15 = .ok (.bipush 97, 2) := by decide +kernel
theorem dX7_dayOf_17 : decode cX7_dayOf 17 = .ok (.isub, 1) := by decide +kernel
theorem dX7_dayOf_18 : decode cX7_dayOf 18 = .ok (.goto 5, 3) := by decide +kernel
theorem dX7_dayOf_21 : decode cX7_dayOf 21 = .ok (.bipush (-9), 2) := by decide +kernel
theorem dX7_dayOf_23 : decode cX7_dayOf 23 = .ok (.ireturn, 1) := by decide +kernel
theorem dX7_figureOf_0 : decode cX7_figureOf 0 = .ok (.iload_n 0, 1) := by decide +kernel
theorem dX7_figureOf_1 : decode cX7_figureOf 1 = .ok (.i2l, 1) := by decide +kernel
theorem dX7_figureOf_2 : decode cX7_figureOf 2 = .ok (.bipush 48, 2) := by decide +kernel
theorem dX7_figureOf_4 : decode cX7_figureOf 4 = .ok (.iload_n 1, 1) := by decide +kernel
theorem dX7_figureOf_5 : decode cX7_figureOf 5 = .ok (.iadd, 1) := by decide +kernel
theorem dX7_figureOf_6 : decode cX7_figureOf 6 = .ok (.i2l, 1) := by decide +kernel
theorem dX7_figureOf_7 : decode cX7_figureOf 7 = .ok (.bipush 48, 2) := by decide +kernel
theorem dX7_figureOf_9 : decode cX7_figureOf 9 = .ok (.iload_n 2, 1) := by decide +kernel
theorem dX7_figureOf_10 : decode cX7_figureOf 10 = .ok (.iadd, 1) := by decide +kernel
theorem dX7_figureOf_11 : decode cX7_figureOf 11 = .ok (.i2l, 1) := by decide +kernel
theorem dX7_figureOf_12 : decode cX7_figureOf 12 = .ok (.invokestatic 76, 3) := by decide +kernel
theorem dX7_figureOf_15 : decode cX7_figureOf 15 = .ok (.ifCond .eq 10, 3) := by decide +kernel
theorem dX7_figureOf_18 : decode cX7_figureOf 18 = .ok (.iload_n 0, 1) := by decide +kernel
theorem dX7_figureOf_19 : decode cX7_figureOf 19 = .ok (.bipush 48, 2) := by decide +kernel
theorem dX7_figureOf_21 : decode cX7_figureOf 21 = .ok (.isub, 1) := by decide +kernel
theorem dX7_figureOf_22 : decode cX7_figureOf 22 = .ok (.goto 5, 3) := by decide +kernel
theorem dX7_figureOf_25 : decode cX7_figureOf 25 = .ok (.bipush (-9), 2) := by decide +kernel
theorem dX7_figureOf_27 : decode cX7_figureOf 27 = .ok (.ireturn, 1) := by decide +kernel
theorem dX7_personOf_0 : decode cX7_personOf 0 = .ok (.iload_n 0, 1) := by decide +kernel
theorem dX7_personOf_1 : decode cX7_personOf 1 = .ok (.ifCond .ne 46, 3) := by decide +kernel
theorem dX7_personOf_4 : decode cX7_personOf 4 = .ok (.iload_n 1, 1) := by decide +kernel
theorem dX7_personOf_5 : decode cX7_personOf 5 = .ok (.bipush 112, 2) := by decide +kernel
theorem dX7_personOf_7 : decode cX7_personOf 7 = .ok (.if_icmp .ne 7, 3) := by decide +kernel
theorem dX7_personOf_10 : decode cX7_personOf 10 = .ok (.iconst 0, 1) := by decide +kernel
theorem dX7_personOf_11 : decode cX7_personOf 11 = .ok (.goto 35, 3) := by decide +kernel
theorem dX7_personOf_14 : decode cX7_personOf 14 = .ok (.iload_n 1, 1) := by decide +kernel
theorem dX7_personOf_15 : decode cX7_personOf 15 = .ok (.bipush 111, 2) := by decide +kernel
theorem dX7_personOf_17 : decode cX7_personOf 17 = .ok (.if_icmp .ne 7, 3) := by decide +kernel
theorem dX7_personOf_20 : decode cX7_personOf 20 = .ok (.iconst 1, 1) := by decide +kernel
theorem dX7_personOf_21 : decode cX7_personOf 21 = .ok (.goto 25, 3) := by decide +kernel
theorem dX7_personOf_24 : decode cX7_personOf 24 = .ok (.iload_n 1, 1) := by decide +kernel
theorem dX7_personOf_25 : decode cX7_personOf 25 = .ok (.bipush 109, 2) := by decide +kernel
theorem dX7_personOf_27 : decode cX7_personOf 27 = .ok (.if_icmp .ne 7, 3) := by decide +kernel
theorem dX7_personOf_30 : decode cX7_personOf 30 = .ok (.iconst 2, 1) := by decide +kernel
theorem dX7_personOf_31 : decode cX7_personOf 31 = .ok (.goto 15, 3) := by decide +kernel
theorem dX7_personOf_34 : decode cX7_personOf 34 = .ok (.iload_n 1, 1) := by decide +kernel
theorem dX7_personOf_35 : decode cX7_personOf 35 = .ok (.bipush 98, 2) := by decide +kernel
theorem dX7_personOf_37 : decode cX7_personOf 37 = .ok (.if_icmp .ne 7, 3) := by decide +kernel
theorem dX7_personOf_40 : decode cX7_personOf 40 = .ok (.iconst 3, 1) := by decide +kernel
theorem dX7_personOf_41 : decode cX7_personOf 41 = .ok (.goto 5, 3) := by decide +kernel
theorem dX7_personOf_44 : decode cX7_personOf 44 = .ok (.bipush (-9), 2) := by decide +kernel
theorem dX7_personOf_46 : decode cX7_personOf 46 = .ok (.ireturn, 1) := by decide +kernel
theorem dX7_personOf_47 : decode cX7_personOf 47 = .ok (.iload_n 0, 1) := by decide +kernel
theorem dX7_personOf_48 : decode cX7_personOf 48 = .ok (.iconst 1, 1) := by decide +kernel
theorem dX7_personOf_49 : decode cX7_personOf 49 = .ok (.if_icmp .ne 10, 3) := by decide +kernel
theorem dX7_personOf_52 : decode cX7_personOf 52 = .ok (.iload_n 1, 1) := by decide +kernel
theorem dX7_personOf_53 : decode cX7_personOf 53 = .ok (.invokestatic 113, 3) := by decide +kernel
theorem dX7_personOf_56 : decode cX7_personOf 56 = .ok (.goto 15, 3) := by decide +kernel
theorem dX7_personOf_59 : decode cX7_personOf 59 = .ok (.iload_n 1, 1) := by decide +kernel
theorem dX7_personOf_60 : decode cX7_personOf 60 = .ok (.bipush 59, 2) := by decide +kernel
theorem dX7_personOf_62 : decode cX7_personOf 62 = .ok (.if_icmp .ne 7, 3) := by decide +kernel
theorem dX7_personOf_65 : decode cX7_personOf 65 = .ok (.iconst 0, 1) := by decide +kernel
theorem dX7_personOf_66 : decode cX7_personOf 66 = .ok (.goto 5, 3) := by decide +kernel
theorem dX7_personOf_69 : decode cX7_personOf 69 = .ok (.bipush (-9), 2) := by decide +kernel
theorem dX7_personOf_71 : decode cX7_personOf 71 = .ok (.ireturn, 1) := by decide +kernel
theorem dX7_readsPeople_0 : decode cX7_readsPeople 0 = .ok (.aload_n 0, 1) := by decide +kernel
theorem dX7_readsPeople_1 : decode cX7_readsPeople 1 = .ok (.iconst 0, 1) := by decide +kernel
theorem dX7_readsPeople_2 : decode cX7_readsPeople 2 = .ok (.putfield 116, 3) := by decide +kernel
theorem dX7_readsPeople_5 : decode cX7_readsPeople 5 = .ok (.aload_n 0, 1) := by decide +kernel
theorem dX7_readsPeople_6 : decode cX7_readsPeople 6 = .ok (.getfield 25, 3) := by decide +kernel
theorem dX7_readsPeople_9 : decode cX7_readsPeople 9 = .ok (.iconst 0, 1) := by decide +kernel
theorem dX7_readsPeople_10 : decode cX7_readsPeople 10 = .ok (.iaload, 1) := by decide +kernel
theorem dX7_readsPeople_11 : decode cX7_readsPeople 11 = .ok (.istore_n 1, 1) := by decide +kernel
theorem dX7_readsPeople_12 : decode cX7_readsPeople 12 = .ok (.iconst 0, 1) := by decide +kernel
theorem dX7_readsPeople_13 : decode cX7_readsPeople 13 = .ok (.istore_n 2, 1) := by decide +kernel
theorem dX7_readsPeople_14 : decode cX7_readsPeople 14 = .ok (.iload_n 2, 1) := by decide +kernel
theorem dX7_readsPeople_15 : decode cX7_readsPeople 15 = .ok (.iload_n 1, 1) := by decide +kernel
theorem dX7_readsPeople_16 : decode cX7_readsPeople 16 = .ok (.if_icmp .ge 77, 3) := by decide +kernel
theorem dX7_readsPeople_19 : decode cX7_readsPeople 19 = .ok (.iload_n 2, 1) := by decide +kernel
theorem dX7_readsPeople_20 : decode cX7_readsPeople 20 = .ok (.iconst 3, 1) := by decide +kernel
theorem dX7_readsPeople_21 : decode cX7_readsPeople 21 = .ok (.irem, 1) := by decide +kernel
theorem dX7_readsPeople_22 : decode cX7_readsPeople 22 = .ok (.istore_n 3, 1) := by decide +kernel
theorem dX7_readsPeople_23 : decode cX7_readsPeople 23 = .ok (.iload_n 3, 1) := by decide +kernel
theorem dX7_readsPeople_24 : decode cX7_readsPeople 24 = .ok (.aload_n 0, 1) := by decide +kernel
theorem dX7_readsPeople_25 : decode cX7_readsPeople 25 = .ok (.getfield 22, 3) := by decide +kernel
theorem dX7_readsPeople_28 : decode cX7_readsPeople 28 = .ok (.iload_n 2, 1) := by decide +kernel
theorem dX7_readsPeople_29 : decode cX7_readsPeople 29 = .ok (.iaload, 1) := by decide +kernel
theorem dX7_readsPeople_30 : decode cX7_readsPeople 30 = .ok (.invokestatic 119, 3) := by decide +kernel
theorem dX7_readsPeople_33 : decode cX7_readsPeople 33 = .ok (.istore 4, 2) := by decide +kernel
theorem dX7_readsPeople_35 : decode cX7_readsPeople 35 = .ok (.iload 4, 2) := by decide +kernel
theorem dX7_readsPeople_37 : decode cX7_readsPeople 37 = .ok (.bipush (-9), 2) := by decide +kernel
theorem dX7_readsPeople_39 : decode cX7_readsPeople 39 = .ok (.if_icmp .ne 10, 3) := by decide +kernel
theorem dX7_readsPeople_42 : decode cX7_readsPeople 42 = .ok (.aload_n 0, 1) := by decide +kernel
theorem dX7_readsPeople_43 : decode cX7_readsPeople 43 = .ok (.iconst 0, 1) := by decide +kernel
theorem dX7_readsPeople_44 : decode cX7_readsPeople 44 = .ok (.putfield 116, 3) := by decide +kernel
theorem dX7_readsPeople_47 : decode cX7_readsPeople 47 = .ok (.iload_n 2, 1) := by decide +kernel
theorem dX7_readsPeople_48 : decode cX7_readsPeople 48 = .ok (.ireturn, 1) := by decide +kernel
theorem dX7_readsPeople_49 : decode cX7_readsPeople 49 = .ok (.iload_n 3, 1) := by decide +kernel
theorem dX7_readsPeople_50 : decode cX7_readsPeople 50 = .ok (.iconst 2, 1) := by decide +kernel
theorem dX7_readsPeople_51 : decode cX7_readsPeople 51 = .ok (.if_icmp .ge 17, 3) := by decide +kernel
theorem dX7_readsPeople_54 : decode cX7_readsPeople 54 = .ok (.aload_n 0, 1) := by decide +kernel
theorem dX7_readsPeople_55 : decode cX7_readsPeople 55 = .ok (.getfield 28, 3) := by decide +kernel
theorem dX7_readsPeople_58 : decode cX7_readsPeople 58 = .ok (.iconst 2, 1) := by decide +kernel
theorem dX7_readsPeople_59 : decode cX7_readsPeople 59 = .ok (.iload_n 2, 1) := by decide +kernel
theorem dX7_readsPeople_60 : decode cX7_readsPeople 60 = .ok (.iconst 3, 1) := by decide +kernel
theorem dX7_readsPeople_61 : decode cX7_readsPeople 61 = .ok (.idiv, 1) := by decide +kernel
theorem dX7_readsPeople_62 : decode cX7_readsPeople 62 = .ok (.imul, 1) := by decide +kernel
theorem dX7_readsPeople_63 : decode cX7_readsPeople 63 = .ok (.iload_n 3, 1) := by decide +kernel
theorem dX7_readsPeople_64 : decode cX7_readsPeople 64 = .ok (.iadd, 1) := by decide +kernel
theorem dX7_readsPeople_65 : decode cX7_readsPeople 65 = .ok (.iload 4, 2) := by decide +kernel
theorem dX7_readsPeople_67 : decode cX7_readsPeople 67 = .ok (.iastore, 1) := by decide +kernel
theorem dX7_readsPeople_68 : decode cX7_readsPeople 68 = .ok (.aload_n 0, 1) := by decide +kernel
theorem dX7_readsPeople_69 : decode cX7_readsPeople 69 = .ok (.dup, 1) := by decide +kernel
theorem dX7_readsPeople_70 : decode cX7_readsPeople 70 = .ok (.getfield 116, 3) := by decide +kernel
theorem dX7_readsPeople_73 : decode cX7_readsPeople 73 = .ok (.iload_n 3, 1) := by decide +kernel
theorem dX7_readsPeople_74 : decode cX7_readsPeople 74 = .ok (.iconst 1, 1) := by decide +kernel
theorem dX7_readsPeople_75 : decode cX7_readsPeople 75 = .ok (.if_icmp .ne 7, 3) := by decide +kernel
theorem dX7_readsPeople_78 : decode cX7_readsPeople 78 = .ok (.iconst 1, 1) := by decide +kernel
theorem dX7_readsPeople_79 : decode cX7_readsPeople 79 = .ok (.goto 4, 3) := by decide +kernel
theorem dX7_readsPeople_82 : decode cX7_readsPeople 82 = .ok (.iconst 0, 1) := by decide +kernel
theorem dX7_readsPeople_83 : decode cX7_readsPeople 83 = .ok (.iadd, 1) := by decide +kernel
theorem dX7_readsPeople_84 : decode cX7_readsPeople 84 = .ok (.putfield 116, 3) := by decide +kernel
theorem dX7_readsPeople_87 : decode cX7_readsPeople 87 = .ok (.iinc 2 1, 3) := by decide +kernel
theorem dX7_readsPeople_90 : decode cX7_readsPeople 90 = .ok (.goto (-76), 3) := by decide +kernel
theorem dX7_readsPeople_93 : decode cX7_readsPeople 93 = .ok (.iload_n 1, 1) := by decide +kernel
theorem dX7_readsPeople_94 : decode cX7_readsPeople 94 = .ok (.ifCond .le 17, 3) := by decide +kernel
theorem dX7_readsPeople_97 : decode cX7_readsPeople 97 = .ok (.iload_n 1, 1) := by decide +kernel
theorem dX7_readsPeople_98 : decode cX7_readsPeople 98 = .ok (.iconst 3, 1) := by decide +kernel
theorem dX7_readsPeople_99 : decode cX7_readsPeople 99 = .ok (.irem, 1) := by decide +kernel
theorem dX7_readsPeople_100 : decode cX7_readsPeople 100 = .ok (.iconst 2, 1) := by decide +kernel
theorem dX7_readsPeople_101 : decode cX7_readsPeople 101 = .ok (.if_icmp .eq 10, 3) := by decide +kernel
theorem dX7_readsPeople_104 : decode cX7_readsPeople 104 = .ok (.aload_n 0, 1) := by decide +kernel
theorem dX7_readsPeople_105 : decode cX7_readsPeople 105 = .ok (.iconst 0, 1) := by decide +kernel
theorem dX7_readsPeople_106 : decode cX7_readsPeople 106 = .ok (.putfield 116, 3) := by decide +kernel
theorem dX7_readsPeople_109 : decode cX7_readsPeople 109 = .ok (.iload_n 1, 1) := by decide +kernel
theorem dX7_readsPeople_110 : decode cX7_readsPeople 110 = .ok (.ireturn, 1) := by decide +kernel
theorem dX7_readsPeople_111 : decode cX7_readsPeople 111 = .ok (.iconst (-1), 1) := by decide +kernel
theorem dX7_readsPeople_112 : decode cX7_readsPeople 112 = .ok (.ireturn, 1) := by decide +kernel
theorem dX7_wordOf_0 : decode cX7_wordOf 0 = .ok (.iload_n 0, 1) := by decide +kernel
theorem dX7_wordOf_1 : decode cX7_wordOf 1 = .ok (.iconst 2, 1) := by decide +kernel
theorem dX7_wordOf_2 : decode cX7_wordOf 2 = .ok (.if_icmp .ge 13, 3) := by decide +kernel
theorem dX7_wordOf_5 : decode cX7_wordOf 5 = .ok (.iload_n 1, 1) := by decide +kernel
theorem dX7_wordOf_6 : decode cX7_wordOf 6 = .ok (.iconst 0, 1) := by decide +kernel
theorem dX7_wordOf_7 : decode cX7_wordOf 7 = .ok (.bipush 7, 2) := by decide +kernel
theorem dX7_wordOf_9 : decode cX7_wordOf 9 = .ok (.invokestatic 122, 3) := by decide +kernel
theorem dX7_wordOf_12 : decode cX7_wordOf 12 = .ok (.goto 30, 3) := by decide +kernel
theorem dX7_wordOf_15 : decode cX7_wordOf 15 = .ok (.iload_n 0, 1) := by decide +kernel
theorem dX7_wordOf_16 : decode cX7_wordOf 16 = .ok (.iconst 2, 1) := by decide +kernel
theorem dX7_wordOf_17 : decode cX7_wordOf 17 = .ok (.if_icmp .ne 13, 3) := by decide +kernel
theorem dX7_wordOf_20 : decode cX7_wordOf 20 = .ok (.iload_n 1, 1) := by decide +kernel
theorem dX7_wordOf_21 : decode cX7_wordOf 21 = .ok (.iconst 1, 1) := by decide +kernel
theorem dX7_wordOf_22 : decode cX7_wordOf 22 = .ok (.bipush 9, 2) := by decide +kernel
theorem dX7_wordOf_24 : decode cX7_wordOf 24 = .ok (.invokestatic 122, 3) := by decide +kernel
theorem dX7_wordOf_27 : decode cX7_wordOf 27 = .ok (.goto 15, 3) := by decide +kernel
theorem dX7_wordOf_30 : decode cX7_wordOf 30 = .ok (.iload_n 1, 1) := by decide +kernel
theorem dX7_wordOf_31 : decode cX7_wordOf 31 = .ok (.bipush 59, 2) := by decide +kernel
theorem dX7_wordOf_33 : decode cX7_wordOf 33 = .ok (.if_icmp .ne 7, 3) := by decide +kernel
theorem dX7_wordOf_36 : decode cX7_wordOf 36 = .ok (.iconst 0, 1) := by decide +kernel
theorem dX7_wordOf_37 : decode cX7_wordOf 37 = .ok (.goto 5, 3) := by decide +kernel
theorem dX7_wordOf_40 : decode cX7_wordOf 40 = .ok (.bipush (-9), 2) := by decide +kernel
theorem dX7_wordOf_42 : decode cX7_wordOf 42 = .ok (.ireturn, 1) := by decide +kernel
theorem dX7_readsWords_0 : decode cX7_readsWords 0 = .ok (.aload_n 0, 1) := by decide +kernel
theorem dX7_readsWords_1 : decode cX7_readsWords 1 = .ok (.iconst 0, 1) := by decide +kernel
theorem dX7_readsWords_2 : decode cX7_readsWords 2 = .ok (.putfield 125, 3) := by decide +kernel
theorem dX7_readsWords_5 : decode cX7_readsWords 5 = .ok (.aload_n 0, 1) := by decide +kernel
theorem dX7_readsWords_6 : decode cX7_readsWords 6 = .ok (.getfield 25, 3) := by decide +kernel
theorem dX7_readsWords_9 : decode cX7_readsWords 9 = .ok (.iconst 1, 1) := by decide +kernel
theorem dX7_readsWords_10 : decode cX7_readsWords 10 = .ok (.iaload, 1) := by decide +kernel
theorem dX7_readsWords_11 : decode cX7_readsWords 11 = .ok (.istore_n 1, 1) := by decide +kernel
theorem dX7_readsWords_12 : decode cX7_readsWords 12 = .ok (.iconst 0, 1) := by decide +kernel
theorem dX7_readsWords_13 : decode cX7_readsWords 13 = .ok (.istore_n 2, 1) := by decide +kernel
theorem dX7_readsWords_14 : decode cX7_readsWords 14 = .ok (.iload_n 2, 1) := by decide +kernel
theorem dX7_readsWords_15 : decode cX7_readsWords 15 = .ok (.iload_n 1, 1) := by decide +kernel
theorem dX7_readsWords_16 : decode cX7_readsWords 16 = .ok (.if_icmp .ge 80, 3) := by decide +kernel
theorem dX7_readsWords_19 : decode cX7_readsWords 19 = .ok (.iload_n 2, 1) := by decide +kernel
theorem dX7_readsWords_20 : decode cX7_readsWords 20 = .ok (.iconst 4, 1) := by decide +kernel
theorem dX7_readsWords_21 : decode cX7_readsWords 21 = .ok (.irem, 1) := by decide +kernel
theorem dX7_readsWords_22 : decode cX7_readsWords 22 = .ok (.istore_n 3, 1) := by decide +kernel
theorem dX7_readsWords_23 : decode cX7_readsWords 23 = .ok (.iload_n 3, 1) := by decide +kernel
theorem dX7_readsWords_24 : decode cX7_readsWords 24 = .ok (.aload_n 0, 1) := by decide +kernel
theorem dX7_readsWords_25 : decode cX7_readsWords 25 = .ok (.getfield 22, 3) := by decide +kernel
theorem dX7_readsWords_28 : decode cX7_readsWords 28 = .ok (.bipush 48, 2) := by decide +kernel
theorem dX7_readsWords_30 : decode cX7_readsWords 30 = .ok (.iload_n 2, 1) := by decide +kernel
theorem dX7_readsWords_31 : decode cX7_readsWords 31 = .ok (.iadd, 1) := by decide +kernel
theorem dX7_readsWords_32 : decode cX7_readsWords 32 = .ok (.iaload, 1) := by decide +kernel
theorem dX7_readsWords_33 : decode cX7_readsWords 33 = .ok (.invokestatic 128, 3) := by decide +kernel
theorem dX7_readsWords_36 : decode cX7_readsWords 36 = .ok (.istore 4, 2) := by decide +kernel
theorem dX7_readsWords_38 : decode cX7_readsWords 38 = .ok (.iload 4, 2) := by decide +kernel
theorem dX7_readsWords_40 : decode cX7_readsWords 40 = .ok (.bipush (-9), 2) := by decide +kernel
theorem dX7_readsWords_42 : decode cX7_readsWords 42 = .ok (.if_icmp .ne 10, 3) := by decide +kernel
theorem dX7_readsWords_45 : decode cX7_readsWords 45 = .ok (.aload_n 0, 1) := by decide +kernel
theorem dX7_readsWords_46 : decode cX7_readsWords 46 = .ok (.iconst 0, 1) := by decide +kernel
theorem dX7_readsWords_47 : decode cX7_readsWords 47 = .ok (.putfield 125, 3) := by decide +kernel
theorem dX7_readsWords_50 : decode cX7_readsWords 50 = .ok (.iload_n 2, 1) := by decide +kernel
theorem dX7_readsWords_51 : decode cX7_readsWords 51 = .ok (.ireturn, 1) := by decide +kernel
theorem dX7_readsWords_52 : decode cX7_readsWords 52 = .ok (.iload_n 3, 1) := by decide +kernel
theorem dX7_readsWords_53 : decode cX7_readsWords 53 = .ok (.iconst 3, 1) := by decide +kernel
theorem dX7_readsWords_54 : decode cX7_readsWords 54 = .ok (.if_icmp .ge 17, 3) := by decide +kernel
theorem dX7_readsWords_57 : decode cX7_readsWords 57 = .ok (.aload_n 0, 1) := by decide +kernel
theorem dX7_readsWords_58 : decode cX7_readsWords 58 = .ok (.getfield 31, 3) := by decide +kernel
theorem dX7_readsWords_61 : decode cX7_readsWords 61 = .ok (.iconst 3, 1) := by decide +kernel
theorem dX7_readsWords_62 : decode cX7_readsWords 62 = .ok (.iload_n 2, 1) := by decide +kernel
theorem dX7_readsWords_63 : decode cX7_readsWords 63 = .ok (.iconst 4, 1) := by decide +kernel
theorem dX7_readsWords_64 : decode cX7_readsWords 64 = .ok (.idiv, 1) := by decide +kernel
theorem dX7_readsWords_65 : decode cX7_readsWords 65 = .ok (.imul, 1) := by decide +kernel
theorem dX7_readsWords_66 : decode cX7_readsWords 66 = .ok (.iload_n 3, 1) := by decide +kernel
theorem dX7_readsWords_67 : decode cX7_readsWords 67 = .ok (.iadd, 1) := by decide +kernel
theorem dX7_readsWords_68 : decode cX7_readsWords 68 = .ok (.iload 4, 2) := by decide +kernel
theorem dX7_readsWords_70 : decode cX7_readsWords 70 = .ok (.iastore, 1) := by decide +kernel
theorem dX7_readsWords_71 : decode cX7_readsWords 71 = .ok (.aload_n 0, 1) := by decide +kernel
theorem dX7_readsWords_72 : decode cX7_readsWords 72 = .ok (.dup, 1) := by decide +kernel
theorem dX7_readsWords_73 : decode cX7_readsWords 73 = .ok (.getfield 125, 3) := by decide +kernel
theorem dX7_readsWords_76 : decode cX7_readsWords 76 = .ok (.iload_n 3, 1) := by decide +kernel
theorem dX7_readsWords_77 : decode cX7_readsWords 77 = .ok (.iconst 2, 1) := by decide +kernel
theorem dX7_readsWords_78 : decode cX7_readsWords 78 = .ok (.if_icmp .ne 7, 3) := by decide +kernel
theorem dX7_readsWords_81 : decode cX7_readsWords 81 = .ok (.iconst 1, 1) := by decide +kernel
theorem dX7_readsWords_82 : decode cX7_readsWords 82 = .ok (.goto 4, 3) := by decide +kernel
theorem dX7_readsWords_85 : decode cX7_readsWords 85 = .ok (.iconst 0, 1) := by decide +kernel
theorem dX7_readsWords_86 : decode cX7_readsWords 86 = .ok (.iadd, 1) := by decide +kernel
theorem dX7_readsWords_87 : decode cX7_readsWords 87 = .ok (.putfield 125, 3) := by decide +kernel
theorem dX7_readsWords_90 : decode cX7_readsWords 90 = .ok (.iinc 2 1, 3) := by decide +kernel
theorem dX7_readsWords_93 : decode cX7_readsWords 93 = .ok (.goto (-79), 3) := by decide +kernel
theorem dX7_readsWords_96 : decode cX7_readsWords 96 = .ok (.iload_n 1, 1) := by decide +kernel
theorem dX7_readsWords_97 : decode cX7_readsWords 97 = .ok (.ifCond .le 17, 3) := by decide +kernel
theorem dX7_readsWords_100 : decode cX7_readsWords 100 = .ok (.iload_n 1, 1) := by decide +kernel
theorem dX7_readsWords_101 : decode cX7_readsWords 101 = .ok (.iconst 4, 1) := by decide +kernel
theorem dX7_readsWords_102 : decode cX7_readsWords 102 = .ok (.irem, 1) := by decide +kernel
theorem dX7_readsWords_103 : decode cX7_readsWords 103 = .ok (.iconst 3, 1) := by decide +kernel
theorem dX7_readsWords_104 : decode cX7_readsWords 104 = .ok (.if_icmp .eq 10, 3) := by decide +kernel
theorem dX7_readsWords_107 : decode cX7_readsWords 107 = .ok (.aload_n 0, 1) := by decide +kernel
theorem dX7_readsWords_108 : decode cX7_readsWords 108 = .ok (.iconst 0, 1) := by decide +kernel
theorem dX7_readsWords_109 : decode cX7_readsWords 109 = .ok (.putfield 125, 3) := by decide +kernel
theorem dX7_readsWords_112 : decode cX7_readsWords 112 = .ok (.iload_n 1, 1) := by decide +kernel
theorem dX7_readsWords_113 : decode cX7_readsWords 113 = .ok (.ireturn, 1) := by decide +kernel
theorem dX7_readsWords_114 : decode cX7_readsWords 114 = .ok (.iconst (-1), 1) := by decide +kernel
theorem dX7_readsWords_115 : decode cX7_readsWords 115 = .ok (.ireturn, 1) := by decide +kernel
theorem dX7_meetingOf_0 : decode cX7_meetingOf 0 = .ok (.iload_n 0, 1) := by decide +kernel
theorem dX7_meetingOf_1 : decode cX7_meetingOf 1 = .ok (.ifCond .ne 10, 3) := by decide +kernel
theorem dX7_meetingOf_4 : decode cX7_meetingOf 4 = .ok (.iload_n 1, 1) := by decide +kernel
theorem dX7_meetingOf_5 : decode cX7_meetingOf 5 = .ok (.invokestatic 113, 3) := by decide +kernel
theorem dX7_meetingOf_8 : decode cX7_meetingOf 8 = .ok (.goto 30, 3) := by decide +kernel
theorem dX7_meetingOf_11 : decode cX7_meetingOf 11 = .ok (.iload_n 0, 1) := by decide +kernel
theorem dX7_meetingOf_12 : decode cX7_meetingOf 12 = .ok (.iconst 3, 1) := by decide +kernel
theorem dX7_meetingOf_13 : decode cX7_meetingOf 13 = .ok (.if_icmp .ge 13, 3) := by decide +kernel
theorem dX7_meetingOf_16 : decode cX7_meetingOf 16 = .ok (.iload_n 1, 1) := by decide +kernel
theorem dX7_meetingOf_17 : decode cX7_meetingOf 17 = .ok (.iconst 0, 1) := by decide +kernel
theorem dX7_meetingOf_18 : decode cX7_meetingOf 18 = .ok (.bipush 7, 2) := by decide +kernel
theorem dX7_meetingOf_20 : decode cX7_meetingOf 20 = .ok (.invokestatic 122, 3) := by decide +kernel
theorem dX7_meetingOf_23 : decode cX7_meetingOf 23 = .ok (.goto 15, 3) := by decide +kernel
theorem dX7_meetingOf_26 : decode cX7_meetingOf 26 = .ok (.iload_n 1, 1) := by decide +kernel
theorem dX7_meetingOf_27 : decode cX7_meetingOf 27 = .ok (.bipush 59, 2) := by decide +kernel
theorem dX7_meetingOf_29 : decode cX7_meetingOf 29 = .ok (.if_icmp .ne 7, 3) := by decide +kernel
theorem dX7_meetingOf_32 : decode cX7_meetingOf 32 = .ok (.iconst 0, 1) := by decide +kernel
theorem dX7_meetingOf_33 : decode cX7_meetingOf 33 = .ok (.goto 5, 3) := by decide +kernel
theorem dX7_meetingOf_36 : decode cX7_meetingOf 36 = .ok (.bipush (-9), 2) := by decide +kernel
theorem dX7_meetingOf_38 : decode cX7_meetingOf 38 = .ok (.ireturn, 1) := by decide +kernel
theorem dX7_readsMeetings_0 : decode cX7_readsMeetings 0 = .ok (.aload_n 0, 1) := by decide +kernel
theorem dX7_readsMeetings_1 : decode cX7_readsMeetings 1 = .ok (.iconst 0, 1) := by decide +kernel
theorem dX7_readsMeetings_2 : decode cX7_readsMeetings 2 = .ok (.putfield 131, 3) := by decide +kernel
theorem dX7_readsMeetings_5 : decode cX7_readsMeetings 5 = .ok (.aload_n 0, 1) := by decide +kernel
theorem dX7_readsMeetings_6 : decode cX7_readsMeetings 6 = .ok (.getfield 25, 3) := by decide +kernel
theorem dX7_readsMeetings_9 : decode cX7_readsMeetings 9 = .ok (.iconst 2, 1) := by decide +kernel
theorem dX7_readsMeetings_10 : decode cX7_readsMeetings 10 = .ok (.iaload, 1) := by decide +kernel
theorem dX7_readsMeetings_11 : decode cX7_readsMeetings 11 = .ok (.istore_n 1, 1) := by decide +kernel
theorem dX7_readsMeetings_12 : decode cX7_readsMeetings 12 = .ok (.iconst 0, 1) := by decide +kernel
theorem dX7_readsMeetings_13 : decode cX7_readsMeetings 13 = .ok (.istore_n 2, 1) := by decide +kernel
theorem dX7_readsMeetings_14 : decode cX7_readsMeetings 14 = .ok (.iload_n 2, 1) := by decide +kernel
theorem dX7_readsMeetings_15 : decode cX7_readsMeetings 15 = .ok (.iload_n 1, 1) := by decide +kernel
theorem dX7_readsMeetings_16 : decode cX7_readsMeetings 16 = .ok (.if_icmp .ge 80, 3) := by decide +kernel
theorem dX7_readsMeetings_19 : decode cX7_readsMeetings 19 = .ok (.iload_n 2, 1) := by decide +kernel
theorem dX7_readsMeetings_20 : decode cX7_readsMeetings 20 = .ok (.iconst 4, 1) := by decide +kernel
theorem dX7_readsMeetings_21 : decode cX7_readsMeetings 21 = .ok (.irem, 1) := by decide +kernel
theorem dX7_readsMeetings_22 : decode cX7_readsMeetings 22 = .ok (.istore_n 3, 1) := by decide +kernel
theorem dX7_readsMeetings_23 : decode cX7_readsMeetings 23 = .ok (.iload_n 3, 1) := by decide +kernel
theorem dX7_readsMeetings_24 : decode cX7_readsMeetings 24 = .ok (.aload_n 0, 1) := by decide +kernel
theorem dX7_readsMeetings_25 : decode cX7_readsMeetings 25 = .ok (.getfield 22, 3) := by decide +kernel
theorem dX7_readsMeetings_28 : decode cX7_readsMeetings 28 = .ok (.bipush 96, 2) := by decide +kernel
theorem dX7_readsMeetings_30 : decode cX7_readsMeetings 30 = .ok (.iload_n 2, 1) := by decide +kernel
theorem dX7_readsMeetings_31 : decode cX7_readsMeetings 31 = .ok (.iadd, 1) := by decide +kernel
theorem dX7_readsMeetings_32 : decode cX7_readsMeetings 32 = .ok (.iaload, 1) := by decide +kernel
theorem dX7_readsMeetings_33 : decode cX7_readsMeetings 33 = .ok (.invokestatic 134, 3) := by decide +kernel
theorem dX7_readsMeetings_36 : decode cX7_readsMeetings 36 = .ok (.istore 4, 2) := by decide +kernel
theorem dX7_readsMeetings_38 : decode cX7_readsMeetings 38 = .ok (.iload 4, 2) := by decide +kernel
theorem dX7_readsMeetings_40 : decode cX7_readsMeetings 40 = .ok (.bipush (-9), 2) := by decide +kernel
theorem dX7_readsMeetings_42 : decode cX7_readsMeetings 42 = .ok (.if_icmp .ne 10, 3) := by decide +kernel
theorem dX7_readsMeetings_45 : decode cX7_readsMeetings 45 = .ok (.aload_n 0, 1) := by decide +kernel
theorem dX7_readsMeetings_46 : decode cX7_readsMeetings 46 = .ok (.iconst 0, 1) := by decide +kernel
theorem dX7_readsMeetings_47 : decode cX7_readsMeetings 47 = .ok (.putfield 131, 3) := by decide +kernel
theorem dX7_readsMeetings_50 : decode cX7_readsMeetings 50 = .ok (.iload_n 2, 1) := by decide +kernel
theorem dX7_readsMeetings_51 : decode cX7_readsMeetings 51 = .ok (.ireturn, 1) := by decide +kernel
theorem dX7_readsMeetings_52 : decode cX7_readsMeetings 52 = .ok (.iload_n 3, 1) := by decide +kernel
theorem dX7_readsMeetings_53 : decode cX7_readsMeetings 53 = .ok (.iconst 3, 1) := by decide +kernel
theorem dX7_readsMeetings_54 : decode cX7_readsMeetings 54 = .ok (.if_icmp .ge 17, 3) := by decide +kernel
theorem dX7_readsMeetings_57 : decode cX7_readsMeetings 57 = .ok (.aload_n 0, 1) := by decide +kernel
theorem dX7_readsMeetings_58 : decode cX7_readsMeetings 58 = .ok (.getfield 34, 3) := by decide +kernel
theorem dX7_readsMeetings_61 : decode cX7_readsMeetings 61 = .ok (.iconst 3, 1) := by decide +kernel
theorem dX7_readsMeetings_62 : decode cX7_readsMeetings 62 = .ok (.iload_n 2, 1) := by decide +kernel
theorem dX7_readsMeetings_63 : decode cX7_readsMeetings 63 = .ok (.iconst 4, 1) := by decide +kernel
theorem dX7_readsMeetings_64 : decode cX7_readsMeetings 64 = .ok (.idiv, 1) := by decide +kernel
theorem dX7_readsMeetings_65 : decode cX7_readsMeetings 65 = .ok (.imul, 1) := by decide +kernel
theorem dX7_readsMeetings_66 : decode cX7_readsMeetings 66 = .ok (.iload_n 3, 1) := by decide +kernel
theorem dX7_readsMeetings_67 : decode cX7_readsMeetings 67 = .ok (.iadd, 1) := by decide +kernel
theorem dX7_readsMeetings_68 : decode cX7_readsMeetings 68 = .ok (.iload 4, 2) := by decide +kernel
theorem dX7_readsMeetings_70 : decode cX7_readsMeetings 70 = .ok (.iastore, 1) := by decide +kernel
theorem dX7_readsMeetings_71 : decode cX7_readsMeetings 71 = .ok (.aload_n 0, 1) := by decide +kernel
theorem dX7_readsMeetings_72 : decode cX7_readsMeetings 72 = .ok (.dup, 1) := by decide +kernel
theorem dX7_readsMeetings_73 : decode cX7_readsMeetings 73 = .ok (.getfield 131, 3) := by decide +kernel
theorem dX7_readsMeetings_76 : decode cX7_readsMeetings 76 = .ok (.iload_n 3, 1) := by decide +kernel
theorem dX7_readsMeetings_77 : decode cX7_readsMeetings 77 = .ok (.iconst 2, 1) := by decide +kernel
theorem dX7_readsMeetings_78 : decode cX7_readsMeetings 78 = .ok (.if_icmp .ne 7, 3) := by decide +kernel
theorem dX7_readsMeetings_81 : decode cX7_readsMeetings 81 = .ok (.iconst 1, 1) := by decide +kernel
theorem dX7_readsMeetings_82 : decode cX7_readsMeetings 82 = .ok (.goto 4, 3) := by decide +kernel
theorem dX7_readsMeetings_85 : decode cX7_readsMeetings 85 = .ok (.iconst 0, 1) := by decide +kernel
theorem dX7_readsMeetings_86 : decode cX7_readsMeetings 86 = .ok (.iadd, 1) := by decide +kernel
theorem dX7_readsMeetings_87 : decode cX7_readsMeetings 87 = .ok (.putfield 131, 3) := by decide +kernel
theorem dX7_readsMeetings_90 : decode cX7_readsMeetings 90 = .ok (.iinc 2 1, 3) := by decide +kernel
theorem dX7_readsMeetings_93 : decode cX7_readsMeetings 93 = .ok (.goto (-79), 3) := by decide +kernel
theorem dX7_readsMeetings_96 : decode cX7_readsMeetings 96 = .ok (.iload_n 1, 1) := by decide +kernel
theorem dX7_readsMeetings_97 : decode cX7_readsMeetings 97 = .ok (.ifCond .le 17, 3) := by decide +kernel
theorem dX7_readsMeetings_100 : decode cX7_readsMeetings 100 = .ok (.iload_n 1, 1) := by decide +kernel
theorem dX7_readsMeetings_101 : decode cX7_readsMeetings 101 = .ok (.iconst 4, 1) := by decide +kernel
theorem dX7_readsMeetings_102 : decode cX7_readsMeetings 102 = .ok (.irem, 1) := by decide +kernel
theorem dX7_readsMeetings_103 : decode cX7_readsMeetings 103 = .ok (.iconst 3, 1) := by decide +kernel
theorem dX7_readsMeetings_104 : decode cX7_readsMeetings 104 = .ok (.if_icmp .eq 10, 3) := by decide +kernel
theorem dX7_readsMeetings_107 : decode cX7_readsMeetings 107 = .ok (.aload_n 0, 1) := by decide +kernel
theorem dX7_readsMeetings_108 : decode cX7_readsMeetings 108 = .ok (.iconst 0, 1) := by decide +kernel
theorem dX7_readsMeetings_109 : decode cX7_readsMeetings 109 = .ok (.putfield 131, 3) := by decide +kernel
theorem dX7_readsMeetings_112 : decode cX7_readsMeetings 112 = .ok (.iload_n 1, 1) := by decide +kernel
theorem dX7_readsMeetings_113 : decode cX7_readsMeetings 113 = .ok (.ireturn, 1) := by decide +kernel
theorem dX7_readsMeetings_114 : decode cX7_readsMeetings 114 = .ok (.iconst (-1), 1) := by decide +kernel
theorem dX7_readsMeetings_115 : decode cX7_readsMeetings 115 = .ok (.ireturn, 1) := by decide +kernel
theorem dX7_readsText_0 : decode cX7_readsText 0 = .ok (.iload_n 1, 1) := by decide +kernel
theorem dX7_readsText_1 : decode cX7_readsText 1 = .ok (.ifCond .ne 10, 3) := by decide +kernel
theorem dX7_readsText_4 : decode cX7_readsText 4 = .ok (.aload_n 0, 1) := by decide +kernel
theorem dX7_readsText_5 : decode cX7_readsText 5 = .ok (.invokevirtual 137, 3) := by decide +kernel
theorem dX7_readsText_8 : decode cX7_readsText 8 = .ok (.goto 19, 3) := by decide +kernel
theorem dX7_readsText_11 : decode cX7_readsText 11 = .ok (.iload_n 1, 1) := by decide +kernel
theorem dX7_readsText_12 : decode cX7_readsText 12 = .ok (.iconst 1, 1) := by decide +kernel
theorem dX7_readsText_13 : decode cX7_readsText 13 = .ok (.if_icmp .ne 10, 3) := by decide +kernel
theorem dX7_readsText_16 : decode cX7_readsText 16 = .ok (.aload_n 0, 1) := by decide +kernel
theorem dX7_readsText_17 : decode cX7_readsText 17 = .ok (.invokevirtual 141, 3) := by decide +kernel
theorem dX7_readsText_20 : decode cX7_readsText 20 = .ok (.goto 7, 3) := by decide +kernel
theorem dX7_readsText_23 : decode cX7_readsText 23 = .ok (.aload_n 0, 1) := by decide +kernel
theorem dX7_readsText_24 : decode cX7_readsText 24 = .ok (.invokevirtual 144, 3) := by decide +kernel
theorem dX7_readsText_27 : decode cX7_readsText 27 = .ok (.ireturn, 1) := by decide +kernel
theorem dX7_fault_0 : decode cX7_fault 0 = .ok (.iload_n 1, 1) := by decide +kernel
theorem dX7_fault_1 : decode cX7_fault 1 = .ok (.invokestatic 104, 3) := by decide +kernel
theorem dX7_fault_4 : decode cX7_fault 4 = .ok (.ifCond .eq 11, 3) := by decide +kernel
theorem dX7_fault_7 : decode cX7_fault 7 = .ok (.aload_n 0, 1) := by decide +kernel
theorem dX7_fault_8 : decode cX7_fault 8 = .ok (.iload_n 1, 1) := by decide +kernel
theorem dX7_fault_9 : decode cX7_fault 9 = .ok (.invokevirtual 147, 3) := by decide +kernel
theorem dX7_fault_12 : decode cX7_fault 12 = .ok (.goto 5, 3) := by decide +kernel
theorem dX7_fault_15 : decode cX7_fault 15 = .ok (.bipush (-2), 2) := by decide +kernel
theorem dX7_fault_17 : decode cX7_fault 17 = .ok (.ireturn, 1) := by decide +kernel
theorem dX7_isPerson_0 : decode cX7_isPerson 0 = .ok (.iload_n 1, 1) := by decide +kernel
theorem dX7_isPerson_1 : decode cX7_isPerson 1 = .ok (.i2l, 1) := by decide +kernel
theorem dX7_isPerson_2 : decode cX7_isPerson 2 = .ok (.lconst 0, 1) := by decide +kernel
theorem dX7_isPerson_3 : decode cX7_isPerson 3 = .ok (.aload_n 0, 1) := by decide +kernel
theorem dX7_isPerson_4 : decode cX7_isPerson 4 = .ok (.getfield 116, 3) := by decide +kernel
theorem dX7_isPerson_7 : decode cX7_isPerson 7 = .ok (.iconst 1, 1) := by decide +kernel
theorem dX7_isPerson_8 : decode cX7_isPerson 8 = .ok (.isub, 1) := by decide +kernel
theorem dX7_isPerson_9 : decode cX7_isPerson 9 = .ok (.i2l, 1) := by decide +kernel
theorem dX7_isPerson_10 : decode cX7_isPerson 10 = .ok (.invokestatic 76, 3) := by decide +kernel
theorem dX7_isPerson_13 : decode cX7_isPerson 13 = .ok (.ireturn, 1) := by decide +kernel
theorem dX7_isWord_0 : decode cX7_isWord 0 = .ok (.iload_n 1, 1) := by decide +kernel
theorem dX7_isWord_1 : decode cX7_isWord 1 = .ok (.i2l, 1) := by decide +kernel
theorem dX7_isWord_2 : decode cX7_isWord 2 = .ok (.lconst 0, 1) := by decide +kernel
theorem dX7_isWord_3 : decode cX7_isWord 3 = .ok (.aload_n 0, 1) := by decide +kernel
theorem dX7_isWord_4 : decode cX7_isWord 4 = .ok (.getfield 125, 3) := by decide +kernel
theorem dX7_isWord_7 : decode cX7_isWord 7 = .ok (.iconst 1, 1) := by decide +kernel
theorem dX7_isWord_8 : decode cX7_isWord 8 = .ok (.isub, 1) := by decide +kernel
theorem dX7_isWord_9 : decode cX7_isWord 9 = .ok (.i2l, 1) := by decide +kernel
theorem dX7_isWord_10 : decode cX7_isWord 10 = .ok (.invokestatic 76, 3) := by decide +kernel
theorem dX7_isWord_13 : decode cX7_isWord 13 = .ok (.ireturn, 1) := by decide +kernel
theorem dX7_isDay_0 : decode cX7_isDay 0 = .ok (.iload_n 0, 1) := by decide +kernel
theorem dX7_isDay_1 : decode cX7_isDay 1 = .ok (.i2l, 1) := by decide +kernel
theorem dX7_isDay_2 : decode cX7_isDay 2 = .ok (.lconst 0, 1) := by decide +kernel
theorem dX7_isDay_3 : decode cX7_isDay 3 = .ok (.ldc2_w 150, 3) := by decide +kernel
theorem dX7_isDay_6 : decode cX7_isDay 6 = .ok (.invokestatic 76, 3) := by decide +kernel
theorem dX7_isDay_9 : decode cX7_isDay 9 = .ok (.ireturn, 1) := by decide +kernel
theorem dX7_person_0 : decode cX7_person 0 = .ok (.aload_n 0, 1) := by decide +kernel
theorem dX7_person_1 : decode cX7_person 1 = .ok (.invokevirtual 137, 3) := by decide +kernel
theorem dX7_person_4 : decode cX7_person 4 = .ok (.pop, 1) := by decide +kernel
theorem dX7_person_5 : decode cX7_person 5 = .ok (.aload_n 0, 1) := by decide +kernel
theorem dX7_person_6 : decode cX7_person 6 = .ok (.iload_n 1, 1) := by decide +kernel
theorem dX7_person_7 : decode cX7_person 7 = .ok (.invokevirtual 152, 3) := by decide +kernel
theorem dX7_person_10 : decode cX7_person 10 = .ok (.ifCond .eq 23, 3) := by decide +kernel
theorem dX7_person_13 : decode cX7_person 13 = .ok (.iload_n 2, 1) := by decide +kernel
theorem dX7_person_14 : decode cX7_person 14 = .ok (.invokestatic 155, 3) := by decide +kernel
theorem dX7_person_17 : decode cX7_person 17 = .ok (.ifCond .eq 16, 3) := by decide +kernel
theorem dX7_person_20 : decode cX7_person 20 = .ok (.aload_n 0, 1) := by decide +kernel
theorem dX7_person_21 : decode cX7_person 21 = .ok (.getfield 28, 3) := by decide +kernel
theorem dX7_person_24 : decode cX7_person 24 = .ok (.iconst 2, 1) := by decide +kernel
theorem dX7_person_25 : decode cX7_person 25 = .ok (.iload_n 1, 1) := by decide +kernel
theorem dX7_person_26 : decode cX7_person 26 = .ok (.imul, 1) := by decide +kernel
theorem dX7_person_27 : decode cX7_person 27 = .ok (.iload_n 2, 1) := by decide +kernel
theorem dX7_person_28 : decode cX7_person 28 = .ok (.iadd, 1) := by decide +kernel
theorem dX7_person_29 : decode cX7_person 29 = .ok (.iaload, 1) := by decide +kernel
theorem dX7_person_30 : decode cX7_person 30 = .ok (.goto 5, 3) := by decide +kernel
theorem dX7_person_33 : decode cX7_person 33 = .ok (.bipush (-2), 2) := by decide +kernel
theorem dX7_person_35 : decode cX7_person 35 = .ok (.ireturn, 1) := by decide +kernel
theorem dX7_word_0 : decode cX7_word 0 = .ok (.aload_n 0, 1) := by decide +kernel
theorem dX7_word_1 : decode cX7_word 1 = .ok (.invokevirtual 141, 3) := by decide +kernel
theorem dX7_word_4 : decode cX7_word 4 = .ok (.pop, 1) := by decide +kernel
theorem dX7_word_5 : decode cX7_word 5 = .ok (.aload_n 0, 1) := by decide +kernel
theorem dX7_word_6 : decode cX7_word 6 = .ok (.iload_n 1, 1) := by decide +kernel
theorem dX7_word_7 : decode cX7_word 7 = .ok (.invokevirtual 158, 3) := by decide +kernel
theorem dX7_word_10 : decode cX7_word 10 = .ok (.ifCond .eq 28, 3) := by decide +kernel
theorem dX7_word_13 : decode cX7_word 13 = .ok (.iload_n 2, 1) := by decide +kernel
theorem dX7_word_14 : decode cX7_word 14 = .ok (.i2l, 1) := by decide +kernel
theorem dX7_word_15 : decode cX7_word 15 = .ok (.lconst 0, 1) := by decide +kernel
theorem dX7_word_16 : decode cX7_word 16 = .ok (.ldc2_w 89, 3) := by decide +kernel
theorem dX7_word_19 : decode cX7_word 19 = .ok (.invokestatic 76, 3) := by decide +kernel
theorem dX7_word_22 : decode cX7_word 22 = .ok (.ifCond .eq 16, 3) := by decide +kernel
theorem dX7_word_25 : decode cX7_word 25 = .ok (.aload_n 0, 1) := by decide +kernel
theorem dX7_word_26 : decode cX7_word 26 = .ok (.getfield 31, 3) := by decide +kernel
theorem dX7_word_29 : decode cX7_word 29 = .ok (.iconst 3, 1) := by decide +kernel
theorem dX7_word_30 : decode cX7_word 30 = .ok (.iload_n 1, 1) := by decide +kernel
theorem dX7_word_31 : decode cX7_word 31 = .ok (.imul, 1) := by decide +kernel
theorem dX7_word_32 : decode cX7_word 32 = .ok (.iload_n 2, 1) := by decide +kernel
theorem dX7_word_33 : decode cX7_word 33 = .ok (.iadd, 1) := by decide +kernel
theorem dX7_word_34 : decode cX7_word 34 = .ok (.iaload, 1) := by decide +kernel
theorem dX7_word_35 : decode cX7_word 35 = .ok (.goto 5, 3) := by decide +kernel
theorem dX7_word_38 : decode cX7_word 38 = .ok (.bipush (-2), 2) := by decide +kernel
theorem dX7_word_40 : decode cX7_word 40 = .ok (.ireturn, 1) := by decide +kernel
theorem dX7_meetingBy_0 : decode cX7_meetingBy 0 = .ok (.iload_n 1, 1) := by decide +kernel
theorem dX7_meetingBy_1 : decode cX7_meetingBy 1 = .ok (.aload_n 0, 1) := by decide +kernel
theorem dX7_meetingBy_2 : decode cX7_meetingBy 2 = .ok (.getfield 131, 3) := by decide +kernel
theorem dX7_meetingBy_5 : decode cX7_meetingBy 5 = .ok (.if_icmp .ge 16, 3) := by decide +kernel
theorem dX7_meetingBy_8 : decode cX7_meetingBy 8 = .ok (.aload_n 0, 1) := by decide +kernel
theorem dX7_meetingBy_9 : decode cX7_meetingBy 9 = .ok (.getfield 34, 3) := by decide +kernel
theorem dX7_meetingBy_12 : decode cX7_meetingBy 12 = .ok (.iconst 3, 1) := by decide +kernel
theorem dX7_meetingBy_13 : decode cX7_meetingBy 13 = .ok (.iload_n 1, 1) := by decide +kernel
theorem dX7_meetingBy_14 : decode cX7_meetingBy 14 = .ok (.imul, 1) := by decide +kernel
theorem dX7_meetingBy_15 : decode cX7_meetingBy 15 = .ok (.iload_n 2, 1) := by decide +kernel
theorem dX7_meetingBy_16 : decode cX7_meetingBy 16 = .ok (.iadd, 1) := by decide +kernel
theorem dX7_meetingBy_17 : decode cX7_meetingBy 17 = .ok (.iaload, 1) := by decide +kernel
theorem dX7_meetingBy_18 : decode cX7_meetingBy 18 = .ok (.goto 4, 3) := by decide +kernel
theorem dX7_meetingBy_21 : decode cX7_meetingBy 21 = .ok (.iconst (-1), 1) := by decide +kernel
theorem dX7_meetingBy_22 : decode cX7_meetingBy 22 = .ok (.ireturn, 1) := by decide +kernel
theorem dX7_meeting_0 : decode cX7_meeting 0 = .ok (.aload_n 0, 1) := by decide +kernel
theorem dX7_meeting_1 : decode cX7_meeting 1 = .ok (.invokevirtual 144, 3) := by decide +kernel
theorem dX7_meeting_4 : decode cX7_meeting 4 = .ok (.pop, 1) := by decide +kernel
theorem dX7_meeting_5 : decode cX7_meeting 5 = .ok (.iload_n 1, 1) := by decide +kernel
theorem dX7_meeting_6 : decode cX7_meeting 6 = .ok (.i2l, 1) := by decide +kernel
theorem dX7_meeting_7 : decode cX7_meeting 7 = .ok (.lconst 0, 1) := by decide +kernel
theorem dX7_meeting_8 : decode cX7_meeting 8 = .ok (.ldc2_w 161, 3) := by decide +kernel
theorem dX7_meeting_11 : decode cX7_meeting 11 = .ok (.invokestatic 76, 3) := by decide +kernel
theorem dX7_meeting_14 : decode cX7_meeting 14 = .ok (.ifCond .eq 24, 3) := by decide +kernel
theorem dX7_meeting_17 : decode cX7_meeting 17 = .ok (.iload_n 2, 1) := by decide +kernel
theorem dX7_meeting_18 : decode cX7_meeting 18 = .ok (.i2l, 1) := by decide +kernel
theorem dX7_meeting_19 : decode cX7_meeting 19 = .ok (.lconst 0, 1) := by decide +kernel
theorem dX7_meeting_20 : decode cX7_meeting 20 = .ok (.ldc2_w 89, 3) := by decide +kernel
theorem dX7_meeting_23 : decode cX7_meeting 23 = .ok (.invokestatic 76, 3) := by decide +kernel
theorem dX7_meeting_26 : decode cX7_meeting 26 = .ok (.ifCond .eq 12, 3) := by decide +kernel
theorem dX7_meeting_29 : decode cX7_meeting 29 = .ok (.aload_n 0, 1) := by decide +kernel
theorem dX7_meeting_30 : decode cX7_meeting 30 = .ok (.iload_n 1, 1) := by decide +kernel
theorem dX7_meeting_31 : decode cX7_meeting 31 = .ok (.iload_n 2, 1) := by decide +kernel
theorem dX7_meeting_32 : decode cX7_meeting 32 = .ok (.invokevirtual 163, 3) := by decide +kernel
theorem dX7_meeting_35 : decode cX7_meeting 35 = .ok (.goto 5, 3) := by decide +kernel
theorem dX7_meeting_38 : decode cX7_meeting 38 = .ok (.bipush (-2), 2) := by decide +kernel
theorem dX7_meeting_40 : decode cX7_meeting 40 = .ok (.ireturn, 1) := by decide +kernel
theorem dX7_echo_0 : decode cX7_echo 0 = .ok (.iload_n 1, 1) := by decide +kernel
theorem dX7_echo_1 : decode cX7_echo 1 = .ok (.invokestatic 166, 3) := by decide +kernel
theorem dX7_echo_4 : decode cX7_echo 4 = .ok (.ifCond .eq 15, 3) := by decide +kernel
theorem dX7_echo_7 : decode cX7_echo 7 = .ok (.iload_n 2, 1) := by decide +kernel
theorem dX7_echo_8 : decode cX7_echo 8 = .ok (.i2l, 1) := by decide +kernel
theorem dX7_echo_9 : decode cX7_echo 9 = .ok (.lconst 0, 1) := by decide +kernel
theorem dX7_echo_10 : decode cX7_echo 10 = .ok (.ldc2_w 169, 3) := by decide +kernel
theorem dX7_echo_13 : decode cX7_echo 13 = .ok (.invokestatic 76, 3) := by decide +kernel
theorem dX7_echo_16 : decode cX7_echo 16 = .ok (.ifCond .ne 6, 3) := by decide +kernel
theorem dX7_echo_19 : decode cX7_echo 19 = .ok (.bipush (-2), 2) := by decide +kernel
theorem dX7_echo_21 : decode cX7_echo 21 = .ok (.ireturn, 1) := by decide +kernel
theorem dX7_echo_22 : decode cX7_echo 22 = .ok (.aload_n 0, 1) := by decide +kernel
theorem dX7_echo_23 : decode cX7_echo 23 = .ok (.getfield 171, 3) := by decide +kernel
theorem dX7_echo_26 : decode cX7_echo 26 = .ok (.bipush 8, 2) := by decide +kernel
theorem dX7_echo_28 : decode cX7_echo 28 = .ok (.if_icmp .ne 6, 3) := by decide +kernel
theorem dX7_echo_31 : decode cX7_echo 31 = .ok (.bipush (-4), 2) := by decide +kernel
theorem dX7_echo_33 : decode cX7_echo 33 = .ok (.ireturn, 1) := by decide +kernel
theorem dX7_echo_34 : decode cX7_echo 34 = .ok (.aload_n 0, 1) := by decide +kernel
theorem dX7_echo_35 : decode cX7_echo 35 = .ok (.getfield 37, 3) := by decide +kernel
theorem dX7_echo_38 : decode cX7_echo 38 = .ok (.iconst 2, 1) := by decide +kernel
theorem dX7_echo_39 : decode cX7_echo 39 = .ok (.aload_n 0, 1) := by decide +kernel
theorem dX7_echo_40 : decode cX7_echo 40 = .ok (.getfield 171, 3) := by decide +kernel
theorem dX7_echo_43 : decode cX7_echo 43 = .ok (.imul, 1) := by decide +kernel
theorem dX7_echo_44 : decode cX7_echo 44 = .ok (.iload_n 1, 1) := by decide +kernel
theorem dX7_echo_45 : decode cX7_echo 45 = .ok (.iastore, 1) := by decide +kernel
theorem dX7_echo_46 : decode cX7_echo 46 = .ok (.aload_n 0, 1) := by decide +kernel
theorem dX7_echo_47 : decode cX7_echo 47 = .ok (.getfield 37, 3) := by decide +kernel
theorem dX7_echo_50 : decode cX7_echo 50 = .ok (.iconst 2, 1) := by decide +kernel
theorem dX7_echo_51 : decode cX7_echo 51 = .ok (.aload_n 0, 1) := by decide +kernel
theorem dX7_echo_52 : decode cX7_echo 52 = .ok (.getfield 171, 3) := by decide +kernel
theorem dX7_echo_55 : decode cX7_echo 55 = .ok (.imul, 1) := by decide +kernel
theorem dX7_echo_56 : decode cX7_echo 56 = .ok (.iconst 1, 1) := by decide +kernel
theorem dX7_echo_57 : decode cX7_echo 57 = .ok (.iadd, 1) := by decide +kernel
theorem dX7_echo_58 : decode cX7_echo 58 = .ok (.iload_n 2, 1) := by decide +kernel
theorem dX7_echo_59 : decode cX7_echo 59 = .ok (.iastore, 1) := by decide +kernel
theorem dX7_echo_60 : decode cX7_echo 60 = .ok (.aload_n 0, 1) := by decide +kernel
theorem dX7_echo_61 : decode cX7_echo 61 = .ok (.dup, 1) := by decide +kernel
theorem dX7_echo_62 : decode cX7_echo 62 = .ok (.getfield 171, 3) := by decide +kernel
theorem dX7_echo_65 : decode cX7_echo 65 = .ok (.iconst 1, 1) := by decide +kernel
theorem dX7_echo_66 : decode cX7_echo 66 = .ok (.iadd, 1) := by decide +kernel
theorem dX7_echo_67 : decode cX7_echo 67 = .ok (.putfield 171, 3) := by decide +kernel
theorem dX7_echo_70 : decode cX7_echo 70 = .ok (.aload_n 0, 1) := by decide +kernel
theorem dX7_echo_71 : decode cX7_echo 71 = .ok (.getfield 171, 3) := by decide +kernel
theorem dX7_echo_74 : decode cX7_echo 74 = .ok (.ireturn, 1) := by decide +kernel
theorem dX7_back_0 : decode cX7_back 0 = .ok (.aload_n 0, 1) := by decide +kernel
theorem dX7_back_1 : decode cX7_back 1 = .ok (.getfield 171, 3) := by decide +kernel
theorem dX7_back_4 : decode cX7_back 4 = .ok (.ifCond .ne 6, 3) := by decide +kernel
theorem dX7_back_7 : decode cX7_back 7 = .ok (.bipush (-3), 2) := by decide +kernel
theorem dX7_back_9 : decode cX7_back 9 = .ok (.ireturn, 1) := by decide +kernel
theorem dX7_back_10 : decode cX7_back 10 = .ok (.aload_n 0, 1) := by decide +kernel
theorem dX7_back_11 : decode cX7_back 11 = .ok (.dup, 1) := by decide +kernel
theorem dX7_back_12 : decode cX7_back 12 = .ok (.getfield 171, 3) := by decide +kernel
theorem dX7_back_15 : decode cX7_back 15 = .ok (.iconst 1, 1) := by decide +kernel
theorem dX7_back_16 : decode cX7_back 16 = .ok (.isub, 1) := by decide +kernel
theorem dX7_back_17 : decode cX7_back 17 = .ok (.putfield 171, 3) := by decide +kernel
theorem dX7_back_20 : decode cX7_back 20 = .ok (.aload_n 0, 1) := by decide +kernel
theorem dX7_back_21 : decode cX7_back 21 = .ok (.getfield 171, 3) := by decide +kernel
theorem dX7_back_24 : decode cX7_back 24 = .ok (.ireturn, 1) := by decide +kernel
theorem dX7_read_0 : decode cX7_read 0 = .ok (.iload_n 1, 1) := by decide +kernel
theorem dX7_read_1 : decode cX7_read 1 = .ok (.invokestatic 85, 3) := by decide +kernel
theorem dX7_read_4 : decode cX7_read 4 = .ok (.ifCond .ne 6, 3) := by decide +kernel
theorem dX7_read_7 : decode cX7_read 7 = .ok (.bipush (-2), 2) := by decide +kernel
theorem dX7_read_9 : decode cX7_read 9 = .ok (.ireturn, 1) := by decide +kernel
theorem dX7_read_10 : decode cX7_read 10 = .ok (.aload_n 0, 1) := by decide +kernel
theorem dX7_read_11 : decode cX7_read 11 = .ok (.getfield 7, 3) := by decide +kernel
theorem dX7_read_14 : decode cX7_read 14 = .ok (.iload_n 1, 1) := by decide +kernel
theorem dX7_read_15 : decode cX7_read 15 = .ok (.iaload, 1) := by decide +kernel
theorem dX7_read_16 : decode cX7_read 16 = .ok (.ifCond .ge 9, 3) := by decide +kernel
theorem dX7_read_19 : decode cX7_read 19 = .ok (.aload_n 0, 1) := by decide +kernel
theorem dX7_read_20 : decode cX7_read 20 = .ok (.iconst 1, 1) := by decide +kernel
theorem dX7_read_21 : decode cX7_read 21 = .ok (.invokevirtual 91, 3) := by decide +kernel
theorem dX7_read_24 : decode cX7_read 24 = .ok (.ireturn, 1) := by decide +kernel
theorem dX7_read_25 : decode cX7_read 25 = .ok (.iconst 0, 1) := by decide +kernel
theorem dX7_read_26 : decode cX7_read 26 = .ok (.istore_n 2, 1) := by decide +kernel
theorem dX7_read_27 : decode cX7_read 27 = .ok (.iconst 1, 1) := by decide +kernel
theorem dX7_read_28 : decode cX7_read 28 = .ok (.istore_n 3, 1) := by decide +kernel
theorem dX7_read_29 : decode cX7_read 29 = .ok (.iload_n 3, 1) := by decide +kernel
theorem dX7_read_30 : decode cX7_read 30 = .ok (.ifCond .eq 73, 3) := by decide +kernel
theorem dX7_read_33 : decode cX7_read 33 = .ok (.iconst 2, 1) := by decide +kernel
theorem dX7_read_34 : decode cX7_read 34 = .ok (.iload_n 2, 1) := by decide +kernel
theorem dX7_read_35 : decode cX7_read 35 = .ok (.imul, 1) := by decide +kernel
theorem dX7_read_36 : decode cX7_read 36 = .ok (.iconst 2, 1) := by decide +kernel
theorem dX7_read_37 : decode cX7_read 37 = .ok (.iadd, 1) := by decide +kernel
theorem dX7_read_38 : decode cX7_read 38 = .ok (.aload_n 0, 1) := by decide +kernel
theorem dX7_read_39 : decode cX7_read 39 = .ok (.getfield 13, 3) := by decide +kernel
theorem dX7_read_42 : decode cX7_read 42 = .ok (.iload_n 1, 1) := by decide +kernel
theorem dX7_read_43 : decode cX7_read 43 = .ok (.iaload, 1) := by decide +kernel
theorem dX7_read_44 : decode cX7_read 44 = .ok (.if_icmp .gt 59, 3) := by decide +kernel
theorem dX7_read_47 : decode cX7_read 47 = .ok (.aload_n 0, 1) := by decide +kernel
theorem dX7_read_48 : decode cX7_read 48 = .ok (.aload_n 0, 1) := by decide +kernel
theorem dX7_read_49 : decode cX7_read 49 = .ok (.getfield 16, 3) := by decide +kernel
theorem dX7_read_52 : decode cX7_read 52 = .ok (.bipush 60, 2) := by decide +kernel
theorem dX7_read_54 : decode cX7_read 54 = .ok (.iload_n 1, 1) := by decide +kernel
theorem dX7_read_55 : decode cX7_read 55 = .ok (.imul, 1) := by decide +kernel
theorem dX7_read_56 : decode cX7_read 56 = .ok (.iconst 2, 1) := by decide +kernel
theorem dX7_read_57 : decode cX7_read 57 = .ok (.iload_n 2, 1) := by decide +kernel
theorem dX7_read_58 : decode cX7_read 58 = .ok (.imul, 1) := by decide +kernel
theorem dX7_read_59 : decode cX7_read 59 = .ok (.iadd, 1) := by decide +kernel
theorem dX7_read_60 : decode cX7_read 60 = .ok (.iaload, 1) := by decide +kernel
theorem dX7_read_61 : decode cX7_read 61 = .ok (.aload_n 0, 1) := by decide +kernel
theorem dX7_read_62 : decode cX7_read 62 = .ok (.getfield 16, 3) := by decide +kernel
theorem dX7_read_65 : decode cX7_read 65 = .ok (.bipush 60, 2) := by decide +kernel
theorem dX7_read_67 : decode cX7_read 67 = .ok (.iload_n 1, 1) := by decide +kernel
theorem dX7_read_68 : decode cX7_read 68 = .ok (.imul, 1) := by decide +kernel
theorem dX7_read_69 : decode cX7_read 69 = .ok (.iconst 2, 1) := by decide +kernel
theorem dX7_read_70 : decode cX7_read 70 = .ok (.iload_n 2, 1) := by decide +kernel
theorem dX7_read_71 : decode cX7_read 71 = .ok (.imul, 1) := by decide +kernel
theorem dX7_read_72 : decode cX7_read 72 = .ok (.iadd, 1) := by decide +kernel
theorem dX7_read_73 : decode cX7_read 73 = .ok (.iconst 1, 1) := by decide +kernel
theorem dX7_read_74 : decode cX7_read 74 = .ok (.iadd, 1) := by decide +kernel
theorem dX7_read_75 : decode cX7_read 75 = .ok (.iaload, 1) := by decide +kernel
theorem dX7_read_76 : decode cX7_read 76 = .ok (.invokevirtual 174, 3) := by decide +kernel
theorem dX7_read_79 : decode cX7_read 79 = .ok (.ifCond .lt 7, 3) := by decide +kernel
theorem dX7_read_82 : decode cX7_read 82 = .ok (.iconst 1, 1) := by decide +kernel
theorem dX7_read_83 : decode cX7_read 83 = .ok (.goto 4, 3) := by decide +kernel
theorem dX7_read_86 : decode cX7_read 86 = .ok (.iconst 0, 1) := by decide +kernel
theorem dX7_read_87 : decode cX7_read 87 = .ok (.istore_n 3, 1) := by decide +kernel
theorem dX7_read_88 : decode cX7_read 88 = .ok (.iload_n 2, 1) := by decide +kernel
theorem dX7_read_89 : decode cX7_read 89 = .ok (.iload_n 3, 1) := by decide +kernel
theorem dX7_read_90 : decode cX7_read 90 = .ok (.ifCond .eq 7, 3) := by decide +kernel
theorem dX7_read_93 : decode cX7_read 93 = .ok (.iconst 1, 1) := by decide +kernel
theorem dX7_read_94 : decode cX7_read 94 = .ok (.goto 4, 3) := by decide +kernel
theorem dX7_read_97 : decode cX7_read 97 = .ok (.iconst 0, 1) := by decide +kernel
theorem dX7_read_98 : decode cX7_read 98 = .ok (.iadd, 1) := by decide +kernel
theorem dX7_read_99 : decode cX7_read 99 = .ok (.istore_n 2, 1) := by decide +kernel
theorem dX7_read_100 : decode cX7_read 100 = .ok (.goto (-71), 3) := by decide +kernel
theorem dX7_read_103 : decode cX7_read 103 = .ok (.iload_n 2, 1) := by decide +kernel
theorem dX7_read_104 : decode cX7_read 104 = .ok (.ireturn, 1) := by decide +kernel
theorem dX7_isEcho_0 : decode cX7_isEcho 0 = .ok (.iconst 0, 1) := by decide +kernel
theorem dX7_isEcho_1 : decode cX7_isEcho 1 = .ok (.istore_n 3, 1) := by decide +kernel
theorem dX7_isEcho_2 : decode cX7_isEcho 2 = .ok (.iconst 0, 1) := by decide +kernel
theorem dX7_isEcho_3 : decode cX7_isEcho 3 = .ok (.istore 4, 2) := by decide +kernel
theorem dX7_isEcho_5 : decode cX7_isEcho 5 = .ok (.iload 4, 2) := by decide +kernel
theorem dX7_isEcho_7 : decode cX7_isEcho 7 = .ok (.aload_n 0, 1) := by decide +kernel
theorem dX7_isEcho_8 : decode cX7_isEcho 8 = .ok (.getfield 171, 3) := by decide +kernel
theorem dX7_isEcho_11 : decode cX7_isEcho 11 = .ok (.if_icmp .ge 59, 3) := by decide +kernel
theorem dX7_isEcho_14 : decode cX7_isEcho 14 = .ok (.iload_n 3, 1) := by decide +kernel
theorem dX7_isEcho_15 : decode cX7_isEcho 15 = .ok (.ifCond .ne 43, 3) := by decide +kernel
theorem dX7_isEcho_18 : decode cX7_isEcho 18 = .ok (.aload_n 0, 1) := by decide +kernel
theorem dX7_isEcho_19 : decode cX7_isEcho 19 = .ok (.getfield 37, 3) := by decide +kernel
theorem dX7_isEcho_22 : decode cX7_isEcho 22 = .ok (.iconst 2, 1) := by decide +kernel
theorem dX7_isEcho_23 : decode cX7_isEcho 23 = .ok (.iload 4, 2) := by decide +kernel
theorem dX7_isEcho_25 : decode cX7_isEcho 25 = .ok (.imul, 1) := by decide +kernel
theorem dX7_isEcho_26 : decode cX7_isEcho 26 = .ok (.iaload, 1) := by decide +kernel
theorem dX7_isEcho_27 : decode cX7_isEcho 27 = .ok (.iload_n 1, 1) := by decide +kernel
theorem dX7_isEcho_28 : decode cX7_isEcho 28 = .ok (.if_icmp .ne 34, 3) := by decide +kernel
theorem dX7_isEcho_31 : decode cX7_isEcho 31 = .ok (.aload_n 0, 1) := by decide +kernel
theorem dX7_isEcho_32 : decode cX7_isEcho 32 = .ok (.getfield 37, 3) := by decide +kernel
theorem dX7_isEcho_35 : decode cX7_isEcho 35 = .ok (.iconst 2, 1) := by decide +kernel
theorem dX7_isEcho_36 : decode cX7_isEcho 36 = .ok (.iload 4, 2) := by decide +kernel
theorem dX7_isEcho_38 : decode cX7_isEcho 38 = .ok (.imul, 1) := by decide +kernel
theorem dX7_isEcho_39 : decode cX7_isEcho 39 = .ok (.iconst 1, 1) := by decide +kernel
theorem dX7_isEcho_40 : decode cX7_isEcho 40 = .ok (.iadd, 1) := by decide +kernel
theorem dX7_isEcho_41 : decode cX7_isEcho 41 = .ok (.iaload, 1) := by decide +kernel
theorem dX7_isEcho_42 : decode cX7_isEcho 42 = .ok (.iload_n 2, 1) := by decide +kernel
theorem dX7_isEcho_43 : decode cX7_isEcho 43 = .ok (.if_icmp .ne 19, 3) := by decide +kernel
theorem dX7_isEcho_46 : decode cX7_isEcho 46 = .ok (.aload_n 0, 1) := by decide +kernel
theorem dX7_isEcho_47 : decode cX7_isEcho 47 = .ok (.getfield 176, 3) := by decide +kernel
theorem dX7_isEcho_50 : decode cX7_isEcho 50 = .ok (.iload 4, 2) := by decide +kernel
theorem dX7_isEcho_52 : decode cX7_isEcho 52 = .ok (.invokestatic 179, 3) := by decide +kernel
theorem dX7_isEcho_55 : decode cX7_isEcho 55 = .ok (.ifCond .ne 7, 3) := by decide +kernel
theorem dX7_isEcho_58 : decode cX7_isEcho 58 = .ok (.iconst 1, 1) := by decide +kernel
theorem dX7_isEcho_59 : decode cX7_isEcho 59 = .ok (.goto 4, 3) := by decide +kernel
theorem dX7_isEcho_62 : decode cX7_isEcho 62 = .ok (.iconst 0, 1) := by decide +kernel
theorem dX7_isEcho_63 : decode cX7_isEcho 63 = .ok (.istore_n 3, 1) := by decide +kernel
theorem dX7_isEcho_64 : decode cX7_isEcho 64 = .ok (.iinc 4 1, 3) := by decide +kernel
theorem dX7_isEcho_67 : decode cX7_isEcho 67 = .ok (.goto (-62), 3) := by decide +kernel
theorem dX7_isEcho_70 : decode cX7_isEcho 70 = .ok (.iload_n 3, 1) := by decide +kernel
theorem dX7_isEcho_71 : decode cX7_isEcho 71 = .ok (.ireturn, 1) := by decide +kernel
theorem dX7_isDead_0 : decode cX7_isDead 0 = .ok (.aload_n 0, 1) := by decide +kernel
theorem dX7_isDead_1 : decode cX7_isDead 1 = .ok (.getfield 28, 3) := by decide +kernel
theorem dX7_isDead_4 : decode cX7_isDead 4 = .ok (.iconst 2, 1) := by decide +kernel
theorem dX7_isDead_5 : decode cX7_isDead 5 = .ok (.iload_n 2, 1) := by decide +kernel
theorem dX7_isDead_6 : decode cX7_isDead 6 = .ok (.imul, 1) := by decide +kernel
theorem dX7_isDead_7 : decode cX7_isDead 7 = .ok (.iconst 1, 1) := by decide +kernel
theorem dX7_isDead_8 : decode cX7_isDead 8 = .ok (.iadd, 1) := by decide +kernel
theorem dX7_isDead_9 : decode cX7_isDead 9 = .ok (.iaload, 1) := by decide +kernel
theorem dX7_isDead_10 : decode cX7_isDead 10 = .ok (.iload_n 1, 1) := by decide +kernel
theorem dX7_isDead_11 : decode cX7_isDead 11 = .ok (.if_icmp .ge 7, 3) := by decide +kernel
theorem dX7_isDead_14 : decode cX7_isDead 14 = .ok (.iconst 1, 1) := by decide +kernel
theorem dX7_isDead_15 : decode cX7_isDead 15 = .ok (.goto 4, 3) := by decide +kernel
theorem dX7_isDead_18 : decode cX7_isDead 18 = .ok (.iconst 0, 1) := by decide +kernel
theorem dX7_isDead_19 : decode cX7_isDead 19 = .ok (.ireturn, 1) := by decide +kernel
theorem dX7_grows_0 : decode cX7_grows 0 = .ok (.iconst 0, 1) := by decide +kernel
theorem dX7_grows_1 : decode cX7_grows 1 = .ok (.istore_n 1, 1) := by decide +kernel
theorem dX7_grows_2 : decode cX7_grows 2 = .ok (.iload_n 1, 1) := by decide +kernel
theorem dX7_grows_3 : decode cX7_grows 3 = .ok (.aload_n 0, 1) := by decide +kernel
theorem dX7_grows_4 : decode cX7_grows 4 = .ok (.getfield 125, 3) := by decide +kernel
theorem dX7_grows_7 : decode cX7_grows 7 = .ok (.if_icmp .ge 60, 3) := by decide +kernel
theorem dX7_grows_10 : decode cX7_grows 10 = .ok (.aload_n 0, 1) := by decide +kernel
theorem dX7_grows_11 : decode cX7_grows 11 = .ok (.getfield 40, 3) := by decide +kernel
theorem dX7_grows_14 : decode cX7_grows 14 = .ok (.iload_n 1, 1) := by decide +kernel
theorem dX7_grows_15 : decode cX7_grows 15 = .ok (.iaload, 1) := by decide +kernel
theorem dX7_grows_16 : decode cX7_grows 16 = .ok (.ifCond .ne 45, 3) := by decide +kernel
theorem dX7_grows_19 : decode cX7_grows 19 = .ok (.aload_n 0, 1) := by decide +kernel
theorem dX7_grows_20 : decode cX7_grows 20 = .ok (.getfield 43, 3) := by decide +kernel
theorem dX7_grows_23 : decode cX7_grows 23 = .ok (.iload_n 1, 1) := by decide +kernel
theorem dX7_grows_24 : decode cX7_grows 24 = .ok (.aload_n 0, 1) := by decide +kernel
theorem dX7_grows_25 : decode cX7_grows 25 = .ok (.getfield 43, 3) := by decide +kernel
theorem dX7_grows_28 : decode cX7_grows 28 = .ok (.iload_n 1, 1) := by decide +kernel
theorem dX7_grows_29 : decode cX7_grows 29 = .ok (.iaload, 1) := by decide +kernel
theorem dX7_grows_30 : decode cX7_grows 30 = .ok (.aload_n 0, 1) := by decide +kernel
theorem dX7_grows_31 : decode cX7_grows 31 = .ok (.getfield 28, 3) := by decide +kernel
theorem dX7_grows_34 : decode cX7_grows 34 = .ok (.iconst 2, 1) := by decide +kernel
theorem dX7_grows_35 : decode cX7_grows 35 = .ok (.aload_n 0, 1) := by decide +kernel
theorem dX7_grows_36 : decode cX7_grows 36 = .ok (.getfield 31, 3) := by decide +kernel
theorem dX7_grows_39 : decode cX7_grows 39 = .ok (.iconst 3, 1) := by decide +kernel
theorem dX7_grows_40 : decode cX7_grows 40 = .ok (.iload_n 1, 1) := by decide +kernel
theorem dX7_grows_41 : decode cX7_grows 41 = .ok (.imul, 1) := by decide +kernel
theorem dX7_grows_42 : decode cX7_grows 42 = .ok (.iaload, 1) := by decide +kernel
theorem dX7_grows_43 : decode cX7_grows 43 = .ok (.imul, 1) := by decide +kernel
theorem dX7_grows_44 : decode cX7_grows 44 = .ok (.iaload, 1) := by decide +kernel
theorem dX7_grows_45 : decode cX7_grows 45 = .ok (.iconst 3, 1) := by decide +kernel
theorem dX7_grows_46 : decode cX7_grows 46 = .ok (.if_icmp .ne 7, 3) := by decide +kernel
theorem dX7_grows_49 : decode cX7_grows 49 = .ok (.iconst 2, 1) := by decide +kernel
theorem dX7_grows_50 : decode cX7_grows 50 = .ok (.goto 4, 3) := by decide +kernel
theorem dX7_grows_53 : decode cX7_grows 53 = .ok (.iconst 1, 1) := by decide +kernel
theorem dX7_grows_54 : decode cX7_grows 54 = .ok (.iadd, 1) := by decide +kernel
theorem dX7_grows_55 : decode cX7_grows 55 = .ok (.bipush 9, 2) := by decide +kernel
theorem dX7_grows_57 : decode cX7_grows 57 = .ok (.invokestatic 183, 3) := by decide +kernel
theorem dX7_grows_60 : decode cX7_grows 60 = .ok (.iastore, 1) := by decide +kernel
theorem dX7_grows_61 : decode cX7_grows 61 = .ok (.iinc 1 1, 3) := by decide +kernel
theorem dX7_grows_64 : decode cX7_grows 64 = .ok (.goto (-62), 3) := by decide +kernel
theorem dX7_grows_67 : decode cX7_grows 67 = .ok (.return_, 1) := by decide +kernel
theorem dX7_says_0 : decode cX7_says 0 = .ok (.iconst (-1), 1) := by decide +kernel
theorem dX7_says_1 : decode cX7_says 1 = .ok (.istore 4, 2) := by decide +kernel
theorem dX7_says_3 : decode cX7_says 3 = .ok (.aload_n 0, 1) := by decide +kernel
theorem dX7_says_4 : decode cX7_says 4 = .ok (.getfield 125, 3) := by decide +kernel
theorem dX7_says_7 : decode cX7_says 7 = .ok (.iconst 1, 1) := by decide +kernel
theorem dX7_says_8 : decode cX7_says 8 = .ok (.isub, 1) := by decide +kernel
theorem dX7_says_9 : decode cX7_says 9 = .ok (.istore 5, 2) := by decide +kernel
theorem dX7_says_11 : decode cX7_says 11 = .ok (.iload 5, 2) := by decide +kernel
theorem dX7_says_13 : decode cX7_says 13 = .ok (.ifCond .lt 56, 3) := by decide +kernel
theorem dX7_says_16 : decode cX7_says 16 = .ok (.aload_n 0, 1) := by decide +kernel
theorem dX7_says_17 : decode cX7_says 17 = .ok (.getfield 40, 3) := by decide +kernel
theorem dX7_says_20 : decode cX7_says 20 = .ok (.iload 5, 2) := by decide +kernel
theorem dX7_says_22 : decode cX7_says 22 = .ok (.iaload, 1) := by decide +kernel
theorem dX7_says_23 : decode cX7_says 23 = .ok (.ifCond .ne 36, 3) := by decide +kernel
theorem dX7_says_26 : decode cX7_says 26 = .ok (.aload_n 0, 1) := by decide +kernel
theorem dX7_says_27 : decode cX7_says 27 = .ok (.getfield 31, 3) := by decide +kernel
theorem dX7_says_30 : decode cX7_says 30 = .ok (.iconst 3, 1) := by decide +kernel
theorem dX7_says_31 : decode cX7_says 31 = .ok (.iload 5, 2) := by decide +kernel
theorem dX7_says_33 : decode cX7_says 33 = .ok (.imul, 1) := by decide +kernel
theorem dX7_says_34 : decode cX7_says 34 = .ok (.iaload, 1) := by decide +kernel
theorem dX7_says_35 : decode cX7_says 35 = .ok (.iload_n 3, 1) := by decide +kernel
theorem dX7_says_36 : decode cX7_says 36 = .ok (.if_icmp .ne 23, 3) := by decide +kernel
theorem dX7_says_39 : decode cX7_says 39 = .ok (.aload_n 0, 1) := by decide +kernel
theorem dX7_says_40 : decode cX7_says 40 = .ok (.getfield 31, 3) := by decide +kernel
theorem dX7_says_43 : decode cX7_says 43 = .ok (.iconst 3, 1) := by decide +kernel
theorem dX7_says_44 : decode cX7_says 44 = .ok (.iload 5, 2) := by decide +kernel
theorem dX7_says_46 : decode cX7_says 46 = .ok (.imul, 1) := by decide +kernel
theorem dX7_says_47 : decode cX7_says 47 = .ok (.iconst 1, 1) := by decide +kernel
theorem dX7_says_48 : decode cX7_says 48 = .ok (.iadd, 1) := by decide +kernel
theorem dX7_says_49 : decode cX7_says 49 = .ok (.iaload, 1) := by decide +kernel
theorem dX7_says_50 : decode cX7_says 50 = .ok (.iload_n 2, 1) := by decide +kernel
theorem dX7_says_51 : decode cX7_says 51 = .ok (.if_icmp .ne 8, 3) := by decide +kernel
theorem dX7_says_54 : decode cX7_says 54 = .ok (.iload 5, 2) := by decide +kernel
theorem dX7_says_56 : decode cX7_says 56 = .ok (.goto 5, 3) := by decide +kernel
theorem dX7_says_59 : decode cX7_says 59 = .ok (.iload 4, 2) := by decide +kernel
theorem dX7_says_61 : decode cX7_says 61 = .ok (.istore 4, 2) := by decide +kernel
theorem dX7_says_63 : decode cX7_says 63 = .ok (.iinc 5 (-1), 3) := by decide +kernel
theorem dX7_says_66 : decode cX7_says 66 = .ok (.goto (-55), 3) := by decide +kernel
theorem dX7_says_69 : decode cX7_says 69 = .ok (.iload 4, 2) := by decide +kernel
theorem dX7_says_71 : decode cX7_says 71 = .ok (.iconst (-1), 1) := by decide +kernel
theorem dX7_says_72 : decode cX7_says 72 = .ok (.if_icmp .eq 15, 3) := by decide +kernel
theorem dX7_says_75 : decode cX7_says 75 = .ok (.aload_n 0, 1) := by decide +kernel
theorem dX7_says_76 : decode cX7_says 76 = .ok (.getfield 28, 3) := by decide +kernel
theorem dX7_says_79 : decode cX7_says 79 = .ok (.iconst 2, 1) := by decide +kernel
theorem dX7_says_80 : decode cX7_says 80 = .ok (.iload_n 2, 1) := by decide +kernel
theorem dX7_says_81 : decode cX7_says 81 = .ok (.imul, 1) := by decide +kernel
theorem dX7_says_82 : decode cX7_says 82 = .ok (.iaload, 1) := by decide +kernel
theorem dX7_says_83 : decode cX7_says 83 = .ok (.iconst 2, 1) := by decide +kernel
theorem dX7_says_84 : decode cX7_says 84 = .ok (.if_icmp .ne 4, 3) := by decide +kernel
theorem dX7_says_87 : decode cX7_says 87 = .ok (.return_, 1) := by decide +kernel
theorem dX7_says_88 : decode cX7_says 88 = .ok (.aload_n 0, 1) := by decide +kernel
theorem dX7_says_89 : decode cX7_says 89 = .ok (.getfield 49, 3) := by decide +kernel
theorem dX7_says_92 : decode cX7_says 92 = .ok (.iload_n 2, 1) := by decide +kernel
theorem dX7_says_93 : decode cX7_says 93 = .ok (.dup2, 1) := by decide +kernel
theorem dX7_says_94 : decode cX7_says 94 = .ok (.iaload, 1) := by decide +kernel
theorem dX7_says_95 : decode cX7_says 95 = .ok (.iconst 1, 1) := by decide +kernel
theorem dX7_says_96 : decode cX7_says 96 = .ok (.iadd, 1) := by decide +kernel
theorem dX7_says_97 : decode cX7_says 97 = .ok (.iastore, 1) := by decide +kernel
theorem dX7_says_98 : decode cX7_says 98 = .ok (.aload_n 0, 1) := by decide +kernel
theorem dX7_says_99 : decode cX7_says 99 = .ok (.getfield 28, 3) := by decide +kernel
theorem dX7_says_102 : decode cX7_says 102 = .ok (.iconst 2, 1) := by decide +kernel
theorem dX7_says_103 : decode cX7_says 103 = .ok (.iload_n 2, 1) := by decide +kernel
theorem dX7_says_104 : decode cX7_says 104 = .ok (.imul, 1) := by decide +kernel
theorem dX7_says_105 : decode cX7_says 105 = .ok (.iaload, 1) := by decide +kernel
theorem dX7_says_106 : decode cX7_says 106 = .ok (.iconst 1, 1) := by decide +kernel
theorem dX7_says_107 : decode cX7_says 107 = .ok (.if_icmp .ne 16, 3) := by decide +kernel
theorem dX7_says_110 : decode cX7_says 110 = .ok (.aload_n 0, 1) := by decide +kernel
theorem dX7_says_111 : decode cX7_says 111 = .ok (.getfield 49, 3) := by decide +kernel
theorem dX7_says_114 : decode cX7_says 114 = .ok (.iload_n 2, 1) := by decide +kernel
theorem dX7_says_115 : decode cX7_says 115 = .ok (.iaload, 1) := by decide +kernel
theorem dX7_says_116 : decode cX7_says 116 = .ok (.iconst 2, 1) := by decide +kernel
theorem dX7_says_117 : decode cX7_says 117 = .ok (.irem, 1) := by decide +kernel
theorem dX7_says_118 : decode cX7_says 118 = .ok (.iconst 1, 1) := by decide +kernel
theorem dX7_says_119 : decode cX7_says 119 = .ok (.if_icmp .ne 4, 3) := by decide +kernel
theorem dX7_says_122 : decode cX7_says 122 = .ok (.return_, 1) := by decide +kernel
theorem dX7_says_123 : decode cX7_says 123 = .ok (.aload_n 0, 1) := by decide +kernel
theorem dX7_says_124 : decode cX7_says 124 = .ok (.getfield 46, 3) := by decide +kernel
theorem dX7_says_127 : decode cX7_says 127 = .ok (.iload_n 2, 1) := by decide +kernel
theorem dX7_says_128 : decode cX7_says 128 = .ok (.dup2, 1) := by decide +kernel
theorem dX7_says_129 : decode cX7_says 129 = .ok (.iaload, 1) := by decide +kernel
theorem dX7_says_130 : decode cX7_says 130 = .ok (.iconst 1, 1) := by decide +kernel
theorem dX7_says_131 : decode cX7_says 131 = .ok (.iadd, 1) := by decide +kernel
theorem dX7_says_132 : decode cX7_says 132 = .ok (.iastore, 1) := by decide +kernel
theorem dX7_says_133 : decode cX7_says 133 = .ok (.aload_n 0, 1) := by decide +kernel
theorem dX7_says_134 : decode cX7_says 134 = .ok (.iload_n 1, 1) := by decide +kernel
theorem dX7_says_135 : decode cX7_says 135 = .ok (.iload_n 2, 1) := by decide +kernel
theorem dX7_says_136 : decode cX7_says 136 = .ok (.invokevirtual 186, 3) := by decide +kernel
theorem dX7_says_139 : decode cX7_says 139 = .ok (.ifCond .ne 61, 3) := by decide +kernel
theorem dX7_says_142 : decode cX7_says 142 = .ok (.aload_n 0, 1) := by decide +kernel
theorem dX7_says_143 : decode cX7_says 143 = .ok (.getfield 43, 3) := by decide +kernel
theorem dX7_says_146 : decode cX7_says 146 = .ok (.iload 4, 2) := by decide +kernel
theorem dX7_says_148 : decode cX7_says 148 = .ok (.aload_n 0, 1) := by decide +kernel
theorem dX7_says_149 : decode cX7_says 149 = .ok (.getfield 43, 3) := by decide +kernel
theorem dX7_says_152 : decode cX7_says 152 = .ok (.iload 4, 2) := by decide +kernel
theorem dX7_says_154 : decode cX7_says 154 = .ok (.iaload, 1) := by decide +kernel
theorem dX7_says_155 : decode cX7_says 155 = .ok (.aload_n 0, 1) := by decide +kernel
theorem dX7_says_156 : decode cX7_says 156 = .ok (.getfield 28, 3) := by decide +kernel
theorem dX7_says_159 : decode cX7_says 159 = .ok (.iconst 2, 1) := by decide +kernel
theorem dX7_says_160 : decode cX7_says 160 = .ok (.iload_n 2, 1) := by decide +kernel
theorem dX7_says_161 : decode cX7_says 161 = .ok (.imul, 1) := by decide +kernel
theorem dX7_says_162 : decode cX7_says 162 = .ok (.iaload, 1) := by decide +kernel
theorem dX7_says_163 : decode cX7_says 163 = .ok (.iconst 3, 1) := by decide +kernel
theorem dX7_says_164 : decode cX7_says 164 = .ok (.if_icmp .ne 7, 3) := by decide +kernel
theorem dX7_says_167 : decode cX7_says 167 = .ok (.iconst 2, 1) := by decide +kernel
theorem dX7_says_168 : decode cX7_says 168 = .ok (.goto 4, 3) := by decide +kernel
theorem dX7_says_171 : decode cX7_says 171 = .ok (.iconst 1, 1) := by decide +kernel
theorem dX7_says_172 : decode cX7_says 172 = .ok (.isub, 1) := by decide +kernel
theorem dX7_says_173 : decode cX7_says 173 = .ok (.iconst 0, 1) := by decide +kernel
theorem dX7_says_174 : decode cX7_says 174 = .ok (.invokestatic 189, 3) := by decide +kernel
theorem dX7_says_177 : decode cX7_says 177 = .ok (.iastore, 1) := by decide +kernel
theorem dX7_says_178 : decode cX7_says 178 = .ok (.aload_n 0, 1) := by decide +kernel
theorem dX7_says_179 : decode cX7_says 179 = .ok (.getfield 40, 3) := by decide +kernel
theorem dX7_says_182 : decode cX7_says 182 = .ok (.iload 4, 2) := by decide +kernel
theorem dX7_says_184 : decode cX7_says 184 = .ok (.aload_n 0, 1) := by decide +kernel
theorem dX7_says_185 : decode cX7_says 185 = .ok (.getfield 43, 3) := by decide +kernel
theorem dX7_says_188 : decode cX7_says 188 = .ok (.iload 4, 2) := by decide +kernel
theorem dX7_says_190 : decode cX7_says 190 = .ok (.iaload, 1) := by decide +kernel
theorem dX7_says_191 : decode cX7_says 191 = .ok (.ifCond .ne 7, 3) := by decide +kernel
theorem dX7_says_194 : decode cX7_says 194 = .ok (.iconst 1, 1) := by decide +kernel
theorem dX7_says_195 : decode cX7_says 195 = .ok (.goto 4, 3) := by decide +kernel
theorem dX7_says_198 : decode cX7_says 198 = .ok (.iconst 0, 1) := by decide +kernel
theorem dX7_says_199 : decode cX7_says 199 = .ok (.iastore, 1) := by decide +kernel
theorem dX7_says_200 : decode cX7_says 200 = .ok (.return_, 1) := by decide +kernel
theorem dX7_talk_0 : decode cX7_talk 0 = .ok (.aload_n 0, 1) := by decide +kernel
theorem dX7_talk_1 : decode cX7_talk 1 = .ok (.iload_n 2, 1) := by decide +kernel
theorem dX7_talk_2 : decode cX7_talk 2 = .ok (.invokevirtual 152, 3) := by decide +kernel
theorem dX7_talk_5 : decode cX7_talk 5 = .ok (.ifCond .eq 48, 3) := by decide +kernel
theorem dX7_talk_8 : decode cX7_talk 8 = .ok (.aload_n 0, 1) := by decide +kernel
theorem dX7_talk_9 : decode cX7_talk 9 = .ok (.iload_n 3, 1) := by decide +kernel
theorem dX7_talk_10 : decode cX7_talk 10 = .ok (.invokevirtual 152, 3) := by decide +kernel
theorem dX7_talk_13 : decode cX7_talk 13 = .ok (.ifCond .eq 40, 3) := by decide +kernel
theorem dX7_talk_16 : decode cX7_talk 16 = .ok (.iload_n 2, 1) := by decide +kernel
theorem dX7_talk_17 : decode cX7_talk 17 = .ok (.iload_n 3, 1) := by decide +kernel
theorem dX7_talk_18 : decode cX7_talk 18 = .ok (.if_icmp .eq 35, 3) := by decide +kernel
theorem dX7_talk_21 : decode cX7_talk 21 = .ok (.aload_n 0, 1) := by decide +kernel
theorem dX7_talk_22 : decode cX7_talk 22 = .ok (.iload_n 1, 1) := by decide +kernel
theorem dX7_talk_23 : decode cX7_talk 23 = .ok (.iload_n 2, 1) := by decide +kernel
theorem dX7_talk_24 : decode cX7_talk 24 = .ok (.invokevirtual 192, 3) := by decide +kernel
theorem dX7_talk_27 : decode cX7_talk 27 = .ok (.ifCond .ne 26, 3) := by decide +kernel
theorem dX7_talk_30 : decode cX7_talk 30 = .ok (.aload_n 0, 1) := by decide +kernel
theorem dX7_talk_31 : decode cX7_talk 31 = .ok (.iload_n 1, 1) := by decide +kernel
theorem dX7_talk_32 : decode cX7_talk 32 = .ok (.iload_n 3, 1) := by decide +kernel
theorem dX7_talk_33 : decode cX7_talk 33 = .ok (.invokevirtual 192, 3) := by decide +kernel
theorem dX7_talk_36 : decode cX7_talk 36 = .ok (.ifCond .ne 17, 3) := by decide +kernel
theorem dX7_talk_39 : decode cX7_talk 39 = .ok (.aload_n 0, 1) := by decide +kernel
theorem dX7_talk_40 : decode cX7_talk 40 = .ok (.iload_n 1, 1) := by decide +kernel
theorem dX7_talk_41 : decode cX7_talk 41 = .ok (.iload_n 2, 1) := by decide +kernel
theorem dX7_talk_42 : decode cX7_talk 42 = .ok (.iload_n 3, 1) := by decide +kernel
theorem dX7_talk_43 : decode cX7_talk 43 = .ok (.invokevirtual 195, 3) := by decide +kernel
theorem dX7_talk_46 : decode cX7_talk 46 = .ok (.aload_n 0, 1) := by decide +kernel
theorem dX7_talk_47 : decode cX7_talk 47 = .ok (.iload_n 1, 1) := by decide +kernel
theorem dX7_talk_48 : decode cX7_talk 48 = .ok (.iload_n 3, 1) := by decide +kernel
theorem dX7_talk_49 : decode cX7_talk 49 = .ok (.iload_n 2, 1) := by decide +kernel
theorem dX7_talk_50 : decode cX7_talk 50 = .ok (.invokevirtual 195, 3) := by decide +kernel
theorem dX7_talk_53 : decode cX7_talk 53 = .ok (.return_, 1) := by decide +kernel
theorem dX7_dies_0 : decode cX7_dies 0 = .ok (.iconst 0, 1) := by decide +kernel
theorem dX7_dies_1 : decode cX7_dies 1 = .ok (.istore_n 2, 1) := by decide +kernel
theorem dX7_dies_2 : decode cX7_dies 2 = .ok (.iload_n 2, 1) := by decide +kernel
theorem dX7_dies_3 : decode cX7_dies 3 = .ok (.aload_n 0, 1) := by decide +kernel
theorem dX7_dies_4 : decode cX7_dies 4 = .ok (.getfield 125, 3) := by decide +kernel
theorem dX7_dies_7 : decode cX7_dies 7 = .ok (.if_icmp .ge 99, 3) := by decide +kernel
theorem dX7_dies_10 : decode cX7_dies 10 = .ok (.aload_n 0, 1) := by decide +kernel
theorem dX7_dies_11 : decode cX7_dies 11 = .ok (.getfield 40, 3) := by decide +kernel
theorem dX7_dies_14 : decode cX7_dies 14 = .ok (.iload_n 2, 1) := by decide +kernel
theorem dX7_dies_15 : decode cX7_dies 15 = .ok (.iaload, 1) := by decide +kernel
theorem dX7_dies_16 : decode cX7_dies 16 = .ok (.ifCond .ne 84, 3) := by decide +kernel
theorem dX7_dies_19 : decode cX7_dies 19 = .ok (.aload_n 0, 1) := by decide +kernel
theorem dX7_dies_20 : decode cX7_dies 20 = .ok (.getfield 28, 3) := by decide +kernel
theorem dX7_dies_23 : decode cX7_dies 23 = .ok (.iconst 2, 1) := by decide +kernel
theorem dX7_dies_24 : decode cX7_dies 24 = .ok (.aload_n 0, 1) := by decide +kernel
theorem dX7_dies_25 : decode cX7_dies 25 = .ok (.getfield 31, 3) := by decide +kernel
theorem dX7_dies_28 : decode cX7_dies 28 = .ok (.iconst 3, 1) := by decide +kernel
theorem dX7_dies_29 : decode cX7_dies 29 = .ok (.iload_n 2, 1) := by decide +kernel
theorem dX7_dies_30 : decode cX7_dies 30 = .ok (.imul, 1) := by decide +kernel
theorem dX7_dies_31 : decode cX7_dies 31 = .ok (.iconst 1, 1) := by decide +kernel
theorem dX7_dies_32 : decode cX7_dies 32 = .ok (.iadd, 1) := by decide +kernel
theorem dX7_dies_33 : decode cX7_dies 33 = .ok (.iaload, 1) := by decide +kernel
theorem dX7_dies_34 : decode cX7_dies 34 = .ok (.imul, 1) := by decide +kernel
theorem dX7_dies_35 : decode cX7_dies 35 = .ok (.iconst 1, 1) := by decide +kernel
theorem dX7_dies_36 : decode cX7_dies 36 = .ok (.iadd, 1) := by decide +kernel
theorem dX7_dies_37 : decode cX7_dies 37 = .ok (.iaload, 1) := by decide +kernel
theorem dX7_dies_38 : decode cX7_dies 38 = .ok (.iload_n 1, 1) := by decide +kernel
theorem dX7_dies_39 : decode cX7_dies 39 = .ok (.if_icmp .ne 7, 3) := by decide +kernel
theorem dX7_dies_42 : decode cX7_dies 42 = .ok (.iconst 1, 1) := by decide +kernel
theorem dX7_dies_43 : decode cX7_dies 43 = .ok (.goto 4, 3) := by decide +kernel
theorem dX7_dies_46 : decode cX7_dies 46 = .ok (.iconst 0, 1) := by decide +kernel
theorem dX7_dies_47 : decode cX7_dies 47 = .ok (.istore_n 3, 1) := by decide +kernel
theorem dX7_dies_48 : decode cX7_dies 48 = .ok (.aload_n 0, 1) := by decide +kernel
theorem dX7_dies_49 : decode cX7_dies 49 = .ok (.getfield 28, 3) := by decide +kernel
theorem dX7_dies_52 : decode cX7_dies 52 = .ok (.iconst 2, 1) := by decide +kernel
theorem dX7_dies_53 : decode cX7_dies 53 = .ok (.aload_n 0, 1) := by decide +kernel
theorem dX7_dies_54 : decode cX7_dies 54 = .ok (.getfield 31, 3) := by decide +kernel
theorem dX7_dies_57 : decode cX7_dies 57 = .ok (.iconst 3, 1) := by decide +kernel
theorem dX7_dies_58 : decode cX7_dies 58 = .ok (.iload_n 2, 1) := by decide +kernel
theorem dX7_dies_59 : decode cX7_dies 59 = .ok (.imul, 1) := by decide +kernel
theorem dX7_dies_60 : decode cX7_dies 60 = .ok (.iaload, 1) := by decide +kernel
theorem dX7_dies_61 : decode cX7_dies 61 = .ok (.imul, 1) := by decide +kernel
theorem dX7_dies_62 : decode cX7_dies 62 = .ok (.iconst 1, 1) := by decide +kernel
theorem dX7_dies_63 : decode cX7_dies 63 = .ok (.iadd, 1) := by decide +kernel
theorem dX7_dies_64 : decode cX7_dies 64 = .ok (.iaload, 1) := by decide +kernel
theorem dX7_dies_65 : decode cX7_dies 65 = .ok (.iload_n 1, 1) := by decide +kernel
theorem dX7_dies_66 : decode cX7_dies 66 = .ok (.if_icmp .ne 7, 3) := by decide +kernel
theorem dX7_dies_69 : decode cX7_dies 69 = .ok (.iconst 1, 1) := by decide +kernel
theorem dX7_dies_70 : decode cX7_dies 70 = .ok (.goto 4, 3) := by decide +kernel
theorem dX7_dies_73 : decode cX7_dies 73 = .ok (.iconst 0, 1) := by decide +kernel
theorem dX7_dies_74 : decode cX7_dies 74 = .ok (.istore 4, 2) := by decide +kernel
theorem dX7_dies_76 : decode cX7_dies 76 = .ok (.aload_n 0, 1) := by decide +kernel
theorem dX7_dies_77 : decode cX7_dies 77 = .ok (.getfield 40, 3) := by decide +kernel
theorem dX7_dies_80 : decode cX7_dies 80 = .ok (.iload_n 2, 1) := by decide +kernel
theorem dX7_dies_81 : decode cX7_dies 81 = .ok (.iload_n 3, 1) := by decide +kernel
theorem dX7_dies_82 : decode cX7_dies 82 = .ok (.ifCond .eq 7, 3) := by decide +kernel
theorem dX7_dies_85 : decode cX7_dies 85 = .ok (.iconst 3, 1) := by decide +kernel
theorem dX7_dies_86 : decode cX7_dies 86 = .ok (.goto 13, 3) := by decide +kernel
theorem dX7_dies_89 : decode cX7_dies 89 = .ok (.iload 4, 2) := by decide +kernel
theorem dX7_dies_91 : decode cX7_dies 91 = .ok (.ifCond .eq 7, 3) := by decide +kernel
theorem dX7_dies_94 : decode cX7_dies 94 = .ok (.iconst 2, 1) := by decide +kernel
theorem dX7_dies_95 : decode cX7_dies 95 = .ok (.goto 4, 3) := by decide +kernel
theorem dX7_dies_98 : decode cX7_dies 98 = .ok (.iconst 0, 1) := by decide +kernel
theorem dX7_dies_99 : decode cX7_dies 99 = .ok (.iastore, 1) := by decide +kernel
theorem dX7_dies_100 : decode cX7_dies 100 = .ok (.iinc 2 1, 3) := by decide +kernel
theorem dX7_dies_103 : decode cX7_dies 103 = .ok (.goto (-101), 3) := by decide +kernel
theorem dX7_dies_106 : decode cX7_dies 106 = .ok (.return_, 1) := by decide +kernel
theorem dX7_passes_0 : decode cX7_passes 0 = .ok (.iload_n 1, 1) := by decide +kernel
theorem dX7_passes_1 : decode cX7_passes 1 = .ok (.bipush 7, 2) := by decide +kernel
theorem dX7_passes_3 : decode cX7_passes 3 = .ok (.irem, 1) := by decide +kernel
theorem dX7_passes_4 : decode cX7_passes 4 = .ok (.bipush 6, 2) := by decide +kernel
theorem dX7_passes_6 : decode cX7_passes 6 = .ok (.if_icmp .ne 7, 3) := by decide +kernel
theorem dX7_passes_9 : decode cX7_passes 9 = .ok (.aload_n 0, 1) := by decide +kernel
theorem dX7_passes_10 : decode cX7_passes 10 = .ok (.invokevirtual 199, 3) := by decide +kernel
theorem dX7_passes_13 : decode cX7_passes 13 = .ok (.iconst 0, 1) := by decide +kernel
theorem dX7_passes_14 : decode cX7_passes 14 = .ok (.istore_n 2, 1) := by decide +kernel
theorem dX7_passes_15 : decode cX7_passes 15 = .ok (.iload_n 2, 1) := by decide +kernel
theorem dX7_passes_16 : decode cX7_passes 16 = .ok (.aload_n 0, 1) := by decide +kernel
theorem dX7_passes_17 : decode cX7_passes 17 = .ok (.getfield 131, 3) := by decide +kernel
theorem dX7_passes_20 : decode cX7_passes 20 = .ok (.if_icmp .ge 46, 3) := by decide +kernel
theorem dX7_passes_23 : decode cX7_passes 23 = .ok (.aload_n 0, 1) := by decide +kernel
theorem dX7_passes_24 : decode cX7_passes 24 = .ok (.getfield 34, 3) := by decide +kernel
theorem dX7_passes_27 : decode cX7_passes 27 = .ok (.iconst 3, 1) := by decide +kernel
theorem dX7_passes_28 : decode cX7_passes 28 = .ok (.iload_n 2, 1) := by decide +kernel
theorem dX7_passes_29 : decode cX7_passes 29 = .ok (.imul, 1) := by decide +kernel
theorem dX7_passes_30 : decode cX7_passes 30 = .ok (.iaload, 1) := by decide +kernel
theorem dX7_passes_31 : decode cX7_passes 31 = .ok (.iload_n 1, 1) := by decide +kernel
theorem dX7_passes_32 : decode cX7_passes 32 = .ok (.if_icmp .ne 28, 3) := by decide +kernel
theorem dX7_passes_35 : decode cX7_passes 35 = .ok (.aload_n 0, 1) := by decide +kernel
theorem dX7_passes_36 : decode cX7_passes 36 = .ok (.iload_n 1, 1) := by decide +kernel
theorem dX7_passes_37 : decode cX7_passes 37 = .ok (.aload_n 0, 1) := by decide +kernel
theorem dX7_passes_38 : decode cX7_passes 38 = .ok (.getfield 34, 3) := by decide +kernel
theorem dX7_passes_41 : decode cX7_passes 41 = .ok (.iconst 3, 1) := by decide +kernel
theorem dX7_passes_42 : decode cX7_passes 42 = .ok (.iload_n 2, 1) := by decide +kernel
theorem dX7_passes_43 : decode cX7_passes 43 = .ok (.imul, 1) := by decide +kernel
theorem dX7_passes_44 : decode cX7_passes 44 = .ok (.iconst 1, 1) := by decide +kernel
theorem dX7_passes_45 : decode cX7_passes 45 = .ok (.iadd, 1) := by decide +kernel
theorem dX7_passes_46 : decode cX7_passes 46 = .ok (.iaload, 1) := by decide +kernel
theorem dX7_passes_47 : decode cX7_passes 47 = .ok (.aload_n 0, 1) := by decide +kernel
theorem dX7_passes_48 : decode cX7_passes 48 = .ok (.getfield 34, 3) := by decide +kernel
theorem dX7_passes_51 : decode cX7_passes 51 = .ok (.iconst 3, 1) := by decide +kernel
theorem dX7_passes_52 : decode cX7_passes 52 = .ok (.iload_n 2, 1) := by decide +kernel
theorem dX7_passes_53 : decode cX7_passes 53 = .ok (.imul, 1) := by decide +kernel
theorem dX7_passes_54 : decode cX7_passes 54 = .ok (.iconst 2, 1) := by decide +kernel
theorem dX7_passes_55 : decode cX7_passes 55 = .ok (.iadd, 1) := by decide +kernel
theorem dX7_passes_56 : decode cX7_passes 56 = .ok (.iaload, 1) := by decide +kernel
theorem dX7_passes_57 : decode cX7_passes 57 = .ok (.invokevirtual 202, 3) := by decide +kernel
theorem dX7_passes_60 : decode cX7_passes 60 = .ok (.iinc 2 1, 3) := by decide +kernel
theorem dX7_passes_63 : decode cX7_passes 63 = .ok (.goto (-48), 3) := by decide +kernel
theorem dX7_passes_66 : decode cX7_passes 66 = .ok (.aload_n 0, 1) := by decide +kernel
theorem dX7_passes_67 : decode cX7_passes 67 = .ok (.getfield 70, 3) := by decide +kernel
theorem dX7_passes_70 : decode cX7_passes 70 = .ok (.iload_n 1, 1) := by decide +kernel
theorem dX7_passes_71 : decode cX7_passes 71 = .ok (.if_icmp .ne 16, 3) := by decide +kernel
theorem dX7_passes_74 : decode cX7_passes 74 = .ok (.aload_n 0, 1) := by decide +kernel
theorem dX7_passes_75 : decode cX7_passes 75 = .ok (.iload_n 1, 1) := by decide +kernel
theorem dX7_passes_76 : decode cX7_passes 76 = .ok (.aload_n 0, 1) := by decide +kernel
theorem dX7_passes_77 : decode cX7_passes 77 = .ok (.getfield 205, 3) := by decide +kernel
theorem dX7_passes_80 : decode cX7_passes 80 = .ok (.aload_n 0, 1) := by decide +kernel
theorem dX7_passes_81 : decode cX7_passes 81 = .ok (.getfield 208, 3) := by decide +kernel
theorem dX7_passes_84 : decode cX7_passes 84 = .ok (.invokevirtual 202, 3) := by decide +kernel
theorem dX7_passes_87 : decode cX7_passes 87 = .ok (.aload_n 0, 1) := by decide +kernel
theorem dX7_passes_88 : decode cX7_passes 88 = .ok (.iload_n 1, 1) := by decide +kernel
theorem dX7_passes_89 : decode cX7_passes 89 = .ok (.invokevirtual 211, 3) := by decide +kernel
theorem dX7_passes_92 : decode cX7_passes 92 = .ok (.iconst 0, 1) := by decide +kernel
theorem dX7_passes_93 : decode cX7_passes 93 = .ok (.istore_n 2, 1) := by decide +kernel
theorem dX7_passes_94 : decode cX7_passes 94 = .ok (.iload_n 2, 1) := by decide +kernel
theorem dX7_passes_95 : decode cX7_passes 95 = .ok (.aload_n 0, 1) := by decide +kernel
theorem dX7_passes_96 : decode cX7_passes 96 = .ok (.getfield 125, 3) := by decide +kernel
theorem dX7_passes_99 : decode cX7_passes 99 = .ok (.if_icmp .ge 43, 3) := by decide +kernel
theorem dX7_passes_102 : decode cX7_passes 102 = .ok (.aload_n 0, 1) := by decide +kernel
theorem dX7_passes_103 : decode cX7_passes 103 = .ok (.getfield 52, 3) := by decide +kernel
theorem dX7_passes_106 : decode cX7_passes 106 = .ok (.bipush 12, 2) := by decide +kernel
theorem dX7_passes_108 : decode cX7_passes 108 = .ok (.iload_n 1, 1) := by decide +kernel
theorem dX7_passes_109 : decode cX7_passes 109 = .ok (.imul, 1) := by decide +kernel
theorem dX7_passes_110 : decode cX7_passes 110 = .ok (.iload_n 2, 1) := by decide +kernel
theorem dX7_passes_111 : decode cX7_passes 111 = .ok (.iadd, 1) := by decide +kernel
theorem dX7_passes_112 : decode cX7_passes 112 = .ok (.aload_n 0, 1) := by decide +kernel
theorem dX7_passes_113 : decode cX7_passes 113 = .ok (.getfield 40, 3) := by decide +kernel
theorem dX7_passes_116 : decode cX7_passes 116 = .ok (.iload_n 2, 1) := by decide +kernel
theorem dX7_passes_117 : decode cX7_passes 117 = .ok (.iaload, 1) := by decide +kernel
theorem dX7_passes_118 : decode cX7_passes 118 = .ok (.iastore, 1) := by decide +kernel
theorem dX7_passes_119 : decode cX7_passes 119 = .ok (.aload_n 0, 1) := by decide +kernel
theorem dX7_passes_120 : decode cX7_passes 120 = .ok (.getfield 55, 3) := by decide +kernel
theorem dX7_passes_123 : decode cX7_passes 123 = .ok (.bipush 12, 2) := by decide +kernel
theorem dX7_passes_125 : decode cX7_passes 125 = .ok (.iload_n 1, 1) := by decide +kernel
theorem dX7_passes_126 : decode cX7_passes 126 = .ok (.imul, 1) := by decide +kernel
theorem dX7_passes_127 : decode cX7_passes 127 = .ok (.iload_n 2, 1) := by decide +kernel
theorem dX7_passes_128 : decode cX7_passes 128 = .ok (.iadd, 1) := by decide +kernel
theorem dX7_passes_129 : decode cX7_passes 129 = .ok (.aload_n 0, 1) := by decide +kernel
theorem dX7_passes_130 : decode cX7_passes 130 = .ok (.getfield 43, 3) := by decide +kernel
theorem dX7_passes_133 : decode cX7_passes 133 = .ok (.iload_n 2, 1) := by decide +kernel
theorem dX7_passes_134 : decode cX7_passes 134 = .ok (.iaload, 1) := by decide +kernel
theorem dX7_passes_135 : decode cX7_passes 135 = .ok (.iastore, 1) := by decide +kernel
theorem dX7_passes_136 : decode cX7_passes 136 = .ok (.iinc 2 1, 3) := by decide +kernel
theorem dX7_passes_139 : decode cX7_passes 139 = .ok (.goto (-45), 3) := by decide +kernel
theorem dX7_passes_142 : decode cX7_passes 142 = .ok (.iconst 0, 1) := by decide +kernel
theorem dX7_passes_143 : decode cX7_passes 143 = .ok (.istore_n 2, 1) := by decide +kernel
theorem dX7_passes_144 : decode cX7_passes 144 = .ok (.iload_n 2, 1) := by decide +kernel
theorem dX7_passes_145 : decode cX7_passes 145 = .ok (.aload_n 0, 1) := by decide +kernel
theorem dX7_passes_146 : decode cX7_passes 146 = .ok (.getfield 116, 3) := by decide +kernel
theorem dX7_passes_149 : decode cX7_passes 149 = .ok (.if_icmp .ge 26, 3) := by decide +kernel
theorem dX7_passes_152 : decode cX7_passes 152 = .ok (.aload_n 0, 1) := by decide +kernel
theorem dX7_passes_153 : decode cX7_passes 153 = .ok (.getfield 58, 3) := by decide +kernel
theorem dX7_passes_156 : decode cX7_passes 156 = .ok (.bipush 8, 2) := by decide +kernel
theorem dX7_passes_158 : decode cX7_passes 158 = .ok (.iload_n 1, 1) := by decide +kernel
theorem dX7_passes_159 : decode cX7_passes 159 = .ok (.imul, 1) := by decide +kernel
theorem dX7_passes_160 : decode cX7_passes 160 = .ok (.iload_n 2, 1) := by decide +kernel
theorem dX7_passes_161 : decode cX7_passes 161 = .ok (.iadd, 1) := by decide +kernel
theorem dX7_passes_162 : decode cX7_passes 162 = .ok (.aload_n 0, 1) := by decide +kernel
theorem dX7_passes_163 : decode cX7_passes 163 = .ok (.getfield 46, 3) := by decide +kernel
theorem dX7_passes_166 : decode cX7_passes 166 = .ok (.iload_n 2, 1) := by decide +kernel
theorem dX7_passes_167 : decode cX7_passes 167 = .ok (.iaload, 1) := by decide +kernel
theorem dX7_passes_168 : decode cX7_passes 168 = .ok (.iastore, 1) := by decide +kernel
theorem dX7_passes_169 : decode cX7_passes 169 = .ok (.iinc 2 1, 3) := by decide +kernel
theorem dX7_passes_172 : decode cX7_passes 172 = .ok (.goto (-28), 3) := by decide +kernel
theorem dX7_passes_175 : decode cX7_passes 175 = .ok (.return_, 1) := by decide +kernel
theorem dX7_runs_0 : decode cX7_runs 0 = .ok (.iconst 0, 1) := by decide +kernel
theorem dX7_runs_1 : decode cX7_runs 1 = .ok (.istore_n 1, 1) := by decide +kernel
theorem dX7_runs_2 : decode cX7_runs 2 = .ok (.iload_n 1, 1) := by decide +kernel
theorem dX7_runs_3 : decode cX7_runs 3 = .ok (.aload_n 0, 1) := by decide +kernel
theorem dX7_runs_4 : decode cX7_runs 4 = .ok (.getfield 125, 3) := by decide +kernel
theorem dX7_runs_7 : decode cX7_runs 7 = .ok (.if_icmp .ge 99, 3) := by decide +kernel
theorem dX7_runs_10 : decode cX7_runs 10 = .ok (.aload_n 0, 1) := by decide +kernel
theorem dX7_runs_11 : decode cX7_runs 11 = .ok (.aload_n 0, 1) := by decide +kernel
theorem dX7_runs_12 : decode cX7_runs 12 = .ok (.getfield 31, 3) := by decide +kernel
theorem dX7_runs_15 : decode cX7_runs 15 = .ok (.iconst 3, 1) := by decide +kernel
theorem dX7_runs_16 : decode cX7_runs 16 = .ok (.iload_n 1, 1) := by decide +kernel
theorem dX7_runs_17 : decode cX7_runs 17 = .ok (.imul, 1) := by decide +kernel
theorem dX7_runs_18 : decode cX7_runs 18 = .ok (.iaload, 1) := by decide +kernel
theorem dX7_runs_19 : decode cX7_runs 19 = .ok (.invokevirtual 152, 3) := by decide +kernel
theorem dX7_runs_22 : decode cX7_runs 22 = .ok (.ifCond .eq 45, 3) := by decide +kernel
theorem dX7_runs_25 : decode cX7_runs 25 = .ok (.aload_n 0, 1) := by decide +kernel
theorem dX7_runs_26 : decode cX7_runs 26 = .ok (.aload_n 0, 1) := by decide +kernel
theorem dX7_runs_27 : decode cX7_runs 27 = .ok (.getfield 31, 3) := by decide +kernel
theorem dX7_runs_30 : decode cX7_runs 30 = .ok (.iconst 3, 1) := by decide +kernel
theorem dX7_runs_31 : decode cX7_runs 31 = .ok (.iload_n 1, 1) := by decide +kernel
theorem dX7_runs_32 : decode cX7_runs 32 = .ok (.imul, 1) := by decide +kernel
theorem dX7_runs_33 : decode cX7_runs 33 = .ok (.iconst 1, 1) := by decide +kernel
theorem dX7_runs_34 : decode cX7_runs 34 = .ok (.iadd, 1) := by decide +kernel
theorem dX7_runs_35 : decode cX7_runs 35 = .ok (.iaload, 1) := by decide +kernel
theorem dX7_runs_36 : decode cX7_runs 36 = .ok (.invokevirtual 152, 3) := by decide +kernel
theorem dX7_runs_39 : decode cX7_runs 39 = .ok (.ifCond .eq 28, 3) := by decide +kernel
theorem dX7_runs_42 : decode cX7_runs 42 = .ok (.aload_n 0, 1) := by decide +kernel
theorem dX7_runs_43 : decode cX7_runs 43 = .ok (.getfield 31, 3) := by decide +kernel
theorem dX7_runs_46 : decode cX7_runs 46 = .ok (.iconst 3, 1) := by decide +kernel
theorem dX7_runs_47 : decode cX7_runs 47 = .ok (.iload_n 1, 1) := by decide +kernel
theorem dX7_runs_48 : decode cX7_runs 48 = .ok (.imul, 1) := by decide +kernel
theorem dX7_runs_49 : decode cX7_runs 49 = .ok (.iaload, 1) := by decide +kernel
theorem dX7_runs_50 : decode cX7_runs 50 = .ok (.aload_n 0, 1) := by decide +kernel
theorem dX7_runs_51 : decode cX7_runs 51 = .ok (.getfield 31, 3) := by decide +kernel
theorem dX7_runs_54 : decode cX7_runs 54 = .ok (.iconst 3, 1) := by decide +kernel
theorem dX7_runs_55 : decode cX7_runs 55 = .ok (.iload_n 1, 1) := by decide +kernel
theorem dX7_runs_56 : decode cX7_runs 56 = .ok (.imul, 1) := by decide +kernel
theorem dX7_runs_57 : decode cX7_runs 57 = .ok (.iconst 1, 1) := by decide +kernel
theorem dX7_runs_58 : decode cX7_runs 58 = .ok (.iadd, 1) := by decide +kernel
theorem dX7_runs_59 : decode cX7_runs 59 = .ok (.iaload, 1) := by decide +kernel
theorem dX7_runs_60 : decode cX7_runs 60 = .ok (.if_icmp .eq 7, 3) := by decide +kernel
theorem dX7_runs_63 : decode cX7_runs 63 = .ok (.iconst 1, 1) := by decide +kernel
theorem dX7_runs_64 : decode cX7_runs 64 = .ok (.goto 4, 3) := by decide +kernel
theorem dX7_runs_67 : decode cX7_runs 67 = .ok (.iconst 0, 1) := by decide +kernel
theorem dX7_runs_68 : decode cX7_runs 68 = .ok (.istore_n 2, 1) := by decide +kernel
theorem dX7_runs_69 : decode cX7_runs 69 = .ok (.aload_n 0, 1) := by decide +kernel
theorem dX7_runs_70 : decode cX7_runs 70 = .ok (.getfield 40, 3) := by decide +kernel
theorem dX7_runs_73 : decode cX7_runs 73 = .ok (.iload_n 1, 1) := by decide +kernel
theorem dX7_runs_74 : decode cX7_runs 74 = .ok (.iload_n 2, 1) := by decide +kernel
theorem dX7_runs_75 : decode cX7_runs 75 = .ok (.ifCond .eq 7, 3) := by decide +kernel
theorem dX7_runs_78 : decode cX7_runs 78 = .ok (.iconst 0, 1) := by decide +kernel
theorem dX7_runs_79 : decode cX7_runs 79 = .ok (.goto 4, 3) := by decide +kernel
theorem dX7_runs_82 : decode cX7_runs 82 = .ok (.iconst 4, 1) := by decide +kernel
theorem dX7_runs_83 : decode cX7_runs 83 = .ok (.iastore, 1) := by decide +kernel
theorem dX7_runs_84 : decode cX7_runs 84 = .ok (.aload_n 0, 1) := by decide +kernel
theorem dX7_runs_85 : decode cX7_runs 85 = .ok (.getfield 43, 3) := by decide +kernel
theorem dX7_runs_88 : decode cX7_runs 88 = .ok (.iload_n 1, 1) := by decide +kernel
theorem dX7_runs_89 : decode cX7_runs 89 = .ok (.aload_n 0, 1) := by decide +kernel
theorem dX7_runs_90 : decode cX7_runs 90 = .ok (.getfield 31, 3) := by decide +kernel
theorem dX7_runs_93 : decode cX7_runs 93 = .ok (.iconst 3, 1) := by decide +kernel
theorem dX7_runs_94 : decode cX7_runs 94 = .ok (.iload_n 1, 1) := by decide +kernel
theorem dX7_runs_95 : decode cX7_runs 95 = .ok (.imul, 1) := by decide +kernel
theorem dX7_runs_96 : decode cX7_runs 96 = .ok (.iconst 2, 1) := by decide +kernel
theorem dX7_runs_97 : decode cX7_runs 97 = .ok (.iadd, 1) := by decide +kernel
theorem dX7_runs_98 : decode cX7_runs 98 = .ok (.iaload, 1) := by decide +kernel
theorem dX7_runs_99 : decode cX7_runs 99 = .ok (.iastore, 1) := by decide +kernel
theorem dX7_runs_100 : decode cX7_runs 100 = .ok (.iinc 1 1, 3) := by decide +kernel
theorem dX7_runs_103 : decode cX7_runs 103 = .ok (.goto (-101), 3) := by decide +kernel
theorem dX7_runs_106 : decode cX7_runs 106 = .ok (.iconst 0, 1) := by decide +kernel
theorem dX7_runs_107 : decode cX7_runs 107 = .ok (.istore_n 1, 1) := by decide +kernel
theorem dX7_runs_108 : decode cX7_runs 108 = .ok (.iload_n 1, 1) := by decide +kernel
theorem dX7_runs_109 : decode cX7_runs 109 = .ok (.bipush 8, 2) := by decide +kernel
theorem dX7_runs_111 : decode cX7_runs 111 = .ok (.if_icmp .ge 23, 3) := by decide +kernel
theorem dX7_runs_114 : decode cX7_runs 114 = .ok (.aload_n 0, 1) := by decide +kernel
theorem dX7_runs_115 : decode cX7_runs 115 = .ok (.getfield 46, 3) := by decide +kernel
theorem dX7_runs_118 : decode cX7_runs 118 = .ok (.iload_n 1, 1) := by decide +kernel
theorem dX7_runs_119 : decode cX7_runs 119 = .ok (.iconst 0, 1) := by decide +kernel
theorem dX7_runs_120 : decode cX7_runs 120 = .ok (.iastore, 1) := by decide +kernel
theorem dX7_runs_121 : decode cX7_runs 121 = .ok (.aload_n 0, 1) := by decide +kernel
theorem dX7_runs_122 : decode cX7_runs 122 = .ok (.getfield 49, 3) := by decide +kernel
theorem dX7_runs_125 : decode cX7_runs 125 = .ok (.iload_n 1, 1) := by decide +kernel
theorem dX7_runs_126 : decode cX7_runs 126 = .ok (.iconst 0, 1) := by decide +kernel
theorem dX7_runs_127 : decode cX7_runs 127 = .ok (.iastore, 1) := by decide +kernel
theorem dX7_runs_128 : decode cX7_runs 128 = .ok (.iinc 1 1, 3) := by decide +kernel
theorem dX7_runs_131 : decode cX7_runs 131 = .ok (.goto (-23), 3) := by decide +kernel
theorem dX7_runs_134 : decode cX7_runs 134 = .ok (.iconst 0, 1) := by decide +kernel
theorem dX7_runs_135 : decode cX7_runs 135 = .ok (.istore_n 1, 1) := by decide +kernel
theorem dX7_runs_136 : decode cX7_runs 136 = .ok (.iload_n 1, 1) := by decide +kernel
theorem dX7_runs_137 : decode cX7_runs 137 = .ok (.bipush 24, 2) := by decide +kernel
theorem dX7_runs_139 : decode cX7_runs 139 = .ok (.if_icmp .ge 14, 3) := by decide +kernel
theorem dX7_runs_142 : decode cX7_runs 142 = .ok (.aload_n 0, 1) := by decide +kernel
theorem dX7_runs_143 : decode cX7_runs 143 = .ok (.iload_n 1, 1) := by decide +kernel
theorem dX7_runs_144 : decode cX7_runs 144 = .ok (.invokevirtual 215, 3) := by decide +kernel
theorem dX7_runs_147 : decode cX7_runs 147 = .ok (.iinc 1 1, 3) := by decide +kernel
theorem dX7_runs_150 : decode cX7_runs 150 = .ok (.goto (-14), 3) := by decide +kernel
theorem dX7_runs_153 : decode cX7_runs 153 = .ok (.return_, 1) := by decide +kernel
theorem dX7_find_0 : decode cX7_find 0 = .ok (.aload_n 0, 1) := by decide +kernel
theorem dX7_find_1 : decode cX7_find 1 = .ok (.invokevirtual 137, 3) := by decide +kernel
theorem dX7_find_4 : decode cX7_find 4 = .ok (.pop, 1) := by decide +kernel
theorem dX7_find_5 : decode cX7_find 5 = .ok (.aload_n 0, 1) := by decide +kernel
theorem dX7_find_6 : decode cX7_find 6 = .ok (.invokevirtual 141, 3) := by decide +kernel
theorem dX7_find_9 : decode cX7_find 9 = .ok (.pop, 1) := by decide +kernel
theorem dX7_find_10 : decode cX7_find 10 = .ok (.aload_n 0, 1) := by decide +kernel
theorem dX7_find_11 : decode cX7_find 11 = .ok (.invokevirtual 144, 3) := by decide +kernel
theorem dX7_find_14 : decode cX7_find 14 = .ok (.pop, 1) := by decide +kernel
theorem dX7_find_15 : decode cX7_find 15 = .ok (.aload_n 0, 1) := by decide +kernel
theorem dX7_find_16 : decode cX7_find 16 = .ok (.invokevirtual 218, 3) := by decide +kernel
theorem dX7_find_19 : decode cX7_find 19 = .ok (.return_, 1) := by decide +kernel
theorem dX7_standsBy_0 : decode cX7_standsBy 0 = .ok (.iload_n 3, 1) := by decide +kernel
theorem dX7_standsBy_1 : decode cX7_standsBy 1 = .ok (.ifCond .ne 17, 3) := by decide +kernel
theorem dX7_standsBy_4 : decode cX7_standsBy 4 = .ok (.aload_n 0, 1) := by decide +kernel
theorem dX7_standsBy_5 : decode cX7_standsBy 5 = .ok (.getfield 52, 3) := by decide +kernel
theorem dX7_standsBy_8 : decode cX7_standsBy 8 = .ok (.bipush 12, 2) := by decide +kernel
theorem dX7_standsBy_10 : decode cX7_standsBy 10 = .ok (.iload_n 1, 1) := by decide +kernel
theorem dX7_standsBy_11 : decode cX7_standsBy 11 = .ok (.imul, 1) := by decide +kernel
theorem dX7_standsBy_12 : decode cX7_standsBy 12 = .ok (.iload_n 2, 1) := by decide +kernel
theorem dX7_standsBy_13 : decode cX7_standsBy 13 = .ok (.iadd, 1) := by decide +kernel
theorem dX7_standsBy_14 : decode cX7_standsBy 14 = .ok (.iaload, 1) := by decide +kernel
theorem dX7_standsBy_15 : decode cX7_standsBy 15 = .ok (.goto 14, 3) := by decide +kernel
theorem dX7_standsBy_18 : decode cX7_standsBy 18 = .ok (.aload_n 0, 1) := by decide +kernel
theorem dX7_standsBy_19 : decode cX7_standsBy 19 = .ok (.getfield 55, 3) := by decide +kernel
theorem dX7_standsBy_22 : decode cX7_standsBy 22 = .ok (.bipush 12, 2) := by decide +kernel
theorem dX7_standsBy_24 : decode cX7_standsBy 24 = .ok (.iload_n 1, 1) := by decide +kernel
theorem dX7_standsBy_25 : decode cX7_standsBy 25 = .ok (.imul, 1) := by decide +kernel
theorem dX7_standsBy_26 : decode cX7_standsBy 26 = .ok (.iload_n 2, 1) := by decide +kernel
theorem dX7_standsBy_27 : decode cX7_standsBy 27 = .ok (.iadd, 1) := by decide +kernel
theorem dX7_standsBy_28 : decode cX7_standsBy 28 = .ok (.iaload, 1) := by decide +kernel
theorem dX7_standsBy_29 : decode cX7_standsBy 29 = .ok (.ireturn, 1) := by decide +kernel
theorem dX7_stands_0 : decode cX7_stands 0 = .ok (.aload_n 0, 1) := by decide +kernel
theorem dX7_stands_1 : decode cX7_stands 1 = .ok (.invokevirtual 221, 3) := by decide +kernel
theorem dX7_stands_4 : decode cX7_stands 4 = .ok (.iload_n 1, 1) := by decide +kernel
theorem dX7_stands_5 : decode cX7_stands 5 = .ok (.invokestatic 166, 3) := by decide +kernel
theorem dX7_stands_8 : decode cX7_stands 8 = .ok (.ifCond .eq 28, 3) := by decide +kernel
theorem dX7_stands_11 : decode cX7_stands 11 = .ok (.aload_n 0, 1) := by decide +kernel
theorem dX7_stands_12 : decode cX7_stands 12 = .ok (.iload_n 2, 1) := by decide +kernel
theorem dX7_stands_13 : decode cX7_stands 13 = .ok (.invokevirtual 158, 3) := by decide +kernel
theorem dX7_stands_16 : decode cX7_stands 16 = .ok (.ifCond .eq 20, 3) := by decide +kernel
theorem dX7_stands_19 : decode cX7_stands 19 = .ok (.iload_n 3, 1) := by decide +kernel
theorem dX7_stands_20 : decode cX7_stands 20 = .ok (.invokestatic 155, 3) := by decide +kernel
theorem dX7_stands_23 : decode cX7_stands 23 = .ok (.ifCond .eq 13, 3) := by decide +kernel
theorem dX7_stands_26 : decode cX7_stands 26 = .ok (.aload_n 0, 1) := by decide +kernel
theorem dX7_stands_27 : decode cX7_stands 27 = .ok (.iload_n 1, 1) := by decide +kernel
theorem dX7_stands_28 : decode cX7_stands 28 = .ok (.iload_n 2, 1) := by decide +kernel
theorem dX7_stands_29 : decode cX7_stands 29 = .ok (.iload_n 3, 1) := by decide +kernel
theorem dX7_stands_30 : decode cX7_stands 30 = .ok (.invokevirtual 224, 3) := by decide +kernel
theorem dX7_stands_33 : decode cX7_stands 33 = .ok (.goto 5, 3) := by decide +kernel
theorem dX7_stands_36 : decode cX7_stands 36 = .ok (.bipush (-2), 2) := by decide +kernel
theorem dX7_stands_38 : decode cX7_stands 38 = .ok (.ireturn, 1) := by decide +kernel
theorem dX7_openOf_0 : decode cX7_openOf 0 = .ok (.iconst 0, 1) := by decide +kernel
theorem dX7_openOf_1 : decode cX7_openOf 1 = .ok (.istore 4, 2) := by decide +kernel
theorem dX7_openOf_3 : decode cX7_openOf 3 = .ok (.iconst 0, 1) := by decide +kernel
theorem dX7_openOf_4 : decode cX7_openOf 4 = .ok (.istore 5, 2) := by decide +kernel
theorem dX7_openOf_6 : decode cX7_openOf 6 = .ok (.iload 5, 2) := by decide +kernel
theorem dX7_openOf_8 : decode cX7_openOf 8 = .ok (.aload_n 0, 1) := by decide +kernel
theorem dX7_openOf_9 : decode cX7_openOf 9 = .ok (.getfield 125, 3) := by decide +kernel
theorem dX7_openOf_12 : decode cX7_openOf 12 = .ok (.if_icmp .ge 60, 3) := by decide +kernel
theorem dX7_openOf_15 : decode cX7_openOf 15 = .ok (.iload 4, 2) := by decide +kernel
theorem dX7_openOf_17 : decode cX7_openOf 17 = .ok (.aload_n 0, 1) := by decide +kernel
theorem dX7_openOf_18 : decode cX7_openOf 18 = .ok (.getfield 52, 3) := by decide +kernel
theorem dX7_openOf_21 : decode cX7_openOf 21 = .ok (.bipush 12, 2) := by decide +kernel
theorem dX7_openOf_23 : decode cX7_openOf 23 = .ok (.iload_n 1, 1) := by decide +kernel
theorem dX7_openOf_24 : decode cX7_openOf 24 = .ok (.imul, 1) := by decide +kernel
theorem dX7_openOf_25 : decode cX7_openOf 25 = .ok (.iload 5, 2) := by decide +kernel
theorem dX7_openOf_27 : decode cX7_openOf 27 = .ok (.iadd, 1) := by decide +kernel
theorem dX7_openOf_28 : decode cX7_openOf 28 = .ok (.iaload, 1) := by decide +kernel
theorem dX7_openOf_29 : decode cX7_openOf 29 = .ok (.ifCond .ne 33, 3) := by decide +kernel
theorem dX7_openOf_32 : decode cX7_openOf 32 = .ok (.aload_n 0, 1) := by decide +kernel
theorem dX7_openOf_33 : decode cX7_openOf 33 = .ok (.getfield 31, 3) := by decide +kernel
theorem dX7_openOf_36 : decode cX7_openOf 36 = .ok (.iconst 3, 1) := by decide +kernel
theorem dX7_openOf_37 : decode cX7_openOf 37 = .ok (.iload 5, 2) := by decide +kernel
theorem dX7_openOf_39 : decode cX7_openOf 39 = .ok (.imul, 1) := by decide +kernel
theorem dX7_openOf_40 : decode cX7_openOf 40 = .ok (.iload_n 3, 1) := by decide +kernel
theorem dX7_openOf_41 : decode cX7_openOf 41 = .ok (.iadd, 1) := by decide +kernel
theorem dX7_openOf_42 : decode cX7_openOf 42 = .ok (.iaload, 1) := by decide +kernel
theorem dX7_openOf_43 : decode cX7_openOf 43 = .ok (.iload_n 2, 1) := by decide +kernel
theorem dX7_openOf_44 : decode cX7_openOf 44 = .ok (.if_icmp .ne 18, 3) := by decide +kernel
theorem dX7_openOf_47 : decode cX7_openOf 47 = .ok (.aload_n 0, 1) := by decide +kernel
theorem dX7_openOf_48 : decode cX7_openOf 48 = .ok (.getfield 55, 3) := by decide +kernel
theorem dX7_openOf_51 : decode cX7_openOf 51 = .ok (.bipush 12, 2) := by decide +kernel
theorem dX7_openOf_53 : decode cX7_openOf 53 = .ok (.iload_n 1, 1) := by decide +kernel
theorem dX7_openOf_54 : decode cX7_openOf 54 = .ok (.imul, 1) := by decide +kernel
theorem dX7_openOf_55 : decode cX7_openOf 55 = .ok (.iload 5, 2) := by decide +kernel
theorem dX7_openOf_57 : decode cX7_openOf 57 = .ok (.iadd, 1) := by decide +kernel
theorem dX7_openOf_58 : decode cX7_openOf 58 = .ok (.iaload, 1) := by decide +kernel
theorem dX7_openOf_59 : decode cX7_openOf 59 = .ok (.goto 4, 3) := by decide +kernel
theorem dX7_openOf_62 : decode cX7_openOf 62 = .ok (.iconst 0, 1) := by decide +kernel
theorem dX7_openOf_63 : decode cX7_openOf 63 = .ok (.iadd, 1) := by decide +kernel
theorem dX7_openOf_64 : decode cX7_openOf 64 = .ok (.istore 4, 2) := by decide +kernel
theorem dX7_openOf_66 : decode cX7_openOf 66 = .ok (.iinc 5 1, 3) := by decide +kernel
theorem dX7_openOf_69 : decode cX7_openOf 69 = .ok (.goto (-63), 3) := by decide +kernel
theorem dX7_openOf_72 : decode cX7_openOf 72 = .ok (.iload 4, 2) := by decide +kernel
theorem dX7_openOf_74 : decode cX7_openOf 74 = .ok (.ireturn, 1) := by decide +kernel
theorem dX7_atOf_0 : decode cX7_atOf 0 = .ok (.iload_n 3, 1) := by decide +kernel
theorem dX7_atOf_1 : decode cX7_atOf 1 = .ok (.tableswitch 60 0 2 #[27, 44, 52], 27) := by decide +kernel
theorem dX7_atOf_28 : decode cX7_atOf 28 = .ok (.aload_n 0, 1) := by decide +kernel
theorem dX7_atOf_29 : decode cX7_atOf 29 = .ok (.iload_n 1, 1) := by decide +kernel
theorem dX7_atOf_30 : decode cX7_atOf 30 = .ok (.iconst 1, 1) := by decide +kernel
theorem dX7_atOf_31 : decode cX7_atOf 31 = .ok (.iadd, 1) := by decide +kernel
theorem dX7_atOf_32 : decode cX7_atOf 32 = .ok (.iload_n 2, 1) := by decide +kernel
theorem dX7_atOf_33 : decode cX7_atOf 33 = .ok (.invokevirtual 192, 3) := by decide +kernel
theorem dX7_atOf_36 : decode cX7_atOf 36 = .ok (.ifCond .eq 7, 3) := by decide +kernel
theorem dX7_atOf_39 : decode cX7_atOf 39 = .ok (.iconst 1, 1) := by decide +kernel
theorem dX7_atOf_40 : decode cX7_atOf 40 = .ok (.goto 4, 3) := by decide +kernel
theorem dX7_atOf_43 : decode cX7_atOf 43 = .ok (.iconst 0, 1) := by decide +kernel
theorem dX7_atOf_44 : decode cX7_atOf 44 = .ok (.ireturn, 1) := by decide +kernel
theorem dX7_atOf_45 : decode cX7_atOf 45 = .ok (.aload_n 0, 1) := by decide +kernel
theorem dX7_atOf_46 : decode cX7_atOf 46 = .ok (.iload_n 1, 1) := by decide +kernel
theorem dX7_atOf_47 : decode cX7_atOf 47 = .ok (.iload_n 2, 1) := by decide +kernel
theorem dX7_atOf_48 : decode cX7_atOf 48 = .ok (.iconst 1, 1) := by decide +kernel
theorem dX7_atOf_49 : decode cX7_atOf 49 = .ok (.invokevirtual 227, 3) := by decide +kernel
theorem dX7_atOf_52 : decode cX7_atOf 52 = .ok (.ireturn, 1) := by decide +kernel
theorem dX7_atOf_53 : decode cX7_atOf 53 = .ok (.aload_n 0, 1) := by decide +kernel
theorem dX7_atOf_54 : decode cX7_atOf 54 = .ok (.iload_n 1, 1) := by decide +kernel
theorem dX7_atOf_55 : decode cX7_atOf 55 = .ok (.iload_n 2, 1) := by decide +kernel
theorem dX7_atOf_56 : decode cX7_atOf 56 = .ok (.iconst 0, 1) := by decide +kernel
theorem dX7_atOf_57 : decode cX7_atOf 57 = .ok (.invokevirtual 227, 3) := by decide +kernel
theorem dX7_atOf_60 : decode cX7_atOf 60 = .ok (.ireturn, 1) := by decide +kernel
theorem dX7_atOf_61 : decode cX7_atOf 61 = .ok (.aload_n 0, 1) := by decide +kernel
theorem dX7_atOf_62 : decode cX7_atOf 62 = .ok (.getfield 58, 3) := by decide +kernel
theorem dX7_atOf_65 : decode cX7_atOf 65 = .ok (.bipush 8, 2) := by decide +kernel
theorem dX7_atOf_67 : decode cX7_atOf 67 = .ok (.iload_n 1, 1) := by decide +kernel
theorem dX7_atOf_68 : decode cX7_atOf 68 = .ok (.imul, 1) := by decide +kernel
theorem dX7_atOf_69 : decode cX7_atOf 69 = .ok (.iload_n 2, 1) := by decide +kernel
theorem dX7_atOf_70 : decode cX7_atOf 70 = .ok (.iadd, 1) := by decide +kernel
theorem dX7_atOf_71 : decode cX7_atOf 71 = .ok (.iaload, 1) := by decide +kernel
theorem dX7_atOf_72 : decode cX7_atOf 72 = .ok (.ireturn, 1) := by decide +kernel
theorem dX7_at_0 : decode cX7_at 0 = .ok (.aload_n 0, 1) := by decide +kernel
theorem dX7_at_1 : decode cX7_at 1 = .ok (.invokevirtual 221, 3) := by decide +kernel
theorem dX7_at_4 : decode cX7_at 4 = .ok (.iload_n 1, 1) := by decide +kernel
theorem dX7_at_5 : decode cX7_at 5 = .ok (.invokestatic 166, 3) := by decide +kernel
theorem dX7_at_8 : decode cX7_at 8 = .ok (.ifCond .eq 33, 3) := by decide +kernel
theorem dX7_at_11 : decode cX7_at 11 = .ok (.aload_n 0, 1) := by decide +kernel
theorem dX7_at_12 : decode cX7_at 12 = .ok (.iload_n 2, 1) := by decide +kernel
theorem dX7_at_13 : decode cX7_at 13 = .ok (.invokevirtual 152, 3) := by decide +kernel
theorem dX7_at_16 : decode cX7_at 16 = .ok (.ifCond .eq 25, 3) := by decide +kernel
theorem dX7_at_19 : decode cX7_at 19 = .ok (.iload_n 3, 1) := by decide +kernel
theorem dX7_at_20 : decode cX7_at 20 = .ok (.i2l, 1) := by decide +kernel
theorem dX7_at_21 : decode cX7_at 21 = .ok (.lconst 0, 1) := by decide +kernel
theorem dX7_at_22 : decode cX7_at 22 = .ok (.ldc2_w 83, 3) := by decide +kernel
theorem dX7_at_25 : decode cX7_at 25 = .ok (.invokestatic 76, 3) := by decide +kernel
theorem dX7_at_28 : decode cX7_at 28 = .ok (.ifCond .eq 13, 3) := by decide +kernel
theorem dX7_at_31 : decode cX7_at 31 = .ok (.aload_n 0, 1) := by decide +kernel
theorem dX7_at_32 : decode cX7_at 32 = .ok (.iload_n 1, 1) := by decide +kernel
theorem dX7_at_33 : decode cX7_at 33 = .ok (.iload_n 2, 1) := by decide +kernel
theorem dX7_at_34 : decode cX7_at 34 = .ok (.iload_n 3, 1) := by decide +kernel
theorem dX7_at_35 : decode cX7_at 35 = .ok (.invokevirtual 230, 3) := by decide +kernel
theorem dX7_at_38 : decode cX7_at 38 = .ok (.goto 5, 3) := by decide +kernel
theorem dX7_at_41 : decode cX7_at 41 = .ok (.bipush (-2), 2) := by decide +kernel
theorem dX7_at_43 : decode cX7_at 43 = .ok (.ireturn, 1) := by decide +kernel
theorem dX7_isLost_0 : decode cX7_isLost 0 = .ok (.iconst 0, 1) := by decide +kernel
theorem dX7_isLost_1 : decode cX7_isLost 1 = .ok (.istore_n 3, 1) := by decide +kernel
theorem dX7_isLost_2 : decode cX7_isLost 2 = .ok (.iconst 0, 1) := by decide +kernel
theorem dX7_isLost_3 : decode cX7_isLost 3 = .ok (.istore 4, 2) := by decide +kernel
theorem dX7_isLost_5 : decode cX7_isLost 5 = .ok (.iload 4, 2) := by decide +kernel
theorem dX7_isLost_7 : decode cX7_isLost 7 = .ok (.aload_n 0, 1) := by decide +kernel
theorem dX7_isLost_8 : decode cX7_isLost 8 = .ok (.getfield 125, 3) := by decide +kernel
theorem dX7_isLost_11 : decode cX7_isLost 11 = .ok (.if_icmp .ge 50, 3) := by decide +kernel
theorem dX7_isLost_14 : decode cX7_isLost 14 = .ok (.iload_n 3, 1) := by decide +kernel
theorem dX7_isLost_15 : decode cX7_isLost 15 = .ok (.ifCond .ne 34, 3) := by decide +kernel
theorem dX7_isLost_18 : decode cX7_isLost 18 = .ok (.aload_n 0, 1) := by decide +kernel
theorem dX7_isLost_19 : decode cX7_isLost 19 = .ok (.getfield 52, 3) := by decide +kernel
theorem dX7_isLost_22 : decode cX7_isLost 22 = .ok (.bipush 12, 2) := by decide +kernel
theorem dX7_isLost_24 : decode cX7_isLost 24 = .ok (.iload_n 1, 1) := by decide +kernel
theorem dX7_isLost_25 : decode cX7_isLost 25 = .ok (.imul, 1) := by decide +kernel
theorem dX7_isLost_26 : decode cX7_isLost 26 = .ok (.iload 4, 2) := by decide +kernel
theorem dX7_isLost_28 : decode cX7_isLost 28 = .ok (.iadd, 1) := by decide +kernel
theorem dX7_isLost_29 : decode cX7_isLost 29 = .ok (.iaload, 1) := by decide +kernel
theorem dX7_isLost_30 : decode cX7_isLost 30 = .ok (.iconst 3, 1) := by decide +kernel
theorem dX7_isLost_31 : decode cX7_isLost 31 = .ok (.if_icmp .ne 22, 3) := by decide +kernel
theorem dX7_isLost_34 : decode cX7_isLost 34 = .ok (.aload_n 0, 1) := by decide +kernel
theorem dX7_isLost_35 : decode cX7_isLost 35 = .ok (.getfield 31, 3) := by decide +kernel
theorem dX7_isLost_38 : decode cX7_isLost 38 = .ok (.iconst 3, 1) := by decide +kernel
theorem dX7_isLost_39 : decode cX7_isLost 39 = .ok (.iload 4, 2) := by decide +kernel
theorem dX7_isLost_41 : decode cX7_isLost 41 = .ok (.imul, 1) := by decide +kernel
theorem dX7_isLost_42 : decode cX7_isLost 42 = .ok (.iconst 1, 1) := by decide +kernel
theorem dX7_isLost_43 : decode cX7_isLost 43 = .ok (.iadd, 1) := by decide +kernel
theorem dX7_isLost_44 : decode cX7_isLost 44 = .ok (.iaload, 1) := by decide +kernel
theorem dX7_isLost_45 : decode cX7_isLost 45 = .ok (.iload_n 2, 1) := by decide +kernel
theorem dX7_isLost_46 : decode cX7_isLost 46 = .ok (.if_icmp .ne 7, 3) := by decide +kernel
theorem dX7_isLost_49 : decode cX7_isLost 49 = .ok (.iconst 1, 1) := by decide +kernel
theorem dX7_isLost_50 : decode cX7_isLost 50 = .ok (.goto 4, 3) := by decide +kernel
theorem dX7_isLost_53 : decode cX7_isLost 53 = .ok (.iconst 0, 1) := by decide +kernel
theorem dX7_isLost_54 : decode cX7_isLost 54 = .ok (.istore_n 3, 1) := by decide +kernel
theorem dX7_isLost_55 : decode cX7_isLost 55 = .ok (.iinc 4 1, 3) := by decide +kernel
theorem dX7_isLost_58 : decode cX7_isLost 58 = .ok (.goto (-53), 3) := by decide +kernel
theorem dX7_isLost_61 : decode cX7_isLost 61 = .ok (.iload_n 3, 1) := by decide +kernel
theorem dX7_isLost_62 : decode cX7_isLost 62 = .ok (.ireturn, 1) := by decide +kernel
theorem dX7_clearOf_0 : decode cX7_clearOf 0 = .ok (.iconst (-1), 1) := by decide +kernel
theorem dX7_clearOf_1 : decode cX7_clearOf 1 = .ok (.istore_n 2, 1) := by decide +kernel
theorem dX7_clearOf_2 : decode cX7_clearOf 2 = .ok (.bipush 23, 2) := by decide +kernel
theorem dX7_clearOf_4 : decode cX7_clearOf 4 = .ok (.istore_n 3, 1) := by decide +kernel
theorem dX7_clearOf_5 : decode cX7_clearOf 5 = .ok (.iload_n 3, 1) := by decide +kernel
theorem dX7_clearOf_6 : decode cX7_clearOf 6 = .ok (.ifCond .lt 34, 3) := by decide +kernel
theorem dX7_clearOf_9 : decode cX7_clearOf 9 = .ok (.aload_n 0, 1) := by decide +kernel
theorem dX7_clearOf_10 : decode cX7_clearOf 10 = .ok (.iload_n 3, 1) := by decide +kernel
theorem dX7_clearOf_11 : decode cX7_clearOf 11 = .ok (.iload_n 1, 1) := by decide +kernel
theorem dX7_clearOf_12 : decode cX7_clearOf 12 = .ok (.iconst 1, 1) := by decide +kernel
theorem dX7_clearOf_13 : decode cX7_clearOf 13 = .ok (.invokevirtual 227, 3) := by decide +kernel
theorem dX7_clearOf_16 : decode cX7_clearOf 16 = .ok (.ifCond .ne 16, 3) := by decide +kernel
theorem dX7_clearOf_19 : decode cX7_clearOf 19 = .ok (.aload_n 0, 1) := by decide +kernel
theorem dX7_clearOf_20 : decode cX7_clearOf 20 = .ok (.iload_n 3, 1) := by decide +kernel
theorem dX7_clearOf_21 : decode cX7_clearOf 21 = .ok (.iload_n 1, 1) := by decide +kernel
theorem dX7_clearOf_22 : decode cX7_clearOf 22 = .ok (.invokevirtual 233, 3) := by decide +kernel
theorem dX7_clearOf_25 : decode cX7_clearOf 25 = .ok (.ifCond .ne 7, 3) := by decide +kernel
theorem dX7_clearOf_28 : decode cX7_clearOf 28 = .ok (.iload_n 3, 1) := by decide +kernel
theorem dX7_clearOf_29 : decode cX7_clearOf 29 = .ok (.goto 4, 3) := by decide +kernel
theorem dX7_clearOf_32 : decode cX7_clearOf 32 = .ok (.iload_n 2, 1) := by decide +kernel
theorem dX7_clearOf_33 : decode cX7_clearOf 33 = .ok (.istore_n 2, 1) := by decide +kernel
theorem dX7_clearOf_34 : decode cX7_clearOf 34 = .ok (.iinc 3 (-1), 3) := by decide +kernel
theorem dX7_clearOf_37 : decode cX7_clearOf 37 = .ok (.goto (-32), 3) := by decide +kernel
theorem dX7_clearOf_40 : decode cX7_clearOf 40 = .ok (.iload_n 2, 1) := by decide +kernel
theorem dX7_clearOf_41 : decode cX7_clearOf 41 = .ok (.ireturn, 1) := by decide +kernel
theorem dX7_clear_0 : decode cX7_clear 0 = .ok (.aload_n 0, 1) := by decide +kernel
theorem dX7_clear_1 : decode cX7_clear 1 = .ok (.invokevirtual 221, 3) := by decide +kernel
theorem dX7_clear_4 : decode cX7_clear 4 = .ok (.aload_n 0, 1) := by decide +kernel
theorem dX7_clear_5 : decode cX7_clear 5 = .ok (.iload_n 1, 1) := by decide +kernel
theorem dX7_clear_6 : decode cX7_clear 6 = .ok (.invokevirtual 152, 3) := by decide +kernel
theorem dX7_clear_9 : decode cX7_clear 9 = .ok (.ifCond .eq 11, 3) := by decide +kernel
theorem dX7_clear_12 : decode cX7_clear 12 = .ok (.aload_n 0, 1) := by decide +kernel
theorem dX7_clear_13 : decode cX7_clear 13 = .ok (.iload_n 1, 1) := by decide +kernel
theorem dX7_clear_14 : decode cX7_clear 14 = .ok (.invokevirtual 236, 3) := by decide +kernel
theorem dX7_clear_17 : decode cX7_clear 17 = .ok (.goto 5, 3) := by decide +kernel
theorem dX7_clear_20 : decode cX7_clear 20 = .ok (.bipush (-2), 2) := by decide +kernel
theorem dX7_clear_22 : decode cX7_clear 22 = .ok (.ireturn, 1) := by decide +kernel
theorem dX7_bankOf_0 : decode cX7_bankOf 0 = .ok (.iconst (-1), 1) := by decide +kernel
theorem dX7_bankOf_1 : decode cX7_bankOf 1 = .ok (.istore_n 2, 1) := by decide +kernel
theorem dX7_bankOf_2 : decode cX7_bankOf 2 = .ok (.iconst 0, 1) := by decide +kernel
theorem dX7_bankOf_3 : decode cX7_bankOf 3 = .ok (.istore_n 3, 1) := by decide +kernel
theorem dX7_bankOf_4 : decode cX7_bankOf 4 = .ok (.iconst 0, 1) := by decide +kernel
theorem dX7_bankOf_5 : decode cX7_bankOf 5 = .ok (.istore 4, 2) := by decide +kernel
theorem dX7_bankOf_7 : decode cX7_bankOf 7 = .ok (.iload 4, 2) := by decide +kernel
theorem dX7_bankOf_9 : decode cX7_bankOf 9 = .ok (.aload_n 0, 1) := by decide +kernel
theorem dX7_bankOf_10 : decode cX7_bankOf 10 = .ok (.getfield 116, 3) := by decide +kernel
theorem dX7_bankOf_13 : decode cX7_bankOf 13 = .ok (.if_icmp .ge 39, 3) := by decide +kernel
theorem dX7_bankOf_16 : decode cX7_bankOf 16 = .ok (.aload_n 0, 1) := by decide +kernel
theorem dX7_bankOf_17 : decode cX7_bankOf 17 = .ok (.iload_n 1, 1) := by decide +kernel
theorem dX7_bankOf_18 : decode cX7_bankOf 18 = .ok (.iload 4, 2) := by decide +kernel
theorem dX7_bankOf_20 : decode cX7_bankOf 20 = .ok (.iconst 0, 1) := by decide +kernel
theorem dX7_bankOf_21 : decode cX7_bankOf 21 = .ok (.invokevirtual 227, 3) := by decide +kernel
theorem dX7_bankOf_24 : decode cX7_bankOf 24 = .ok (.istore 5, 2) := by decide +kernel
theorem dX7_bankOf_26 : decode cX7_bankOf 26 = .ok (.iload 5, 2) := by decide +kernel
theorem dX7_bankOf_28 : decode cX7_bankOf 28 = .ok (.iload_n 3, 1) := by decide +kernel
theorem dX7_bankOf_29 : decode cX7_bankOf 29 = .ok (.if_icmp .le 8, 3) := by decide +kernel
theorem dX7_bankOf_32 : decode cX7_bankOf 32 = .ok (.iload 4, 2) := by decide +kernel
theorem dX7_bankOf_34 : decode cX7_bankOf 34 = .ok (.goto 4, 3) := by decide +kernel
theorem dX7_bankOf_37 : decode cX7_bankOf 37 = .ok (.iload_n 2, 1) := by decide +kernel
theorem dX7_bankOf_38 : decode cX7_bankOf 38 = .ok (.istore_n 2, 1) := by decide +kernel
theorem dX7_bankOf_39 : decode cX7_bankOf 39 = .ok (.iload 5, 2) := by decide +kernel
theorem dX7_bankOf_41 : decode cX7_bankOf 41 = .ok (.iload_n 3, 1) := by decide +kernel
theorem dX7_bankOf_42 : decode cX7_bankOf 42 = .ok (.invokestatic 189, 3) := by decide +kernel
theorem dX7_bankOf_45 : decode cX7_bankOf 45 = .ok (.istore_n 3, 1) := by decide +kernel
theorem dX7_bankOf_46 : decode cX7_bankOf 46 = .ok (.iinc 4 1, 3) := by decide +kernel
theorem dX7_bankOf_49 : decode cX7_bankOf 49 = .ok (.goto (-42), 3) := by decide +kernel
theorem dX7_bankOf_52 : decode cX7_bankOf 52 = .ok (.iload_n 2, 1) := by decide +kernel
theorem dX7_bankOf_53 : decode cX7_bankOf 53 = .ok (.ireturn, 1) := by decide +kernel
theorem dX7_bank_0 : decode cX7_bank 0 = .ok (.aload_n 0, 1) := by decide +kernel
theorem dX7_bank_1 : decode cX7_bank 1 = .ok (.invokevirtual 221, 3) := by decide +kernel
theorem dX7_bank_4 : decode cX7_bank 4 = .ok (.iload_n 1, 1) := by decide +kernel
theorem dX7_bank_5 : decode cX7_bank 5 = .ok (.invokestatic 166, 3) := by decide +kernel
theorem dX7_bank_8 : decode cX7_bank 8 = .ok (.ifCond .eq 11, 3) := by decide +kernel
theorem dX7_bank_11 : decode cX7_bank 11 = .ok (.aload_n 0, 1) := by decide +kernel
theorem dX7_bank_12 : decode cX7_bank 12 = .ok (.iload_n 1, 1) := by decide +kernel
theorem dX7_bank_13 : decode cX7_bank 13 = .ok (.invokevirtual 239, 3) := by decide +kernel
theorem dX7_bank_16 : decode cX7_bank 16 = .ok (.goto 5, 3) := by decide +kernel
theorem dX7_bank_19 : decode cX7_bank 19 = .ok (.bipush (-2), 2) := by decide +kernel
theorem dX7_bank_21 : decode cX7_bank 21 = .ok (.ireturn, 1) := by decide +kernel
theorem dX7_debts_0 : decode cX7_debts 0 = .ok (.iconst 0, 1) := by decide +kernel
theorem dX7_debts_1 : decode cX7_debts 1 = .ok (.istore_n 2, 1) := by decide +kernel
theorem dX7_debts_2 : decode cX7_debts 2 = .ok (.iload_n 2, 1) := by decide +kernel
theorem dX7_debts_3 : decode cX7_debts 3 = .ok (.bipush 8, 2) := by decide +kernel
theorem dX7_debts_5 : decode cX7_debts 5 = .ok (.if_icmp .ge 16, 3) := by decide +kernel
theorem dX7_debts_8 : decode cX7_debts 8 = .ok (.aload_n 0, 1) := by decide +kernel
theorem dX7_debts_9 : decode cX7_debts 9 = .ok (.getfield 61, 3) := by decide +kernel
theorem dX7_debts_12 : decode cX7_debts 12 = .ok (.iload_n 2, 1) := by decide +kernel
theorem dX7_debts_13 : decode cX7_debts 13 = .ok (.iconst 0, 1) := by decide +kernel
theorem dX7_debts_14 : decode cX7_debts 14 = .ok (.iastore, 1) := by decide +kernel
theorem dX7_debts_15 : decode cX7_debts 15 = .ok (.iinc 2 1, 3) := by decide +kernel
theorem dX7_debts_18 : decode cX7_debts 18 = .ok (.goto (-16), 3) := by decide +kernel
theorem dX7_debts_21 : decode cX7_debts 21 = .ok (.iconst 0, 1) := by decide +kernel
theorem dX7_debts_22 : decode cX7_debts 22 = .ok (.istore_n 2, 1) := by decide +kernel
theorem dX7_debts_23 : decode cX7_debts 23 = .ok (.iload_n 2, 1) := by decide +kernel
theorem dX7_debts_24 : decode cX7_debts 24 = .ok (.aload_n 0, 1) := by decide +kernel
theorem dX7_debts_25 : decode cX7_debts 25 = .ok (.getfield 125, 3) := by decide +kernel
theorem dX7_debts_28 : decode cX7_debts 28 = .ok (.if_icmp .ge 51, 3) := by decide +kernel
theorem dX7_debts_31 : decode cX7_debts 31 = .ok (.aload_n 0, 1) := by decide +kernel
theorem dX7_debts_32 : decode cX7_debts 32 = .ok (.getfield 52, 3) := by decide +kernel
theorem dX7_debts_35 : decode cX7_debts 35 = .ok (.bipush 12, 2) := by decide +kernel
theorem dX7_debts_37 : decode cX7_debts 37 = .ok (.iload_n 1, 1) := by decide +kernel
theorem dX7_debts_38 : decode cX7_debts 38 = .ok (.imul, 1) := by decide +kernel
theorem dX7_debts_39 : decode cX7_debts 39 = .ok (.iload_n 2, 1) := by decide +kernel
theorem dX7_debts_40 : decode cX7_debts 40 = .ok (.iadd, 1) := by decide +kernel
theorem dX7_debts_41 : decode cX7_debts 41 = .ok (.iaload, 1) := by decide +kernel
theorem dX7_debts_42 : decode cX7_debts 42 = .ok (.ifCond .ne 31, 3) := by decide +kernel
theorem dX7_debts_45 : decode cX7_debts 45 = .ok (.aload_n 0, 1) := by decide +kernel
theorem dX7_debts_46 : decode cX7_debts 46 = .ok (.getfield 61, 3) := by decide +kernel
theorem dX7_debts_49 : decode cX7_debts 49 = .ok (.aload_n 0, 1) := by decide +kernel
theorem dX7_debts_50 : decode cX7_debts 50 = .ok (.getfield 31, 3) := by decide +kernel
theorem dX7_debts_53 : decode cX7_debts 53 = .ok (.iconst 3, 1) := by decide +kernel
theorem dX7_debts_54 : decode cX7_debts 54 = .ok (.iload_n 2, 1) := by decide +kernel
theorem dX7_debts_55 : decode cX7_debts 55 = .ok (.imul, 1) := by decide +kernel
theorem dX7_debts_56 : decode cX7_debts 56 = .ok (.iconst 1, 1) := by decide +kernel
theorem dX7_debts_57 : decode cX7_debts 57 = .ok (.iadd, 1) := by decide +kernel
theorem dX7_debts_58 : decode cX7_debts 58 = .ok (.iaload, 1) := by decide +kernel
theorem dX7_debts_59 : decode cX7_debts 59 = .ok (.dup2, 1) := by decide +kernel
theorem dX7_debts_60 : decode cX7_debts 60 = .ok (.iaload, 1) := by decide +kernel
theorem dX7_debts_61 : decode cX7_debts 61 = .ok (.iconst 1, 1) := by decide +kernel
theorem dX7_debts_62 : decode cX7_debts 62 = .ok (.aload_n 0, 1) := by decide +kernel
theorem dX7_debts_63 : decode cX7_debts 63 = .ok (.getfield 31, 3) := by decide +kernel
theorem dX7_debts_66 : decode cX7_debts 66 = .ok (.iconst 3, 1) := by decide +kernel
theorem dX7_debts_67 : decode cX7_debts 67 = .ok (.iload_n 2, 1) := by decide +kernel
theorem dX7_debts_68 : decode cX7_debts 68 = .ok (.imul, 1) := by decide +kernel
theorem dX7_debts_69 : decode cX7_debts 69 = .ok (.iaload, 1) := by decide +kernel
theorem dX7_debts_70 : decode cX7_debts 70 = .ok (.ishl, 1) := by decide +kernel
theorem dX7_debts_71 : decode cX7_debts 71 = .ok (.ior, 1) := by decide +kernel
theorem dX7_debts_72 : decode cX7_debts 72 = .ok (.iastore, 1) := by decide +kernel
theorem dX7_debts_73 : decode cX7_debts 73 = .ok (.iinc 2 1, 3) := by decide +kernel
theorem dX7_debts_76 : decode cX7_debts 76 = .ok (.goto (-53), 3) := by decide +kernel
theorem dX7_debts_79 : decode cX7_debts 79 = .ok (.return_, 1) := by decide +kernel
theorem dX7_ringWith_0 : decode cX7_ringWith 0 = .ok (.aload_n 0, 1) := by decide +kernel
theorem dX7_ringWith_1 : decode cX7_ringWith 1 = .ok (.getfield 61, 3) := by decide +kernel
theorem dX7_ringWith_4 : decode cX7_ringWith 4 = .ok (.iload_n 1, 1) := by decide +kernel
theorem dX7_ringWith_5 : decode cX7_ringWith 5 = .ok (.iaload, 1) := by decide +kernel
theorem dX7_ringWith_6 : decode cX7_ringWith 6 = .ok (.istore_n 2, 1) := by decide +kernel
theorem dX7_ringWith_7 : decode cX7_ringWith 7 = .ok (.iconst 1, 1) := by decide +kernel
theorem dX7_ringWith_8 : decode cX7_ringWith 8 = .ok (.istore_n 3, 1) := by decide +kernel
theorem dX7_ringWith_9 : decode cX7_ringWith 9 = .ok (.iload_n 2, 1) := by decide +kernel
theorem dX7_ringWith_10 : decode cX7_ringWith 10 = .ok (.iload_n 1, 1) := by decide +kernel
theorem dX7_ringWith_11 : decode cX7_ringWith 11 = .ok (.invokestatic 179, 3) := by decide +kernel
theorem dX7_ringWith_14 : decode cX7_ringWith 14 = .ok (.ifCond .ne 62, 3) := by decide +kernel
theorem dX7_ringWith_17 : decode cX7_ringWith 17 = .ok (.iload_n 3, 1) := by decide +kernel
theorem dX7_ringWith_18 : decode cX7_ringWith 18 = .ok (.bipush 9, 2) := by decide +kernel
theorem dX7_ringWith_20 : decode cX7_ringWith 20 = .ok (.if_icmp .ge 56, 3) := by decide +kernel
theorem dX7_ringWith_23 : decode cX7_ringWith 23 = .ok (.iload_n 2, 1) := by decide +kernel
theorem dX7_ringWith_24 : decode cX7_ringWith 24 = .ok (.istore 4, 2) := by decide +kernel
theorem dX7_ringWith_26 : decode cX7_ringWith 26 = .ok (.iconst 0, 1) := by decide +kernel
theorem dX7_ringWith_27 : decode cX7_ringWith 27 = .ok (.istore 5, 2) := by decide +kernel
theorem dX7_ringWith_29 : decode cX7_ringWith 29 = .ok (.iload 5, 2) := by decide +kernel
theorem dX7_ringWith_31 : decode cX7_ringWith 31 = .ok (.bipush 8, 2) := by decide +kernel
theorem dX7_ringWith_33 : decode cX7_ringWith 33 = .ok (.if_icmp .ge 34, 3) := by decide +kernel
theorem dX7_ringWith_36 : decode cX7_ringWith 36 = .ok (.iload 4, 2) := by decide +kernel
theorem dX7_ringWith_38 : decode cX7_ringWith 38 = .ok (.iload_n 2, 1) := by decide +kernel
theorem dX7_ringWith_39 : decode cX7_ringWith 39 = .ok (.iload 5, 2) := by decide +kernel
theorem dX7_ringWith_41 : decode cX7_ringWith 41 = .ok (.invokestatic 179, 3) := by decide +kernel
theorem dX7_ringWith_44 : decode cX7_ringWith 44 = .ok (.ifCond .eq 13, 3) := by decide +kernel
theorem dX7_ringWith_47 : decode cX7_ringWith 47 = .ok (.aload_n 0, 1) := by decide +kernel
theorem dX7_ringWith_48 : decode cX7_ringWith 48 = .ok (.getfield 61, 3) := by decide +kernel
theorem dX7_ringWith_51 : decode cX7_ringWith 51 = .ok (.iload 5, 2) := by decide +kernel
theorem dX7_ringWith_53 : decode cX7_ringWith 53 = .ok (.iaload, 1) := by decide +kernel
theorem dX7_ringWith_54 : decode cX7_ringWith 54 = .ok (.goto 4, 3) := by decide +kernel
theorem dX7_ringWith_57 : decode cX7_ringWith 57 = .ok (.iconst 0, 1) := by decide +kernel
theorem dX7_ringWith_58 : decode cX7_ringWith 58 = .ok (.ior, 1) := by decide +kernel
theorem dX7_ringWith_59 : decode cX7_ringWith 59 = .ok (.istore 4, 2) := by decide +kernel
theorem dX7_ringWith_61 : decode cX7_ringWith 61 = .ok (.iinc 5 1, 3) := by decide +kernel
theorem dX7_ringWith_64 : decode cX7_ringWith 64 = .ok (.goto (-35), 3) := by decide +kernel
theorem dX7_ringWith_67 : decode cX7_ringWith 67 = .ok (.iload 4, 2) := by decide +kernel
theorem dX7_ringWith_69 : decode cX7_ringWith 69 = .ok (.istore_n 2, 1) := by decide +kernel
theorem dX7_ringWith_70 : decode cX7_ringWith 70 = .ok (.iinc 3 1, 3) := by decide +kernel
theorem dX7_ringWith_73 : decode cX7_ringWith 73 = .ok (.goto (-64), 3) := by decide +kernel
theorem dX7_ringWith_76 : decode cX7_ringWith 76 = .ok (.iload_n 3, 1) := by decide +kernel
theorem dX7_ringWith_77 : decode cX7_ringWith 77 = .ok (.ireturn, 1) := by decide +kernel
theorem dX7_ringOf_0 : decode cX7_ringOf 0 = .ok (.aload_n 0, 1) := by decide +kernel
theorem dX7_ringOf_1 : decode cX7_ringOf 1 = .ok (.iload_n 1, 1) := by decide +kernel
theorem dX7_ringOf_2 : decode cX7_ringOf 2 = .ok (.invokevirtual 242, 3) := by decide +kernel
theorem dX7_ringOf_5 : decode cX7_ringOf 5 = .ok (.iconst (-1), 1) := by decide +kernel
theorem dX7_ringOf_6 : decode cX7_ringOf 6 = .ok (.istore_n 3, 1) := by decide +kernel
theorem dX7_ringOf_7 : decode cX7_ringOf 7 = .ok (.bipush 9, 2) := by decide +kernel
theorem dX7_ringOf_9 : decode cX7_ringOf 9 = .ok (.istore 4, 2) := by decide +kernel
theorem dX7_ringOf_11 : decode cX7_ringOf 11 = .ok (.iconst 0, 1) := by decide +kernel
theorem dX7_ringOf_12 : decode cX7_ringOf 12 = .ok (.istore 5, 2) := by decide +kernel
theorem dX7_ringOf_14 : decode cX7_ringOf 14 = .ok (.iload 5, 2) := by decide +kernel
theorem dX7_ringOf_16 : decode cX7_ringOf 16 = .ok (.aload_n 0, 1) := by decide +kernel
theorem dX7_ringOf_17 : decode cX7_ringOf 17 = .ok (.getfield 116, 3) := by decide +kernel
theorem dX7_ringOf_20 : decode cX7_ringOf 20 = .ok (.if_icmp .ge 40, 3) := by decide +kernel
theorem dX7_ringOf_23 : decode cX7_ringOf 23 = .ok (.aload_n 0, 1) := by decide +kernel
theorem dX7_ringOf_24 : decode cX7_ringOf 24 = .ok (.iload 5, 2) := by decide +kernel
theorem dX7_ringOf_26 : decode cX7_ringOf 26 = .ok (.invokevirtual 245, 3) := by decide +kernel
theorem dX7_ringOf_29 : decode cX7_ringOf 29 = .ok (.istore 6, 2) := by decide +kernel
theorem dX7_ringOf_31 : decode cX7_ringOf 31 = .ok (.iload 6, 2) := by decide +kernel
theorem dX7_ringOf_33 : decode cX7_ringOf 33 = .ok (.iload 4, 2) := by decide +kernel
theorem dX7_ringOf_35 : decode cX7_ringOf 35 = .ok (.if_icmp .ge 8, 3) := by decide +kernel
theorem dX7_ringOf_38 : decode cX7_ringOf 38 = .ok (.iload 5, 2) := by decide +kernel
theorem dX7_ringOf_40 : decode cX7_ringOf 40 = .ok (.goto 4, 3) := by decide +kernel
theorem dX7_ringOf_43 : decode cX7_ringOf 43 = .ok (.iload_n 3, 1) := by decide +kernel
theorem dX7_ringOf_44 : decode cX7_ringOf 44 = .ok (.istore_n 3, 1) := by decide +kernel
theorem dX7_ringOf_45 : decode cX7_ringOf 45 = .ok (.iload 6, 2) := by decide +kernel
theorem dX7_ringOf_47 : decode cX7_ringOf 47 = .ok (.iload 4, 2) := by decide +kernel
theorem dX7_ringOf_49 : decode cX7_ringOf 49 = .ok (.invokestatic 183, 3) := by decide +kernel
theorem dX7_ringOf_52 : decode cX7_ringOf 52 = .ok (.istore 4, 2) := by decide +kernel
theorem dX7_ringOf_54 : decode cX7_ringOf 54 = .ok (.iinc 5 1, 3) := by decide +kernel
theorem dX7_ringOf_57 : decode cX7_ringOf 57 = .ok (.goto (-43), 3) := by decide +kernel
theorem dX7_ringOf_60 : decode cX7_ringOf 60 = .ok (.iload_n 3, 1) := by decide +kernel
theorem dX7_ringOf_61 : decode cX7_ringOf 61 = .ok (.iconst (-1), 1) := by decide +kernel
theorem dX7_ringOf_62 : decode cX7_ringOf 62 = .ok (.if_icmp .ne 7, 3) := by decide +kernel
theorem dX7_ringOf_65 : decode cX7_ringOf 65 = .ok (.iconst (-1), 1) := by decide +kernel
theorem dX7_ringOf_66 : decode cX7_ringOf 66 = .ok (.goto 13, 3) := by decide +kernel
theorem dX7_ringOf_69 : decode cX7_ringOf 69 = .ok (.iload_n 2, 1) := by decide +kernel
theorem dX7_ringOf_70 : decode cX7_ringOf 70 = .ok (.ifCond .ne 8, 3) := by decide +kernel
theorem dX7_ringOf_73 : decode cX7_ringOf 73 = .ok (.iload 4, 2) := by decide +kernel
theorem dX7_ringOf_75 : decode cX7_ringOf 75 = .ok (.goto 4, 3) := by decide +kernel
theorem dX7_ringOf_78 : decode cX7_ringOf 78 = .ok (.iload_n 3, 1) := by decide +kernel
theorem dX7_ringOf_79 : decode cX7_ringOf 79 = .ok (.ireturn, 1) := by decide +kernel
theorem dX7_ring_0 : decode cX7_ring 0 = .ok (.aload_n 0, 1) := by decide +kernel
theorem dX7_ring_1 : decode cX7_ring 1 = .ok (.invokevirtual 221, 3) := by decide +kernel
theorem dX7_ring_4 : decode cX7_ring 4 = .ok (.iload_n 1, 1) := by decide +kernel
theorem dX7_ring_5 : decode cX7_ring 5 = .ok (.invokestatic 166, 3) := by decide +kernel
theorem dX7_ring_8 : decode cX7_ring 8 = .ok (.ifCond .eq 19, 3) := by decide +kernel
theorem dX7_ring_11 : decode cX7_ring 11 = .ok (.iload_n 2, 1) := by decide +kernel
theorem dX7_ring_12 : decode cX7_ring 12 = .ok (.invokestatic 155, 3) := by decide +kernel
theorem dX7_ring_15 : decode cX7_ring 15 = .ok (.ifCond .eq 12, 3) := by decide +kernel
theorem dX7_ring_18 : decode cX7_ring 18 = .ok (.aload_n 0, 1) := by decide +kernel
theorem dX7_ring_19 : decode cX7_ring 19 = .ok (.iload_n 1, 1) := by decide +kernel
theorem dX7_ring_20 : decode cX7_ring 20 = .ok (.iload_n 2, 1) := by decide +kernel
theorem dX7_ring_21 : decode cX7_ring 21 = .ok (.invokevirtual 248, 3) := by decide +kernel
theorem dX7_ring_24 : decode cX7_ring 24 = .ok (.goto 5, 3) := by decide +kernel
theorem dX7_ring_27 : decode cX7_ring 27 = .ok (.bipush (-2), 2) := by decide +kernel
theorem dX7_ring_29 : decode cX7_ring 29 = .ok (.ireturn, 1) := by decide +kernel
theorem dX7_silentNow_0 : decode cX7_silentNow 0 = .ok (.iconst 0, 1) := by decide +kernel
theorem dX7_silentNow_1 : decode cX7_silentNow 1 = .ok (.istore_n 1, 1) := by decide +kernel
theorem dX7_silentNow_2 : decode cX7_silentNow 2 = .ok (.iconst 0, 1) := by decide +kernel
theorem dX7_silentNow_3 : decode cX7_silentNow 3 = .ok (.istore_n 2, 1) := by decide +kernel
theorem dX7_silentNow_4 : decode cX7_silentNow 4 = .ok (.iload_n 2, 1) := by decide +kernel
theorem dX7_silentNow_5 : decode cX7_silentNow 5 = .ok (.aload_n 0, 1) := by decide +kernel
theorem dX7_silentNow_6 : decode cX7_silentNow 6 = .ok (.getfield 116, 3) := by decide +kernel
theorem dX7_silentNow_9 : decode cX7_silentNow 9 = .ok (.if_icmp .ge 28, 3) := by decide +kernel
theorem dX7_silentNow_12 : decode cX7_silentNow 12 = .ok (.iload_n 1, 1) := by decide +kernel
theorem dX7_silentNow_13 : decode cX7_silentNow 13 = .ok (.aload_n 0, 1) := by decide +kernel
theorem dX7_silentNow_14 : decode cX7_silentNow 14 = .ok (.getfield 46, 3) := by decide +kernel
theorem dX7_silentNow_17 : decode cX7_silentNow 17 = .ok (.iload_n 2, 1) := by decide +kernel
theorem dX7_silentNow_18 : decode cX7_silentNow 18 = .ok (.iaload, 1) := by decide +kernel
theorem dX7_silentNow_19 : decode cX7_silentNow 19 = .ok (.ifCond .ne 9, 3) := by decide +kernel
theorem dX7_silentNow_22 : decode cX7_silentNow 22 = .ok (.iconst 1, 1) := by decide +kernel
theorem dX7_silentNow_23 : decode cX7_silentNow 23 = .ok (.iload_n 2, 1) := by decide +kernel
theorem dX7_silentNow_24 : decode cX7_silentNow 24 = .ok (.ishl, 1) := by decide +kernel
theorem dX7_silentNow_25 : decode cX7_silentNow 25 = .ok (.goto 4, 3) := by decide +kernel
theorem dX7_silentNow_28 : decode cX7_silentNow 28 = .ok (.iconst 0, 1) := by decide +kernel
theorem dX7_silentNow_29 : decode cX7_silentNow 29 = .ok (.ior, 1) := by decide +kernel
theorem dX7_silentNow_30 : decode cX7_silentNow 30 = .ok (.istore_n 1, 1) := by decide +kernel
theorem dX7_silentNow_31 : decode cX7_silentNow 31 = .ok (.iinc 2 1, 3) := by decide +kernel
theorem dX7_silentNow_34 : decode cX7_silentNow 34 = .ok (.goto (-30), 3) := by decide +kernel
theorem dX7_silentNow_37 : decode cX7_silentNow 37 = .ok (.iload_n 1, 1) := by decide +kernel
theorem dX7_silentNow_38 : decode cX7_silentNow 38 = .ok (.ireturn, 1) := by decide +kernel
theorem dX7_silent_0 : decode cX7_silent 0 = .ok (.aload_n 0, 1) := by decide +kernel
theorem dX7_silent_1 : decode cX7_silent 1 = .ok (.invokevirtual 221, 3) := by decide +kernel
theorem dX7_silent_4 : decode cX7_silent 4 = .ok (.aload_n 0, 1) := by decide +kernel
theorem dX7_silent_5 : decode cX7_silent 5 = .ok (.invokevirtual 251, 3) := by decide +kernel
theorem dX7_silent_8 : decode cX7_silent 8 = .ok (.ireturn, 1) := by decide +kernel
theorem dX7_many_0 : decode cX7_many 0 = .ok (.iconst 0, 1) := by decide +kernel
theorem dX7_many_1 : decode cX7_many 1 = .ok (.istore_n 2, 1) := by decide +kernel
theorem dX7_many_2 : decode cX7_many 2 = .ok (.iconst 0, 1) := by decide +kernel
theorem dX7_many_3 : decode cX7_many 3 = .ok (.istore_n 3, 1) := by decide +kernel
theorem dX7_many_4 : decode cX7_many 4 = .ok (.iload_n 3, 1) := by decide +kernel
theorem dX7_many_5 : decode cX7_many 5 = .ok (.aload_n 0, 1) := by decide +kernel
theorem dX7_many_6 : decode cX7_many 6 = .ok (.getfield 125, 3) := by decide +kernel
theorem dX7_many_9 : decode cX7_many 9 = .ok (.if_icmp .ge 27, 3) := by decide +kernel
theorem dX7_many_12 : decode cX7_many 12 = .ok (.iload_n 2, 1) := by decide +kernel
theorem dX7_many_13 : decode cX7_many 13 = .ok (.aload_n 0, 1) := by decide +kernel
theorem dX7_many_14 : decode cX7_many 14 = .ok (.getfield 40, 3) := by decide +kernel
theorem dX7_many_17 : decode cX7_many 17 = .ok (.iload_n 3, 1) := by decide +kernel
theorem dX7_many_18 : decode cX7_many 18 = .ok (.iaload, 1) := by decide +kernel
theorem dX7_many_19 : decode cX7_many 19 = .ok (.iload_n 1, 1) := by decide +kernel
theorem dX7_many_20 : decode cX7_many 20 = .ok (.if_icmp .ne 7, 3) := by decide +kernel
theorem dX7_many_23 : decode cX7_many 23 = .ok (.iconst 1, 1) := by decide +kernel
theorem dX7_many_24 : decode cX7_many 24 = .ok (.goto 4, 3) := by decide +kernel
theorem dX7_many_27 : decode cX7_many 27 = .ok (.iconst 0, 1) := by decide +kernel
theorem dX7_many_28 : decode cX7_many 28 = .ok (.iadd, 1) := by decide +kernel
theorem dX7_many_29 : decode cX7_many 29 = .ok (.istore_n 2, 1) := by decide +kernel
theorem dX7_many_30 : decode cX7_many 30 = .ok (.iinc 3 1, 3) := by decide +kernel
theorem dX7_many_33 : decode cX7_many 33 = .ok (.goto (-29), 3) := by decide +kernel
theorem dX7_many_36 : decode cX7_many 36 = .ok (.iload_n 2, 1) := by decide +kernel
theorem dX7_many_37 : decode cX7_many 37 = .ok (.ireturn, 1) := by decide +kernel
theorem dX7_owedYet_0 : decode cX7_owedYet 0 = .ok (.iconst 0, 1) := by decide +kernel
theorem dX7_owedYet_1 : decode cX7_owedYet 1 = .ok (.istore_n 1, 1) := by decide +kernel
theorem dX7_owedYet_2 : decode cX7_owedYet 2 = .ok (.iconst 0, 1) := by decide +kernel
theorem dX7_owedYet_3 : decode cX7_owedYet 3 = .ok (.istore_n 2, 1) := by decide +kernel
theorem dX7_owedYet_4 : decode cX7_owedYet 4 = .ok (.iload_n 2, 1) := by decide +kernel
theorem dX7_owedYet_5 : decode cX7_owedYet 5 = .ok (.aload_n 0, 1) := by decide +kernel
theorem dX7_owedYet_6 : decode cX7_owedYet 6 = .ok (.getfield 125, 3) := by decide +kernel
theorem dX7_owedYet_9 : decode cX7_owedYet 9 = .ok (.if_icmp .ge 41, 3) := by decide +kernel
theorem dX7_owedYet_12 : decode cX7_owedYet 12 = .ok (.iload_n 1, 1) := by decide +kernel
theorem dX7_owedYet_13 : decode cX7_owedYet 13 = .ok (.aload_n 0, 1) := by decide +kernel
theorem dX7_owedYet_14 : decode cX7_owedYet 14 = .ok (.getfield 40, 3) := by decide +kernel
theorem dX7_owedYet_17 : decode cX7_owedYet 17 = .ok (.iload_n 2, 1) := by decide +kernel
theorem dX7_owedYet_18 : decode cX7_owedYet 18 = .ok (.iaload, 1) := by decide +kernel
theorem dX7_owedYet_19 : decode cX7_owedYet 19 = .ok (.ifCond .eq 13, 3) := by decide +kernel
theorem dX7_owedYet_22 : decode cX7_owedYet 22 = .ok (.aload_n 0, 1) := by decide +kernel
theorem dX7_owedYet_23 : decode cX7_owedYet 23 = .ok (.getfield 40, 3) := by decide +kernel
theorem dX7_owedYet_26 : decode cX7_owedYet 26 = .ok (.iload_n 2, 1) := by decide +kernel
theorem dX7_owedYet_27 : decode cX7_owedYet 27 = .ok (.iaload, 1) := by decide +kernel
theorem dX7_owedYet_28 : decode cX7_owedYet 28 = .ok (.iconst 3, 1) := by decide +kernel
theorem dX7_owedYet_29 : decode cX7_owedYet 29 = .ok (.if_icmp .ne 12, 3) := by decide +kernel
theorem dX7_owedYet_32 : decode cX7_owedYet 32 = .ok (.aload_n 0, 1) := by decide +kernel
theorem dX7_owedYet_33 : decode cX7_owedYet 33 = .ok (.getfield 43, 3) := by decide +kernel
theorem dX7_owedYet_36 : decode cX7_owedYet 36 = .ok (.iload_n 2, 1) := by decide +kernel
theorem dX7_owedYet_37 : decode cX7_owedYet 37 = .ok (.iaload, 1) := by decide +kernel
theorem dX7_owedYet_38 : decode cX7_owedYet 38 = .ok (.goto 4, 3) := by decide +kernel
theorem dX7_owedYet_41 : decode cX7_owedYet 41 = .ok (.iconst 0, 1) := by decide +kernel
theorem dX7_owedYet_42 : decode cX7_owedYet 42 = .ok (.iadd, 1) := by decide +kernel
theorem dX7_owedYet_43 : decode cX7_owedYet 43 = .ok (.istore_n 1, 1) := by decide +kernel
theorem dX7_owedYet_44 : decode cX7_owedYet 44 = .ok (.iinc 2 1, 3) := by decide +kernel
theorem dX7_owedYet_47 : decode cX7_owedYet 47 = .ok (.goto (-43), 3) := by decide +kernel
theorem dX7_owedYet_50 : decode cX7_owedYet 50 = .ok (.iload_n 1, 1) := by decide +kernel
theorem dX7_owedYet_51 : decode cX7_owedYet 51 = .ok (.ireturn, 1) := by decide +kernel
theorem dX7_meetOf_0 : decode cX7_meetOf 0 = .ok (.iconst (-1), 1) := by decide +kernel
theorem dX7_meetOf_1 : decode cX7_meetOf 1 = .ok (.istore_n 3, 1) := by decide +kernel
theorem dX7_meetOf_2 : decode cX7_meetOf 2 = .ok (.sipush 999, 3) := by decide +kernel
theorem dX7_meetOf_5 : decode cX7_meetOf 5 = .ok (.istore 4, 2) := by decide +kernel
theorem dX7_meetOf_7 : decode cX7_meetOf 7 = .ok (.aload_n 0, 1) := by decide +kernel
theorem dX7_meetOf_8 : decode cX7_meetOf 8 = .ok (.iload_n 1, 1) := by decide +kernel
theorem dX7_meetOf_9 : decode cX7_meetOf 9 = .ok (.putfield 70, 3) := by decide +kernel
theorem dX7_meetOf_12 : decode cX7_meetOf 12 = .ok (.iconst 0, 1) := by decide +kernel
theorem dX7_meetOf_13 : decode cX7_meetOf 13 = .ok (.istore 5, 2) := by decide +kernel
theorem dX7_meetOf_15 : decode cX7_meetOf 15 = .ok (.iload 5, 2) := by decide +kernel
theorem dX7_meetOf_17 : decode cX7_meetOf 17 = .ok (.bipush 64, 2) := by decide +kernel
theorem dX7_meetOf_19 : decode cX7_meetOf 19 = .ok (.if_icmp .ge 82, 3) := by decide +kernel
theorem dX7_meetOf_22 : decode cX7_meetOf 22 = .ok (.aload_n 0, 1) := by decide +kernel
theorem dX7_meetOf_23 : decode cX7_meetOf 23 = .ok (.iload 5, 2) := by decide +kernel
theorem dX7_meetOf_25 : decode cX7_meetOf 25 = .ok (.bipush 8, 2) := by decide +kernel
theorem dX7_meetOf_27 : decode cX7_meetOf 27 = .ok (.idiv, 1) := by decide +kernel
theorem dX7_meetOf_28 : decode cX7_meetOf 28 = .ok (.putfield 205, 3) := by decide +kernel
theorem dX7_meetOf_31 : decode cX7_meetOf 31 = .ok (.aload_n 0, 1) := by decide +kernel
theorem dX7_meetOf_32 : decode cX7_meetOf 32 = .ok (.iload 5, 2) := by decide +kernel
theorem dX7_meetOf_34 : decode cX7_meetOf 34 = .ok (.bipush 8, 2) := by decide +kernel
theorem dX7_meetOf_36 : decode cX7_meetOf 36 = .ok (.irem, 1) := by decide +kernel
theorem dX7_meetOf_37 : decode cX7_meetOf 37 = .ok (.putfield 208, 3) := by decide +kernel
theorem dX7_meetOf_40 : decode cX7_meetOf 40 = .ok (.aload_n 0, 1) := by decide +kernel
theorem dX7_meetOf_41 : decode cX7_meetOf 41 = .ok (.getfield 205, 3) := by decide +kernel
theorem dX7_meetOf_44 : decode cX7_meetOf 44 = .ok (.aload_n 0, 1) := by decide +kernel
theorem dX7_meetOf_45 : decode cX7_meetOf 45 = .ok (.getfield 208, 3) := by decide +kernel
theorem dX7_meetOf_48 : decode cX7_meetOf 48 = .ok (.if_icmp .ge 47, 3) := by decide +kernel
theorem dX7_meetOf_51 : decode cX7_meetOf 51 = .ok (.aload_n 0, 1) := by decide +kernel
theorem dX7_meetOf_52 : decode cX7_meetOf 52 = .ok (.aload_n 0, 1) := by decide +kernel
theorem dX7_meetOf_53 : decode cX7_meetOf 53 = .ok (.getfield 208, 3) := by decide +kernel
theorem dX7_meetOf_56 : decode cX7_meetOf 56 = .ok (.invokevirtual 152, 3) := by decide +kernel
theorem dX7_meetOf_59 : decode cX7_meetOf 59 = .ok (.ifCond .eq 36, 3) := by decide +kernel
theorem dX7_meetOf_62 : decode cX7_meetOf 62 = .ok (.aload_n 0, 1) := by decide +kernel
theorem dX7_meetOf_63 : decode cX7_meetOf 63 = .ok (.invokevirtual 218, 3) := by decide +kernel
theorem dX7_meetOf_66 : decode cX7_meetOf 66 = .ok (.aload_n 0, 1) := by decide +kernel
theorem dX7_meetOf_67 : decode cX7_meetOf 67 = .ok (.invokevirtual 254, 3) := by decide +kernel
theorem dX7_meetOf_70 : decode cX7_meetOf 70 = .ok (.istore 6, 2) := by decide +kernel
theorem dX7_meetOf_72 : decode cX7_meetOf 72 = .ok (.iload 6, 2) := by decide +kernel
theorem dX7_meetOf_74 : decode cX7_meetOf 74 = .ok (.iload 4, 2) := by decide +kernel
theorem dX7_meetOf_76 : decode cX7_meetOf 76 = .ok (.if_icmp .ge 8, 3) := by decide +kernel
theorem dX7_meetOf_79 : decode cX7_meetOf 79 = .ok (.iload 5, 2) := by decide +kernel
theorem dX7_meetOf_81 : decode cX7_meetOf 81 = .ok (.goto 4, 3) := by decide +kernel
theorem dX7_meetOf_84 : decode cX7_meetOf 84 = .ok (.iload_n 3, 1) := by decide +kernel
theorem dX7_meetOf_85 : decode cX7_meetOf 85 = .ok (.istore_n 3, 1) := by decide +kernel
theorem dX7_meetOf_86 : decode cX7_meetOf 86 = .ok (.iload 6, 2) := by decide +kernel
theorem dX7_meetOf_88 : decode cX7_meetOf 88 = .ok (.iload 4, 2) := by decide +kernel
theorem dX7_meetOf_90 : decode cX7_meetOf 90 = .ok (.invokestatic 183, 3) := by decide +kernel
theorem dX7_meetOf_93 : decode cX7_meetOf 93 = .ok (.istore 4, 2) := by decide +kernel
theorem dX7_meetOf_95 : decode cX7_meetOf 95 = .ok (.iinc 5 1, 3) := by decide +kernel
theorem dX7_meetOf_98 : decode cX7_meetOf 98 = .ok (.goto (-83), 3) := by decide +kernel
theorem dX7_meetOf_101 : decode cX7_meetOf 101 = .ok (.aload_n 0, 1) := by decide +kernel
theorem dX7_meetOf_102 : decode cX7_meetOf 102 = .ok (.iconst (-1), 1) := by decide +kernel
theorem dX7_meetOf_103 : decode cX7_meetOf 103 = .ok (.putfield 70, 3) := by decide +kernel
theorem dX7_meetOf_106 : decode cX7_meetOf 106 = .ok (.iload_n 3, 1) := by decide +kernel
theorem dX7_meetOf_107 : decode cX7_meetOf 107 = .ok (.iconst (-1), 1) := by decide +kernel
theorem dX7_meetOf_108 : decode cX7_meetOf 108 = .ok (.if_icmp .ne 7, 3) := by decide +kernel
theorem dX7_meetOf_111 : decode cX7_meetOf 111 = .ok (.iconst (-1), 1) := by decide +kernel
theorem dX7_meetOf_112 : decode cX7_meetOf 112 = .ok (.goto 28, 3) := by decide +kernel
theorem dX7_meetOf_115 : decode cX7_meetOf 115 = .ok (.iload_n 2, 1) := by decide +kernel
theorem dX7_meetOf_116 : decode cX7_meetOf 116 = .ok (.ifCond .ne 10, 3) := by decide +kernel
theorem dX7_meetOf_119 : decode cX7_meetOf 119 = .ok (.iload_n 3, 1) := by decide +kernel
theorem dX7_meetOf_120 : decode cX7_meetOf 120 = .ok (.bipush 8, 2) := by decide +kernel
theorem dX7_meetOf_122 : decode cX7_meetOf 122 = .ok (.idiv, 1) := by decide +kernel
theorem dX7_meetOf_123 : decode cX7_meetOf 123 = .ok (.goto 17, 3) := by decide +kernel
theorem dX7_meetOf_126 : decode cX7_meetOf 126 = .ok (.iload_n 2, 1) := by decide +kernel
theorem dX7_meetOf_127 : decode cX7_meetOf 127 = .ok (.iconst 1, 1) := by decide +kernel
theorem dX7_meetOf_128 : decode cX7_meetOf 128 = .ok (.if_icmp .ne 10, 3) := by decide +kernel
theorem dX7_meetOf_131 : decode cX7_meetOf 131 = .ok (.iload_n 3, 1) := by decide +kernel
theorem dX7_meetOf_132 : decode cX7_meetOf 132 = .ok (.bipush 8, 2) := by decide +kernel
theorem dX7_meetOf_134 : decode cX7_meetOf 134 = .ok (.irem, 1) := by decide +kernel
theorem dX7_meetOf_135 : decode cX7_meetOf 135 = .ok (.goto 5, 3) := by decide +kernel
theorem dX7_meetOf_138 : decode cX7_meetOf 138 = .ok (.iload 4, 2) := by decide +kernel
theorem dX7_meetOf_140 : decode cX7_meetOf 140 = .ok (.ireturn, 1) := by decide +kernel
theorem dX7_meet_0 : decode cX7_meet 0 = .ok (.aload_n 0, 1) := by decide +kernel
theorem dX7_meet_1 : decode cX7_meet 1 = .ok (.invokevirtual 221, 3) := by decide +kernel
theorem dX7_meet_4 : decode cX7_meet 4 = .ok (.iload_n 1, 1) := by decide +kernel
theorem dX7_meet_5 : decode cX7_meet 5 = .ok (.invokestatic 166, 3) := by decide +kernel
theorem dX7_meet_8 : decode cX7_meet 8 = .ok (.ifCond .eq 24, 3) := by decide +kernel
theorem dX7_meet_11 : decode cX7_meet 11 = .ok (.iload_n 2, 1) := by decide +kernel
theorem dX7_meet_12 : decode cX7_meet 12 = .ok (.i2l, 1) := by decide +kernel
theorem dX7_meet_13 : decode cX7_meet 13 = .ok (.lconst 0, 1) := by decide +kernel
theorem dX7_meet_14 : decode cX7_meet 14 = .ok (.ldc2_w 89, 3) := by decide +kernel
theorem dX7_meet_17 : decode cX7_meet 17 = .ok (.invokestatic 76, 3) := by decide +kernel
theorem dX7_meet_20 : decode cX7_meet 20 = .ok (.ifCond .eq 12, 3) := by decide +kernel
theorem dX7_meet_23 : decode cX7_meet 23 = .ok (.aload_n 0, 1) := by decide +kernel
theorem dX7_meet_24 : decode cX7_meet 24 = .ok (.iload_n 1, 1) := by decide +kernel
theorem dX7_meet_25 : decode cX7_meet 25 = .ok (.iload_n 2, 1) := by decide +kernel
theorem dX7_meet_26 : decode cX7_meet 26 = .ok (.invokevirtual 257, 3) := by decide +kernel
theorem dX7_meet_29 : decode cX7_meet 29 = .ok (.goto 5, 3) := by decide +kernel
theorem dX7_meet_32 : decode cX7_meet 32 = .ok (.bipush (-2), 2) := by decide +kernel
theorem dX7_meet_34 : decode cX7_meet 34 = .ok (.ireturn, 1) := by decide +kernel
theorem dX7_liveOf_0 : decode cX7_liveOf 0 = .ok (.aload_n 0, 1) := by decide +kernel
theorem dX7_liveOf_1 : decode cX7_liveOf 1 = .ok (.getfield 28, 3) := by decide +kernel
theorem dX7_liveOf_4 : decode cX7_liveOf 4 = .ok (.iconst 2, 1) := by decide +kernel
theorem dX7_liveOf_5 : decode cX7_liveOf 5 = .ok (.iload_n 1, 1) := by decide +kernel
theorem dX7_liveOf_6 : decode cX7_liveOf 6 = .ok (.imul, 1) := by decide +kernel
theorem dX7_liveOf_7 : decode cX7_liveOf 7 = .ok (.iconst 1, 1) := by decide +kernel
theorem dX7_liveOf_8 : decode cX7_liveOf 8 = .ok (.iadd, 1) := by decide +kernel
theorem dX7_liveOf_9 : decode cX7_liveOf 9 = .ok (.iaload, 1) := by decide +kernel
theorem dX7_liveOf_10 : decode cX7_liveOf 10 = .ok (.istore_n 2, 1) := by decide +kernel
theorem dX7_liveOf_11 : decode cX7_liveOf 11 = .ok (.iconst (-1), 1) := by decide +kernel
theorem dX7_liveOf_12 : decode cX7_liveOf 12 = .ok (.istore_n 3, 1) := by decide +kernel
theorem dX7_liveOf_13 : decode cX7_liveOf 13 = .ok (.bipush 23, 2) := by decide +kernel
theorem dX7_liveOf_15 : decode cX7_liveOf 15 = .ok (.istore 4, 2) := by decide +kernel
theorem dX7_liveOf_17 : decode cX7_liveOf 17 = .ok (.iload 4, 2) := by decide +kernel
theorem dX7_liveOf_19 : decode cX7_liveOf 19 = .ok (.ifCond .lt 42, 3) := by decide +kernel
theorem dX7_liveOf_22 : decode cX7_liveOf 22 = .ok (.aload_n 0, 1) := by decide +kernel
theorem dX7_liveOf_23 : decode cX7_liveOf 23 = .ok (.getfield 28, 3) := by decide +kernel
theorem dX7_liveOf_26 : decode cX7_liveOf 26 = .ok (.iconst 2, 1) := by decide +kernel
theorem dX7_liveOf_27 : decode cX7_liveOf 27 = .ok (.iload_n 1, 1) := by decide +kernel
theorem dX7_liveOf_28 : decode cX7_liveOf 28 = .ok (.imul, 1) := by decide +kernel
theorem dX7_liveOf_29 : decode cX7_liveOf 29 = .ok (.iconst 1, 1) := by decide +kernel
theorem dX7_liveOf_30 : decode cX7_liveOf 30 = .ok (.iadd, 1) := by decide +kernel
theorem dX7_liveOf_31 : decode cX7_liveOf 31 = .ok (.iload 4, 2) := by decide +kernel
theorem dX7_liveOf_33 : decode cX7_liveOf 33 = .ok (.iastore, 1) := by decide +kernel
theorem dX7_liveOf_34 : decode cX7_liveOf 34 = .ok (.aload_n 0, 1) := by decide +kernel
theorem dX7_liveOf_35 : decode cX7_liveOf 35 = .ok (.invokevirtual 218, 3) := by decide +kernel
theorem dX7_liveOf_38 : decode cX7_liveOf 38 = .ok (.aload_n 0, 1) := by decide +kernel
theorem dX7_liveOf_39 : decode cX7_liveOf 39 = .ok (.bipush 23, 2) := by decide +kernel
theorem dX7_liveOf_41 : decode cX7_liveOf 41 = .ok (.iload_n 1, 1) := by decide +kernel
theorem dX7_liveOf_42 : decode cX7_liveOf 42 = .ok (.invokevirtual 233, 3) := by decide +kernel
theorem dX7_liveOf_45 : decode cX7_liveOf 45 = .ok (.ifCond .eq 7, 3) := by decide +kernel
theorem dX7_liveOf_48 : decode cX7_liveOf 48 = .ok (.iload_n 3, 1) := by decide +kernel
theorem dX7_liveOf_49 : decode cX7_liveOf 49 = .ok (.goto 5, 3) := by decide +kernel
theorem dX7_liveOf_52 : decode cX7_liveOf 52 = .ok (.iload 4, 2) := by decide +kernel
theorem dX7_liveOf_54 : decode cX7_liveOf 54 = .ok (.istore_n 3, 1) := by decide +kernel
theorem dX7_liveOf_55 : decode cX7_liveOf 55 = .ok (.iinc 4 (-1), 3) := by decide +kernel
theorem dX7_liveOf_58 : decode cX7_liveOf 58 = .ok (.goto (-41), 3) := by decide +kernel
theorem dX7_liveOf_61 : decode cX7_liveOf 61 = .ok (.aload_n 0, 1) := by decide +kernel
theorem dX7_liveOf_62 : decode cX7_liveOf 62 = .ok (.getfield 28, 3) := by decide +kernel
theorem dX7_liveOf_65 : decode cX7_liveOf 65 = .ok (.iconst 2, 1) := by decide +kernel
theorem dX7_liveOf_66 : decode cX7_liveOf 66 = .ok (.iload_n 1, 1) := by decide +kernel
theorem dX7_liveOf_67 : decode cX7_liveOf 67 = .ok (.imul, 1) := by decide +kernel
theorem dX7_liveOf_68 : decode cX7_liveOf 68 = .ok (.iconst 1, 1) := by decide +kernel
theorem dX7_liveOf_69 : decode cX7_liveOf 69 = .ok (.iadd, 1) := by decide +kernel
theorem dX7_liveOf_70 : decode cX7_liveOf 70 = .ok (.iload_n 2, 1) := by decide +kernel
theorem dX7_liveOf_71 : decode cX7_liveOf 71 = .ok (.iastore, 1) := by decide +kernel
theorem dX7_liveOf_72 : decode cX7_liveOf 72 = .ok (.iload_n 3, 1) := by decide +kernel
theorem dX7_liveOf_73 : decode cX7_liveOf 73 = .ok (.ireturn, 1) := by decide +kernel
theorem dX7_live_0 : decode cX7_live 0 = .ok (.aload_n 0, 1) := by decide +kernel
theorem dX7_live_1 : decode cX7_live 1 = .ok (.invokevirtual 221, 3) := by decide +kernel
theorem dX7_live_4 : decode cX7_live 4 = .ok (.aload_n 0, 1) := by decide +kernel
theorem dX7_live_5 : decode cX7_live 5 = .ok (.iload_n 1, 1) := by decide +kernel
theorem dX7_live_6 : decode cX7_live 6 = .ok (.invokevirtual 152, 3) := by decide +kernel
theorem dX7_live_9 : decode cX7_live 9 = .ok (.ifCond .eq 11, 3) := by decide +kernel
theorem dX7_live_12 : decode cX7_live 12 = .ok (.aload_n 0, 1) := by decide +kernel
theorem dX7_live_13 : decode cX7_live 13 = .ok (.iload_n 1, 1) := by decide +kernel
theorem dX7_live_14 : decode cX7_live 14 = .ok (.invokevirtual 260, 3) := by decide +kernel
theorem dX7_live_17 : decode cX7_live 17 = .ok (.goto 5, 3) := by decide +kernel
theorem dX7_live_20 : decode cX7_live 20 = .ok (.bipush (-2), 2) := by decide +kernel
theorem dX7_live_22 : decode cX7_live 22 = .ok (.ireturn, 1) := by decide +kernel
theorem dX7_voiceBy_0 : decode cX7_voiceBy 0 = .ok (.iconst (-1), 1) := by decide +kernel
theorem dX7_voiceBy_1 : decode cX7_voiceBy 1 = .ok (.istore_n 2, 1) := by decide +kernel
theorem dX7_voiceBy_2 : decode cX7_voiceBy 2 = .ok (.iconst (-1), 1) := by decide +kernel
theorem dX7_voiceBy_3 : decode cX7_voiceBy 3 = .ok (.istore_n 3, 1) := by decide +kernel
theorem dX7_voiceBy_4 : decode cX7_voiceBy 4 = .ok (.iconst 0, 1) := by decide +kernel
theorem dX7_voiceBy_5 : decode cX7_voiceBy 5 = .ok (.istore 4, 2) := by decide +kernel
theorem dX7_voiceBy_7 : decode cX7_voiceBy 7 = .ok (.iload 4, 2) := by decide +kernel
theorem dX7_voiceBy_9 : decode cX7_voiceBy 9 = .ok (.aload_n 0, 1) := by decide +kernel
theorem dX7_voiceBy_10 : decode cX7_voiceBy 10 = .ok (.getfield 116, 3) := by decide +kernel
theorem dX7_voiceBy_13 : decode cX7_voiceBy 13 = .ok (.if_icmp .ge 72, 3) := by decide +kernel
theorem dX7_voiceBy_16 : decode cX7_voiceBy 16 = .ok (.aload_n 0, 1) := by decide +kernel
theorem dX7_voiceBy_17 : decode cX7_voiceBy 17 = .ok (.getfield 28, 3) := by decide +kernel
theorem dX7_voiceBy_20 : decode cX7_voiceBy 20 = .ok (.iconst 2, 1) := by decide +kernel
theorem dX7_voiceBy_21 : decode cX7_voiceBy 21 = .ok (.iload 4, 2) := by decide +kernel
theorem dX7_voiceBy_23 : decode cX7_voiceBy 23 = .ok (.imul, 1) := by decide +kernel
theorem dX7_voiceBy_24 : decode cX7_voiceBy 24 = .ok (.iaload, 1) := by decide +kernel
theorem dX7_voiceBy_25 : decode cX7_voiceBy 25 = .ok (.istore 5, 2) := by decide +kernel
theorem dX7_voiceBy_27 : decode cX7_voiceBy 27 = .ok (.aload_n 0, 1) := by decide +kernel
theorem dX7_voiceBy_28 : decode cX7_voiceBy 28 = .ok (.getfield 28, 3) := by decide +kernel
theorem dX7_voiceBy_31 : decode cX7_voiceBy 31 = .ok (.iconst 2, 1) := by decide +kernel
theorem dX7_voiceBy_32 : decode cX7_voiceBy 32 = .ok (.iload 4, 2) := by decide +kernel
theorem dX7_voiceBy_34 : decode cX7_voiceBy 34 = .ok (.imul, 1) := by decide +kernel
theorem dX7_voiceBy_35 : decode cX7_voiceBy 35 = .ok (.iconst 3, 1) := by decide +kernel
theorem dX7_voiceBy_36 : decode cX7_voiceBy 36 = .ok (.iastore, 1) := by decide +kernel
theorem dX7_voiceBy_37 : decode cX7_voiceBy 37 = .ok (.aload_n 0, 1) := by decide +kernel
theorem dX7_voiceBy_38 : decode cX7_voiceBy 38 = .ok (.invokevirtual 218, 3) := by decide +kernel
theorem dX7_voiceBy_41 : decode cX7_voiceBy 41 = .ok (.aload_n 0, 1) := by decide +kernel
theorem dX7_voiceBy_42 : decode cX7_voiceBy 42 = .ok (.iconst 1, 1) := by decide +kernel
theorem dX7_voiceBy_43 : decode cX7_voiceBy 43 = .ok (.invokevirtual 263, 3) := by decide +kernel
theorem dX7_voiceBy_46 : decode cX7_voiceBy 46 = .ok (.istore 6, 2) := by decide +kernel
theorem dX7_voiceBy_48 : decode cX7_voiceBy 48 = .ok (.iload 6, 2) := by decide +kernel
theorem dX7_voiceBy_50 : decode cX7_voiceBy 50 = .ok (.iload_n 3, 1) := by decide +kernel
theorem dX7_voiceBy_51 : decode cX7_voiceBy 51 = .ok (.if_icmp .le 8, 3) := by decide +kernel
theorem dX7_voiceBy_54 : decode cX7_voiceBy 54 = .ok (.iload 4, 2) := by decide +kernel
theorem dX7_voiceBy_56 : decode cX7_voiceBy 56 = .ok (.goto 4, 3) := by decide +kernel
theorem dX7_voiceBy_59 : decode cX7_voiceBy 59 = .ok (.iload_n 2, 1) := by decide +kernel
theorem dX7_voiceBy_60 : decode cX7_voiceBy 60 = .ok (.istore_n 2, 1) := by decide +kernel
theorem dX7_voiceBy_61 : decode cX7_voiceBy 61 = .ok (.iload 6, 2) := by decide +kernel
theorem dX7_voiceBy_63 : decode cX7_voiceBy 63 = .ok (.iload_n 3, 1) := by decide +kernel
theorem dX7_voiceBy_64 : decode cX7_voiceBy 64 = .ok (.invokestatic 189, 3) := by decide +kernel
theorem dX7_voiceBy_67 : decode cX7_voiceBy 67 = .ok (.istore_n 3, 1) := by decide +kernel
theorem dX7_voiceBy_68 : decode cX7_voiceBy 68 = .ok (.aload_n 0, 1) := by decide +kernel
theorem dX7_voiceBy_69 : decode cX7_voiceBy 69 = .ok (.getfield 28, 3) := by decide +kernel
theorem dX7_voiceBy_72 : decode cX7_voiceBy 72 = .ok (.iconst 2, 1) := by decide +kernel
theorem dX7_voiceBy_73 : decode cX7_voiceBy 73 = .ok (.iload 4, 2) := by decide +kernel
theorem dX7_voiceBy_75 : decode cX7_voiceBy 75 = .ok (.imul, 1) := by decide +kernel
theorem dX7_voiceBy_76 : decode cX7_voiceBy 76 = .ok (.iload 5, 2) := by decide +kernel
theorem dX7_voiceBy_78 : decode cX7_voiceBy 78 = .ok (.iastore, 1) := by decide +kernel
theorem dX7_voiceBy_79 : decode cX7_voiceBy 79 = .ok (.iinc 4 1, 3) := by decide +kernel
theorem dX7_voiceBy_82 : decode cX7_voiceBy 82 = .ok (.goto (-75), 3) := by decide +kernel
theorem dX7_voiceBy_85 : decode cX7_voiceBy 85 = .ok (.iload_n 1, 1) := by decide +kernel
theorem dX7_voiceBy_86 : decode cX7_voiceBy 86 = .ok (.ifCond .ne 7, 3) := by decide +kernel
theorem dX7_voiceBy_89 : decode cX7_voiceBy 89 = .ok (.iload_n 2, 1) := by decide +kernel
theorem dX7_voiceBy_90 : decode cX7_voiceBy 90 = .ok (.goto 4, 3) := by decide +kernel
theorem dX7_voiceBy_93 : decode cX7_voiceBy 93 = .ok (.iload_n 3, 1) := by decide +kernel
theorem dX7_voiceBy_94 : decode cX7_voiceBy 94 = .ok (.ireturn, 1) := by decide +kernel
theorem dX7_voice_0 : decode cX7_voice 0 = .ok (.aload_n 0, 1) := by decide +kernel
theorem dX7_voice_1 : decode cX7_voice 1 = .ok (.invokevirtual 221, 3) := by decide +kernel
theorem dX7_voice_4 : decode cX7_voice 4 = .ok (.iload_n 1, 1) := by decide +kernel
theorem dX7_voice_5 : decode cX7_voice 5 = .ok (.invokestatic 155, 3) := by decide +kernel
theorem dX7_voice_8 : decode cX7_voice 8 = .ok (.ifCond .eq 11, 3) := by decide +kernel
theorem dX7_voice_11 : decode cX7_voice 11 = .ok (.aload_n 0, 1) := by decide +kernel
theorem dX7_voice_12 : decode cX7_voice 12 = .ok (.iload_n 1, 1) := by decide +kernel
theorem dX7_voice_13 : decode cX7_voice 13 = .ok (.invokevirtual 266, 3) := by decide +kernel
theorem dX7_voice_16 : decode cX7_voice 16 = .ok (.goto 5, 3) := by decide +kernel
theorem dX7_voice_19 : decode cX7_voice 19 = .ok (.bipush (-2), 2) := by decide +kernel
theorem dX7_voice_21 : decode cX7_voice 21 = .ok (.ireturn, 1) := by decide +kernel
theorem dX7_isSpared_0 : decode cX7_isSpared 0 = .ok (.aload_n 0, 1) := by decide +kernel
theorem dX7_isSpared_1 : decode cX7_isSpared 1 = .ok (.iload_n 1, 1) := by decide +kernel
theorem dX7_isSpared_2 : decode cX7_isSpared 2 = .ok (.putfield 176, 3) := by decide +kernel
theorem dX7_isSpared_5 : decode cX7_isSpared 5 = .ok (.aload_n 0, 1) := by decide +kernel
theorem dX7_isSpared_6 : decode cX7_isSpared 6 = .ok (.invokevirtual 218, 3) := by decide +kernel
theorem dX7_isSpared_9 : decode cX7_isSpared 9 = .ok (.aload_n 0, 1) := by decide +kernel
theorem dX7_isSpared_10 : decode cX7_isSpared 10 = .ok (.iconst 0, 1) := by decide +kernel
theorem dX7_isSpared_11 : decode cX7_isSpared 11 = .ok (.putfield 176, 3) := by decide +kernel
theorem dX7_isSpared_14 : decode cX7_isSpared 14 = .ok (.aload_n 0, 1) := by decide +kernel
theorem dX7_isSpared_15 : decode cX7_isSpared 15 = .ok (.iconst 3, 1) := by decide +kernel
theorem dX7_isSpared_16 : decode cX7_isSpared 16 = .ok (.invokevirtual 263, 3) := by decide +kernel
theorem dX7_isSpared_19 : decode cX7_isSpared 19 = .ok (.ifCond .ne 7, 3) := by decide +kernel
theorem dX7_isSpared_22 : decode cX7_isSpared 22 = .ok (.iconst 1, 1) := by decide +kernel
theorem dX7_isSpared_23 : decode cX7_isSpared 23 = .ok (.goto 4, 3) := by decide +kernel
theorem dX7_isSpared_26 : decode cX7_isSpared 26 = .ok (.iconst 0, 1) := by decide +kernel
theorem dX7_isSpared_27 : decode cX7_isSpared 27 = .ok (.ireturn, 1) := by decide +kernel
theorem dX7_spareBy_0 : decode cX7_spareBy 0 = .ok (.aload_n 0, 1) := by decide +kernel
theorem dX7_spareBy_1 : decode cX7_spareBy 1 = .ok (.iconst 0, 1) := by decide +kernel
theorem dX7_spareBy_2 : decode cX7_spareBy 2 = .ok (.invokevirtual 269, 3) := by decide +kernel
theorem dX7_spareBy_5 : decode cX7_spareBy 5 = .ok (.ifCond .eq 14, 3) := by decide +kernel
theorem dX7_spareBy_8 : decode cX7_spareBy 8 = .ok (.iload_n 1, 1) := by decide +kernel
theorem dX7_spareBy_9 : decode cX7_spareBy 9 = .ok (.iconst (-1), 1) := by decide +kernel
theorem dX7_spareBy_10 : decode cX7_spareBy 10 = .ok (.if_icmp .ne 7, 3) := by decide +kernel
theorem dX7_spareBy_13 : decode cX7_spareBy 13 = .ok (.iconst 0, 1) := by decide +kernel
theorem dX7_spareBy_14 : decode cX7_spareBy 14 = .ok (.goto 4, 3) := by decide +kernel
theorem dX7_spareBy_17 : decode cX7_spareBy 17 = .ok (.iconst (-1), 1) := by decide +kernel
theorem dX7_spareBy_18 : decode cX7_spareBy 18 = .ok (.ireturn, 1) := by decide +kernel
theorem dX7_spareBy_19 : decode cX7_spareBy 19 = .ok (.iconst 0, 1) := by decide +kernel
theorem dX7_spareBy_20 : decode cX7_spareBy 20 = .ok (.istore_n 2, 1) := by decide +kernel
theorem dX7_spareBy_21 : decode cX7_spareBy 21 = .ok (.iload_n 2, 1) := by decide +kernel
theorem dX7_spareBy_22 : decode cX7_spareBy 22 = .ok (.aload_n 0, 1) := by decide +kernel
theorem dX7_spareBy_23 : decode cX7_spareBy 23 = .ok (.getfield 171, 3) := by decide +kernel
theorem dX7_spareBy_26 : decode cX7_spareBy 26 = .ok (.if_icmp .ge 38, 3) := by decide +kernel
theorem dX7_spareBy_29 : decode cX7_spareBy 29 = .ok (.aload_n 0, 1) := by decide +kernel
theorem dX7_spareBy_30 : decode cX7_spareBy 30 = .ok (.iconst 1, 1) := by decide +kernel
theorem dX7_spareBy_31 : decode cX7_spareBy 31 = .ok (.iload_n 2, 1) := by decide +kernel
theorem dX7_spareBy_32 : decode cX7_spareBy 32 = .ok (.ishl, 1) := by decide +kernel
theorem dX7_spareBy_33 : decode cX7_spareBy 33 = .ok (.invokevirtual 269, 3) := by decide +kernel
theorem dX7_spareBy_36 : decode cX7_spareBy 36 = .ok (.ifCond .eq 22, 3) := by decide +kernel
theorem dX7_spareBy_39 : decode cX7_spareBy 39 = .ok (.iload_n 1, 1) := by decide +kernel
theorem dX7_spareBy_40 : decode cX7_spareBy 40 = .ok (.iconst (-1), 1) := by decide +kernel
theorem dX7_spareBy_41 : decode cX7_spareBy 41 = .ok (.if_icmp .ne 7, 3) := by decide +kernel
theorem dX7_spareBy_44 : decode cX7_spareBy 44 = .ok (.iconst 1, 1) := by decide +kernel
theorem dX7_spareBy_45 : decode cX7_spareBy 45 = .ok (.goto 12, 3) := by decide +kernel
theorem dX7_spareBy_48 : decode cX7_spareBy 48 = .ok (.iload_n 1, 1) := by decide +kernel
theorem dX7_spareBy_49 : decode cX7_spareBy 49 = .ok (.ifCond .ne 7, 3) := by decide +kernel
theorem dX7_spareBy_52 : decode cX7_spareBy 52 = .ok (.iload_n 2, 1) := by decide +kernel
theorem dX7_spareBy_53 : decode cX7_spareBy 53 = .ok (.goto 4, 3) := by decide +kernel
theorem dX7_spareBy_56 : decode cX7_spareBy 56 = .ok (.iconst (-1), 1) := by decide +kernel
theorem dX7_spareBy_57 : decode cX7_spareBy 57 = .ok (.ireturn, 1) := by decide +kernel
theorem dX7_spareBy_58 : decode cX7_spareBy 58 = .ok (.iinc 2 1, 3) := by decide +kernel
theorem dX7_spareBy_61 : decode cX7_spareBy 61 = .ok (.goto (-40), 3) := by decide +kernel
theorem dX7_spareBy_64 : decode cX7_spareBy 64 = .ok (.iconst 0, 1) := by decide +kernel
theorem dX7_spareBy_65 : decode cX7_spareBy 65 = .ok (.istore_n 2, 1) := by decide +kernel
theorem dX7_spareBy_66 : decode cX7_spareBy 66 = .ok (.iload_n 2, 1) := by decide +kernel
theorem dX7_spareBy_67 : decode cX7_spareBy 67 = .ok (.aload_n 0, 1) := by decide +kernel
theorem dX7_spareBy_68 : decode cX7_spareBy 68 = .ok (.getfield 171, 3) := by decide +kernel
theorem dX7_spareBy_71 : decode cX7_spareBy 71 = .ok (.if_icmp .ge 60, 3) := by decide +kernel
theorem dX7_spareBy_74 : decode cX7_spareBy 74 = .ok (.iload_n 2, 1) := by decide +kernel
theorem dX7_spareBy_75 : decode cX7_spareBy 75 = .ok (.iconst 1, 1) := by decide +kernel
theorem dX7_spareBy_76 : decode cX7_spareBy 76 = .ok (.iadd, 1) := by decide +kernel
theorem dX7_spareBy_77 : decode cX7_spareBy 77 = .ok (.istore_n 3, 1) := by decide +kernel
theorem dX7_spareBy_78 : decode cX7_spareBy 78 = .ok (.iload_n 3, 1) := by decide +kernel
theorem dX7_spareBy_79 : decode cX7_spareBy 79 = .ok (.aload_n 0, 1) := by decide +kernel
theorem dX7_spareBy_80 : decode cX7_spareBy 80 = .ok (.getfield 171, 3) := by decide +kernel
theorem dX7_spareBy_83 : decode cX7_spareBy 83 = .ok (.if_icmp .ge 42, 3) := by decide +kernel
theorem dX7_spareBy_86 : decode cX7_spareBy 86 = .ok (.aload_n 0, 1) := by decide +kernel
theorem dX7_spareBy_87 : decode cX7_spareBy 87 = .ok (.iconst 1, 1) := by decide +kernel
theorem dX7_spareBy_88 : decode cX7_spareBy 88 = .ok (.iload_n 2, 1) := by decide +kernel
theorem dX7_spareBy_89 : decode cX7_spareBy 89 = .ok (.ishl, 1) := by decide +kernel
theorem dX7_spareBy_90 : decode cX7_spareBy 90 = .ok (.iconst 1, 1) := by decide +kernel
theorem dX7_spareBy_91 : decode cX7_spareBy 91 = .ok (.iload_n 3, 1) := by decide +kernel
theorem dX7_spareBy_92 : decode cX7_spareBy 92 = .ok (.ishl, 1) := by decide +kernel
theorem dX7_spareBy_93 : decode cX7_spareBy 93 = .ok (.ior, 1) := by decide +kernel
theorem dX7_spareBy_94 : decode cX7_spareBy 94 = .ok (.invokevirtual 269, 3) := by decide +kernel
theorem dX7_spareBy_97 : decode cX7_spareBy 97 = .ok (.ifCond .eq 22, 3) := by decide +kernel
theorem dX7_spareBy_100 : decode cX7_spareBy 100 = .ok (.iload_n 1, 1) := by decide +kernel
theorem dX7_spareBy_101 : decode cX7_spareBy 101 = .ok (.iconst (-1), 1) := by decide +kernel
theorem dX7_spareBy_102 : decode cX7_spareBy 102 = .ok (.if_icmp .ne 7, 3) := by decide +kernel
theorem dX7_spareBy_105 : decode cX7_spareBy 105 = .ok (.iconst 2, 1) := by decide +kernel
theorem dX7_spareBy_106 : decode cX7_spareBy 106 = .ok (.goto 12, 3) := by decide +kernel
theorem dX7_spareBy_109 : decode cX7_spareBy 109 = .ok (.iload_n 1, 1) := by decide +kernel
theorem dX7_spareBy_110 : decode cX7_spareBy 110 = .ok (.ifCond .ne 7, 3) := by decide +kernel
theorem dX7_spareBy_113 : decode cX7_spareBy 113 = .ok (.iload_n 2, 1) := by decide +kernel
theorem dX7_spareBy_114 : decode cX7_spareBy 114 = .ok (.goto 4, 3) := by decide +kernel
theorem dX7_spareBy_117 : decode cX7_spareBy 117 = .ok (.iload_n 3, 1) := by decide +kernel
theorem dX7_spareBy_118 : decode cX7_spareBy 118 = .ok (.ireturn, 1) := by decide +kernel
theorem dX7_spareBy_119 : decode cX7_spareBy 119 = .ok (.iinc 3 1, 3) := by decide +kernel
theorem dX7_spareBy_122 : decode cX7_spareBy 122 = .ok (.goto (-44), 3) := by decide +kernel
theorem dX7_spareBy_125 : decode cX7_spareBy 125 = .ok (.iinc 2 1, 3) := by decide +kernel
theorem dX7_spareBy_128 : decode cX7_spareBy 128 = .ok (.goto (-62), 3) := by decide +kernel
theorem dX7_spareBy_131 : decode cX7_spareBy 131 = .ok (.iconst (-1), 1) := by decide +kernel
theorem dX7_spareBy_132 : decode cX7_spareBy 132 = .ok (.ireturn, 1) := by decide +kernel
theorem dX7_spare_0 : decode cX7_spare 0 = .ok (.aload_n 0, 1) := by decide +kernel
theorem dX7_spare_1 : decode cX7_spare 1 = .ok (.invokevirtual 221, 3) := by decide +kernel
theorem dX7_spare_4 : decode cX7_spare 4 = .ok (.iload_n 1, 1) := by decide +kernel
theorem dX7_spare_5 : decode cX7_spare 5 = .ok (.i2l, 1) := by decide +kernel
theorem dX7_spare_6 : decode cX7_spare 6 = .ok (.ldc2_w 272, 3) := by decide +kernel
theorem dX7_spare_9 : decode cX7_spare 9 = .ok (.lconst 1, 1) := by decide +kernel
theorem dX7_spare_10 : decode cX7_spare 10 = .ok (.invokestatic 76, 3) := by decide +kernel
theorem dX7_spare_13 : decode cX7_spare 13 = .ok (.ifCond .eq 11, 3) := by decide +kernel
theorem dX7_spare_16 : decode cX7_spare 16 = .ok (.aload_n 0, 1) := by decide +kernel
theorem dX7_spare_17 : decode cX7_spare 17 = .ok (.iload_n 1, 1) := by decide +kernel
theorem dX7_spare_18 : decode cX7_spare 18 = .ok (.invokevirtual 274, 3) := by decide +kernel
theorem dX7_spare_21 : decode cX7_spare 21 = .ok (.goto 5, 3) := by decide +kernel
theorem dX7_spare_24 : decode cX7_spare 24 = .ok (.bipush (-2), 2) := by decide +kernel
theorem dX7_spare_26 : decode cX7_spare 26 = .ok (.ireturn, 1) := by decide +kernel
theorem dX7_tally_0 : decode cX7_tally 0 = .ok (.iload_n 1, 1) := by decide +kernel
theorem dX7_tally_1 : decode cX7_tally 1 = .ok (.invokestatic 166, 3) := by decide +kernel
theorem dX7_tally_4 : decode cX7_tally 4 = .ok (.ifCond .eq 27, 3) := by decide +kernel
theorem dX7_tally_7 : decode cX7_tally 7 = .ok (.iload_n 2, 1) := by decide +kernel
theorem dX7_tally_8 : decode cX7_tally 8 = .ok (.i2l, 1) := by decide +kernel
theorem dX7_tally_9 : decode cX7_tally 9 = .ok (.lconst 0, 1) := by decide +kernel
theorem dX7_tally_10 : decode cX7_tally 10 = .ok (.ldc2_w 161, 3) := by decide +kernel
theorem dX7_tally_13 : decode cX7_tally 13 = .ok (.invokestatic 76, 3) := by decide +kernel
theorem dX7_tally_16 : decode cX7_tally 16 = .ok (.ifCond .eq 15, 3) := by decide +kernel
theorem dX7_tally_19 : decode cX7_tally 19 = .ok (.iload_n 3, 1) := by decide +kernel
theorem dX7_tally_20 : decode cX7_tally 20 = .ok (.i2l, 1) := by decide +kernel
theorem dX7_tally_21 : decode cX7_tally 21 = .ok (.lconst 0, 1) := by decide +kernel
theorem dX7_tally_22 : decode cX7_tally 22 = .ok (.ldc2_w 277, 3) := by decide +kernel
theorem dX7_tally_25 : decode cX7_tally 25 = .ok (.invokestatic 76, 3) := by decide +kernel
theorem dX7_tally_28 : decode cX7_tally 28 = .ok (.ifCond .ne 6, 3) := by decide +kernel
theorem dX7_tally_31 : decode cX7_tally 31 = .ok (.bipush (-2), 2) := by decide +kernel
theorem dX7_tally_33 : decode cX7_tally 33 = .ok (.ireturn, 1) := by decide +kernel
theorem dX7_tally_34 : decode cX7_tally 34 = .ok (.aload_n 0, 1) := by decide +kernel
theorem dX7_tally_35 : decode cX7_tally 35 = .ok (.getfield 279, 3) := by decide +kernel
theorem dX7_tally_38 : decode cX7_tally 38 = .ok (.bipush 8, 2) := by decide +kernel
theorem dX7_tally_40 : decode cX7_tally 40 = .ok (.if_icmp .ne 6, 3) := by decide +kernel
theorem dX7_tally_43 : decode cX7_tally 43 = .ok (.bipush (-4), 2) := by decide +kernel
theorem dX7_tally_45 : decode cX7_tally 45 = .ok (.ireturn, 1) := by decide +kernel
theorem dX7_tally_46 : decode cX7_tally 46 = .ok (.aload_n 0, 1) := by decide +kernel
theorem dX7_tally_47 : decode cX7_tally 47 = .ok (.getfield 64, 3) := by decide +kernel
theorem dX7_tally_50 : decode cX7_tally 50 = .ok (.iconst 3, 1) := by decide +kernel
theorem dX7_tally_51 : decode cX7_tally 51 = .ok (.aload_n 0, 1) := by decide +kernel
theorem dX7_tally_52 : decode cX7_tally 52 = .ok (.getfield 279, 3) := by decide +kernel
theorem dX7_tally_55 : decode cX7_tally 55 = .ok (.imul, 1) := by decide +kernel
theorem dX7_tally_56 : decode cX7_tally 56 = .ok (.iload_n 1, 1) := by decide +kernel
theorem dX7_tally_57 : decode cX7_tally 57 = .ok (.iastore, 1) := by decide +kernel
theorem dX7_tally_58 : decode cX7_tally 58 = .ok (.aload_n 0, 1) := by decide +kernel
theorem dX7_tally_59 : decode cX7_tally 59 = .ok (.getfield 64, 3) := by decide +kernel
theorem dX7_tally_62 : decode cX7_tally 62 = .ok (.iconst 3, 1) := by decide +kernel
theorem dX7_tally_63 : decode cX7_tally 63 = .ok (.aload_n 0, 1) := by decide +kernel
theorem dX7_tally_64 : decode cX7_tally 64 = .ok (.getfield 279, 3) := by decide +kernel
theorem dX7_tally_67 : decode cX7_tally 67 = .ok (.imul, 1) := by decide +kernel
theorem dX7_tally_68 : decode cX7_tally 68 = .ok (.iconst 1, 1) := by decide +kernel
theorem dX7_tally_69 : decode cX7_tally 69 = .ok (.iadd, 1) := by decide +kernel
theorem dX7_tally_70 : decode cX7_tally 70 = .ok (.iload_n 2, 1) := by decide +kernel
theorem dX7_tally_71 : decode cX7_tally 71 = .ok (.iastore, 1) := by decide +kernel
theorem dX7_tally_72 : decode cX7_tally 72 = .ok (.aload_n 0, 1) := by decide +kernel
theorem dX7_tally_73 : decode cX7_tally 73 = .ok (.getfield 64, 3) := by decide +kernel
theorem dX7_tally_76 : decode cX7_tally 76 = .ok (.iconst 3, 1) := by decide +kernel
theorem dX7_tally_77 : decode cX7_tally 77 = .ok (.aload_n 0, 1) := by decide +kernel
theorem dX7_tally_78 : decode cX7_tally 78 = .ok (.getfield 279, 3) := by decide +kernel
theorem dX7_tally_81 : decode cX7_tally 81 = .ok (.imul, 1) := by decide +kernel
theorem dX7_tally_82 : decode cX7_tally 82 = .ok (.iconst 2, 1) := by decide +kernel
theorem dX7_tally_83 : decode cX7_tally 83 = .ok (.iadd, 1) := by decide +kernel
theorem dX7_tally_84 : decode cX7_tally 84 = .ok (.iload_n 3, 1) := by decide +kernel
theorem dX7_tally_85 : decode cX7_tally 85 = .ok (.iastore, 1) := by decide +kernel
theorem dX7_tally_86 : decode cX7_tally 86 = .ok (.aload_n 0, 1) := by decide +kernel
theorem dX7_tally_87 : decode cX7_tally 87 = .ok (.dup, 1) := by decide +kernel
theorem dX7_tally_88 : decode cX7_tally 88 = .ok (.getfield 279, 3) := by decide +kernel
theorem dX7_tally_91 : decode cX7_tally 91 = .ok (.iconst 1, 1) := by decide +kernel
theorem dX7_tally_92 : decode cX7_tally 92 = .ok (.iadd, 1) := by decide +kernel
theorem dX7_tally_93 : decode cX7_tally 93 = .ok (.putfield 279, 3) := by decide +kernel
theorem dX7_tally_96 : decode cX7_tally 96 = .ok (.aload_n 0, 1) := by decide +kernel
theorem dX7_tally_97 : decode cX7_tally 97 = .ok (.getfield 279, 3) := by decide +kernel
theorem dX7_tally_100 : decode cX7_tally 100 = .ok (.ireturn, 1) := by decide +kernel
theorem dX7_forget_0 : decode cX7_forget 0 = .ok (.aload_n 0, 1) := by decide +kernel
theorem dX7_forget_1 : decode cX7_forget 1 = .ok (.getfield 279, 3) := by decide +kernel
theorem dX7_forget_4 : decode cX7_forget 4 = .ok (.istore_n 1, 1) := by decide +kernel
theorem dX7_forget_5 : decode cX7_forget 5 = .ok (.aload_n 0, 1) := by decide +kernel
theorem dX7_forget_6 : decode cX7_forget 6 = .ok (.iconst 0, 1) := by decide +kernel
theorem dX7_forget_7 : decode cX7_forget 7 = .ok (.putfield 279, 3) := by decide +kernel
theorem dX7_forget_10 : decode cX7_forget 10 = .ok (.iload_n 1, 1) := by decide +kernel
theorem dX7_forget_11 : decode cX7_forget 11 = .ok (.ireturn, 1) := by decide +kernel
theorem dX7_isCounted_0 : decode cX7_isCounted 0 = .ok (.aload_n 0, 1) := by decide +kernel
theorem dX7_isCounted_1 : decode cX7_isCounted 1 = .ok (.invokevirtual 218, 3) := by decide +kernel
theorem dX7_isCounted_4 : decode cX7_isCounted 4 = .ok (.iconst 1, 1) := by decide +kernel
theorem dX7_isCounted_5 : decode cX7_isCounted 5 = .ok (.istore_n 1, 1) := by decide +kernel
theorem dX7_isCounted_6 : decode cX7_isCounted 6 = .ok (.iconst 0, 1) := by decide +kernel
theorem dX7_isCounted_7 : decode cX7_isCounted 7 = .ok (.istore_n 2, 1) := by decide +kernel
theorem dX7_isCounted_8 : decode cX7_isCounted 8 = .ok (.iload_n 2, 1) := by decide +kernel
theorem dX7_isCounted_9 : decode cX7_isCounted 9 = .ok (.aload_n 0, 1) := by decide +kernel
theorem dX7_isCounted_10 : decode cX7_isCounted 10 = .ok (.getfield 279, 3) := by decide +kernel
theorem dX7_isCounted_13 : decode cX7_isCounted 13 = .ok (.if_icmp .ge 69, 3) := by decide +kernel
theorem dX7_isCounted_16 : decode cX7_isCounted 16 = .ok (.aload_n 0, 1) := by decide +kernel
theorem dX7_isCounted_17 : decode cX7_isCounted 17 = .ok (.getfield 64, 3) := by decide +kernel
theorem dX7_isCounted_20 : decode cX7_isCounted 20 = .ok (.iconst 3, 1) := by decide +kernel
theorem dX7_isCounted_21 : decode cX7_isCounted 21 = .ok (.iload_n 2, 1) := by decide +kernel
theorem dX7_isCounted_22 : decode cX7_isCounted 22 = .ok (.imul, 1) := by decide +kernel
theorem dX7_isCounted_23 : decode cX7_isCounted 23 = .ok (.iconst 1, 1) := by decide +kernel
theorem dX7_isCounted_24 : decode cX7_isCounted 24 = .ok (.iadd, 1) := by decide +kernel
theorem dX7_isCounted_25 : decode cX7_isCounted 25 = .ok (.iaload, 1) := by decide +kernel
theorem dX7_isCounted_26 : decode cX7_isCounted 26 = .ok (.istore_n 3, 1) := by decide +kernel
theorem dX7_isCounted_27 : decode cX7_isCounted 27 = .ok (.iload_n 1, 1) := by decide +kernel
theorem dX7_isCounted_28 : decode cX7_isCounted 28 = .ok (.ifCond .eq 46, 3) := by decide +kernel
theorem dX7_isCounted_31 : decode cX7_isCounted 31 = .ok (.aload_n 0, 1) := by decide +kernel
theorem dX7_isCounted_32 : decode cX7_isCounted 32 = .ok (.iload_n 3, 1) := by decide +kernel
theorem dX7_isCounted_33 : decode cX7_isCounted 33 = .ok (.invokevirtual 158, 3) := by decide +kernel
theorem dX7_isCounted_36 : decode cX7_isCounted 36 = .ok (.ifCond .eq 38, 3) := by decide +kernel
theorem dX7_isCounted_39 : decode cX7_isCounted 39 = .ok (.aload_n 0, 1) := by decide +kernel
theorem dX7_isCounted_40 : decode cX7_isCounted 40 = .ok (.getfield 55, 3) := by decide +kernel
theorem dX7_isCounted_43 : decode cX7_isCounted 43 = .ok (.bipush 12, 2) := by decide +kernel
theorem dX7_isCounted_45 : decode cX7_isCounted 45 = .ok (.aload_n 0, 1) := by decide +kernel
theorem dX7_isCounted_46 : decode cX7_isCounted 46 = .ok (.getfield 64, 3) := by decide +kernel
theorem dX7_isCounted_49 : decode cX7_isCounted 49 = .ok (.iconst 3, 1) := by decide +kernel
theorem dX7_isCounted_50 : decode cX7_isCounted 50 = .ok (.iload_n 2, 1) := by decide +kernel
theorem dX7_isCounted_51 : decode cX7_isCounted 51 = .ok (.imul, 1) := by decide +kernel
theorem dX7_isCounted_52 : decode cX7_isCounted 52 = .ok (.iaload, 1) := by decide +kernel
theorem dX7_isCounted_53 : decode cX7_isCounted 53 = .ok (.imul, 1) := by decide +kernel
theorem dX7_isCounted_54 : decode cX7_isCounted 54 = .ok (.iload_n 3, 1) := by decide +kernel
theorem dX7_isCounted_55 : decode cX7_isCounted 55 = .ok (.iadd, 1) := by decide +kernel
theorem dX7_isCounted_56 : decode cX7_isCounted 56 = .ok (.iaload, 1) := by decide +kernel
theorem dX7_isCounted_57 : decode cX7_isCounted 57 = .ok (.aload_n 0, 1) := by decide +kernel
theorem dX7_isCounted_58 : decode cX7_isCounted 58 = .ok (.getfield 64, 3) := by decide +kernel
theorem dX7_isCounted_61 : decode cX7_isCounted 61 = .ok (.iconst 3, 1) := by decide +kernel
theorem dX7_isCounted_62 : decode cX7_isCounted 62 = .ok (.iload_n 2, 1) := by decide +kernel
theorem dX7_isCounted_63 : decode cX7_isCounted 63 = .ok (.imul, 1) := by decide +kernel
theorem dX7_isCounted_64 : decode cX7_isCounted 64 = .ok (.iconst 2, 1) := by decide +kernel
theorem dX7_isCounted_65 : decode cX7_isCounted 65 = .ok (.iadd, 1) := by decide +kernel
theorem dX7_isCounted_66 : decode cX7_isCounted 66 = .ok (.iaload, 1) := by decide +kernel
theorem dX7_isCounted_67 : decode cX7_isCounted 67 = .ok (.if_icmp .ne 7, 3) := by decide +kernel
theorem dX7_isCounted_70 : decode cX7_isCounted 70 = .ok (.iconst 1, 1) := by decide +kernel
theorem dX7_isCounted_71 : decode cX7_isCounted 71 = .ok (.goto 4, 3) := by decide +kernel
theorem dX7_isCounted_74 : decode cX7_isCounted 74 = .ok (.iconst 0, 1) := by decide +kernel
theorem dX7_isCounted_75 : decode cX7_isCounted 75 = .ok (.istore_n 1, 1) := by decide +kernel
theorem dX7_isCounted_76 : decode cX7_isCounted 76 = .ok (.iinc 2 1, 3) := by decide +kernel
theorem dX7_isCounted_79 : decode cX7_isCounted 79 = .ok (.goto (-71), 3) := by decide +kernel
theorem dX7_isCounted_82 : decode cX7_isCounted 82 = .ok (.iload_n 1, 1) := by decide +kernel
theorem dX7_isCounted_83 : decode cX7_isCounted 83 = .ok (.ireturn, 1) := by decide +kernel
theorem dX7_neverNow_0 : decode cX7_neverNow 0 = .ok (.iconst 0, 1) := by decide +kernel
theorem dX7_neverNow_1 : decode cX7_neverNow 1 = .ok (.istore_n 1, 1) := by decide +kernel
theorem dX7_neverNow_2 : decode cX7_neverNow 2 = .ok (.iconst 0, 1) := by decide +kernel
theorem dX7_neverNow_3 : decode cX7_neverNow 3 = .ok (.istore_n 2, 1) := by decide +kernel
theorem dX7_neverNow_4 : decode cX7_neverNow 4 = .ok (.iload_n 2, 1) := by decide +kernel
theorem dX7_neverNow_5 : decode cX7_neverNow 5 = .ok (.aload_n 0, 1) := by decide +kernel
theorem dX7_neverNow_6 : decode cX7_neverNow 6 = .ok (.getfield 171, 3) := by decide +kernel
theorem dX7_neverNow_9 : decode cX7_neverNow 9 = .ok (.if_icmp .ge 33, 3) := by decide +kernel
theorem dX7_neverNow_12 : decode cX7_neverNow 12 = .ok (.aload_n 0, 1) := by decide +kernel
theorem dX7_neverNow_13 : decode cX7_neverNow 13 = .ok (.iconst 1, 1) := by decide +kernel
theorem dX7_neverNow_14 : decode cX7_neverNow 14 = .ok (.iload_n 2, 1) := by decide +kernel
theorem dX7_neverNow_15 : decode cX7_neverNow 15 = .ok (.ishl, 1) := by decide +kernel
theorem dX7_neverNow_16 : decode cX7_neverNow 16 = .ok (.putfield 176, 3) := by decide +kernel
theorem dX7_neverNow_19 : decode cX7_neverNow 19 = .ok (.iload_n 1, 1) := by decide +kernel
theorem dX7_neverNow_20 : decode cX7_neverNow 20 = .ok (.aload_n 0, 1) := by decide +kernel
theorem dX7_neverNow_21 : decode cX7_neverNow 21 = .ok (.invokevirtual 282, 3) := by decide +kernel
theorem dX7_neverNow_24 : decode cX7_neverNow 24 = .ok (.ifCond .eq 9, 3) := by decide +kernel
theorem dX7_neverNow_27 : decode cX7_neverNow 27 = .ok (.iconst 1, 1) := by decide +kernel
theorem dX7_neverNow_28 : decode cX7_neverNow 28 = .ok (.iload_n 2, 1) := by decide +kernel
theorem dX7_neverNow_29 : decode cX7_neverNow 29 = .ok (.ishl, 1) := by decide +kernel
theorem dX7_neverNow_30 : decode cX7_neverNow 30 = .ok (.goto 4, 3) := by decide +kernel
theorem dX7_neverNow_33 : decode cX7_neverNow 33 = .ok (.iconst 0, 1) := by decide +kernel
theorem dX7_neverNow_34 : decode cX7_neverNow 34 = .ok (.ior, 1) := by decide +kernel
theorem dX7_neverNow_35 : decode cX7_neverNow 35 = .ok (.istore_n 1, 1) := by decide +kernel
theorem dX7_neverNow_36 : decode cX7_neverNow 36 = .ok (.iinc 2 1, 3) := by decide +kernel
theorem dX7_neverNow_39 : decode cX7_neverNow 39 = .ok (.goto (-35), 3) := by decide +kernel
theorem dX7_neverNow_42 : decode cX7_neverNow 42 = .ok (.aload_n 0, 1) := by decide +kernel
theorem dX7_neverNow_43 : decode cX7_neverNow 43 = .ok (.iconst 0, 1) := by decide +kernel
theorem dX7_neverNow_44 : decode cX7_neverNow 44 = .ok (.putfield 176, 3) := by decide +kernel
theorem dX7_neverNow_47 : decode cX7_neverNow 47 = .ok (.iload_n 1, 1) := by decide +kernel
theorem dX7_neverNow_48 : decode cX7_neverNow 48 = .ok (.ireturn, 1) := by decide +kernel
theorem dX7_never_0 : decode cX7_never 0 = .ok (.aload_n 0, 1) := by decide +kernel
theorem dX7_never_1 : decode cX7_never 1 = .ok (.invokevirtual 221, 3) := by decide +kernel
theorem dX7_never_4 : decode cX7_never 4 = .ok (.aload_n 0, 1) := by decide +kernel
theorem dX7_never_5 : decode cX7_never 5 = .ok (.invokevirtual 286, 3) := by decide +kernel
theorem dX7_never_8 : decode cX7_never 8 = .ok (.ireturn, 1) := by decide +kernel
theorem dX7_sortOf_0 : decode cX7_sortOf 0 = .ok (.aload_n 0, 1) := by decide +kernel
theorem dX7_sortOf_1 : decode cX7_sortOf 1 = .ok (.getfield 28, 3) := by decide +kernel
theorem dX7_sortOf_4 : decode cX7_sortOf 4 = .ok (.iconst 2, 1) := by decide +kernel
theorem dX7_sortOf_5 : decode cX7_sortOf 5 = .ok (.iload_n 1, 1) := by decide +kernel
theorem dX7_sortOf_6 : decode cX7_sortOf 6 = .ok (.imul, 1) := by decide +kernel
theorem dX7_sortOf_7 : decode cX7_sortOf 7 = .ok (.iaload, 1) := by decide +kernel
theorem dX7_sortOf_8 : decode cX7_sortOf 8 = .ok (.istore_n 2, 1) := by decide +kernel
theorem dX7_sortOf_9 : decode cX7_sortOf 9 = .ok (.iconst 0, 1) := by decide +kernel
theorem dX7_sortOf_10 : decode cX7_sortOf 10 = .ok (.istore_n 3, 1) := by decide +kernel
theorem dX7_sortOf_11 : decode cX7_sortOf 11 = .ok (.iconst 0, 1) := by decide +kernel
theorem dX7_sortOf_12 : decode cX7_sortOf 12 = .ok (.istore 4, 2) := by decide +kernel
theorem dX7_sortOf_14 : decode cX7_sortOf 14 = .ok (.iload 4, 2) := by decide +kernel
theorem dX7_sortOf_16 : decode cX7_sortOf 16 = .ok (.iconst 4, 1) := by decide +kernel
theorem dX7_sortOf_17 : decode cX7_sortOf 17 = .ok (.if_icmp .ge 37, 3) := by decide +kernel
theorem dX7_sortOf_20 : decode cX7_sortOf 20 = .ok (.aload_n 0, 1) := by decide +kernel
theorem dX7_sortOf_21 : decode cX7_sortOf 21 = .ok (.getfield 28, 3) := by decide +kernel
theorem dX7_sortOf_24 : decode cX7_sortOf 24 = .ok (.iconst 2, 1) := by decide +kernel
theorem dX7_sortOf_25 : decode cX7_sortOf 25 = .ok (.iload_n 1, 1) := by decide +kernel
theorem dX7_sortOf_26 : decode cX7_sortOf 26 = .ok (.imul, 1) := by decide +kernel
theorem dX7_sortOf_27 : decode cX7_sortOf 27 = .ok (.iload 4, 2) := by decide +kernel
theorem dX7_sortOf_29 : decode cX7_sortOf 29 = .ok (.iastore, 1) := by decide +kernel
theorem dX7_sortOf_30 : decode cX7_sortOf 30 = .ok (.iload_n 3, 1) := by decide +kernel
theorem dX7_sortOf_31 : decode cX7_sortOf 31 = .ok (.aload_n 0, 1) := by decide +kernel
theorem dX7_sortOf_32 : decode cX7_sortOf 32 = .ok (.invokevirtual 282, 3) := by decide +kernel
theorem dX7_sortOf_35 : decode cX7_sortOf 35 = .ok (.ifCond .eq 10, 3) := by decide +kernel
theorem dX7_sortOf_38 : decode cX7_sortOf 38 = .ok (.iconst 1, 1) := by decide +kernel
theorem dX7_sortOf_39 : decode cX7_sortOf 39 = .ok (.iload 4, 2) := by decide +kernel
theorem dX7_sortOf_41 : decode cX7_sortOf 41 = .ok (.ishl, 1) := by decide +kernel
theorem dX7_sortOf_42 : decode cX7_sortOf 42 = .ok (.goto 4, 3) := by decide +kernel
theorem dX7_sortOf_45 : decode cX7_sortOf 45 = .ok (.iconst 0, 1) := by decide +kernel
theorem dX7_sortOf_46 : decode cX7_sortOf 46 = .ok (.ior, 1) := by decide +kernel
theorem dX7_sortOf_47 : decode cX7_sortOf 47 = .ok (.istore_n 3, 1) := by decide +kernel
theorem dX7_sortOf_48 : decode cX7_sortOf 48 = .ok (.iinc 4 1, 3) := by decide +kernel
theorem dX7_sortOf_51 : decode cX7_sortOf 51 = .ok (.goto (-37), 3) := by decide +kernel
theorem dX7_sortOf_54 : decode cX7_sortOf 54 = .ok (.aload_n 0, 1) := by decide +kernel
theorem dX7_sortOf_55 : decode cX7_sortOf 55 = .ok (.getfield 28, 3) := by decide +kernel
theorem dX7_sortOf_58 : decode cX7_sortOf 58 = .ok (.iconst 2, 1) := by decide +kernel
theorem dX7_sortOf_59 : decode cX7_sortOf 59 = .ok (.iload_n 1, 1) := by decide +kernel
theorem dX7_sortOf_60 : decode cX7_sortOf 60 = .ok (.imul, 1) := by decide +kernel
theorem dX7_sortOf_61 : decode cX7_sortOf 61 = .ok (.iload_n 2, 1) := by decide +kernel
theorem dX7_sortOf_62 : decode cX7_sortOf 62 = .ok (.iastore, 1) := by decide +kernel
theorem dX7_sortOf_63 : decode cX7_sortOf 63 = .ok (.iload_n 3, 1) := by decide +kernel
theorem dX7_sortOf_64 : decode cX7_sortOf 64 = .ok (.ireturn, 1) := by decide +kernel
theorem dX7_sort_0 : decode cX7_sort 0 = .ok (.aload_n 0, 1) := by decide +kernel
theorem dX7_sort_1 : decode cX7_sort 1 = .ok (.invokevirtual 221, 3) := by decide +kernel
theorem dX7_sort_4 : decode cX7_sort 4 = .ok (.aload_n 0, 1) := by decide +kernel
theorem dX7_sort_5 : decode cX7_sort 5 = .ok (.iload_n 1, 1) := by decide +kernel
theorem dX7_sort_6 : decode cX7_sort 6 = .ok (.invokevirtual 152, 3) := by decide +kernel
theorem dX7_sort_9 : decode cX7_sort 9 = .ok (.ifCond .eq 11, 3) := by decide +kernel
theorem dX7_sort_12 : decode cX7_sort 12 = .ok (.aload_n 0, 1) := by decide +kernel
theorem dX7_sort_13 : decode cX7_sort 13 = .ok (.iload_n 1, 1) := by decide +kernel
theorem dX7_sort_14 : decode cX7_sort 14 = .ok (.invokevirtual 289, 3) := by decide +kernel
theorem dX7_sort_17 : decode cX7_sort 17 = .ok (.goto 5, 3) := by decide +kernel
theorem dX7_sort_20 : decode cX7_sort 20 = .ok (.bipush (-2), 2) := by decide +kernel
theorem dX7_sort_22 : decode cX7_sort 22 = .ok (.ireturn, 1) := by decide +kernel
theorem dX7_lentOf_0 : decode cX7_lentOf 0 = .ok (.aload_n 0, 1) := by decide +kernel
theorem dX7_lentOf_1 : decode cX7_lentOf 1 = .ok (.getfield 31, 3) := by decide +kernel
theorem dX7_lentOf_4 : decode cX7_lentOf 4 = .ok (.iconst 3, 1) := by decide +kernel
theorem dX7_lentOf_5 : decode cX7_lentOf 5 = .ok (.iload_n 1, 1) := by decide +kernel
theorem dX7_lentOf_6 : decode cX7_lentOf 6 = .ok (.imul, 1) := by decide +kernel
theorem dX7_lentOf_7 : decode cX7_lentOf 7 = .ok (.iconst 2, 1) := by decide +kernel
theorem dX7_lentOf_8 : decode cX7_lentOf 8 = .ok (.iadd, 1) := by decide +kernel
theorem dX7_lentOf_9 : decode cX7_lentOf 9 = .ok (.iaload, 1) := by decide +kernel
theorem dX7_lentOf_10 : decode cX7_lentOf 10 = .ok (.istore_n 2, 1) := by decide +kernel
theorem dX7_lentOf_11 : decode cX7_lentOf 11 = .ok (.iconst 0, 1) := by decide +kernel
theorem dX7_lentOf_12 : decode cX7_lentOf 12 = .ok (.istore_n 3, 1) := by decide +kernel
theorem dX7_lentOf_13 : decode cX7_lentOf 13 = .ok (.iconst 1, 1) := by decide +kernel
theorem dX7_lentOf_14 : decode cX7_lentOf 14 = .ok (.istore 4, 2) := by decide +kernel
theorem dX7_lentOf_16 : decode cX7_lentOf 16 = .ok (.iload 4, 2) := by decide +kernel
theorem dX7_lentOf_18 : decode cX7_lentOf 18 = .ok (.bipush 10, 2) := by decide +kernel
theorem dX7_lentOf_20 : decode cX7_lentOf 20 = .ok (.if_icmp .ge 80, 3) := by decide +kernel
theorem dX7_lentOf_23 : decode cX7_lentOf 23 = .ok (.aload_n 0, 1) := by decide +kernel
theorem dX7_lentOf_24 : decode cX7_lentOf 24 = .ok (.getfield 31, 3) := by decide +kernel
theorem dX7_lentOf_27 : decode cX7_lentOf 27 = .ok (.iconst 3, 1) := by decide +kernel
theorem dX7_lentOf_28 : decode cX7_lentOf 28 = .ok (.iload_n 1, 1) := by decide +kernel
theorem dX7_lentOf_29 : decode cX7_lentOf 29 = .ok (.imul, 1) := by decide +kernel
theorem dX7_lentOf_30 : decode cX7_lentOf 30 = .ok (.iconst 2, 1) := by decide +kernel
theorem dX7_lentOf_31 : decode cX7_lentOf 31 = .ok (.iadd, 1) := by decide +kernel
theorem dX7_lentOf_32 : decode cX7_lentOf 32 = .ok (.iload 4, 2) := by decide +kernel
theorem dX7_lentOf_34 : decode cX7_lentOf 34 = .ok (.iastore, 1) := by decide +kernel
theorem dX7_lentOf_35 : decode cX7_lentOf 35 = .ok (.iload_n 3, 1) := by decide +kernel
theorem dX7_lentOf_36 : decode cX7_lentOf 36 = .ok (.aload_n 0, 1) := by decide +kernel
theorem dX7_lentOf_37 : decode cX7_lentOf 37 = .ok (.invokevirtual 282, 3) := by decide +kernel
theorem dX7_lentOf_40 : decode cX7_lentOf 40 = .ok (.ifCond .eq 10, 3) := by decide +kernel
theorem dX7_lentOf_43 : decode cX7_lentOf 43 = .ok (.iconst 1, 1) := by decide +kernel
theorem dX7_lentOf_44 : decode cX7_lentOf 44 = .ok (.iload 4, 2) := by decide +kernel
theorem dX7_lentOf_46 : decode cX7_lentOf 46 = .ok (.ishl, 1) := by decide +kernel
theorem dX7_lentOf_47 : decode cX7_lentOf 47 = .ok (.goto 4, 3) := by decide +kernel
theorem dX7_lentOf_50 : decode cX7_lentOf 50 = .ok (.iconst 0, 1) := by decide +kernel
theorem dX7_lentOf_51 : decode cX7_lentOf 51 = .ok (.ior, 1) := by decide +kernel
theorem dX7_lentOf_52 : decode cX7_lentOf 52 = .ok (.istore_n 3, 1) := by decide +kernel
theorem dX7_lentOf_53 : decode cX7_lentOf 53 = .ok (.iconst 0, 1) := by decide +kernel
theorem dX7_lentOf_54 : decode cX7_lentOf 54 = .ok (.istore 5, 2) := by decide +kernel
theorem dX7_lentOf_56 : decode cX7_lentOf 56 = .ok (.iload 5, 2) := by decide +kernel
theorem dX7_lentOf_58 : decode cX7_lentOf 58 = .ok (.bipush 24, 2) := by decide +kernel
theorem dX7_lentOf_60 : decode cX7_lentOf 60 = .ok (.if_icmp .ge 34, 3) := by decide +kernel
theorem dX7_lentOf_63 : decode cX7_lentOf 63 = .ok (.aload_n 0, 1) := by decide +kernel
theorem dX7_lentOf_64 : decode cX7_lentOf 64 = .ok (.getfield 67, 3) := by decide +kernel
theorem dX7_lentOf_67 : decode cX7_lentOf 67 = .ok (.bipush 24, 2) := by decide +kernel
theorem dX7_lentOf_69 : decode cX7_lentOf 69 = .ok (.iload 4, 2) := by decide +kernel
theorem dX7_lentOf_71 : decode cX7_lentOf 71 = .ok (.imul, 1) := by decide +kernel
theorem dX7_lentOf_72 : decode cX7_lentOf 72 = .ok (.iload 5, 2) := by decide +kernel
theorem dX7_lentOf_74 : decode cX7_lentOf 74 = .ok (.iadd, 1) := by decide +kernel
theorem dX7_lentOf_75 : decode cX7_lentOf 75 = .ok (.aload_n 0, 1) := by decide +kernel
theorem dX7_lentOf_76 : decode cX7_lentOf 76 = .ok (.getfield 55, 3) := by decide +kernel
theorem dX7_lentOf_79 : decode cX7_lentOf 79 = .ok (.bipush 12, 2) := by decide +kernel
theorem dX7_lentOf_81 : decode cX7_lentOf 81 = .ok (.iload 5, 2) := by decide +kernel
theorem dX7_lentOf_83 : decode cX7_lentOf 83 = .ok (.imul, 1) := by decide +kernel
theorem dX7_lentOf_84 : decode cX7_lentOf 84 = .ok (.iload_n 1, 1) := by decide +kernel
theorem dX7_lentOf_85 : decode cX7_lentOf 85 = .ok (.iadd, 1) := by decide +kernel
theorem dX7_lentOf_86 : decode cX7_lentOf 86 = .ok (.iaload, 1) := by decide +kernel
theorem dX7_lentOf_87 : decode cX7_lentOf 87 = .ok (.iastore, 1) := by decide +kernel
theorem dX7_lentOf_88 : decode cX7_lentOf 88 = .ok (.iinc 5 1, 3) := by decide +kernel
theorem dX7_lentOf_91 : decode cX7_lentOf 91 = .ok (.goto (-35), 3) := by decide +kernel
theorem dX7_lentOf_94 : decode cX7_lentOf 94 = .ok (.iinc 4 1, 3) := by decide +kernel
theorem dX7_lentOf_97 : decode cX7_lentOf 97 = .ok (.goto (-81), 3) := by decide +kernel
theorem dX7_lentOf_100 : decode cX7_lentOf 100 = .ok (.aload_n 0, 1) := by decide +kernel
theorem dX7_lentOf_101 : decode cX7_lentOf 101 = .ok (.getfield 31, 3) := by decide +kernel
theorem dX7_lentOf_104 : decode cX7_lentOf 104 = .ok (.iconst 3, 1) := by decide +kernel
theorem dX7_lentOf_105 : decode cX7_lentOf 105 = .ok (.iload_n 1, 1) := by decide +kernel
theorem dX7_lentOf_106 : decode cX7_lentOf 106 = .ok (.imul, 1) := by decide +kernel
theorem dX7_lentOf_107 : decode cX7_lentOf 107 = .ok (.iconst 2, 1) := by decide +kernel
theorem dX7_lentOf_108 : decode cX7_lentOf 108 = .ok (.iadd, 1) := by decide +kernel
theorem dX7_lentOf_109 : decode cX7_lentOf 109 = .ok (.iload_n 2, 1) := by decide +kernel
theorem dX7_lentOf_110 : decode cX7_lentOf 110 = .ok (.iastore, 1) := by decide +kernel
theorem dX7_lentOf_111 : decode cX7_lentOf 111 = .ok (.iload_n 3, 1) := by decide +kernel
theorem dX7_lentOf_112 : decode cX7_lentOf 112 = .ok (.ireturn, 1) := by decide +kernel
theorem dX7_lent_0 : decode cX7_lent 0 = .ok (.aload_n 0, 1) := by decide +kernel
theorem dX7_lent_1 : decode cX7_lent 1 = .ok (.invokevirtual 221, 3) := by decide +kernel
theorem dX7_lent_4 : decode cX7_lent 4 = .ok (.aload_n 0, 1) := by decide +kernel
theorem dX7_lent_5 : decode cX7_lent 5 = .ok (.iload_n 1, 1) := by decide +kernel
theorem dX7_lent_6 : decode cX7_lent 6 = .ok (.invokevirtual 158, 3) := by decide +kernel
theorem dX7_lent_9 : decode cX7_lent 9 = .ok (.ifCond .eq 11, 3) := by decide +kernel
theorem dX7_lent_12 : decode cX7_lent 12 = .ok (.aload_n 0, 1) := by decide +kernel
theorem dX7_lent_13 : decode cX7_lent 13 = .ok (.iload_n 1, 1) := by decide +kernel
theorem dX7_lent_14 : decode cX7_lent 14 = .ok (.invokevirtual 292, 3) := by decide +kernel
theorem dX7_lent_17 : decode cX7_lent 17 = .ok (.goto 5, 3) := by decide +kernel
theorem dX7_lent_20 : decode cX7_lent 20 = .ok (.bipush (-2), 2) := by decide +kernel
theorem dX7_lent_22 : decode cX7_lent 22 = .ok (.ireturn, 1) := by decide +kernel
theorem dX7_alike_0 : decode cX7_alike 0 = .ok (.iconst 0, 1) := by decide +kernel
theorem dX7_alike_1 : decode cX7_alike 1 = .ok (.istore_n 3, 1) := by decide +kernel
theorem dX7_alike_2 : decode cX7_alike 2 = .ok (.iconst 1, 1) := by decide +kernel
theorem dX7_alike_3 : decode cX7_alike 3 = .ok (.istore 4, 2) := by decide +kernel
theorem dX7_alike_5 : decode cX7_alike 5 = .ok (.iload 4, 2) := by decide +kernel
theorem dX7_alike_7 : decode cX7_alike 7 = .ok (.bipush 10, 2) := by decide +kernel
theorem dX7_alike_9 : decode cX7_alike 9 = .ok (.if_icmp .ge 90, 3) := by decide +kernel
theorem dX7_alike_12 : decode cX7_alike 12 = .ok (.iconst 0, 1) := by decide +kernel
theorem dX7_alike_13 : decode cX7_alike 13 = .ok (.istore 5, 2) := by decide +kernel
theorem dX7_alike_15 : decode cX7_alike 15 = .ok (.iconst 1, 1) := by decide +kernel
theorem dX7_alike_16 : decode cX7_alike 16 = .ok (.istore 6, 2) := by decide +kernel
theorem dX7_alike_18 : decode cX7_alike 18 = .ok (.iload 6, 2) := by decide +kernel
theorem dX7_alike_20 : decode cX7_alike 20 = .ok (.bipush 10, 2) := by decide +kernel
theorem dX7_alike_22 : decode cX7_alike 22 = .ok (.if_icmp .ge 64, 3) := by decide +kernel
theorem dX7_alike_25 : decode cX7_alike 25 = .ok (.iload 5, 2) := by decide +kernel
theorem dX7_alike_27 : decode cX7_alike 27 = .ok (.iload_n 1, 1) := by decide +kernel
theorem dX7_alike_28 : decode cX7_alike 28 = .ok (.iload 4, 2) := by decide +kernel
theorem dX7_alike_30 : decode cX7_alike 30 = .ok (.invokestatic 179, 3) := by decide +kernel
theorem dX7_alike_33 : decode cX7_alike 33 = .ok (.ifCond .eq 43, 3) := by decide +kernel
theorem dX7_alike_36 : decode cX7_alike 36 = .ok (.iload_n 1, 1) := by decide +kernel
theorem dX7_alike_37 : decode cX7_alike 37 = .ok (.iload 6, 2) := by decide +kernel
theorem dX7_alike_39 : decode cX7_alike 39 = .ok (.invokestatic 179, 3) := by decide +kernel
theorem dX7_alike_42 : decode cX7_alike 42 = .ok (.ifCond .eq 34, 3) := by decide +kernel
theorem dX7_alike_45 : decode cX7_alike 45 = .ok (.aload_n 0, 1) := by decide +kernel
theorem dX7_alike_46 : decode cX7_alike 46 = .ok (.getfield 67, 3) := by decide +kernel
theorem dX7_alike_49 : decode cX7_alike 49 = .ok (.bipush 24, 2) := by decide +kernel
theorem dX7_alike_51 : decode cX7_alike 51 = .ok (.iload 4, 2) := by decide +kernel
theorem dX7_alike_53 : decode cX7_alike 53 = .ok (.imul, 1) := by decide +kernel
theorem dX7_alike_54 : decode cX7_alike 54 = .ok (.iload_n 2, 1) := by decide +kernel
theorem dX7_alike_55 : decode cX7_alike 55 = .ok (.iadd, 1) := by decide +kernel
theorem dX7_alike_56 : decode cX7_alike 56 = .ok (.iaload, 1) := by decide +kernel
theorem dX7_alike_57 : decode cX7_alike 57 = .ok (.aload_n 0, 1) := by decide +kernel
theorem dX7_alike_58 : decode cX7_alike 58 = .ok (.getfield 67, 3) := by decide +kernel
theorem dX7_alike_61 : decode cX7_alike 61 = .ok (.bipush 24, 2) := by decide +kernel
theorem dX7_alike_63 : decode cX7_alike 63 = .ok (.iload 6, 2) := by decide +kernel
theorem dX7_alike_65 : decode cX7_alike 65 = .ok (.imul, 1) := by decide +kernel
theorem dX7_alike_66 : decode cX7_alike 66 = .ok (.iload_n 2, 1) := by decide +kernel
theorem dX7_alike_67 : decode cX7_alike 67 = .ok (.iadd, 1) := by decide +kernel
theorem dX7_alike_68 : decode cX7_alike 68 = .ok (.iaload, 1) := by decide +kernel
theorem dX7_alike_69 : decode cX7_alike 69 = .ok (.if_icmp .ne 7, 3) := by decide +kernel
theorem dX7_alike_72 : decode cX7_alike 72 = .ok (.iconst 1, 1) := by decide +kernel
theorem dX7_alike_73 : decode cX7_alike 73 = .ok (.goto 4, 3) := by decide +kernel
theorem dX7_alike_76 : decode cX7_alike 76 = .ok (.iconst 0, 1) := by decide +kernel
theorem dX7_alike_77 : decode cX7_alike 77 = .ok (.iadd, 1) := by decide +kernel
theorem dX7_alike_78 : decode cX7_alike 78 = .ok (.istore 5, 2) := by decide +kernel
theorem dX7_alike_80 : decode cX7_alike 80 = .ok (.iinc 6 1, 3) := by decide +kernel
theorem dX7_alike_83 : decode cX7_alike 83 = .ok (.goto (-65), 3) := by decide +kernel
theorem dX7_alike_86 : decode cX7_alike 86 = .ok (.iload 5, 2) := by decide +kernel
theorem dX7_alike_88 : decode cX7_alike 88 = .ok (.iload_n 3, 1) := by decide +kernel
theorem dX7_alike_89 : decode cX7_alike 89 = .ok (.invokestatic 189, 3) := by decide +kernel
theorem dX7_alike_92 : decode cX7_alike 92 = .ok (.istore_n 3, 1) := by decide +kernel
theorem dX7_alike_93 : decode cX7_alike 93 = .ok (.iinc 4 1, 3) := by decide +kernel
theorem dX7_alike_96 : decode cX7_alike 96 = .ok (.goto (-91), 3) := by decide +kernel
theorem dX7_alike_99 : decode cX7_alike 99 = .ok (.iload_n 3, 1) := by decide +kernel
theorem dX7_alike_100 : decode cX7_alike 100 = .ok (.ireturn, 1) := by decide +kernel
theorem dX7_askOf_0 : decode cX7_askOf 0 = .ok (.aload_n 0, 1) := by decide +kernel
theorem dX7_askOf_1 : decode cX7_askOf 1 = .ok (.iload_n 1, 1) := by decide +kernel
theorem dX7_askOf_2 : decode cX7_askOf 2 = .ok (.invokevirtual 292, 3) := by decide +kernel
theorem dX7_askOf_5 : decode cX7_askOf 5 = .ok (.istore_n 2, 1) := by decide +kernel
theorem dX7_askOf_6 : decode cX7_askOf 6 = .ok (.iconst 0, 1) := by decide +kernel
theorem dX7_askOf_7 : decode cX7_askOf 7 = .ok (.istore_n 3, 1) := by decide +kernel
theorem dX7_askOf_8 : decode cX7_askOf 8 = .ok (.iconst 1, 1) := by decide +kernel
theorem dX7_askOf_9 : decode cX7_askOf 9 = .ok (.istore 4, 2) := by decide +kernel
theorem dX7_askOf_11 : decode cX7_askOf 11 = .ok (.iload 4, 2) := by decide +kernel
theorem dX7_askOf_13 : decode cX7_askOf 13 = .ok (.bipush 24, 2) := by decide +kernel
theorem dX7_askOf_15 : decode cX7_askOf 15 = .ok (.if_icmp .ge 32, 3) := by decide +kernel
theorem dX7_askOf_18 : decode cX7_askOf 18 = .ok (.aload_n 0, 1) := by decide +kernel
theorem dX7_askOf_19 : decode cX7_askOf 19 = .ok (.iload_n 2, 1) := by decide +kernel
theorem dX7_askOf_20 : decode cX7_askOf 20 = .ok (.iload 4, 2) := by decide +kernel
theorem dX7_askOf_22 : decode cX7_askOf 22 = .ok (.invokevirtual 295, 3) := by decide +kernel
theorem dX7_askOf_25 : decode cX7_askOf 25 = .ok (.aload_n 0, 1) := by decide +kernel
theorem dX7_askOf_26 : decode cX7_askOf 26 = .ok (.iload_n 2, 1) := by decide +kernel
theorem dX7_askOf_27 : decode cX7_askOf 27 = .ok (.iload_n 3, 1) := by decide +kernel
theorem dX7_askOf_28 : decode cX7_askOf 28 = .ok (.invokevirtual 295, 3) := by decide +kernel
theorem dX7_askOf_31 : decode cX7_askOf 31 = .ok (.if_icmp .ge 8, 3) := by decide +kernel
theorem dX7_askOf_34 : decode cX7_askOf 34 = .ok (.iload 4, 2) := by decide +kernel
theorem dX7_askOf_36 : decode cX7_askOf 36 = .ok (.goto 4, 3) := by decide +kernel
theorem dX7_askOf_39 : decode cX7_askOf 39 = .ok (.iload_n 3, 1) := by decide +kernel
theorem dX7_askOf_40 : decode cX7_askOf 40 = .ok (.istore_n 3, 1) := by decide +kernel
theorem dX7_askOf_41 : decode cX7_askOf 41 = .ok (.iinc 4 1, 3) := by decide +kernel
theorem dX7_askOf_44 : decode cX7_askOf 44 = .ok (.goto (-33), 3) := by decide +kernel
theorem dX7_askOf_47 : decode cX7_askOf 47 = .ok (.iload_n 3, 1) := by decide +kernel
theorem dX7_askOf_48 : decode cX7_askOf 48 = .ok (.ireturn, 1) := by decide +kernel
theorem dX7_ask_0 : decode cX7_ask 0 = .ok (.aload_n 0, 1) := by decide +kernel
theorem dX7_ask_1 : decode cX7_ask 1 = .ok (.invokevirtual 221, 3) := by decide +kernel
theorem dX7_ask_4 : decode cX7_ask 4 = .ok (.aload_n 0, 1) := by decide +kernel
theorem dX7_ask_5 : decode cX7_ask 5 = .ok (.iload_n 1, 1) := by decide +kernel
theorem dX7_ask_6 : decode cX7_ask 6 = .ok (.invokevirtual 158, 3) := by decide +kernel
theorem dX7_ask_9 : decode cX7_ask 9 = .ok (.ifCond .eq 11, 3) := by decide +kernel
theorem dX7_ask_12 : decode cX7_ask 12 = .ok (.aload_n 0, 1) := by decide +kernel
theorem dX7_ask_13 : decode cX7_ask 13 = .ok (.iload_n 1, 1) := by decide +kernel
theorem dX7_ask_14 : decode cX7_ask 14 = .ok (.invokevirtual 298, 3) := by decide +kernel
theorem dX7_ask_17 : decode cX7_ask 17 = .ok (.goto 5, 3) := by decide +kernel
theorem dX7_ask_20 : decode cX7_ask 20 = .ok (.bipush (-2), 2) := by decide +kernel
theorem dX7_ask_22 : decode cX7_ask 22 = .ok (.ireturn, 1) := by decide +kernel
theorem dX7_chanceOf_0 : decode cX7_chanceOf 0 = .ok (.lconst 0, 1) := by decide +kernel
theorem dX7_chanceOf_1 : decode cX7_chanceOf 1 = .ok (.lstore 4, 2) := by decide +kernel
theorem dX7_chanceOf_3 : decode cX7_chanceOf 3 = .ok (.iconst 0, 1) := by decide +kernel
theorem dX7_chanceOf_4 : decode cX7_chanceOf 4 = .ok (.istore 6, 2) := by decide +kernel
theorem dX7_chanceOf_6 : decode cX7_chanceOf 6 = .ok (.iload 6, 2) := by decide +kernel
theorem dX7_chanceOf_8 : decode cX7_chanceOf 8 = .ok (.iconst 1, 1) := by decide +kernel
theorem dX7_chanceOf_9 : decode cX7_chanceOf 9 = .ok (.aload_n 0, 1) := by decide +kernel
theorem dX7_chanceOf_10 : decode cX7_chanceOf 10 = .ok (.getfield 171, 3) := by decide +kernel
theorem dX7_chanceOf_13 : decode cX7_chanceOf 13 = .ok (.ishl, 1) := by decide +kernel
theorem dX7_chanceOf_14 : decode cX7_chanceOf 14 = .ok (.if_icmp .ge 86, 3) := by decide +kernel
theorem dX7_chanceOf_17 : decode cX7_chanceOf 17 = .ok (.aload_n 0, 1) := by decide +kernel
theorem dX7_chanceOf_18 : decode cX7_chanceOf 18 = .ok (.iload 6, 2) := by decide +kernel
theorem dX7_chanceOf_20 : decode cX7_chanceOf 20 = .ok (.putfield 176, 3) := by decide +kernel
theorem dX7_chanceOf_23 : decode cX7_chanceOf 23 = .ok (.aload_n 0, 1) := by decide +kernel
theorem dX7_chanceOf_24 : decode cX7_chanceOf 24 = .ok (.invokevirtual 218, 3) := by decide +kernel
theorem dX7_chanceOf_27 : decode cX7_chanceOf 27 = .ok (.aload_n 0, 1) := by decide +kernel
theorem dX7_chanceOf_28 : decode cX7_chanceOf 28 = .ok (.getfield 40, 3) := by decide +kernel
theorem dX7_chanceOf_31 : decode cX7_chanceOf 31 = .ok (.iload_n 2, 1) := by decide +kernel
theorem dX7_chanceOf_32 : decode cX7_chanceOf 32 = .ok (.iaload, 1) := by decide +kernel
theorem dX7_chanceOf_33 : decode cX7_chanceOf 33 = .ok (.iconst 1, 1) := by decide +kernel
theorem dX7_chanceOf_34 : decode cX7_chanceOf 34 = .ok (.if_icmp .ne 7, 3) := by decide +kernel
theorem dX7_chanceOf_37 : decode cX7_chanceOf 37 = .ok (.lconst 1, 1) := by decide +kernel
theorem dX7_chanceOf_38 : decode cX7_chanceOf 38 = .ok (.goto 4, 3) := by decide +kernel
theorem dX7_chanceOf_41 : decode cX7_chanceOf 41 = .ok (.lconst 0, 1) := by decide +kernel
theorem dX7_chanceOf_42 : decode cX7_chanceOf 42 = .ok (.lstore 7, 2) := by decide +kernel
theorem dX7_chanceOf_44 : decode cX7_chanceOf 44 = .ok (.iconst 0, 1) := by decide +kernel
theorem dX7_chanceOf_45 : decode cX7_chanceOf 45 = .ok (.istore 9, 2) := by decide +kernel
theorem dX7_chanceOf_47 : decode cX7_chanceOf 47 = .ok (.iload 9, 2) := by decide +kernel
theorem dX7_chanceOf_49 : decode cX7_chanceOf 49 = .ok (.aload_n 0, 1) := by decide +kernel
theorem dX7_chanceOf_50 : decode cX7_chanceOf 50 = .ok (.getfield 171, 3) := by decide +kernel
theorem dX7_chanceOf_53 : decode cX7_chanceOf 53 = .ok (.if_icmp .ge 34, 3) := by decide +kernel
theorem dX7_chanceOf_56 : decode cX7_chanceOf 56 = .ok (.lload 7, 2) := by decide +kernel
theorem dX7_chanceOf_58 : decode cX7_chanceOf 58 = .ok (.iload 6, 2) := by decide +kernel
theorem dX7_chanceOf_60 : decode cX7_chanceOf 60 = .ok (.iload 9, 2) := by decide +kernel
theorem dX7_chanceOf_62 : decode cX7_chanceOf 62 = .ok (.invokestatic 179, 3) := by decide +kernel
theorem dX7_chanceOf_65 : decode cX7_chanceOf 65 = .ok (.ifCond .eq 11, 3) := by decide +kernel
theorem dX7_chanceOf_68 : decode cX7_chanceOf 68 = .ok (.bipush 16, 2) := by decide +kernel
theorem dX7_chanceOf_70 : decode cX7_chanceOf 70 = .ok (.iload_n 1, 1) := by decide +kernel
theorem dX7_chanceOf_71 : decode cX7_chanceOf 71 = .ok (.isub, 1) := by decide +kernel
theorem dX7_chanceOf_72 : decode cX7_chanceOf 72 = .ok (.i2l, 1) := by decide +kernel
theorem dX7_chanceOf_73 : decode cX7_chanceOf 73 = .ok (.goto 5, 3) := by decide +kernel
theorem dX7_chanceOf_76 : decode cX7_chanceOf 76 = .ok (.iload_n 1, 1) := by decide +kernel
theorem dX7_chanceOf_77 : decode cX7_chanceOf 77 = .ok (.i2l, 1) := by decide +kernel
theorem dX7_chanceOf_78 : decode cX7_chanceOf 78 = .ok (.lmul, 1) := by decide +kernel
theorem dX7_chanceOf_79 : decode cX7_chanceOf 79 = .ok (.lstore 7, 2) := by decide +kernel
theorem dX7_chanceOf_81 : decode cX7_chanceOf 81 = .ok (.iinc 9 1, 3) := by decide +kernel
theorem dX7_chanceOf_84 : decode cX7_chanceOf 84 = .ok (.goto (-37), 3) := by decide +kernel
theorem dX7_chanceOf_87 : decode cX7_chanceOf 87 = .ok (.lload 4, 2) := by decide +kernel
theorem dX7_chanceOf_89 : decode cX7_chanceOf 89 = .ok (.lload 7, 2) := by decide +kernel
theorem dX7_chanceOf_91 : decode cX7_chanceOf 91 = .ok (.ladd, 1) := by decide +kernel
theorem dX7_chanceOf_92 : decode cX7_chanceOf 92 = .ok (.lstore 4, 2) := by decide +kernel
theorem dX7_chanceOf_94 : decode cX7_chanceOf 94 = .ok (.iinc 6 1, 3) := by decide +kernel
theorem dX7_chanceOf_97 : decode cX7_chanceOf 97 = .ok (.goto (-91), 3) := by decide +kernel
theorem dX7_chanceOf_100 : decode cX7_chanceOf 100 = .ok (.aload_n 0, 1) := by decide +kernel
theorem dX7_chanceOf_101 : decode cX7_chanceOf 101 = .ok (.iconst 0, 1) := by decide +kernel
theorem dX7_chanceOf_102 : decode cX7_chanceOf 102 = .ok (.putfield 176, 3) := by decide +kernel
theorem dX7_chanceOf_105 : decode cX7_chanceOf 105 = .ok (.lload 4, 2) := by decide +kernel
theorem dX7_chanceOf_107 : decode cX7_chanceOf 107 = .ok (.lconst 1, 1) := by decide +kernel
theorem dX7_chanceOf_108 : decode cX7_chanceOf 108 = .ok (.iconst 4, 1) := by decide +kernel
theorem dX7_chanceOf_109 : decode cX7_chanceOf 109 = .ok (.aload_n 0, 1) := by decide +kernel
theorem dX7_chanceOf_110 : decode cX7_chanceOf 110 = .ok (.getfield 171, 3) := by decide +kernel
theorem dX7_chanceOf_113 : decode cX7_chanceOf 113 = .ok (.imul, 1) := by decide +kernel
theorem dX7_chanceOf_114 : decode cX7_chanceOf 114 = .ok (.lshl, 1) := by decide +kernel
theorem dX7_chanceOf_115 : decode cX7_chanceOf 115 = .ok (.iload_n 3, 1) := by decide +kernel
theorem dX7_chanceOf_116 : decode cX7_chanceOf 116 = .ok (.invokestatic 301, 3) := by decide +kernel
theorem dX7_chanceOf_119 : decode cX7_chanceOf 119 = .ok (.lreturn, 1) := by decide +kernel
theorem dX7_chance_0 : decode cX7_chance 0 = .ok (.aload_n 0, 1) := by decide +kernel
theorem dX7_chance_1 : decode cX7_chance 1 = .ok (.invokevirtual 221, 3) := by decide +kernel
theorem dX7_chance_4 : decode cX7_chance 4 = .ok (.iload_n 1, 1) := by decide +kernel
theorem dX7_chance_5 : decode cX7_chance 5 = .ok (.i2l, 1) := by decide +kernel
theorem dX7_chance_6 : decode cX7_chance 6 = .ok (.lconst 0, 1) := by decide +kernel
theorem dX7_chance_7 : decode cX7_chance 7 = .ok (.ldc2_w 305, 3) := by decide +kernel
theorem dX7_chance_10 : decode cX7_chance 10 = .ok (.invokestatic 76, 3) := by decide +kernel
theorem dX7_chance_13 : decode cX7_chance 13 = .ok (.ifCond .eq 28, 3) := by decide +kernel
theorem dX7_chance_16 : decode cX7_chance 16 = .ok (.aload_n 0, 1) := by decide +kernel
theorem dX7_chance_17 : decode cX7_chance 17 = .ok (.iload_n 2, 1) := by decide +kernel
theorem dX7_chance_18 : decode cX7_chance 18 = .ok (.invokevirtual 158, 3) := by decide +kernel
theorem dX7_chance_21 : decode cX7_chance 21 = .ok (.ifCond .eq 20, 3) := by decide +kernel
theorem dX7_chance_24 : decode cX7_chance 24 = .ok (.iload_n 3, 1) := by decide +kernel
theorem dX7_chance_25 : decode cX7_chance 25 = .ok (.invokestatic 155, 3) := by decide +kernel
theorem dX7_chance_28 : decode cX7_chance 28 = .ok (.ifCond .eq 13, 3) := by decide +kernel
theorem dX7_chance_31 : decode cX7_chance 31 = .ok (.aload_n 0, 1) := by decide +kernel
theorem dX7_chance_32 : decode cX7_chance 32 = .ok (.iload_n 1, 1) := by decide +kernel
theorem dX7_chance_33 : decode cX7_chance 33 = .ok (.iload_n 2, 1) := by decide +kernel
theorem dX7_chance_34 : decode cX7_chance 34 = .ok (.iload_n 3, 1) := by decide +kernel
theorem dX7_chance_35 : decode cX7_chance 35 = .ok (.invokevirtual 307, 3) := by decide +kernel
theorem dX7_chance_38 : decode cX7_chance 38 = .ok (.goto 8, 3) := by decide +kernel
theorem dX7_chance_41 : decode cX7_chance 41 = .ok (.bipush (-2), 2) := by decide +kernel
theorem dX7_chance_43 : decode cX7_chance 43 = .ok (.invokestatic 311, 3) := by decide +kernel
theorem dX7_chance_46 : decode cX7_chance 46 = .ok (.lreturn, 1) := by decide +kernel
theorem dX7_lot_0 : decode cX7_lot 0 = .ok (.aload_n 0, 1) := by decide +kernel
theorem dX7_lot_1 : decode cX7_lot 1 = .ok (.ldc_w 315, 3) := by decide +kernel
theorem dX7_lot_4 : decode cX7_lot 4 = .ok (.aload_n 0, 1) := by decide +kernel
theorem dX7_lot_5 : decode cX7_lot 5 = .ok (.getfield 316, 3) := by decide +kernel
theorem dX7_lot_8 : decode cX7_lot 8 = .ok (.imul, 1) := by decide +kernel
theorem dX7_lot_9 : decode cX7_lot 9 = .ok (.sipush 12345, 3) := by decide +kernel
theorem dX7_lot_12 : decode cX7_lot 12 = .ok (.iadd, 1) := by decide +kernel
theorem dX7_lot_13 : decode cX7_lot 13 = .ok (.putfield 316, 3) := by decide +kernel
theorem dX7_lot_16 : decode cX7_lot 16 = .ok (.aload_n 0, 1) := by decide +kernel
theorem dX7_lot_17 : decode cX7_lot 17 = .ok (.getfield 316, 3) := by decide +kernel
theorem dX7_lot_20 : decode cX7_lot 20 = .ok (.bipush 16, 2) := by decide +kernel
theorem dX7_lot_22 : decode cX7_lot 22 = .ok (.iushr, 1) := by decide +kernel
theorem dX7_lot_23 : decode cX7_lot 23 = .ok (.iload_n 1, 1) := by decide +kernel
theorem dX7_lot_24 : decode cX7_lot 24 = .ok (.irem, 1) := by decide +kernel
theorem dX7_lot_25 : decode cX7_lot 25 = .ok (.ireturn, 1) := by decide +kernel
theorem dX7_livesOf_0 : decode cX7_livesOf 0 = .ok (.aload_n 0, 1) := by decide +kernel
theorem dX7_livesOf_1 : decode cX7_livesOf 1 = .ok (.iload_n 1, 1) := by decide +kernel
theorem dX7_livesOf_2 : decode cX7_livesOf 2 = .ok (.putfield 316, 3) := by decide +kernel
theorem dX7_livesOf_5 : decode cX7_livesOf 5 = .ok (.aload_n 0, 1) := by decide +kernel
theorem dX7_livesOf_6 : decode cX7_livesOf 6 = .ok (.iconst 0, 1) := by decide +kernel
theorem dX7_livesOf_7 : decode cX7_livesOf 7 = .ok (.putfield 131, 3) := by decide +kernel
theorem dX7_livesOf_10 : decode cX7_livesOf 10 = .ok (.iconst 0, 1) := by decide +kernel
theorem dX7_livesOf_11 : decode cX7_livesOf 11 = .ok (.istore 4, 2) := by decide +kernel
theorem dX7_livesOf_13 : decode cX7_livesOf 13 = .ok (.iload 4, 2) := by decide +kernel
theorem dX7_livesOf_15 : decode cX7_livesOf 15 = .ok (.iload_n 2, 1) := by decide +kernel
theorem dX7_livesOf_16 : decode cX7_livesOf 16 = .ok (.if_icmp .ge 79, 3) := by decide +kernel
theorem dX7_livesOf_19 : decode cX7_livesOf 19 = .ok (.aload_n 0, 1) := by decide +kernel
theorem dX7_livesOf_20 : decode cX7_livesOf 20 = .ok (.getfield 116, 3) := by decide +kernel
theorem dX7_livesOf_23 : decode cX7_livesOf 23 = .ok (.ifCond .le 72, 3) := by decide +kernel
theorem dX7_livesOf_26 : decode cX7_livesOf 26 = .ok (.aload_n 0, 1) := by decide +kernel
theorem dX7_livesOf_27 : decode cX7_livesOf 27 = .ok (.getfield 34, 3) := by decide +kernel
theorem dX7_livesOf_30 : decode cX7_livesOf 30 = .ok (.iconst 3, 1) := by decide +kernel
theorem dX7_livesOf_31 : decode cX7_livesOf 31 = .ok (.iload 4, 2) := by decide +kernel
theorem dX7_livesOf_33 : decode cX7_livesOf 33 = .ok (.imul, 1) := by decide +kernel
theorem dX7_livesOf_34 : decode cX7_livesOf 34 = .ok (.aload_n 0, 1) := by decide +kernel
theorem dX7_livesOf_35 : decode cX7_livesOf 35 = .ok (.bipush 24, 2) := by decide +kernel
theorem dX7_livesOf_37 : decode cX7_livesOf 37 = .ok (.invokevirtual 319, 3) := by decide +kernel
theorem dX7_livesOf_40 : decode cX7_livesOf 40 = .ok (.iastore, 1) := by decide +kernel
theorem dX7_livesOf_41 : decode cX7_livesOf 41 = .ok (.aload_n 0, 1) := by decide +kernel
theorem dX7_livesOf_42 : decode cX7_livesOf 42 = .ok (.getfield 34, 3) := by decide +kernel
theorem dX7_livesOf_45 : decode cX7_livesOf 45 = .ok (.iconst 3, 1) := by decide +kernel
theorem dX7_livesOf_46 : decode cX7_livesOf 46 = .ok (.iload 4, 2) := by decide +kernel
theorem dX7_livesOf_48 : decode cX7_livesOf 48 = .ok (.imul, 1) := by decide +kernel
theorem dX7_livesOf_49 : decode cX7_livesOf 49 = .ok (.iconst 1, 1) := by decide +kernel
theorem dX7_livesOf_50 : decode cX7_livesOf 50 = .ok (.iadd, 1) := by decide +kernel
theorem dX7_livesOf_51 : decode cX7_livesOf 51 = .ok (.aload_n 0, 1) := by decide +kernel
theorem dX7_livesOf_52 : decode cX7_livesOf 52 = .ok (.aload_n 0, 1) := by decide +kernel
theorem dX7_livesOf_53 : decode cX7_livesOf 53 = .ok (.getfield 116, 3) := by decide +kernel
theorem dX7_livesOf_56 : decode cX7_livesOf 56 = .ok (.invokevirtual 319, 3) := by decide +kernel
theorem dX7_livesOf_59 : decode cX7_livesOf 59 = .ok (.iastore, 1) := by decide +kernel
theorem dX7_livesOf_60 : decode cX7_livesOf 60 = .ok (.aload_n 0, 1) := by decide +kernel
theorem dX7_livesOf_61 : decode cX7_livesOf 61 = .ok (.getfield 34, 3) := by decide +kernel
theorem dX7_livesOf_64 : decode cX7_livesOf 64 = .ok (.iconst 3, 1) := by decide +kernel
theorem dX7_livesOf_65 : decode cX7_livesOf 65 = .ok (.iload 4, 2) := by decide +kernel
theorem dX7_livesOf_67 : decode cX7_livesOf 67 = .ok (.imul, 1) := by decide +kernel
theorem dX7_livesOf_68 : decode cX7_livesOf 68 = .ok (.iconst 2, 1) := by decide +kernel
theorem dX7_livesOf_69 : decode cX7_livesOf 69 = .ok (.iadd, 1) := by decide +kernel
theorem dX7_livesOf_70 : decode cX7_livesOf 70 = .ok (.aload_n 0, 1) := by decide +kernel
theorem dX7_livesOf_71 : decode cX7_livesOf 71 = .ok (.aload_n 0, 1) := by decide +kernel
theorem dX7_livesOf_72 : decode cX7_livesOf 72 = .ok (.getfield 116, 3) := by decide +kernel
theorem dX7_livesOf_75 : decode cX7_livesOf 75 = .ok (.invokevirtual 319, 3) := by decide +kernel
theorem dX7_livesOf_78 : decode cX7_livesOf 78 = .ok (.iastore, 1) := by decide +kernel
theorem dX7_livesOf_79 : decode cX7_livesOf 79 = .ok (.aload_n 0, 1) := by decide +kernel
theorem dX7_livesOf_80 : decode cX7_livesOf 80 = .ok (.dup, 1) := by decide +kernel
theorem dX7_livesOf_81 : decode cX7_livesOf 81 = .ok (.getfield 131, 3) := by decide +kernel
theorem dX7_livesOf_84 : decode cX7_livesOf 84 = .ok (.iconst 1, 1) := by decide +kernel
theorem dX7_livesOf_85 : decode cX7_livesOf 85 = .ok (.iadd, 1) := by decide +kernel
theorem dX7_livesOf_86 : decode cX7_livesOf 86 = .ok (.putfield 131, 3) := by decide +kernel
theorem dX7_livesOf_89 : decode cX7_livesOf 89 = .ok (.iinc 4 1, 3) := by decide +kernel
theorem dX7_livesOf_92 : decode cX7_livesOf 92 = .ok (.goto (-79), 3) := by decide +kernel
theorem dX7_livesOf_95 : decode cX7_livesOf 95 = .ok (.aload_n 0, 1) := by decide +kernel
theorem dX7_livesOf_96 : decode cX7_livesOf 96 = .ok (.invokevirtual 218, 3) := by decide +kernel
theorem dX7_livesOf_99 : decode cX7_livesOf 99 = .ok (.aload_n 0, 1) := by decide +kernel
theorem dX7_livesOf_100 : decode cX7_livesOf 100 = .ok (.invokevirtual 144, 3) := by decide +kernel
theorem dX7_livesOf_103 : decode cX7_livesOf 103 = .ok (.pop, 1) := by decide +kernel
theorem dX7_livesOf_104 : decode cX7_livesOf 104 = .ok (.aload_n 0, 1) := by decide +kernel
theorem dX7_livesOf_105 : decode cX7_livesOf 105 = .ok (.iload_n 3, 1) := by decide +kernel
theorem dX7_livesOf_106 : decode cX7_livesOf 106 = .ok (.ifCond .ne 7, 3) := by decide +kernel
theorem dX7_livesOf_109 : decode cX7_livesOf 109 = .ok (.iconst 1, 1) := by decide +kernel
theorem dX7_livesOf_110 : decode cX7_livesOf 110 = .ok (.goto 4, 3) := by decide +kernel
theorem dX7_livesOf_113 : decode cX7_livesOf 113 = .ok (.iconst 3, 1) := by decide +kernel
theorem dX7_livesOf_114 : decode cX7_livesOf 114 = .ok (.invokevirtual 263, 3) := by decide +kernel
theorem dX7_livesOf_117 : decode cX7_livesOf 117 = .ok (.ireturn, 1) := by decide +kernel
theorem dX7_lives_0 : decode cX7_lives 0 = .ok (.aload_n 0, 1) := by decide +kernel
theorem dX7_lives_1 : decode cX7_lives 1 = .ok (.invokevirtual 221, 3) := by decide +kernel
theorem dX7_lives_4 : decode cX7_lives 4 = .ok (.iload_n 2, 1) := by decide +kernel
theorem dX7_lives_5 : decode cX7_lives 5 = .ok (.i2l, 1) := by decide +kernel
theorem dX7_lives_6 : decode cX7_lives 6 = .ok (.lconst 0, 1) := by decide +kernel
theorem dX7_lives_7 : decode cX7_lives 7 = .ok (.ldc2_w 322, 3) := by decide +kernel
theorem dX7_lives_10 : decode cX7_lives 10 = .ok (.invokestatic 76, 3) := by decide +kernel
theorem dX7_lives_13 : decode cX7_lives 13 = .ok (.ifCond .eq 20, 3) := by decide +kernel
theorem dX7_lives_16 : decode cX7_lives 16 = .ok (.iload_n 3, 1) := by decide +kernel
theorem dX7_lives_17 : decode cX7_lives 17 = .ok (.invokestatic 155, 3) := by decide +kernel
theorem dX7_lives_20 : decode cX7_lives 20 = .ok (.ifCond .eq 13, 3) := by decide +kernel
theorem dX7_lives_23 : decode cX7_lives 23 = .ok (.aload_n 0, 1) := by decide +kernel
theorem dX7_lives_24 : decode cX7_lives 24 = .ok (.iload_n 1, 1) := by decide +kernel
theorem dX7_lives_25 : decode cX7_lives 25 = .ok (.iload_n 2, 1) := by decide +kernel
theorem dX7_lives_26 : decode cX7_lives 26 = .ok (.iload_n 3, 1) := by decide +kernel
theorem dX7_lives_27 : decode cX7_lives 27 = .ok (.invokevirtual 324, 3) := by decide +kernel
theorem dX7_lives_30 : decode cX7_lives 30 = .ok (.goto 5, 3) := by decide +kernel
theorem dX7_lives_33 : decode cX7_lives 33 = .ok (.bipush (-2), 2) := by decide +kernel
theorem dX7_lives_35 : decode cX7_lives 35 = .ok (.ireturn, 1) := by decide +kernel
theorem dX7_write_0 : decode cX7_write 0 = .ok (.aload_n 0, 1) := by decide +kernel
theorem dX7_write_1 : decode cX7_write 1 = .ok (.invokevirtual 221, 3) := by decide +kernel
theorem dX7_write_4 : decode cX7_write 4 = .ok (.aload_n 0, 1) := by decide +kernel
theorem dX7_write_5 : decode cX7_write 5 = .ok (.iload_n 1, 1) := by decide +kernel
theorem dX7_write_6 : decode cX7_write 6 = .ok (.invokevirtual 158, 3) := by decide +kernel
theorem dX7_write_9 : decode cX7_write 9 = .ok (.ifCond .eq 10, 3) := by decide +kernel
theorem dX7_write_12 : decode cX7_write 12 = .ok (.iload_n 2, 1) := by decide +kernel
theorem dX7_write_13 : decode cX7_write 13 = .ok (.invokestatic 85, 3) := by decide +kernel
theorem dX7_write_16 : decode cX7_write 16 = .ok (.ifCond .ne 6, 3) := by decide +kernel
theorem dX7_write_19 : decode cX7_write 19 = .ok (.bipush (-2), 2) := by decide +kernel
theorem dX7_write_21 : decode cX7_write 21 = .ok (.ireturn, 1) := by decide +kernel
theorem dX7_write_22 : decode cX7_write 22 = .ok (.aload_n 0, 1) := by decide +kernel
theorem dX7_write_23 : decode cX7_write 23 = .ok (.getfield 7, 3) := by decide +kernel
theorem dX7_write_26 : decode cX7_write 26 = .ok (.iload_n 2, 1) := by decide +kernel
theorem dX7_write_27 : decode cX7_write 27 = .ok (.iaload, 1) := by decide +kernel
theorem dX7_write_28 : decode cX7_write 28 = .ok (.ifCond .ge 9, 3) := by decide +kernel
theorem dX7_write_31 : decode cX7_write 31 = .ok (.aload_n 0, 1) := by decide +kernel
theorem dX7_write_32 : decode cX7_write 32 = .ok (.iconst 1, 1) := by decide +kernel
theorem dX7_write_33 : decode cX7_write 33 = .ok (.invokevirtual 91, 3) := by decide +kernel
theorem dX7_write_36 : decode cX7_write 36 = .ok (.ireturn, 1) := by decide +kernel
theorem dX7_write_37 : decode cX7_write 37 = .ok (.aload_n 0, 1) := by decide +kernel
theorem dX7_write_38 : decode cX7_write 38 = .ok (.getfield 13, 3) := by decide +kernel
theorem dX7_write_41 : decode cX7_write 41 = .ok (.iload_n 2, 1) := by decide +kernel
theorem dX7_write_42 : decode cX7_write 42 = .ok (.iaload, 1) := by decide +kernel
theorem dX7_write_43 : decode cX7_write 43 = .ok (.bipush 24, 2) := by decide +kernel
theorem dX7_write_45 : decode cX7_write 45 = .ok (.invokestatic 183, 3) := by decide +kernel
theorem dX7_write_48 : decode cX7_write 48 = .ok (.istore_n 3, 1) := by decide +kernel
theorem dX7_write_49 : decode cX7_write 49 = .ok (.iconst 0, 1) := by decide +kernel
theorem dX7_write_50 : decode cX7_write 50 = .ok (.istore 4, 2) := by decide +kernel
theorem dX7_write_52 : decode cX7_write 52 = .ok (.iload 4, 2) := by decide +kernel
theorem dX7_write_54 : decode cX7_write 54 = .ok (.iload_n 3, 1) := by decide +kernel
theorem dX7_write_55 : decode cX7_write 55 = .ok (.if_icmp .ge 42, 3) := by decide +kernel
theorem dX7_write_58 : decode cX7_write 58 = .ok (.aload_n 0, 1) := by decide +kernel
theorem dX7_write_59 : decode cX7_write 59 = .ok (.getfield 16, 3) := by decide +kernel
theorem dX7_write_62 : decode cX7_write 62 = .ok (.bipush 60, 2) := by decide +kernel
theorem dX7_write_64 : decode cX7_write 64 = .ok (.iload_n 2, 1) := by decide +kernel
theorem dX7_write_65 : decode cX7_write 65 = .ok (.imul, 1) := by decide +kernel
theorem dX7_write_66 : decode cX7_write 66 = .ok (.iload 4, 2) := by decide +kernel
theorem dX7_write_68 : decode cX7_write 68 = .ok (.iadd, 1) := by decide +kernel
theorem dX7_write_69 : decode cX7_write 69 = .ok (.aload_n 0, 1) := by decide +kernel
theorem dX7_write_70 : decode cX7_write 70 = .ok (.getfield 7, 3) := by decide +kernel
theorem dX7_write_73 : decode cX7_write 73 = .ok (.iload_n 2, 1) := by decide +kernel
theorem dX7_write_74 : decode cX7_write 74 = .ok (.iaload, 1) := by decide +kernel
theorem dX7_write_75 : decode cX7_write 75 = .ok (.aload_n 0, 1) := by decide +kernel
theorem dX7_write_76 : decode cX7_write 76 = .ok (.getfield 55, 3) := by decide +kernel
theorem dX7_write_79 : decode cX7_write 79 = .ok (.bipush 12, 2) := by decide +kernel
theorem dX7_write_81 : decode cX7_write 81 = .ok (.iload 4, 2) := by decide +kernel
theorem dX7_write_83 : decode cX7_write 83 = .ok (.imul, 1) := by decide +kernel
theorem dX7_write_84 : decode cX7_write 84 = .ok (.iload_n 1, 1) := by decide +kernel
theorem dX7_write_85 : decode cX7_write 85 = .ok (.iadd, 1) := by decide +kernel
theorem dX7_write_86 : decode cX7_write 86 = .ok (.iaload, 1) := by decide +kernel
theorem dX7_write_87 : decode cX7_write 87 = .ok (.invokestatic 99, 3) := by decide +kernel
theorem dX7_write_90 : decode cX7_write 90 = .ok (.iastore, 1) := by decide +kernel
theorem dX7_write_91 : decode cX7_write 91 = .ok (.iinc 4 1, 3) := by decide +kernel
theorem dX7_write_94 : decode cX7_write 94 = .ok (.goto (-42), 3) := by decide +kernel
theorem dX7_write_97 : decode cX7_write 97 = .ok (.iload_n 3, 1) := by decide +kernel
theorem dX7_write_98 : decode cX7_write 98 = .ok (.ireturn, 1) := by decide +kernel
theorem dX7_count_0 : decode cX7_count 0 = .ok (.aload_n 0, 1) := by decide +kernel
theorem dX7_count_1 : decode cX7_count 1 = .ok (.invokevirtual 221, 3) := by decide +kernel
theorem dX7_count_4 : decode cX7_count 4 = .ok (.iload_n 1, 1) := by decide +kernel
theorem dX7_count_5 : decode cX7_count 5 = .ok (.tableswitch 90 0 8 #[51, 56, 61, 66, 66, 66, 75, 80, 85], 51) := by decide +kernel
theorem dX7_count_56 : decode cX7_count 56 = .ok (.aload_n 0, 1) := by decide +kernel
theorem dX7_count_57 : decode cX7_count 57 = .ok (.getfield 116, 3) := by decide +kernel
theorem dX7_count_60 : decode cX7_count 60 = .ok (.ireturn, 1) := by decide +kernel
theorem dX7_count_61 : decode cX7_count 61 = .ok (.aload_n 0, 1) := by decide +kernel
theorem dX7_count_62 : decode cX7_count 62 = .ok (.getfield 125, 3) := by decide +kernel
theorem dX7_count_65 : decode cX7_count 65 = .ok (.ireturn, 1) := by decide +kernel
theorem dX7_count_66 : decode cX7_count 66 = .ok (.aload_n 0, 1) := by decide +kernel
theorem dX7_count_67 : decode cX7_count 67 = .ok (.getfield 131, 3) := by decide +kernel
theorem dX7_count_70 : decode cX7_count 70 = .ok (.ireturn, 1) := by decide +kernel
theorem dX7_count_71 : decode cX7_count 71 = .ok (.aload_n 0, 1) := by decide +kernel
theorem dX7_count_72 : decode cX7_count 72 = .ok (.getfield 25, 3) := by decide +kernel
theorem dX7_count_75 : decode cX7_count 75 = .ok (.iload_n 1, 1) := by decide +kernel
theorem dX7_count_76 : decode cX7_count 76 = .ok (.iconst 3, 1) := by decide +kernel
theorem dX7_count_77 : decode cX7_count 77 = .ok (.isub, 1) := by decide +kernel
theorem dX7_count_78 : decode cX7_count 78 = .ok (.iaload, 1) := by decide +kernel
theorem dX7_count_79 : decode cX7_count 79 = .ok (.ireturn, 1) := by decide +kernel
theorem dX7_count_80 : decode cX7_count 80 = .ok (.aload_n 0, 1) := by decide +kernel
theorem dX7_count_81 : decode cX7_count 81 = .ok (.getfield 171, 3) := by decide +kernel
theorem dX7_count_84 : decode cX7_count 84 = .ok (.ireturn, 1) := by decide +kernel
theorem dX7_count_85 : decode cX7_count 85 = .ok (.aload_n 0, 1) := by decide +kernel
theorem dX7_count_86 : decode cX7_count 86 = .ok (.getfield 279, 3) := by decide +kernel
theorem dX7_count_89 : decode cX7_count 89 = .ok (.ireturn, 1) := by decide +kernel
theorem dX7_count_90 : decode cX7_count 90 = .ok (.aload_n 0, 1) := by decide +kernel
theorem dX7_count_91 : decode cX7_count 91 = .ok (.getfield 80, 3) := by decide +kernel
theorem dX7_count_94 : decode cX7_count 94 = .ok (.ireturn, 1) := by decide +kernel
theorem dX7_count_95 : decode cX7_count 95 = .ok (.bipush (-2), 2) := by decide +kernel
theorem dX7_count_97 : decode cX7_count 97 = .ok (.ireturn, 1) := by decide +kernel
theorem dX7_tellsDay_0 : decode cX7_tellsDay 0 = .ok (.ldc2_w 327, 3) := by decide +kernel
theorem dX7_tellsDay_3 : decode cX7_tellsDay 3 = .ok (.ldc2_w 327, 3) := by decide +kernel
theorem dX7_tellsDay_6 : decode cX7_tellsDay 6 = .ok (.lload_n 1, 1) := by decide +kernel
theorem dX7_tellsDay_7 : decode cX7_tellsDay 7 = .ok (.lmul, 1) := by decide +kernel
theorem dX7_tellsDay_8 : decode cX7_tellsDay 8 = .ok (.aload_n 0, 1) := by decide +kernel
theorem dX7_tellsDay_9 : decode cX7_tellsDay 9 = .ok (.getfield 52, 3) := by decide +kernel
theorem dX7_tellsDay_12 : decode cX7_tellsDay 12 = .ok (.bipush 12, 2) := by decide +kernel
theorem dX7_tellsDay_14 : decode cX7_tellsDay 14 = .ok (.iload_n 3, 1) := by decide +kernel
theorem dX7_tellsDay_15 : decode cX7_tellsDay 15 = .ok (.imul, 1) := by decide +kernel
theorem dX7_tellsDay_16 : decode cX7_tellsDay 16 = .ok (.iload 4, 2) := by decide +kernel
theorem dX7_tellsDay_18 : decode cX7_tellsDay 18 = .ok (.iadd, 1) := by decide +kernel
theorem dX7_tellsDay_19 : decode cX7_tellsDay 19 = .ok (.iaload, 1) := by decide +kernel
theorem dX7_tellsDay_20 : decode cX7_tellsDay 20 = .ok (.i2l, 1) := by decide +kernel
theorem dX7_tellsDay_21 : decode cX7_tellsDay 21 = .ok (.ladd, 1) := by decide +kernel
theorem dX7_tellsDay_22 : decode cX7_tellsDay 22 = .ok (.lmul, 1) := by decide +kernel
theorem dX7_tellsDay_23 : decode cX7_tellsDay 23 = .ok (.aload_n 0, 1) := by decide +kernel
theorem dX7_tellsDay_24 : decode cX7_tellsDay 24 = .ok (.getfield 55, 3) := by decide +kernel
theorem dX7_tellsDay_27 : decode cX7_tellsDay 27 = .ok (.bipush 12, 2) := by decide +kernel
theorem dX7_tellsDay_29 : decode cX7_tellsDay 29 = .ok (.iload_n 3, 1) := by decide +kernel
theorem dX7_tellsDay_30 : decode cX7_tellsDay 30 = .ok (.imul, 1) := by decide +kernel
theorem dX7_tellsDay_31 : decode cX7_tellsDay 31 = .ok (.iload 4, 2) := by decide +kernel
theorem dX7_tellsDay_33 : decode cX7_tellsDay 33 = .ok (.iadd, 1) := by decide +kernel
theorem dX7_tellsDay_34 : decode cX7_tellsDay 34 = .ok (.iaload, 1) := by decide +kernel
theorem dX7_tellsDay_35 : decode cX7_tellsDay 35 = .ok (.i2l, 1) := by decide +kernel
theorem dX7_tellsDay_36 : decode cX7_tellsDay 36 = .ok (.ladd, 1) := by decide +kernel
theorem dX7_tellsDay_37 : decode cX7_tellsDay 37 = .ok (.lreturn, 1) := by decide +kernel
theorem dX7_tellsWord_0 : decode cX7_tellsWord 0 = .ok (.aload_n 0, 1) := by decide +kernel
theorem dX7_tellsWord_1 : decode cX7_tellsWord 1 = .ok (.invokevirtual 218, 3) := by decide +kernel
theorem dX7_tellsWord_4 : decode cX7_tellsWord 4 = .ok (.lload_n 1, 1) := by decide +kernel
theorem dX7_tellsWord_5 : decode cX7_tellsWord 5 = .ok (.lstore 4, 2) := by decide +kernel
theorem dX7_tellsWord_7 : decode cX7_tellsWord 7 = .ok (.iconst 0, 1) := by decide +kernel
theorem dX7_tellsWord_8 : decode cX7_tellsWord 8 = .ok (.istore 6, 2) := by decide +kernel
theorem dX7_tellsWord_10 : decode cX7_tellsWord 10 = .ok (.iload 6, 2) := by decide +kernel
theorem dX7_tellsWord_12 : decode cX7_tellsWord 12 = .ok (.iconst 3, 1) := by decide +kernel
theorem dX7_tellsWord_13 : decode cX7_tellsWord 13 = .ok (.if_icmp .ge 30, 3) := by decide +kernel
theorem dX7_tellsWord_16 : decode cX7_tellsWord 16 = .ok (.ldc2_w 327, 3) := by decide +kernel
theorem dX7_tellsWord_19 : decode cX7_tellsWord 19 = .ok (.lload 4, 2) := by decide +kernel
theorem dX7_tellsWord_21 : decode cX7_tellsWord 21 = .ok (.lmul, 1) := by decide +kernel
theorem dX7_tellsWord_22 : decode cX7_tellsWord 22 = .ok (.aload_n 0, 1) := by decide +kernel
theorem dX7_tellsWord_23 : decode cX7_tellsWord 23 = .ok (.getfield 31, 3) := by decide +kernel
theorem dX7_tellsWord_26 : decode cX7_tellsWord 26 = .ok (.iconst 3, 1) := by decide +kernel
theorem dX7_tellsWord_27 : decode cX7_tellsWord 27 = .ok (.iload_n 3, 1) := by decide +kernel
theorem dX7_tellsWord_28 : decode cX7_tellsWord 28 = .ok (.imul, 1) := by decide +kernel
theorem dX7_tellsWord_29 : decode cX7_tellsWord 29 = .ok (.iload 6, 2) := by decide +kernel
theorem dX7_tellsWord_31 : decode cX7_tellsWord 31 = .ok (.iadd, 1) := by decide +kernel
theorem dX7_tellsWord_32 : decode cX7_tellsWord 32 = .ok (.iaload, 1) := by decide +kernel
theorem dX7_tellsWord_33 : decode cX7_tellsWord 33 = .ok (.i2l, 1) := by decide +kernel
theorem dX7_tellsWord_34 : decode cX7_tellsWord 34 = .ok (.ladd, 1) := by decide +kernel
theorem dX7_tellsWord_35 : decode cX7_tellsWord 35 = .ok (.lstore 4, 2) := by decide +kernel
theorem dX7_tellsWord_37 : decode cX7_tellsWord 37 = .ok (.iinc 6 1, 3) := by decide +kernel
theorem dX7_tellsWord_40 : decode cX7_tellsWord 40 = .ok (.goto (-30), 3) := by decide +kernel
theorem dX7_tellsWord_43 : decode cX7_tellsWord 43 = .ok (.aload_n 0, 1) := by decide +kernel
theorem dX7_tellsWord_44 : decode cX7_tellsWord 44 = .ok (.aload_n 0, 1) := by decide +kernel
theorem dX7_tellsWord_45 : decode cX7_tellsWord 45 = .ok (.aload_n 0, 1) := by decide +kernel
theorem dX7_tellsWord_46 : decode cX7_tellsWord 46 = .ok (.aload_n 0, 1) := by decide +kernel
theorem dX7_tellsWord_47 : decode cX7_tellsWord 47 = .ok (.lload 4, 2) := by decide +kernel
theorem dX7_tellsWord_49 : decode cX7_tellsWord 49 = .ok (.iconst 0, 1) := by decide +kernel
theorem dX7_tellsWord_50 : decode cX7_tellsWord 50 = .ok (.iload_n 3, 1) := by decide +kernel
theorem dX7_tellsWord_51 : decode cX7_tellsWord 51 = .ok (.invokevirtual 329, 3) := by decide +kernel
theorem dX7_tellsWord_54 : decode cX7_tellsWord 54 = .ok (.bipush 6, 2) := by decide +kernel
theorem dX7_tellsWord_56 : decode cX7_tellsWord 56 = .ok (.iload_n 3, 1) := by decide +kernel
theorem dX7_tellsWord_57 : decode cX7_tellsWord 57 = .ok (.invokevirtual 329, 3) := by decide +kernel
theorem dX7_tellsWord_60 : decode cX7_tellsWord 60 = .ok (.bipush 13, 2) := by decide +kernel
theorem dX7_tellsWord_62 : decode cX7_tellsWord 62 = .ok (.iload_n 3, 1) := by decide +kernel
theorem dX7_tellsWord_63 : decode cX7_tellsWord 63 = .ok (.invokevirtual 329, 3) := by decide +kernel
theorem dX7_tellsWord_66 : decode cX7_tellsWord 66 = .ok (.bipush 23, 2) := by decide +kernel
theorem dX7_tellsWord_68 : decode cX7_tellsWord 68 = .ok (.iload_n 3, 1) := by decide +kernel
theorem dX7_tellsWord_69 : decode cX7_tellsWord 69 = .ok (.invokevirtual 329, 3) := by decide +kernel
theorem dX7_tellsWord_72 : decode cX7_tellsWord 72 = .ok (.lstore 4, 2) := by decide +kernel
theorem dX7_tellsWord_74 : decode cX7_tellsWord 74 = .ok (.ldc2_w 327, 3) := by decide +kernel
theorem dX7_tellsWord_77 : decode cX7_tellsWord 77 = .ok (.lload 4, 2) := by decide +kernel
theorem dX7_tellsWord_79 : decode cX7_tellsWord 79 = .ok (.lmul, 1) := by decide +kernel
theorem dX7_tellsWord_80 : decode cX7_tellsWord 80 = .ok (.aload_n 0, 1) := by decide +kernel
theorem dX7_tellsWord_81 : decode cX7_tellsWord 81 = .ok (.iload_n 3, 1) := by decide +kernel
theorem dX7_tellsWord_82 : decode cX7_tellsWord 82 = .ok (.invokevirtual 292, 3) := by decide +kernel
theorem dX7_tellsWord_85 : decode cX7_tellsWord 85 = .ok (.i2l, 1) := by decide +kernel
theorem dX7_tellsWord_86 : decode cX7_tellsWord 86 = .ok (.ladd, 1) := by decide +kernel
theorem dX7_tellsWord_87 : decode cX7_tellsWord 87 = .ok (.lstore 4, 2) := by decide +kernel
theorem dX7_tellsWord_89 : decode cX7_tellsWord 89 = .ok (.ldc2_w 327, 3) := by decide +kernel
theorem dX7_tellsWord_92 : decode cX7_tellsWord 92 = .ok (.lload 4, 2) := by decide +kernel
theorem dX7_tellsWord_94 : decode cX7_tellsWord 94 = .ok (.lmul, 1) := by decide +kernel
theorem dX7_tellsWord_95 : decode cX7_tellsWord 95 = .ok (.aload_n 0, 1) := by decide +kernel
theorem dX7_tellsWord_96 : decode cX7_tellsWord 96 = .ok (.iload_n 3, 1) := by decide +kernel
theorem dX7_tellsWord_97 : decode cX7_tellsWord 97 = .ok (.invokevirtual 298, 3) := by decide +kernel
theorem dX7_tellsWord_100 : decode cX7_tellsWord 100 = .ok (.i2l, 1) := by decide +kernel
theorem dX7_tellsWord_101 : decode cX7_tellsWord 101 = .ok (.ladd, 1) := by decide +kernel
theorem dX7_tellsWord_102 : decode cX7_tellsWord 102 = .ok (.lstore 4, 2) := by decide +kernel
theorem dX7_tellsWord_104 : decode cX7_tellsWord 104 = .ok (.ldc2_w 327, 3) := by decide +kernel
theorem dX7_tellsWord_107 : decode cX7_tellsWord 107 = .ok (.lload 4, 2) := by decide +kernel
theorem dX7_tellsWord_109 : decode cX7_tellsWord 109 = .ok (.lmul, 1) := by decide +kernel
theorem dX7_tellsWord_110 : decode cX7_tellsWord 110 = .ok (.aload_n 0, 1) := by decide +kernel
theorem dX7_tellsWord_111 : decode cX7_tellsWord 111 = .ok (.iconst 5, 1) := by decide +kernel
theorem dX7_tellsWord_112 : decode cX7_tellsWord 112 = .ok (.iload_n 3, 1) := by decide +kernel
theorem dX7_tellsWord_113 : decode cX7_tellsWord 113 = .ok (.iconst 0, 1) := by decide +kernel
theorem dX7_tellsWord_114 : decode cX7_tellsWord 114 = .ok (.invokevirtual 307, 3) := by decide +kernel
theorem dX7_tellsWord_117 : decode cX7_tellsWord 117 = .ok (.ladd, 1) := by decide +kernel
theorem dX7_tellsWord_118 : decode cX7_tellsWord 118 = .ok (.lstore 4, 2) := by decide +kernel
theorem dX7_tellsWord_120 : decode cX7_tellsWord 120 = .ok (.ldc2_w 327, 3) := by decide +kernel
theorem dX7_tellsWord_123 : decode cX7_tellsWord 123 = .ok (.lload 4, 2) := by decide +kernel
theorem dX7_tellsWord_125 : decode cX7_tellsWord 125 = .ok (.lmul, 1) := by decide +kernel
theorem dX7_tellsWord_126 : decode cX7_tellsWord 126 = .ok (.aload_n 0, 1) := by decide +kernel
theorem dX7_tellsWord_127 : decode cX7_tellsWord 127 = .ok (.iconst 5, 1) := by decide +kernel
theorem dX7_tellsWord_128 : decode cX7_tellsWord 128 = .ok (.iload_n 3, 1) := by decide +kernel
theorem dX7_tellsWord_129 : decode cX7_tellsWord 129 = .ok (.iconst 1, 1) := by decide +kernel
theorem dX7_tellsWord_130 : decode cX7_tellsWord 130 = .ok (.invokevirtual 307, 3) := by decide +kernel
theorem dX7_tellsWord_133 : decode cX7_tellsWord 133 = .ok (.ladd, 1) := by decide +kernel
theorem dX7_tellsWord_134 : decode cX7_tellsWord 134 = .ok (.lreturn, 1) := by decide +kernel
theorem dX7_tellsPerson_0 : decode cX7_tellsPerson 0 = .ok (.aload_n 0, 1) := by decide +kernel
theorem dX7_tellsPerson_1 : decode cX7_tellsPerson 1 = .ok (.invokevirtual 218, 3) := by decide +kernel
theorem dX7_tellsPerson_4 : decode cX7_tellsPerson 4 = .ok (.ldc2_w 327, 3) := by decide +kernel
theorem dX7_tellsPerson_7 : decode cX7_tellsPerson 7 = .ok (.lload_n 1, 1) := by decide +kernel
theorem dX7_tellsPerson_8 : decode cX7_tellsPerson 8 = .ok (.lmul, 1) := by decide +kernel
theorem dX7_tellsPerson_9 : decode cX7_tellsPerson 9 = .ok (.aload_n 0, 1) := by decide +kernel
theorem dX7_tellsPerson_10 : decode cX7_tellsPerson 10 = .ok (.getfield 28, 3) := by decide +kernel
theorem dX7_tellsPerson_13 : decode cX7_tellsPerson 13 = .ok (.iconst 2, 1) := by decide +kernel
theorem dX7_tellsPerson_14 : decode cX7_tellsPerson 14 = .ok (.iload_n 3, 1) := by decide +kernel
theorem dX7_tellsPerson_15 : decode cX7_tellsPerson 15 = .ok (.imul, 1) := by decide +kernel
theorem dX7_tellsPerson_16 : decode cX7_tellsPerson 16 = .ok (.iaload, 1) := by decide +kernel
theorem dX7_tellsPerson_17 : decode cX7_tellsPerson 17 = .ok (.i2l, 1) := by decide +kernel
theorem dX7_tellsPerson_18 : decode cX7_tellsPerson 18 = .ok (.ladd, 1) := by decide +kernel
theorem dX7_tellsPerson_19 : decode cX7_tellsPerson 19 = .ok (.lstore 4, 2) := by decide +kernel
theorem dX7_tellsPerson_21 : decode cX7_tellsPerson 21 = .ok (.ldc2_w 327, 3) := by decide +kernel
theorem dX7_tellsPerson_24 : decode cX7_tellsPerson 24 = .ok (.lload 4, 2) := by decide +kernel
theorem dX7_tellsPerson_26 : decode cX7_tellsPerson 26 = .ok (.lmul, 1) := by decide +kernel
theorem dX7_tellsPerson_27 : decode cX7_tellsPerson 27 = .ok (.aload_n 0, 1) := by decide +kernel
theorem dX7_tellsPerson_28 : decode cX7_tellsPerson 28 = .ok (.getfield 28, 3) := by decide +kernel
theorem dX7_tellsPerson_31 : decode cX7_tellsPerson 31 = .ok (.iconst 2, 1) := by decide +kernel
theorem dX7_tellsPerson_32 : decode cX7_tellsPerson 32 = .ok (.iload_n 3, 1) := by decide +kernel
theorem dX7_tellsPerson_33 : decode cX7_tellsPerson 33 = .ok (.imul, 1) := by decide +kernel
theorem dX7_tellsPerson_34 : decode cX7_tellsPerson 34 = .ok (.iconst 1, 1) := by decide +kernel
theorem dX7_tellsPerson_35 : decode cX7_tellsPerson 35 = .ok (.iadd, 1) := by decide +kernel
theorem dX7_tellsPerson_36 : decode cX7_tellsPerson 36 = .ok (.iaload, 1) := by decide +kernel
theorem dX7_tellsPerson_37 : decode cX7_tellsPerson 37 = .ok (.i2l, 1) := by decide +kernel
theorem dX7_tellsPerson_38 : decode cX7_tellsPerson 38 = .ok (.ladd, 1) := by decide +kernel
theorem dX7_tellsPerson_39 : decode cX7_tellsPerson 39 = .ok (.lstore 4, 2) := by decide +kernel
theorem dX7_tellsPerson_41 : decode cX7_tellsPerson 41 = .ok (.iconst 0, 1) := by decide +kernel
theorem dX7_tellsPerson_42 : decode cX7_tellsPerson 42 = .ok (.istore 6, 2) := by decide +kernel
theorem dX7_tellsPerson_44 : decode cX7_tellsPerson 44 = .ok (.iload 6, 2) := by decide +kernel
theorem dX7_tellsPerson_46 : decode cX7_tellsPerson 46 = .ok (.iconst 4, 1) := by decide +kernel
theorem dX7_tellsPerson_47 : decode cX7_tellsPerson 47 = .ok (.if_icmp .ge 28, 3) := by decide +kernel
theorem dX7_tellsPerson_50 : decode cX7_tellsPerson 50 = .ok (.ldc2_w 327, 3) := by decide +kernel
theorem dX7_tellsPerson_53 : decode cX7_tellsPerson 53 = .ok (.lload 4, 2) := by decide +kernel
theorem dX7_tellsPerson_55 : decode cX7_tellsPerson 55 = .ok (.lmul, 1) := by decide +kernel
theorem dX7_tellsPerson_56 : decode cX7_tellsPerson 56 = .ok (.aload_n 0, 1) := by decide +kernel
theorem dX7_tellsPerson_57 : decode cX7_tellsPerson 57 = .ok (.bipush 6, 2) := by decide +kernel
theorem dX7_tellsPerson_59 : decode cX7_tellsPerson 59 = .ok (.iload_n 3, 1) := by decide +kernel
theorem dX7_tellsPerson_60 : decode cX7_tellsPerson 60 = .ok (.iload 6, 2) := by decide +kernel
theorem dX7_tellsPerson_62 : decode cX7_tellsPerson 62 = .ok (.invokevirtual 230, 3) := by decide +kernel
theorem dX7_tellsPerson_65 : decode cX7_tellsPerson 65 = .ok (.i2l, 1) := by decide +kernel
theorem dX7_tellsPerson_66 : decode cX7_tellsPerson 66 = .ok (.ladd, 1) := by decide +kernel
theorem dX7_tellsPerson_67 : decode cX7_tellsPerson 67 = .ok (.lstore 4, 2) := by decide +kernel
theorem dX7_tellsPerson_69 : decode cX7_tellsPerson 69 = .ok (.iinc 6 1, 3) := by decide +kernel
theorem dX7_tellsPerson_72 : decode cX7_tellsPerson 72 = .ok (.goto (-28), 3) := by decide +kernel
theorem dX7_tellsPerson_75 : decode cX7_tellsPerson 75 = .ok (.iconst 0, 1) := by decide +kernel
theorem dX7_tellsPerson_76 : decode cX7_tellsPerson 76 = .ok (.istore 6, 2) := by decide +kernel
theorem dX7_tellsPerson_78 : decode cX7_tellsPerson 78 = .ok (.iload 6, 2) := by decide +kernel
theorem dX7_tellsPerson_80 : decode cX7_tellsPerson 80 = .ok (.iconst 4, 1) := by decide +kernel
theorem dX7_tellsPerson_81 : decode cX7_tellsPerson 81 = .ok (.if_icmp .ge 28, 3) := by decide +kernel
theorem dX7_tellsPerson_84 : decode cX7_tellsPerson 84 = .ok (.ldc2_w 327, 3) := by decide +kernel
theorem dX7_tellsPerson_87 : decode cX7_tellsPerson 87 = .ok (.lload 4, 2) := by decide +kernel
theorem dX7_tellsPerson_89 : decode cX7_tellsPerson 89 = .ok (.lmul, 1) := by decide +kernel
theorem dX7_tellsPerson_90 : decode cX7_tellsPerson 90 = .ok (.aload_n 0, 1) := by decide +kernel
theorem dX7_tellsPerson_91 : decode cX7_tellsPerson 91 = .ok (.bipush 23, 2) := by decide +kernel
theorem dX7_tellsPerson_93 : decode cX7_tellsPerson 93 = .ok (.iload_n 3, 1) := by decide +kernel
theorem dX7_tellsPerson_94 : decode cX7_tellsPerson 94 = .ok (.iload 6, 2) := by decide +kernel
theorem dX7_tellsPerson_96 : decode cX7_tellsPerson 96 = .ok (.invokevirtual 230, 3) := by decide +kernel
theorem dX7_tellsPerson_99 : decode cX7_tellsPerson 99 = .ok (.i2l, 1) := by decide +kernel
theorem dX7_tellsPerson_100 : decode cX7_tellsPerson 100 = .ok (.ladd, 1) := by decide +kernel
theorem dX7_tellsPerson_101 : decode cX7_tellsPerson 101 = .ok (.lstore 4, 2) := by decide +kernel
theorem dX7_tellsPerson_103 : decode cX7_tellsPerson 103 = .ok (.iinc 6 1, 3) := by decide +kernel
theorem dX7_tellsPerson_106 : decode cX7_tellsPerson 106 = .ok (.goto (-28), 3) := by decide +kernel
theorem dX7_tellsPerson_109 : decode cX7_tellsPerson 109 = .ok (.ldc2_w 327, 3) := by decide +kernel
theorem dX7_tellsPerson_112 : decode cX7_tellsPerson 112 = .ok (.lload 4, 2) := by decide +kernel
theorem dX7_tellsPerson_114 : decode cX7_tellsPerson 114 = .ok (.lmul, 1) := by decide +kernel
theorem dX7_tellsPerson_115 : decode cX7_tellsPerson 115 = .ok (.aload_n 0, 1) := by decide +kernel
theorem dX7_tellsPerson_116 : decode cX7_tellsPerson 116 = .ok (.iload_n 3, 1) := by decide +kernel
theorem dX7_tellsPerson_117 : decode cX7_tellsPerson 117 = .ok (.invokevirtual 236, 3) := by decide +kernel
theorem dX7_tellsPerson_120 : decode cX7_tellsPerson 120 = .ok (.i2l, 1) := by decide +kernel
theorem dX7_tellsPerson_121 : decode cX7_tellsPerson 121 = .ok (.ladd, 1) := by decide +kernel
theorem dX7_tellsPerson_122 : decode cX7_tellsPerson 122 = .ok (.lstore 4, 2) := by decide +kernel
theorem dX7_tellsPerson_124 : decode cX7_tellsPerson 124 = .ok (.ldc2_w 327, 3) := by decide +kernel
theorem dX7_tellsPerson_127 : decode cX7_tellsPerson 127 = .ok (.lload 4, 2) := by decide +kernel
theorem dX7_tellsPerson_129 : decode cX7_tellsPerson 129 = .ok (.lmul, 1) := by decide +kernel
theorem dX7_tellsPerson_130 : decode cX7_tellsPerson 130 = .ok (.aload_n 0, 1) := by decide +kernel
theorem dX7_tellsPerson_131 : decode cX7_tellsPerson 131 = .ok (.iload_n 3, 1) := by decide +kernel
theorem dX7_tellsPerson_132 : decode cX7_tellsPerson 132 = .ok (.invokevirtual 260, 3) := by decide +kernel
theorem dX7_tellsPerson_135 : decode cX7_tellsPerson 135 = .ok (.i2l, 1) := by decide +kernel
theorem dX7_tellsPerson_136 : decode cX7_tellsPerson 136 = .ok (.ladd, 1) := by decide +kernel
theorem dX7_tellsPerson_137 : decode cX7_tellsPerson 137 = .ok (.lstore 4, 2) := by decide +kernel
theorem dX7_tellsPerson_139 : decode cX7_tellsPerson 139 = .ok (.ldc2_w 327, 3) := by decide +kernel
theorem dX7_tellsPerson_142 : decode cX7_tellsPerson 142 = .ok (.lload 4, 2) := by decide +kernel
theorem dX7_tellsPerson_144 : decode cX7_tellsPerson 144 = .ok (.lmul, 1) := by decide +kernel
theorem dX7_tellsPerson_145 : decode cX7_tellsPerson 145 = .ok (.aload_n 0, 1) := by decide +kernel
theorem dX7_tellsPerson_146 : decode cX7_tellsPerson 146 = .ok (.iload_n 3, 1) := by decide +kernel
theorem dX7_tellsPerson_147 : decode cX7_tellsPerson 147 = .ok (.invokevirtual 289, 3) := by decide +kernel
theorem dX7_tellsPerson_150 : decode cX7_tellsPerson 150 = .ok (.i2l, 1) := by decide +kernel
theorem dX7_tellsPerson_151 : decode cX7_tellsPerson 151 = .ok (.ladd, 1) := by decide +kernel
theorem dX7_tellsPerson_152 : decode cX7_tellsPerson 152 = .ok (.lreturn, 1) := by decide +kernel
theorem dX7_digest_0 : decode cX7_digest 0 = .ok (.ldc2_w 333, 3) := by decide +kernel
theorem dX7_digest_3 : decode cX7_digest 3 = .ok (.lstore_n 1, 1) := by decide +kernel
theorem dX7_digest_4 : decode cX7_digest 4 = .ok (.iconst 0, 1) := by decide +kernel
theorem dX7_digest_5 : decode cX7_digest 5 = .ok (.istore_n 3, 1) := by decide +kernel
theorem dX7_digest_6 : decode cX7_digest 6 = .ok (.iload_n 3, 1) := by decide +kernel
theorem dX7_digest_7 : decode cX7_digest 7 = .ok (.bipush 8, 2) := by decide +kernel
theorem dX7_digest_9 : decode cX7_digest 9 = .ok (.if_icmp .ge 22, 3) := by decide +kernel
theorem dX7_digest_12 : decode cX7_digest 12 = .ok (.ldc2_w 327, 3) := by decide +kernel
theorem dX7_digest_15 : decode cX7_digest 15 = .ok (.lload_n 1, 1) := by decide +kernel
theorem dX7_digest_16 : decode cX7_digest 16 = .ok (.lmul, 1) := by decide +kernel
theorem dX7_digest_17 : decode cX7_digest 17 = .ok (.aload_n 0, 1) := by decide +kernel
theorem dX7_digest_18 : decode cX7_digest 18 = .ok (.iload_n 3, 1) := by decide +kernel
theorem dX7_digest_19 : decode cX7_digest 19 = .ok (.invokevirtual 335, 3) := by decide +kernel
theorem dX7_digest_22 : decode cX7_digest 22 = .ok (.i2l, 1) := by decide +kernel
theorem dX7_digest_23 : decode cX7_digest 23 = .ok (.ladd, 1) := by decide +kernel
theorem dX7_digest_24 : decode cX7_digest 24 = .ok (.lstore_n 1, 1) := by decide +kernel
theorem dX7_digest_25 : decode cX7_digest 25 = .ok (.iinc 3 1, 3) := by decide +kernel
theorem dX7_digest_28 : decode cX7_digest 28 = .ok (.goto (-22), 3) := by decide +kernel
theorem dX7_digest_31 : decode cX7_digest 31 = .ok (.iconst 0, 1) := by decide +kernel
theorem dX7_digest_32 : decode cX7_digest 32 = .ok (.istore_n 3, 1) := by decide +kernel
theorem dX7_digest_33 : decode cX7_digest 33 = .ok (.iload_n 3, 1) := by decide +kernel
theorem dX7_digest_34 : decode cX7_digest 34 = .ok (.iconst 3, 1) := by decide +kernel
theorem dX7_digest_35 : decode cX7_digest 35 = .ok (.if_icmp .ge 22, 3) := by decide +kernel
theorem dX7_digest_38 : decode cX7_digest 38 = .ok (.ldc2_w 327, 3) := by decide +kernel
theorem dX7_digest_41 : decode cX7_digest 41 = .ok (.lload_n 1, 1) := by decide +kernel
theorem dX7_digest_42 : decode cX7_digest 42 = .ok (.lmul, 1) := by decide +kernel
theorem dX7_digest_43 : decode cX7_digest 43 = .ok (.aload_n 0, 1) := by decide +kernel
theorem dX7_digest_44 : decode cX7_digest 44 = .ok (.iload_n 3, 1) := by decide +kernel
theorem dX7_digest_45 : decode cX7_digest 45 = .ok (.invokevirtual 147, 3) := by decide +kernel
theorem dX7_digest_48 : decode cX7_digest 48 = .ok (.i2l, 1) := by decide +kernel
theorem dX7_digest_49 : decode cX7_digest 49 = .ok (.ladd, 1) := by decide +kernel
theorem dX7_digest_50 : decode cX7_digest 50 = .ok (.lstore_n 1, 1) := by decide +kernel
theorem dX7_digest_51 : decode cX7_digest 51 = .ok (.iinc 3 1, 3) := by decide +kernel
theorem dX7_digest_54 : decode cX7_digest 54 = .ok (.goto (-21), 3) := by decide +kernel
theorem dX7_digest_57 : decode cX7_digest 57 = .ok (.iconst 0, 1) := by decide +kernel
theorem dX7_digest_58 : decode cX7_digest 58 = .ok (.istore_n 3, 1) := by decide +kernel
theorem dX7_digest_59 : decode cX7_digest 59 = .ok (.iload_n 3, 1) := by decide +kernel
theorem dX7_digest_60 : decode cX7_digest 60 = .ok (.bipush 12, 2) := by decide +kernel
theorem dX7_digest_62 : decode cX7_digest 62 = .ok (.if_icmp .ge 39, 3) := by decide +kernel
theorem dX7_digest_65 : decode cX7_digest 65 = .ok (.iconst 0, 1) := by decide +kernel
theorem dX7_digest_66 : decode cX7_digest 66 = .ok (.istore 4, 2) := by decide +kernel
theorem dX7_digest_68 : decode cX7_digest 68 = .ok (.iload 4, 2) := by decide +kernel
theorem dX7_digest_70 : decode cX7_digest 70 = .ok (.iconst 3, 1) := by decide +kernel
theorem dX7_digest_71 : decode cX7_digest 71 = .ok (.if_icmp .ge 24, 3) := by decide +kernel
theorem dX7_digest_74 : decode cX7_digest 74 = .ok (.ldc2_w 327, 3) := by decide +kernel
theorem dX7_digest_77 : decode cX7_digest 77 = .ok (.lload_n 1, 1) := by decide +kernel
theorem dX7_digest_78 : decode cX7_digest 78 = .ok (.lmul, 1) := by decide +kernel
theorem dX7_digest_79 : decode cX7_digest 79 = .ok (.aload_n 0, 1) := by decide +kernel
theorem dX7_digest_80 : decode cX7_digest 80 = .ok (.iload_n 3, 1) := by decide +kernel
theorem dX7_digest_81 : decode cX7_digest 81 = .ok (.iload 4, 2) := by decide +kernel
theorem dX7_digest_83 : decode cX7_digest 83 = .ok (.invokevirtual 163, 3) := by decide +kernel
theorem dX7_digest_86 : decode cX7_digest 86 = .ok (.i2l, 1) := by decide +kernel
theorem dX7_digest_87 : decode cX7_digest 87 = .ok (.ladd, 1) := by decide +kernel
theorem dX7_digest_88 : decode cX7_digest 88 = .ok (.lstore_n 1, 1) := by decide +kernel
theorem dX7_digest_89 : decode cX7_digest 89 = .ok (.iinc 4 1, 3) := by decide +kernel
theorem dX7_digest_92 : decode cX7_digest 92 = .ok (.goto (-24), 3) := by decide +kernel
theorem dX7_digest_95 : decode cX7_digest 95 = .ok (.iinc 3 1, 3) := by decide +kernel
theorem dX7_digest_98 : decode cX7_digest 98 = .ok (.goto (-39), 3) := by decide +kernel
theorem dX7_digest_101 : decode cX7_digest 101 = .ok (.iconst 0, 1) := by decide +kernel
theorem dX7_digest_102 : decode cX7_digest 102 = .ok (.istore_n 3, 1) := by decide +kernel
theorem dX7_digest_103 : decode cX7_digest 103 = .ok (.iload_n 3, 1) := by decide +kernel
theorem dX7_digest_104 : decode cX7_digest 104 = .ok (.aload_n 0, 1) := by decide +kernel
theorem dX7_digest_105 : decode cX7_digest 105 = .ok (.getfield 125, 3) := by decide +kernel
theorem dX7_digest_108 : decode cX7_digest 108 = .ok (.if_icmp .ge 16, 3) := by decide +kernel
theorem dX7_digest_111 : decode cX7_digest 111 = .ok (.aload_n 0, 1) := by decide +kernel
theorem dX7_digest_112 : decode cX7_digest 112 = .ok (.lload_n 1, 1) := by decide +kernel
theorem dX7_digest_113 : decode cX7_digest 113 = .ok (.iload_n 3, 1) := by decide +kernel
theorem dX7_digest_114 : decode cX7_digest 114 = .ok (.invokevirtual 338, 3) := by decide +kernel
theorem dX7_digest_117 : decode cX7_digest 117 = .ok (.lstore_n 1, 1) := by decide +kernel
theorem dX7_digest_118 : decode cX7_digest 118 = .ok (.iinc 3 1, 3) := by decide +kernel
theorem dX7_digest_121 : decode cX7_digest 121 = .ok (.goto (-18), 3) := by decide +kernel
theorem dX7_digest_124 : decode cX7_digest 124 = .ok (.iconst 0, 1) := by decide +kernel
theorem dX7_digest_125 : decode cX7_digest 125 = .ok (.istore_n 3, 1) := by decide +kernel
theorem dX7_digest_126 : decode cX7_digest 126 = .ok (.iload_n 3, 1) := by decide +kernel
theorem dX7_digest_127 : decode cX7_digest 127 = .ok (.aload_n 0, 1) := by decide +kernel
theorem dX7_digest_128 : decode cX7_digest 128 = .ok (.getfield 116, 3) := by decide +kernel
theorem dX7_digest_131 : decode cX7_digest 131 = .ok (.if_icmp .ge 16, 3) := by decide +kernel
theorem dX7_digest_134 : decode cX7_digest 134 = .ok (.aload_n 0, 1) := by decide +kernel
theorem dX7_digest_135 : decode cX7_digest 135 = .ok (.lload_n 1, 1) := by decide +kernel
theorem dX7_digest_136 : decode cX7_digest 136 = .ok (.iload_n 3, 1) := by decide +kernel
theorem dX7_digest_137 : decode cX7_digest 137 = .ok (.invokevirtual 342, 3) := by decide +kernel
theorem dX7_digest_140 : decode cX7_digest 140 = .ok (.lstore_n 1, 1) := by decide +kernel
theorem dX7_digest_141 : decode cX7_digest 141 = .ok (.iinc 3 1, 3) := by decide +kernel
theorem dX7_digest_144 : decode cX7_digest 144 = .ok (.goto (-18), 3) := by decide +kernel
theorem dX7_digest_147 : decode cX7_digest 147 = .ok (.aload_n 0, 1) := by decide +kernel
theorem dX7_digest_148 : decode cX7_digest 148 = .ok (.invokevirtual 218, 3) := by decide +kernel
theorem dX7_digest_151 : decode cX7_digest 151 = .ok (.iconst 0, 1) := by decide +kernel
theorem dX7_digest_152 : decode cX7_digest 152 = .ok (.istore_n 3, 1) := by decide +kernel
theorem dX7_digest_153 : decode cX7_digest 153 = .ok (.iload_n 3, 1) := by decide +kernel
theorem dX7_digest_154 : decode cX7_digest 154 = .ok (.bipush 24, 2) := by decide +kernel
theorem dX7_digest_156 : decode cX7_digest 156 = .ok (.if_icmp .ge 50, 3) := by decide +kernel
theorem dX7_digest_159 : decode cX7_digest 159 = .ok (.ldc2_w 327, 3) := by decide +kernel
theorem dX7_digest_162 : decode cX7_digest 162 = .ok (.lload_n 1, 1) := by decide +kernel
theorem dX7_digest_163 : decode cX7_digest 163 = .ok (.lmul, 1) := by decide +kernel
theorem dX7_digest_164 : decode cX7_digest 164 = .ok (.aload_n 0, 1) := by decide +kernel
theorem dX7_digest_165 : decode cX7_digest 165 = .ok (.iload_n 3, 1) := by decide +kernel
theorem dX7_digest_166 : decode cX7_digest 166 = .ok (.invokevirtual 239, 3) := by decide +kernel
theorem dX7_digest_169 : decode cX7_digest 169 = .ok (.i2l, 1) := by decide +kernel
theorem dX7_digest_170 : decode cX7_digest 170 = .ok (.ladd, 1) := by decide +kernel
theorem dX7_digest_171 : decode cX7_digest 171 = .ok (.lstore_n 1, 1) := by decide +kernel
theorem dX7_digest_172 : decode cX7_digest 172 = .ok (.ldc2_w 327, 3) := by decide +kernel
theorem dX7_digest_175 : decode cX7_digest 175 = .ok (.lload_n 1, 1) := by decide +kernel
theorem dX7_digest_176 : decode cX7_digest 176 = .ok (.lmul, 1) := by decide +kernel
theorem dX7_digest_177 : decode cX7_digest 177 = .ok (.aload_n 0, 1) := by decide +kernel
theorem dX7_digest_178 : decode cX7_digest 178 = .ok (.iload_n 3, 1) := by decide +kernel
theorem dX7_digest_179 : decode cX7_digest 179 = .ok (.iconst 0, 1) := by decide +kernel
theorem dX7_digest_180 : decode cX7_digest 180 = .ok (.invokevirtual 248, 3) := by decide +kernel
theorem dX7_digest_183 : decode cX7_digest 183 = .ok (.i2l, 1) := by decide +kernel
theorem dX7_digest_184 : decode cX7_digest 184 = .ok (.ladd, 1) := by decide +kernel
theorem dX7_digest_185 : decode cX7_digest 185 = .ok (.lstore_n 1, 1) := by decide +kernel
theorem dX7_digest_186 : decode cX7_digest 186 = .ok (.ldc2_w 327, 3) := by decide +kernel
theorem dX7_digest_189 : decode cX7_digest 189 = .ok (.lload_n 1, 1) := by decide +kernel
theorem dX7_digest_190 : decode cX7_digest 190 = .ok (.lmul, 1) := by decide +kernel
theorem dX7_digest_191 : decode cX7_digest 191 = .ok (.aload_n 0, 1) := by decide +kernel
theorem dX7_digest_192 : decode cX7_digest 192 = .ok (.iload_n 3, 1) := by decide +kernel
theorem dX7_digest_193 : decode cX7_digest 193 = .ok (.iconst 1, 1) := by decide +kernel
theorem dX7_digest_194 : decode cX7_digest 194 = .ok (.invokevirtual 248, 3) := by decide +kernel
theorem dX7_digest_197 : decode cX7_digest 197 = .ok (.i2l, 1) := by decide +kernel
theorem dX7_digest_198 : decode cX7_digest 198 = .ok (.ladd, 1) := by decide +kernel
theorem dX7_digest_199 : decode cX7_digest 199 = .ok (.lstore_n 1, 1) := by decide +kernel
theorem dX7_digest_200 : decode cX7_digest 200 = .ok (.iinc 3 1, 3) := by decide +kernel
theorem dX7_digest_203 : decode cX7_digest 203 = .ok (.goto (-50), 3) := by decide +kernel
theorem dX7_digest_206 : decode cX7_digest 206 = .ok (.ldc2_w 327, 3) := by decide +kernel
theorem dX7_digest_209 : decode cX7_digest 209 = .ok (.lload_n 1, 1) := by decide +kernel
theorem dX7_digest_210 : decode cX7_digest 210 = .ok (.lmul, 1) := by decide +kernel
theorem dX7_digest_211 : decode cX7_digest 211 = .ok (.aload_n 0, 1) := by decide +kernel
theorem dX7_digest_212 : decode cX7_digest 212 = .ok (.invokevirtual 251, 3) := by decide +kernel
theorem dX7_digest_215 : decode cX7_digest 215 = .ok (.i2l, 1) := by decide +kernel
theorem dX7_digest_216 : decode cX7_digest 216 = .ok (.ladd, 1) := by decide +kernel
theorem dX7_digest_217 : decode cX7_digest 217 = .ok (.lstore_n 1, 1) := by decide +kernel
theorem dX7_digest_218 : decode cX7_digest 218 = .ok (.iconst 0, 1) := by decide +kernel
theorem dX7_digest_219 : decode cX7_digest 219 = .ok (.istore_n 3, 1) := by decide +kernel
theorem dX7_digest_220 : decode cX7_digest 220 = .ok (.iload_n 3, 1) := by decide +kernel
theorem dX7_digest_221 : decode cX7_digest 221 = .ok (.iconst 3, 1) := by decide +kernel
theorem dX7_digest_222 : decode cX7_digest 222 = .ok (.if_icmp .ge 24, 3) := by decide +kernel
theorem dX7_digest_225 : decode cX7_digest 225 = .ok (.ldc2_w 327, 3) := by decide +kernel
theorem dX7_digest_228 : decode cX7_digest 228 = .ok (.lload_n 1, 1) := by decide +kernel
theorem dX7_digest_229 : decode cX7_digest 229 = .ok (.lmul, 1) := by decide +kernel
theorem dX7_digest_230 : decode cX7_digest 230 = .ok (.aload_n 0, 1) := by decide +kernel
theorem dX7_digest_231 : decode cX7_digest 231 = .ok (.bipush 8, 2) := by decide +kernel
theorem dX7_digest_233 : decode cX7_digest 233 = .ok (.iload_n 3, 1) := by decide +kernel
theorem dX7_digest_234 : decode cX7_digest 234 = .ok (.invokevirtual 257, 3) := by decide +kernel
theorem dX7_digest_237 : decode cX7_digest 237 = .ok (.i2l, 1) := by decide +kernel
theorem dX7_digest_238 : decode cX7_digest 238 = .ok (.ladd, 1) := by decide +kernel
theorem dX7_digest_239 : decode cX7_digest 239 = .ok (.lstore_n 1, 1) := by decide +kernel
theorem dX7_digest_240 : decode cX7_digest 240 = .ok (.iinc 3 1, 3) := by decide +kernel
theorem dX7_digest_243 : decode cX7_digest 243 = .ok (.goto (-23), 3) := by decide +kernel
theorem dX7_digest_246 : decode cX7_digest 246 = .ok (.ldc2_w 327, 3) := by decide +kernel
theorem dX7_digest_249 : decode cX7_digest 249 = .ok (.lload_n 1, 1) := by decide +kernel
theorem dX7_digest_250 : decode cX7_digest 250 = .ok (.lmul, 1) := by decide +kernel
theorem dX7_digest_251 : decode cX7_digest 251 = .ok (.aload_n 0, 1) := by decide +kernel
theorem dX7_digest_252 : decode cX7_digest 252 = .ok (.iconst 0, 1) := by decide +kernel
theorem dX7_digest_253 : decode cX7_digest 253 = .ok (.invokevirtual 266, 3) := by decide +kernel
theorem dX7_digest_256 : decode cX7_digest 256 = .ok (.i2l, 1) := by decide +kernel
theorem dX7_digest_257 : decode cX7_digest 257 = .ok (.ladd, 1) := by decide +kernel
theorem dX7_digest_258 : decode cX7_digest 258 = .ok (.lstore_n 1, 1) := by decide +kernel
theorem dX7_digest_259 : decode cX7_digest 259 = .ok (.ldc2_w 327, 3) := by decide +kernel
theorem dX7_digest_262 : decode cX7_digest 262 = .ok (.lload_n 1, 1) := by decide +kernel
theorem dX7_digest_263 : decode cX7_digest 263 = .ok (.lmul, 1) := by decide +kernel
theorem dX7_digest_264 : decode cX7_digest 264 = .ok (.aload_n 0, 1) := by decide +kernel
theorem dX7_digest_265 : decode cX7_digest 265 = .ok (.iconst 1, 1) := by decide +kernel
theorem dX7_digest_266 : decode cX7_digest 266 = .ok (.invokevirtual 266, 3) := by decide +kernel
theorem dX7_digest_269 : decode cX7_digest 269 = .ok (.i2l, 1) := by decide +kernel
theorem dX7_digest_270 : decode cX7_digest 270 = .ok (.ladd, 1) := by decide +kernel
theorem dX7_digest_271 : decode cX7_digest 271 = .ok (.lstore_n 1, 1) := by decide +kernel
theorem dX7_digest_272 : decode cX7_digest 272 = .ok (.ldc2_w 327, 3) := by decide +kernel
theorem dX7_digest_275 : decode cX7_digest 275 = .ok (.lload_n 1, 1) := by decide +kernel
theorem dX7_digest_276 : decode cX7_digest 276 = .ok (.lmul, 1) := by decide +kernel
theorem dX7_digest_277 : decode cX7_digest 277 = .ok (.aload_n 0, 1) := by decide +kernel
theorem dX7_digest_278 : decode cX7_digest 278 = .ok (.iconst (-1), 1) := by decide +kernel
theorem dX7_digest_279 : decode cX7_digest 279 = .ok (.invokevirtual 274, 3) := by decide +kernel
theorem dX7_digest_282 : decode cX7_digest 282 = .ok (.i2l, 1) := by decide +kernel
theorem dX7_digest_283 : decode cX7_digest 283 = .ok (.ladd, 1) := by decide +kernel
theorem dX7_digest_284 : decode cX7_digest 284 = .ok (.lstore_n 1, 1) := by decide +kernel
theorem dX7_digest_285 : decode cX7_digest 285 = .ok (.ldc2_w 327, 3) := by decide +kernel
theorem dX7_digest_288 : decode cX7_digest 288 = .ok (.lload_n 1, 1) := by decide +kernel
theorem dX7_digest_289 : decode cX7_digest 289 = .ok (.lmul, 1) := by decide +kernel
theorem dX7_digest_290 : decode cX7_digest 290 = .ok (.aload_n 0, 1) := by decide +kernel
theorem dX7_digest_291 : decode cX7_digest 291 = .ok (.iconst 0, 1) := by decide +kernel
theorem dX7_digest_292 : decode cX7_digest 292 = .ok (.invokevirtual 274, 3) := by decide +kernel
theorem dX7_digest_295 : decode cX7_digest 295 = .ok (.i2l, 1) := by decide +kernel
theorem dX7_digest_296 : decode cX7_digest 296 = .ok (.ladd, 1) := by decide +kernel
theorem dX7_digest_297 : decode cX7_digest 297 = .ok (.lstore_n 1, 1) := by decide +kernel
theorem dX7_digest_298 : decode cX7_digest 298 = .ok (.ldc2_w 327, 3) := by decide +kernel
theorem dX7_digest_301 : decode cX7_digest 301 = .ok (.lload_n 1, 1) := by decide +kernel
theorem dX7_digest_302 : decode cX7_digest 302 = .ok (.lmul, 1) := by decide +kernel
theorem dX7_digest_303 : decode cX7_digest 303 = .ok (.aload_n 0, 1) := by decide +kernel
theorem dX7_digest_304 : decode cX7_digest 304 = .ok (.invokevirtual 286, 3) := by decide +kernel
theorem dX7_digest_307 : decode cX7_digest 307 = .ok (.i2l, 1) := by decide +kernel
theorem dX7_digest_308 : decode cX7_digest 308 = .ok (.ladd, 1) := by decide +kernel
theorem dX7_digest_309 : decode cX7_digest 309 = .ok (.lstore_n 1, 1) := by decide +kernel
theorem dX7_digest_310 : decode cX7_digest 310 = .ok (.ldc2_w 327, 3) := by decide +kernel
theorem dX7_digest_313 : decode cX7_digest 313 = .ok (.lload_n 1, 1) := by decide +kernel
theorem dX7_digest_314 : decode cX7_digest 314 = .ok (.lmul, 1) := by decide +kernel
theorem dX7_digest_315 : decode cX7_digest 315 = .ok (.aload_n 0, 1) := by decide +kernel
theorem dX7_digest_316 : decode cX7_digest 316 = .ok (.bipush 7, 2) := by decide +kernel
theorem dX7_digest_318 : decode cX7_digest 318 = .ok (.bipush 9, 2) := by decide +kernel
theorem dX7_digest_320 : decode cX7_digest 320 = .ok (.iconst 0, 1) := by decide +kernel
theorem dX7_digest_321 : decode cX7_digest 321 = .ok (.invokevirtual 324, 3) := by decide +kernel
theorem dX7_digest_324 : decode cX7_digest 324 = .ok (.i2l, 1) := by decide +kernel
theorem dX7_digest_325 : decode cX7_digest 325 = .ok (.ladd, 1) := by decide +kernel
theorem dX7_digest_326 : decode cX7_digest 326 = .ok (.lstore_n 1, 1) := by decide +kernel
theorem dX7_digest_327 : decode cX7_digest 327 = .ok (.ldc2_w 327, 3) := by decide +kernel
theorem dX7_digest_330 : decode cX7_digest 330 = .ok (.lload_n 1, 1) := by decide +kernel
theorem dX7_digest_331 : decode cX7_digest 331 = .ok (.lmul, 1) := by decide +kernel
theorem dX7_digest_332 : decode cX7_digest 332 = .ok (.aload_n 0, 1) := by decide +kernel
theorem dX7_digest_333 : decode cX7_digest 333 = .ok (.bipush 7, 2) := by decide +kernel
theorem dX7_digest_335 : decode cX7_digest 335 = .ok (.bipush 9, 2) := by decide +kernel
theorem dX7_digest_337 : decode cX7_digest 337 = .ok (.iconst 1, 1) := by decide +kernel
theorem dX7_digest_338 : decode cX7_digest 338 = .ok (.invokevirtual 324, 3) := by decide +kernel
theorem dX7_digest_341 : decode cX7_digest 341 = .ok (.i2l, 1) := by decide +kernel
theorem dX7_digest_342 : decode cX7_digest 342 = .ok (.ladd, 1) := by decide +kernel
theorem dX7_digest_343 : decode cX7_digest 343 = .ok (.lreturn, 1) := by decide +kernel
end
section
theorem dL_law_0 : decode cL_law 0 = .ok (.new 7, 3) := by decide +kernel
theorem dL_law_3 : decode cL_law 3 = .ok (.dup, 1) := by decide +kernel
theorem dL_law_4 : decode cL_law 4 = .ok (.invokespecial 9, 3) := by decide +kernel
theorem dL_law_7 : decode cL_law 7 = .ok (.astore_n 1, 1) := by decide +kernel
theorem dL_law_8 : decode cL_law 8 = .ok (.new 10, 3) := by decide +kernel
theorem dL_law_11 : decode cL_law 11 = .ok (.dup, 1) := by decide +kernel
theorem dL_law_12 : decode cL_law 12 = .ok (.invokespecial 12, 3) := by decide +kernel
theorem dL_law_15 : decode cL_law 15 = .ok (.astore_n 2, 1) := by decide +kernel
theorem dL_law_16 : decode cL_law 16 = .ok (.iconst 0, 1) := by decide +kernel
theorem dL_law_17 : decode cL_law 17 = .ok (.istore_n 3, 1) := by decide +kernel
theorem dL_law_18 : decode cL_law 18 = .ok (.iload_n 3, 1) := by decide +kernel
theorem dL_law_19 : decode cL_law 19 = .ok (.aload_n 0, 1) := by decide +kernel
theorem dL_law_20 : decode cL_law 20 = .ok (.arraylength, 1) := by decide +kernel
theorem dL_law_21 : decode cL_law 21 = .ok (.bipush 6, 2) := by decide +kernel
theorem dL_law_23 : decode cL_law 23 = .ok (.isub, 1) := by decide +kernel
theorem dL_law_24 : decode cL_law 24 = .ok (.if_icmp .gt 1244, 3) := by decide +kernel
theorem dL_law_27 : decode cL_law 27 = .ok (.aload_n 0, 1) := by decide +kernel
theorem dL_law_28 : decode cL_law 28 = .ok (.iload_n 3, 1) := by decide +kernel
theorem dL_law_29 : decode cL_law 29 = .ok (.iaload, 1) := by decide +kernel
theorem dL_law_30 : decode cL_law 30 = .ok (.bipush 63, 2) := by decide +kernel
theorem dL_law_32 : decode cL_law 32 = .ok (.iand, 1) := by decide +kernel
theorem dL_law_33 : decode cL_law 33 = .ok (.tableswitch 1229 0 35 #[159, 192, 215, 238, 261, 294, 327, 360, 393, 406, 429, 472, 515, 538, 561, 594, 607, 640, 663, 686, 709, 752, 765, 778, 801, 824, 847, 891, 934, 977, 1000, 1053, 1096, 1159, 1192, 1215], 159) := by decide +kernel
theorem dL_law_192 : decode cL_law 192 = .ok (.aload_n 1, 1) := by decide +kernel
theorem dL_law_193 : decode cL_law 193 = .ok (.aload_n 0, 1) := by decide +kernel
theorem dL_law_194 : decode cL_law 194 = .ok (.iload_n 3, 1) := by decide +kernel
theorem dL_law_195 : decode cL_law 195 = .ok (.iconst 1, 1) := by decide +kernel
theorem dL_law_196 : decode cL_law 196 = .ok (.iadd, 1) := by decide +kernel
theorem dL_law_197 : decode cL_law 197 = .ok (.iaload, 1) := by decide +kernel
theorem dL_law_198 : decode cL_law 198 = .ok (.aload_n 0, 1) := by decide +kernel
theorem dL_law_199 : decode cL_law 199 = .ok (.iload_n 3, 1) := by decide +kernel
theorem dL_law_200 : decode cL_law 200 = .ok (.iconst 2, 1) := by decide +kernel
theorem dL_law_201 : decode cL_law 201 = .ok (.iadd, 1) := by decide +kernel
theorem dL_law_202 : decode cL_law 202 = .ok (.iaload, 1) := by decide +kernel
theorem dL_law_203 : decode cL_law 203 = .ok (.invokevirtual 13, 3) := by decide +kernel
theorem dL_law_206 : decode cL_law 206 = .ok (.aload_n 2, 1) := by decide +kernel
theorem dL_law_207 : decode cL_law 207 = .ok (.aload_n 0, 1) := by decide +kernel
theorem dL_law_208 : decode cL_law 208 = .ok (.iload_n 3, 1) := by decide +kernel
theorem dL_law_209 : decode cL_law 209 = .ok (.iconst 1, 1) := by decide +kernel
theorem dL_law_210 : decode cL_law 210 = .ok (.iadd, 1) := by decide +kernel
theorem dL_law_211 : decode cL_law 211 = .ok (.iaload, 1) := by decide +kernel
theorem dL_law_212 : decode cL_law 212 = .ok (.aload_n 0, 1) := by decide +kernel
theorem dL_law_213 : decode cL_law 213 = .ok (.iload_n 3, 1) := by decide +kernel
theorem dL_law_214 : decode cL_law 214 = .ok (.iconst 2, 1) := by decide +kernel
theorem dL_law_215 : decode cL_law 215 = .ok (.iadd, 1) := by decide +kernel
theorem dL_law_216 : decode cL_law 216 = .ok (.iaload, 1) := by decide +kernel
theorem dL_law_217 : decode cL_law 217 = .ok (.invokevirtual 17, 3) := by decide +kernel
theorem dL_law_220 : decode cL_law 220 = .ok (.if_icmp .eq 1042, 3) := by decide +kernel
theorem dL_law_223 : decode cL_law 223 = .ok (.iconst 0, 1) := by decide +kernel
theorem dL_law_224 : decode cL_law 224 = .ok (.ireturn, 1) := by decide +kernel
theorem dL_law_225 : decode cL_law 225 = .ok (.aload_n 1, 1) := by decide +kernel
theorem dL_law_226 : decode cL_law 226 = .ok (.aload_n 0, 1) := by decide +kernel
theorem dL_law_227 : decode cL_law 227 = .ok (.iload_n 3, 1) := by decide +kernel
theorem dL_law_228 : decode cL_law 228 = .ok (.iconst 1, 1) := by decide +kernel
theorem dL_law_229 : decode cL_law 229 = .ok (.iadd, 1) := by decide +kernel
theorem dL_law_230 : decode cL_law 230 = .ok (.iaload, 1) := by decide +kernel
theorem dL_law_231 : decode cL_law 231 = .ok (.invokevirtual 18, 3) := by decide +kernel
theorem dL_law_234 : decode cL_law 234 = .ok (.aload_n 2, 1) := by decide +kernel
theorem dL_law_235 : decode cL_law 235 = .ok (.aload_n 0, 1) := by decide +kernel
theorem dL_law_236 : decode cL_law 236 = .ok (.iload_n 3, 1) := by decide +kernel
theorem dL_law_237 : decode cL_law 237 = .ok (.iconst 1, 1) := by decide +kernel
theorem dL_law_238 : decode cL_law 238 = .ok (.iadd, 1) := by decide +kernel
theorem dL_law_239 : decode cL_law 239 = .ok (.iaload, 1) := by decide +kernel
theorem dL_law_240 : decode cL_law 240 = .ok (.invokevirtual 22, 3) := by decide +kernel
theorem dL_law_243 : decode cL_law 243 = .ok (.if_icmp .eq 1019, 3) := by decide +kernel
theorem dL_law_246 : decode cL_law 246 = .ok (.iconst 0, 1) := by decide +kernel
theorem dL_law_247 : decode cL_law 247 = .ok (.ireturn, 1) := by decide +kernel
theorem dL_law_248 : decode cL_law 248 = .ok (.aload_n 1, 1) := by decide +kernel
theorem dL_law_249 : decode cL_law 249 = .ok (.aload_n 0, 1) := by decide +kernel
theorem dL_law_250 : decode cL_law 250 = .ok (.iload_n 3, 1) := by decide +kernel
theorem dL_law_251 : decode cL_law 251 = .ok (.iconst 1, 1) := by decide +kernel
theorem dL_law_252 : decode cL_law 252 = .ok (.iadd, 1) := by decide +kernel
theorem dL_law_253 : decode cL_law 253 = .ok (.iaload, 1) := by decide +kernel
theorem dL_law_254 : decode cL_law 254 = .ok (.invokevirtual 23, 3) := by decide +kernel
theorem dL_law_257 : decode cL_law 257 = .ok (.aload_n 2, 1) := by decide +kernel
theorem dL_law_258 : decode cL_law 258 = .ok (.aload_n 0, 1) := by decide +kernel
theorem dL_law_259 : decode cL_law 259 = .ok (.iload_n 3, 1) := by decide +kernel
theorem dL_law_260 : decode cL_law 260 = .ok (.iconst 1, 1) := by decide +kernel
theorem dL_law_261 : decode cL_law 261 = .ok (.iadd, 1) := by decide +kernel
theorem dL_law_262 : decode cL_law 262 = .ok (.iaload, 1) := by decide +kernel
theorem dL_law_263 : decode cL_law 263 = .ok (.invokevirtual 26, 3) := by decide +kernel
theorem dL_law_266 : decode cL_law 266 = .ok (.if_icmp .eq 996, 3) := by decide +kernel
theorem dL_law_269 : decode cL_law 269 = .ok (.iconst 0, 1) := by decide +kernel
theorem dL_law_270 : decode cL_law 270 = .ok (.ireturn, 1) := by decide +kernel
theorem dL_law_271 : decode cL_law 271 = .ok (.aload_n 1, 1) := by decide +kernel
theorem dL_law_272 : decode cL_law 272 = .ok (.aload_n 0, 1) := by decide +kernel
theorem dL_law_273 : decode cL_law 273 = .ok (.iload_n 3, 1) := by decide +kernel
theorem dL_law_274 : decode cL_law 274 = .ok (.iconst 1, 1) := by decide +kernel
theorem dL_law_275 : decode cL_law 275 = .ok (.iadd, 1) := by decide +kernel
theorem dL_law_276 : decode cL_law 276 = .ok (.iaload, 1) := by decide +kernel
theorem dL_law_277 : decode cL_law 277 = .ok (.invokevirtual 27, 3) := by decide +kernel
theorem dL_law_280 : decode cL_law 280 = .ok (.aload_n 2, 1) := by decide +kernel
theorem dL_law_281 : decode cL_law 281 = .ok (.aload_n 0, 1) := by decide +kernel
theorem dL_law_282 : decode cL_law 282 = .ok (.iload_n 3, 1) := by decide +kernel
theorem dL_law_283 : decode cL_law 283 = .ok (.iconst 1, 1) := by decide +kernel
theorem dL_law_284 : decode cL_law 284 = .ok (.iadd, 1) := by decide +kernel
theorem dL_law_285 : decode cL_law 285 = .ok (.iaload, 1) := by decide +kernel
theorem dL_law_286 : decode cL_law 286 = .ok (.invokevirtual 30, 3) := by decide +kernel
theorem dL_law_289 : decode cL_law 289 = .ok (.if_icmp .eq 973, 3) := by decide +kernel
theorem dL_law_292 : decode cL_law 292 = .ok (.iconst 0, 1) := by decide +kernel
theorem dL_law_293 : decode cL_law 293 = .ok (.ireturn, 1) := by decide +kernel
theorem dL_law_294 : decode cL_law 294 = .ok (.aload_n 1, 1) := by decide +kernel
theorem dL_law_295 : decode cL_law 295 = .ok (.aload_n 0, 1) := by decide +kernel
theorem dL_law_296 : decode cL_law 296 = .ok (.iload_n 3, 1) := by decide +kernel
theorem dL_law_297 : decode cL_law 297 = .ok (.iconst 1, 1) := by decide +kernel
theorem dL_law_298 : decode cL_law 298 = .ok (.iadd, 1) := by decide +kernel
theorem dL_law_299 : decode cL_law 299 = .ok (.iaload, 1) := by decide +kernel
theorem dL_law_300 : decode cL_law 300 = .ok (.aload_n 0, 1) := by decide +kernel
theorem dL_law_301 : decode cL_law 301 = .ok (.iload_n 3, 1) := by decide +kernel
theorem dL_law_302 : decode cL_law 302 = .ok (.iconst 2, 1) := by decide +kernel
theorem dL_law_303 : decode cL_law 303 = .ok (.iadd, 1) := by decide +kernel
theorem dL_law_304 : decode cL_law 304 = .ok (.iaload, 1) := by decide +kernel
theorem dL_law_305 : decode cL_law 305 = .ok (.invokevirtual 31, 3) := by decide +kernel
theorem dL_law_308 : decode cL_law 308 = .ok (.aload_n 2, 1) := by decide +kernel
theorem dL_law_309 : decode cL_law 309 = .ok (.aload_n 0, 1) := by decide +kernel
theorem dL_law_310 : decode cL_law 310 = .ok (.iload_n 3, 1) := by decide +kernel
theorem dL_law_311 : decode cL_law 311 = .ok (.iconst 1, 1) := by decide +kernel
theorem dL_law_312 : decode cL_law 312 = .ok (.iadd, 1) := by decide +kernel
theorem dL_law_313 : decode cL_law 313 = .ok (.iaload, 1) := by decide +kernel
theorem dL_law_314 : decode cL_law 314 = .ok (.aload_n 0, 1) := by decide +kernel
theorem dL_law_315 : decode cL_law 315 = .ok (.iload_n 3, 1) := by decide +kernel
theorem dL_law_316 : decode cL_law 316 = .ok (.iconst 2, 1) := by decide +kernel
theorem dL_law_317 : decode cL_law 317 = .ok (.iadd, 1) := by decide +kernel
theorem dL_law_318 : decode cL_law 318 = .ok (.iaload, 1) := by decide +kernel
theorem dL_law_319 : decode cL_law 319 = .ok (.invokevirtual 34, 3) := by decide +kernel
theorem dL_law_322 : decode cL_law 322 = .ok (.if_icmp .eq 940, 3) := by decide +kernel
theorem dL_law_325 : decode cL_law 325 = .ok (.iconst 0, 1) := by decide +kernel
theorem dL_law_326 : decode cL_law 326 = .ok (.ireturn, 1) := by decide +kernel
theorem dL_law_327 : decode cL_law 327 = .ok (.aload_n 1, 1) := by decide +kernel
theorem dL_law_328 : decode cL_law 328 = .ok (.aload_n 0, 1) := by decide +kernel
theorem dL_law_329 : decode cL_law 329 = .ok (.iload_n 3, 1) := by decide +kernel
theorem dL_law_330 : decode cL_law 330 = .ok (.iconst 1, 1) := by decide +kernel
theorem dL_law_331 : decode cL_law 331 = .ok (.iadd, 1) := by decide +kernel
theorem dL_law_332 : decode cL_law 332 = .ok (.iaload, 1) := by decide +kernel
theorem dL_law_333 : decode cL_law 333 = .ok (.aload_n 0, 1) := by decide +kernel
theorem dL_law_334 : decode cL_law 334 = .ok (.iload_n 3, 1) := by decide +kernel
theorem dL_law_335 : decode cL_law 335 = .ok (.iconst 2, 1) := by decide +kernel
theorem dL_law_336 : decode cL_law 336 = .ok (.iadd, 1) := by decide +kernel
theorem dL_law_337 : decode cL_law 337 = .ok (.iaload, 1) := by decide +kernel
theorem dL_law_338 : decode cL_law 338 = .ok (.invokevirtual 35, 3) := by decide +kernel
theorem dL_law_341 : decode cL_law 341 = .ok (.aload_n 2, 1) := by decide +kernel
theorem dL_law_342 : decode cL_law 342 = .ok (.aload_n 0, 1) := by decide +kernel
theorem dL_law_343 : decode cL_law 343 = .ok (.iload_n 3, 1) := by decide +kernel
theorem dL_law_344 : decode cL_law 344 = .ok (.iconst 1, 1) := by decide +kernel
theorem dL_law_345 : decode cL_law 345 = .ok (.iadd, 1) := by decide +kernel
theorem dL_law_346 : decode cL_law 346 = .ok (.iaload, 1) := by decide +kernel
theorem dL_law_347 : decode cL_law 347 = .ok (.aload_n 0, 1) := by decide +kernel
theorem dL_law_348 : decode cL_law 348 = .ok (.iload_n 3, 1) := by decide +kernel
theorem dL_law_349 : decode cL_law 349 = .ok (.iconst 2, 1) := by decide +kernel
theorem dL_law_350 : decode cL_law 350 = .ok (.iadd, 1) := by decide +kernel
theorem dL_law_351 : decode cL_law 351 = .ok (.iaload, 1) := by decide +kernel
theorem dL_law_352 : decode cL_law 352 = .ok (.invokevirtual 38, 3) := by decide +kernel
theorem dL_law_355 : decode cL_law 355 = .ok (.if_icmp .eq 907, 3) := by decide +kernel
theorem dL_law_358 : decode cL_law 358 = .ok (.iconst 0, 1) := by decide +kernel
theorem dL_law_359 : decode cL_law 359 = .ok (.ireturn, 1) := by decide +kernel
theorem dL_law_360 : decode cL_law 360 = .ok (.aload_n 1, 1) := by decide +kernel
theorem dL_law_361 : decode cL_law 361 = .ok (.aload_n 0, 1) := by decide +kernel
theorem dL_law_362 : decode cL_law 362 = .ok (.iload_n 3, 1) := by decide +kernel
theorem dL_law_363 : decode cL_law 363 = .ok (.iconst 1, 1) := by decide +kernel
theorem dL_law_364 : decode cL_law 364 = .ok (.iadd, 1) := by decide +kernel
theorem dL_law_365 : decode cL_law 365 = .ok (.iaload, 1) := by decide +kernel
theorem dL_law_366 : decode cL_law 366 = .ok (.aload_n 0, 1) := by decide +kernel
theorem dL_law_367 : decode cL_law 367 = .ok (.iload_n 3, 1) := by decide +kernel
theorem dL_law_368 : decode cL_law 368 = .ok (.iconst 2, 1) := by decide +kernel
theorem dL_law_369 : decode cL_law 369 = .ok (.iadd, 1) := by decide +kernel
theorem dL_law_370 : decode cL_law 370 = .ok (.iaload, 1) := by decide +kernel
theorem dL_law_371 : decode cL_law 371 = .ok (.invokevirtual 39, 3) := by decide +kernel
theorem dL_law_374 : decode cL_law 374 = .ok (.aload_n 2, 1) := by decide +kernel
theorem dL_law_375 : decode cL_law 375 = .ok (.aload_n 0, 1) := by decide +kernel
theorem dL_law_376 : decode cL_law 376 = .ok (.iload_n 3, 1) := by decide +kernel
theorem dL_law_377 : decode cL_law 377 = .ok (.iconst 1, 1) := by decide +kernel
theorem dL_law_378 : decode cL_law 378 = .ok (.iadd, 1) := by decide +kernel
theorem dL_law_379 : decode cL_law 379 = .ok (.iaload, 1) := by decide +kernel
theorem dL_law_380 : decode cL_law 380 = .ok (.aload_n 0, 1) := by decide +kernel
theorem dL_law_381 : decode cL_law 381 = .ok (.iload_n 3, 1) := by decide +kernel
theorem dL_law_382 : decode cL_law 382 = .ok (.iconst 2, 1) := by decide +kernel
theorem dL_law_383 : decode cL_law 383 = .ok (.iadd, 1) := by decide +kernel
theorem dL_law_384 : decode cL_law 384 = .ok (.iaload, 1) := by decide +kernel
theorem dL_law_385 : decode cL_law 385 = .ok (.invokevirtual 42, 3) := by decide +kernel
theorem dL_law_388 : decode cL_law 388 = .ok (.if_icmp .eq 874, 3) := by decide +kernel
theorem dL_law_391 : decode cL_law 391 = .ok (.iconst 0, 1) := by decide +kernel
theorem dL_law_392 : decode cL_law 392 = .ok (.ireturn, 1) := by decide +kernel
theorem dL_law_393 : decode cL_law 393 = .ok (.aload_n 1, 1) := by decide +kernel
theorem dL_law_394 : decode cL_law 394 = .ok (.aload_n 0, 1) := by decide +kernel
theorem dL_law_395 : decode cL_law 395 = .ok (.iload_n 3, 1) := by decide +kernel
theorem dL_law_396 : decode cL_law 396 = .ok (.iconst 1, 1) := by decide +kernel
theorem dL_law_397 : decode cL_law 397 = .ok (.iadd, 1) := by decide +kernel
theorem dL_law_398 : decode cL_law 398 = .ok (.iaload, 1) := by decide +kernel
theorem dL_law_399 : decode cL_law 399 = .ok (.aload_n 0, 1) := by decide +kernel
theorem dL_law_400 : decode cL_law 400 = .ok (.iload_n 3, 1) := by decide +kernel
theorem dL_law_401 : decode cL_law 401 = .ok (.iconst 2, 1) := by decide +kernel
theorem dL_law_402 : decode cL_law 402 = .ok (.iadd, 1) := by decide +kernel
theorem dL_law_403 : decode cL_law 403 = .ok (.iaload, 1) := by decide +kernel
theorem dL_law_404 : decode cL_law 404 = .ok (.invokevirtual 43, 3) := by decide +kernel
theorem dL_law_407 : decode cL_law 407 = .ok (.aload_n 2, 1) := by decide +kernel
theorem dL_law_408 : decode cL_law 408 = .ok (.aload_n 0, 1) := by decide +kernel
theorem dL_law_409 : decode cL_law 409 = .ok (.iload_n 3, 1) := by decide +kernel
theorem dL_law_410 : decode cL_law 410 = .ok (.iconst 1, 1) := by decide +kernel
theorem dL_law_411 : decode cL_law 411 = .ok (.iadd, 1) := by decide +kernel
theorem dL_law_412 : decode cL_law 412 = .ok (.iaload, 1) := by decide +kernel
theorem dL_law_413 : decode cL_law 413 = .ok (.aload_n 0, 1) := by decide +kernel
theorem dL_law_414 : decode cL_law 414 = .ok (.iload_n 3, 1) := by decide +kernel
theorem dL_law_415 : decode cL_law 415 = .ok (.iconst 2, 1) := by decide +kernel
theorem dL_law_416 : decode cL_law 416 = .ok (.iadd, 1) := by decide +kernel
theorem dL_law_417 : decode cL_law 417 = .ok (.iaload, 1) := by decide +kernel
theorem dL_law_418 : decode cL_law 418 = .ok (.invokevirtual 46, 3) := by decide +kernel
theorem dL_law_421 : decode cL_law 421 = .ok (.if_icmp .eq 841, 3) := by decide +kernel
theorem dL_law_424 : decode cL_law 424 = .ok (.iconst 0, 1) := by decide +kernel
theorem dL_law_425 : decode cL_law 425 = .ok (.ireturn, 1) := by decide +kernel
theorem dL_law_426 : decode cL_law 426 = .ok (.aload_n 1, 1) := by decide +kernel
theorem dL_law_427 : decode cL_law 427 = .ok (.invokevirtual 47, 3) := by decide +kernel
theorem dL_law_430 : decode cL_law 430 = .ok (.aload_n 2, 1) := by decide +kernel
theorem dL_law_431 : decode cL_law 431 = .ok (.invokevirtual 51, 3) := by decide +kernel
theorem dL_law_434 : decode cL_law 434 = .ok (.if_icmp .eq 828, 3) := by decide +kernel
theorem dL_law_437 : decode cL_law 437 = .ok (.iconst 0, 1) := by decide +kernel
theorem dL_law_438 : decode cL_law 438 = .ok (.ireturn, 1) := by decide +kernel
theorem dL_law_439 : decode cL_law 439 = .ok (.aload_n 1, 1) := by decide +kernel
theorem dL_law_440 : decode cL_law 440 = .ok (.aload_n 0, 1) := by decide +kernel
theorem dL_law_441 : decode cL_law 441 = .ok (.iload_n 3, 1) := by decide +kernel
theorem dL_law_442 : decode cL_law 442 = .ok (.iconst 1, 1) := by decide +kernel
theorem dL_law_443 : decode cL_law 443 = .ok (.iadd, 1) := by decide +kernel
theorem dL_law_444 : decode cL_law 444 = .ok (.iaload, 1) := by decide +kernel
theorem dL_law_445 : decode cL_law 445 = .ok (.invokevirtual 52, 3) := by decide +kernel
theorem dL_law_448 : decode cL_law 448 = .ok (.aload_n 2, 1) := by decide +kernel
theorem dL_law_449 : decode cL_law 449 = .ok (.aload_n 0, 1) := by decide +kernel
theorem dL_law_450 : decode cL_law 450 = .ok (.iload_n 3, 1) := by decide +kernel
theorem dL_law_451 : decode cL_law 451 = .ok (.iconst 1, 1) := by decide +kernel
theorem dL_law_452 : decode cL_law 452 = .ok (.iadd, 1) := by decide +kernel
theorem dL_law_453 : decode cL_law 453 = .ok (.iaload, 1) := by decide +kernel
theorem dL_law_454 : decode cL_law 454 = .ok (.invokevirtual 55, 3) := by decide +kernel
theorem dL_law_457 : decode cL_law 457 = .ok (.if_icmp .eq 805, 3) := by decide +kernel
theorem dL_law_460 : decode cL_law 460 = .ok (.iconst 0, 1) := by decide +kernel
theorem dL_law_461 : decode cL_law 461 = .ok (.ireturn, 1) := by decide +kernel
theorem dL_law_462 : decode cL_law 462 = .ok (.aload_n 1, 1) := by decide +kernel
theorem dL_law_463 : decode cL_law 463 = .ok (.aload_n 0, 1) := by decide +kernel
theorem dL_law_464 : decode cL_law 464 = .ok (.iload_n 3, 1) := by decide +kernel
theorem dL_law_465 : decode cL_law 465 = .ok (.iconst 1, 1) := by decide +kernel
theorem dL_law_466 : decode cL_law 466 = .ok (.iadd, 1) := by decide +kernel
theorem dL_law_467 : decode cL_law 467 = .ok (.iaload, 1) := by decide +kernel
theorem dL_law_468 : decode cL_law 468 = .ok (.aload_n 0, 1) := by decide +kernel
theorem dL_law_469 : decode cL_law 469 = .ok (.iload_n 3, 1) := by decide +kernel
theorem dL_law_470 : decode cL_law 470 = .ok (.iconst 2, 1) := by decide +kernel
theorem dL_law_471 : decode cL_law 471 = .ok (.iadd, 1) := by decide +kernel
theorem dL_law_472 : decode cL_law 472 = .ok (.iaload, 1) := by decide +kernel
theorem dL_law_473 : decode cL_law 473 = .ok (.aload_n 0, 1) := by decide +kernel
theorem dL_law_474 : decode cL_law 474 = .ok (.iload_n 3, 1) := by decide +kernel
theorem dL_law_475 : decode cL_law 475 = .ok (.iconst 3, 1) := by decide +kernel
theorem dL_law_476 : decode cL_law 476 = .ok (.iadd, 1) := by decide +kernel
theorem dL_law_477 : decode cL_law 477 = .ok (.iaload, 1) := by decide +kernel
theorem dL_law_478 : decode cL_law 478 = .ok (.invokevirtual 56, 3) := by decide +kernel
theorem dL_law_481 : decode cL_law 481 = .ok (.aload_n 2, 1) := by decide +kernel
theorem dL_law_482 : decode cL_law 482 = .ok (.aload_n 0, 1) := by decide +kernel
theorem dL_law_483 : decode cL_law 483 = .ok (.iload_n 3, 1) := by decide +kernel
theorem dL_law_484 : decode cL_law 484 = .ok (.iconst 1, 1) := by decide +kernel
theorem dL_law_485 : decode cL_law 485 = .ok (.iadd, 1) := by decide +kernel
theorem dL_law_486 : decode cL_law 486 = .ok (.iaload, 1) := by decide +kernel
theorem dL_law_487 : decode cL_law 487 = .ok (.aload_n 0, 1) := by decide +kernel
theorem dL_law_488 : decode cL_law 488 = .ok (.iload_n 3, 1) := by decide +kernel
theorem dL_law_489 : decode cL_law 489 = .ok (.iconst 2, 1) := by decide +kernel
theorem dL_law_490 : decode cL_law 490 = .ok (.iadd, 1) := by decide +kernel
theorem dL_law_491 : decode cL_law 491 = .ok (.iaload, 1) := by decide +kernel
theorem dL_law_492 : decode cL_law 492 = .ok (.aload_n 0, 1) := by decide +kernel
theorem dL_law_493 : decode cL_law 493 = .ok (.iload_n 3, 1) := by decide +kernel
theorem dL_law_494 : decode cL_law 494 = .ok (.iconst 3, 1) := by decide +kernel
theorem dL_law_495 : decode cL_law 495 = .ok (.iadd, 1) := by decide +kernel
theorem dL_law_496 : decode cL_law 496 = .ok (.iaload, 1) := by decide +kernel
theorem dL_law_497 : decode cL_law 497 = .ok (.invokevirtual 60, 3) := by decide +kernel
theorem dL_law_500 : decode cL_law 500 = .ok (.if_icmp .eq 762, 3) := by decide +kernel
theorem dL_law_503 : decode cL_law 503 = .ok (.iconst 0, 1) := by decide +kernel
theorem dL_law_504 : decode cL_law 504 = .ok (.ireturn, 1) := by decide +kernel
theorem dL_law_505 : decode cL_law 505 = .ok (.aload_n 1, 1) := by decide +kernel
theorem dL_law_506 : decode cL_law 506 = .ok (.aload_n 0, 1) := by decide +kernel
theorem dL_law_507 : decode cL_law 507 = .ok (.iload_n 3, 1) := by decide +kernel
theorem dL_law_508 : decode cL_law 508 = .ok (.iconst 1, 1) := by decide +kernel
theorem dL_law_509 : decode cL_law 509 = .ok (.iadd, 1) := by decide +kernel
theorem dL_law_510 : decode cL_law 510 = .ok (.iaload, 1) := by decide +kernel
theorem dL_law_511 : decode cL_law 511 = .ok (.aload_n 0, 1) := by decide +kernel
theorem dL_law_512 : decode cL_law 512 = .ok (.iload_n 3, 1) := by decide +kernel
theorem dL_law_513 : decode cL_law 513 = .ok (.iconst 2, 1) := by decide +kernel
theorem dL_law_514 : decode cL_law 514 = .ok (.iadd, 1) := by decide +kernel
theorem dL_law_515 : decode cL_law 515 = .ok (.iaload, 1) := by decide +kernel
theorem dL_law_516 : decode cL_law 516 = .ok (.aload_n 0, 1) := by decide +kernel
theorem dL_law_517 : decode cL_law 517 = .ok (.iload_n 3, 1) := by decide +kernel
theorem dL_law_518 : decode cL_law 518 = .ok (.iconst 3, 1) := by decide +kernel
theorem dL_law_519 : decode cL_law 519 = .ok (.iadd, 1) := by decide +kernel
theorem dL_law_520 : decode cL_law 520 = .ok (.iaload, 1) := by decide +kernel
theorem dL_law_521 : decode cL_law 521 = .ok (.invokevirtual 61, 3) := by decide +kernel
theorem dL_law_524 : decode cL_law 524 = .ok (.aload_n 2, 1) := by decide +kernel
theorem dL_law_525 : decode cL_law 525 = .ok (.aload_n 0, 1) := by decide +kernel
theorem dL_law_526 : decode cL_law 526 = .ok (.iload_n 3, 1) := by decide +kernel
theorem dL_law_527 : decode cL_law 527 = .ok (.iconst 1, 1) := by decide +kernel
theorem dL_law_528 : decode cL_law 528 = .ok (.iadd, 1) := by decide +kernel
theorem dL_law_529 : decode cL_law 529 = .ok (.iaload, 1) := by decide +kernel
theorem dL_law_530 : decode cL_law 530 = .ok (.aload_n 0, 1) := by decide +kernel
theorem dL_law_531 : decode cL_law 531 = .ok (.iload_n 3, 1) := by decide +kernel
theorem dL_law_532 : decode cL_law 532 = .ok (.iconst 2, 1) := by decide +kernel
theorem dL_law_533 : decode cL_law 533 = .ok (.iadd, 1) := by decide +kernel
theorem dL_law_534 : decode cL_law 534 = .ok (.iaload, 1) := by decide +kernel
theorem dL_law_535 : decode cL_law 535 = .ok (.aload_n 0, 1) := by decide +kernel
theorem dL_law_536 : decode cL_law 536 = .ok (.iload_n 3, 1) := by decide +kernel
theorem dL_law_537 : decode cL_law 537 = .ok (.iconst 3, 1) := by decide +kernel
theorem dL_law_538 : decode cL_law 538 = .ok (.iadd, 1) := by decide +kernel
theorem dL_law_539 : decode cL_law 539 = .ok (.iaload, 1) := by decide +kernel
theorem dL_law_540 : decode cL_law 540 = .ok (.invokevirtual 64, 3) := by decide +kernel
theorem dL_law_543 : decode cL_law 543 = .ok (.if_icmp .eq 719, 3) := by decide +kernel
theorem dL_law_546 : decode cL_law 546 = .ok (.iconst 0, 1) := by decide +kernel
theorem dL_law_547 : decode cL_law 547 = .ok (.ireturn, 1) := by decide +kernel
theorem dL_law_548 : decode cL_law 548 = .ok (.aload_n 1, 1) := by decide +kernel
theorem dL_law_549 : decode cL_law 549 = .ok (.aload_n 0, 1) := by decide +kernel
theorem dL_law_550 : decode cL_law 550 = .ok (.iload_n 3, 1) := by decide +kernel
theorem dL_law_551 : decode cL_law 551 = .ok (.iconst 1, 1) := by decide +kernel
theorem dL_law_552 : decode cL_law 552 = .ok (.iadd, 1) := by decide +kernel
theorem dL_law_553 : decode cL_law 553 = .ok (.iaload, 1) := by decide +kernel
theorem dL_law_554 : decode cL_law 554 = .ok (.invokevirtual 65, 3) := by decide +kernel
theorem dL_law_557 : decode cL_law 557 = .ok (.aload_n 2, 1) := by decide +kernel
theorem dL_law_558 : decode cL_law 558 = .ok (.aload_n 0, 1) := by decide +kernel
theorem dL_law_559 : decode cL_law 559 = .ok (.iload_n 3, 1) := by decide +kernel
theorem dL_law_560 : decode cL_law 560 = .ok (.iconst 1, 1) := by decide +kernel
theorem dL_law_561 : decode cL_law 561 = .ok (.iadd, 1) := by decide +kernel
theorem dL_law_562 : decode cL_law 562 = .ok (.iaload, 1) := by decide +kernel
theorem dL_law_563 : decode cL_law 563 = .ok (.invokevirtual 68, 3) := by decide +kernel
theorem dL_law_566 : decode cL_law 566 = .ok (.if_icmp .eq 696, 3) := by decide +kernel
theorem dL_law_569 : decode cL_law 569 = .ok (.iconst 0, 1) := by decide +kernel
theorem dL_law_570 : decode cL_law 570 = .ok (.ireturn, 1) := by decide +kernel
theorem dL_law_571 : decode cL_law 571 = .ok (.aload_n 1, 1) := by decide +kernel
theorem dL_law_572 : decode cL_law 572 = .ok (.aload_n 0, 1) := by decide +kernel
theorem dL_law_573 : decode cL_law 573 = .ok (.iload_n 3, 1) := by decide +kernel
theorem dL_law_574 : decode cL_law 574 = .ok (.iconst 1, 1) := by decide +kernel
theorem dL_law_575 : decode cL_law 575 = .ok (.iadd, 1) := by decide +kernel
theorem dL_law_576 : decode cL_law 576 = .ok (.iaload, 1) := by decide +kernel
theorem dL_law_577 : decode cL_law 577 = .ok (.invokevirtual 69, 3) := by decide +kernel
theorem dL_law_580 : decode cL_law 580 = .ok (.aload_n 2, 1) := by decide +kernel
theorem dL_law_581 : decode cL_law 581 = .ok (.aload_n 0, 1) := by decide +kernel
theorem dL_law_582 : decode cL_law 582 = .ok (.iload_n 3, 1) := by decide +kernel
theorem dL_law_583 : decode cL_law 583 = .ok (.iconst 1, 1) := by decide +kernel
theorem dL_law_584 : decode cL_law 584 = .ok (.iadd, 1) := by decide +kernel
theorem dL_law_585 : decode cL_law 585 = .ok (.iaload, 1) := by decide +kernel
theorem dL_law_586 : decode cL_law 586 = .ok (.invokevirtual 72, 3) := by decide +kernel
theorem dL_law_589 : decode cL_law 589 = .ok (.if_icmp .eq 673, 3) := by decide +kernel
theorem dL_law_592 : decode cL_law 592 = .ok (.iconst 0, 1) := by decide +kernel
theorem dL_law_593 : decode cL_law 593 = .ok (.ireturn, 1) := by decide +kernel
theorem dL_law_594 : decode cL_law 594 = .ok (.aload_n 1, 1) := by decide +kernel
theorem dL_law_595 : decode cL_law 595 = .ok (.aload_n 0, 1) := by decide +kernel
theorem dL_law_596 : decode cL_law 596 = .ok (.iload_n 3, 1) := by decide +kernel
theorem dL_law_597 : decode cL_law 597 = .ok (.iconst 1, 1) := by decide +kernel
theorem dL_law_598 : decode cL_law 598 = .ok (.iadd, 1) := by decide +kernel
theorem dL_law_599 : decode cL_law 599 = .ok (.iaload, 1) := by decide +kernel
theorem dL_law_600 : decode cL_law 600 = .ok (.aload_n 0, 1) := by decide +kernel
theorem dL_law_601 : decode cL_law 601 = .ok (.iload_n 3, 1) := by decide +kernel
theorem dL_law_602 : decode cL_law 602 = .ok (.iconst 2, 1) := by decide +kernel
theorem dL_law_603 : decode cL_law 603 = .ok (.iadd, 1) := by decide +kernel
theorem dL_law_604 : decode cL_law 604 = .ok (.iaload, 1) := by decide +kernel
theorem dL_law_605 : decode cL_law 605 = .ok (.invokevirtual 73, 3) := by decide +kernel
theorem dL_law_608 : decode cL_law 608 = .ok (.aload_n 2, 1) := by decide +kernel
theorem dL_law_609 : decode cL_law 609 = .ok (.aload_n 0, 1) := by decide +kernel
theorem dL_law_610 : decode cL_law 610 = .ok (.iload_n 3, 1) := by decide +kernel
theorem dL_law_611 : decode cL_law 611 = .ok (.iconst 1, 1) := by decide +kernel
theorem dL_law_612 : decode cL_law 612 = .ok (.iadd, 1) := by decide +kernel
theorem dL_law_613 : decode cL_law 613 = .ok (.iaload, 1) := by decide +kernel
theorem dL_law_614 : decode cL_law 614 = .ok (.aload_n 0, 1) := by decide +kernel
theorem dL_law_615 : decode cL_law 615 = .ok (.iload_n 3, 1) := by decide +kernel
theorem dL_law_616 : decode cL_law 616 = .ok (.iconst 2, 1) := by decide +kernel
theorem dL_law_617 : decode cL_law 617 = .ok (.iadd, 1) := by decide +kernel
theorem dL_law_618 : decode cL_law 618 = .ok (.iaload, 1) := by decide +kernel
theorem dL_law_619 : decode cL_law 619 = .ok (.invokevirtual 76, 3) := by decide +kernel
theorem dL_law_622 : decode cL_law 622 = .ok (.if_icmp .eq 640, 3) := by decide +kernel
theorem dL_law_625 : decode cL_law 625 = .ok (.iconst 0, 1) := by decide +kernel
theorem dL_law_626 : decode cL_law 626 = .ok (.ireturn, 1) := by decide +kernel
theorem dL_law_627 : decode cL_law 627 = .ok (.aload_n 1, 1) := by decide +kernel
theorem dL_law_628 : decode cL_law 628 = .ok (.invokevirtual 77, 3) := by decide +kernel
theorem dL_law_631 : decode cL_law 631 = .ok (.aload_n 2, 1) := by decide +kernel
theorem dL_law_632 : decode cL_law 632 = .ok (.invokevirtual 80, 3) := by decide +kernel
theorem dL_law_635 : decode cL_law 635 = .ok (.if_icmp .eq 627, 3) := by decide +kernel
theorem dL_law_638 : decode cL_law 638 = .ok (.iconst 0, 1) := by decide +kernel
theorem dL_law_639 : decode cL_law 639 = .ok (.ireturn, 1) := by decide +kernel
theorem dL_law_640 : decode cL_law 640 = .ok (.aload_n 1, 1) := by decide +kernel
theorem dL_law_641 : decode cL_law 641 = .ok (.aload_n 0, 1) := by decide +kernel
theorem dL_law_642 : decode cL_law 642 = .ok (.iload_n 3, 1) := by decide +kernel
theorem dL_law_643 : decode cL_law 643 = .ok (.iconst 1, 1) := by decide +kernel
theorem dL_law_644 : decode cL_law 644 = .ok (.iadd, 1) := by decide +kernel
theorem dL_law_645 : decode cL_law 645 = .ok (.iaload, 1) := by decide +kernel
theorem dL_law_646 : decode cL_law 646 = .ok (.aload_n 0, 1) := by decide +kernel
theorem dL_law_647 : decode cL_law 647 = .ok (.iload_n 3, 1) := by decide +kernel
theorem dL_law_648 : decode cL_law 648 = .ok (.iconst 2, 1) := by decide +kernel
theorem dL_law_649 : decode cL_law 649 = .ok (.iadd, 1) := by decide +kernel
theorem dL_law_650 : decode cL_law 650 = .ok (.iaload, 1) := by decide +kernel
theorem dL_law_651 : decode cL_law 651 = .ok (.invokevirtual 81, 3) := by decide +kernel
theorem dL_law_654 : decode cL_law 654 = .ok (.aload_n 2, 1) := by decide +kernel
theorem dL_law_655 : decode cL_law 655 = .ok (.aload_n 0, 1) := by decide +kernel
theorem dL_law_656 : decode cL_law 656 = .ok (.iload_n 3, 1) := by decide +kernel
theorem dL_law_657 : decode cL_law 657 = .ok (.iconst 1, 1) := by decide +kernel
theorem dL_law_658 : decode cL_law 658 = .ok (.iadd, 1) := by decide +kernel
theorem dL_law_659 : decode cL_law 659 = .ok (.iaload, 1) := by decide +kernel
theorem dL_law_660 : decode cL_law 660 = .ok (.aload_n 0, 1) := by decide +kernel
theorem dL_law_661 : decode cL_law 661 = .ok (.iload_n 3, 1) := by decide +kernel
theorem dL_law_662 : decode cL_law 662 = .ok (.iconst 2, 1) := by decide +kernel
theorem dL_law_663 : decode cL_law 663 = .ok (.iadd, 1) := by decide +kernel
theorem dL_law_664 : decode cL_law 664 = .ok (.iaload, 1) := by decide +kernel
theorem dL_law_665 : decode cL_law 665 = .ok (.invokevirtual 84, 3) := by decide +kernel
theorem dL_law_668 : decode cL_law 668 = .ok (.if_icmp .eq 594, 3) := by decide +kernel
theorem dL_law_671 : decode cL_law 671 = .ok (.iconst 0, 1) := by decide +kernel
theorem dL_law_672 : decode cL_law 672 = .ok (.ireturn, 1) := by decide +kernel
theorem dL_law_673 : decode cL_law 673 = .ok (.aload_n 1, 1) := by decide +kernel
theorem dL_law_674 : decode cL_law 674 = .ok (.aload_n 0, 1) := by decide +kernel
theorem dL_law_675 : decode cL_law 675 = .ok (.iload_n 3, 1) := by decide +kernel
theorem dL_law_676 : decode cL_law 676 = .ok (.iconst 1, 1) := by decide +kernel
theorem dL_law_677 : decode cL_law 677 = .ok (.iadd, 1) := by decide +kernel
theorem dL_law_678 : decode cL_law 678 = .ok (.iaload, 1) := by decide +kernel
theorem dL_law_679 : decode cL_law 679 = .ok (.invokevirtual 85, 3) := by decide +kernel
theorem dL_law_682 : decode cL_law 682 = .ok (.aload_n 2, 1) := by decide +kernel
theorem dL_law_683 : decode cL_law 683 = .ok (.aload_n 0, 1) := by decide +kernel
theorem dL_law_684 : decode cL_law 684 = .ok (.iload_n 3, 1) := by decide +kernel
theorem dL_law_685 : decode cL_law 685 = .ok (.iconst 1, 1) := by decide +kernel
theorem dL_law_686 : decode cL_law 686 = .ok (.iadd, 1) := by decide +kernel
theorem dL_law_687 : decode cL_law 687 = .ok (.iaload, 1) := by decide +kernel
theorem dL_law_688 : decode cL_law 688 = .ok (.invokevirtual 88, 3) := by decide +kernel
theorem dL_law_691 : decode cL_law 691 = .ok (.if_icmp .eq 571, 3) := by decide +kernel
theorem dL_law_694 : decode cL_law 694 = .ok (.iconst 0, 1) := by decide +kernel
theorem dL_law_695 : decode cL_law 695 = .ok (.ireturn, 1) := by decide +kernel
theorem dL_law_696 : decode cL_law 696 = .ok (.aload_n 1, 1) := by decide +kernel
theorem dL_law_697 : decode cL_law 697 = .ok (.aload_n 0, 1) := by decide +kernel
theorem dL_law_698 : decode cL_law 698 = .ok (.iload_n 3, 1) := by decide +kernel
theorem dL_law_699 : decode cL_law 699 = .ok (.iconst 1, 1) := by decide +kernel
theorem dL_law_700 : decode cL_law 700 = .ok (.iadd, 1) := by decide +kernel
theorem dL_law_701 : decode cL_law 701 = .ok (.iaload, 1) := by decide +kernel
theorem dL_law_702 : decode cL_law 702 = .ok (.invokevirtual 89, 3) := by decide +kernel
theorem dL_law_705 : decode cL_law 705 = .ok (.aload_n 2, 1) := by decide +kernel
theorem dL_law_706 : decode cL_law 706 = .ok (.aload_n 0, 1) := by decide +kernel
theorem dL_law_707 : decode cL_law 707 = .ok (.iload_n 3, 1) := by decide +kernel
theorem dL_law_708 : decode cL_law 708 = .ok (.iconst 1, 1) := by decide +kernel
theorem dL_law_709 : decode cL_law 709 = .ok (.iadd, 1) := by decide +kernel
theorem dL_law_710 : decode cL_law 710 = .ok (.iaload, 1) := by decide +kernel
theorem dL_law_711 : decode cL_law 711 = .ok (.invokevirtual 92, 3) := by decide +kernel
theorem dL_law_714 : decode cL_law 714 = .ok (.if_icmp .eq 548, 3) := by decide +kernel
theorem dL_law_717 : decode cL_law 717 = .ok (.iconst 0, 1) := by decide +kernel
theorem dL_law_718 : decode cL_law 718 = .ok (.ireturn, 1) := by decide +kernel
theorem dL_law_719 : decode cL_law 719 = .ok (.aload_n 1, 1) := by decide +kernel
theorem dL_law_720 : decode cL_law 720 = .ok (.aload_n 0, 1) := by decide +kernel
theorem dL_law_721 : decode cL_law 721 = .ok (.iload_n 3, 1) := by decide +kernel
theorem dL_law_722 : decode cL_law 722 = .ok (.iconst 1, 1) := by decide +kernel
theorem dL_law_723 : decode cL_law 723 = .ok (.iadd, 1) := by decide +kernel
theorem dL_law_724 : decode cL_law 724 = .ok (.iaload, 1) := by decide +kernel
theorem dL_law_725 : decode cL_law 725 = .ok (.invokevirtual 93, 3) := by decide +kernel
theorem dL_law_728 : decode cL_law 728 = .ok (.aload_n 2, 1) := by decide +kernel
theorem dL_law_729 : decode cL_law 729 = .ok (.aload_n 0, 1) := by decide +kernel
theorem dL_law_730 : decode cL_law 730 = .ok (.iload_n 3, 1) := by decide +kernel
theorem dL_law_731 : decode cL_law 731 = .ok (.iconst 1, 1) := by decide +kernel
theorem dL_law_732 : decode cL_law 732 = .ok (.iadd, 1) := by decide +kernel
theorem dL_law_733 : decode cL_law 733 = .ok (.iaload, 1) := by decide +kernel
theorem dL_law_734 : decode cL_law 734 = .ok (.invokevirtual 96, 3) := by decide +kernel
theorem dL_law_737 : decode cL_law 737 = .ok (.if_icmp .eq 525, 3) := by decide +kernel
theorem dL_law_740 : decode cL_law 740 = .ok (.iconst 0, 1) := by decide +kernel
theorem dL_law_741 : decode cL_law 741 = .ok (.ireturn, 1) := by decide +kernel
theorem dL_law_742 : decode cL_law 742 = .ok (.aload_n 1, 1) := by decide +kernel
theorem dL_law_743 : decode cL_law 743 = .ok (.aload_n 0, 1) := by decide +kernel
theorem dL_law_744 : decode cL_law 744 = .ok (.iload_n 3, 1) := by decide +kernel
theorem dL_law_745 : decode cL_law 745 = .ok (.iconst 1, 1) := by decide +kernel
theorem dL_law_746 : decode cL_law 746 = .ok (.iadd, 1) := by decide +kernel
theorem dL_law_747 : decode cL_law 747 = .ok (.iaload, 1) := by decide +kernel
theorem dL_law_748 : decode cL_law 748 = .ok (.aload_n 0, 1) := by decide +kernel
theorem dL_law_749 : decode cL_law 749 = .ok (.iload_n 3, 1) := by decide +kernel
theorem dL_law_750 : decode cL_law 750 = .ok (.iconst 2, 1) := by decide +kernel
theorem dL_law_751 : decode cL_law 751 = .ok (.iadd, 1) := by decide +kernel
theorem dL_law_752 : decode cL_law 752 = .ok (.iaload, 1) := by decide +kernel
theorem dL_law_753 : decode cL_law 753 = .ok (.aload_n 0, 1) := by decide +kernel
theorem dL_law_754 : decode cL_law 754 = .ok (.iload_n 3, 1) := by decide +kernel
theorem dL_law_755 : decode cL_law 755 = .ok (.iconst 3, 1) := by decide +kernel
theorem dL_law_756 : decode cL_law 756 = .ok (.iadd, 1) := by decide +kernel
theorem dL_law_757 : decode cL_law 757 = .ok (.iaload, 1) := by decide +kernel
theorem dL_law_758 : decode cL_law 758 = .ok (.invokevirtual 97, 3) := by decide +kernel
theorem dL_law_761 : decode cL_law 761 = .ok (.aload_n 2, 1) := by decide +kernel
theorem dL_law_762 : decode cL_law 762 = .ok (.aload_n 0, 1) := by decide +kernel
theorem dL_law_763 : decode cL_law 763 = .ok (.iload_n 3, 1) := by decide +kernel
theorem dL_law_764 : decode cL_law 764 = .ok (.iconst 1, 1) := by decide +kernel
theorem dL_law_765 : decode cL_law 765 = .ok (.iadd, 1) := by decide +kernel
theorem dL_law_766 : decode cL_law 766 = .ok (.iaload, 1) := by decide +kernel
theorem dL_law_767 : decode cL_law 767 = .ok (.aload_n 0, 1) := by decide +kernel
theorem dL_law_768 : decode cL_law 768 = .ok (.iload_n 3, 1) := by decide +kernel
theorem dL_law_769 : decode cL_law 769 = .ok (.iconst 2, 1) := by decide +kernel
theorem dL_law_770 : decode cL_law 770 = .ok (.iadd, 1) := by decide +kernel
theorem dL_law_771 : decode cL_law 771 = .ok (.iaload, 1) := by decide +kernel
theorem dL_law_772 : decode cL_law 772 = .ok (.aload_n 0, 1) := by decide +kernel
theorem dL_law_773 : decode cL_law 773 = .ok (.iload_n 3, 1) := by decide +kernel
theorem dL_law_774 : decode cL_law 774 = .ok (.iconst 3, 1) := by decide +kernel
theorem dL_law_775 : decode cL_law 775 = .ok (.iadd, 1) := by decide +kernel
theorem dL_law_776 : decode cL_law 776 = .ok (.iaload, 1) := by decide +kernel
theorem dL_law_777 : decode cL_law 777 = .ok (.invokevirtual 100, 3) := by decide +kernel
theorem dL_law_780 : decode cL_law 780 = .ok (.if_icmp .eq 482, 3) := by decide +kernel
theorem dL_law_783 : decode cL_law 783 = .ok (.iconst 0, 1) := by decide +kernel
theorem dL_law_784 : decode cL_law 784 = .ok (.ireturn, 1) := by decide +kernel
theorem dL_law_785 : decode cL_law 785 = .ok (.aload_n 1, 1) := by decide +kernel
theorem dL_law_786 : decode cL_law 786 = .ok (.invokevirtual 101, 3) := by decide +kernel
theorem dL_law_789 : decode cL_law 789 = .ok (.aload_n 2, 1) := by decide +kernel
theorem dL_law_790 : decode cL_law 790 = .ok (.invokevirtual 104, 3) := by decide +kernel
theorem dL_law_793 : decode cL_law 793 = .ok (.if_icmp .eq 469, 3) := by decide +kernel
theorem dL_law_796 : decode cL_law 796 = .ok (.iconst 0, 1) := by decide +kernel
theorem dL_law_797 : decode cL_law 797 = .ok (.ireturn, 1) := by decide +kernel
theorem dL_law_798 : decode cL_law 798 = .ok (.aload_n 1, 1) := by decide +kernel
theorem dL_law_799 : decode cL_law 799 = .ok (.invokevirtual 105, 3) := by decide +kernel
theorem dL_law_802 : decode cL_law 802 = .ok (.aload_n 2, 1) := by decide +kernel
theorem dL_law_803 : decode cL_law 803 = .ok (.invokevirtual 108, 3) := by decide +kernel
theorem dL_law_806 : decode cL_law 806 = .ok (.if_icmp .eq 456, 3) := by decide +kernel
theorem dL_law_809 : decode cL_law 809 = .ok (.iconst 0, 1) := by decide +kernel
theorem dL_law_810 : decode cL_law 810 = .ok (.ireturn, 1) := by decide +kernel
theorem dL_law_811 : decode cL_law 811 = .ok (.aload_n 1, 1) := by decide +kernel
theorem dL_law_812 : decode cL_law 812 = .ok (.aload_n 0, 1) := by decide +kernel
theorem dL_law_813 : decode cL_law 813 = .ok (.iload_n 3, 1) := by decide +kernel
theorem dL_law_814 : decode cL_law 814 = .ok (.iconst 1, 1) := by decide +kernel
theorem dL_law_815 : decode cL_law 815 = .ok (.iadd, 1) := by decide +kernel
theorem dL_law_816 : decode cL_law 816 = .ok (.iaload, 1) := by decide +kernel
theorem dL_law_817 : decode cL_law 817 = .ok (.invokevirtual 109, 3) := by decide +kernel
theorem dL_law_820 : decode cL_law 820 = .ok (.aload_n 2, 1) := by decide +kernel
theorem dL_law_821 : decode cL_law 821 = .ok (.aload_n 0, 1) := by decide +kernel
theorem dL_law_822 : decode cL_law 822 = .ok (.iload_n 3, 1) := by decide +kernel
theorem dL_law_823 : decode cL_law 823 = .ok (.iconst 1, 1) := by decide +kernel
theorem dL_law_824 : decode cL_law 824 = .ok (.iadd, 1) := by decide +kernel
theorem dL_law_825 : decode cL_law 825 = .ok (.iaload, 1) := by decide +kernel
theorem dL_law_826 : decode cL_law 826 = .ok (.invokevirtual 112, 3) := by decide +kernel
theorem dL_law_829 : decode cL_law 829 = .ok (.if_icmp .eq 433, 3) := by decide +kernel
theorem dL_law_832 : decode cL_law 832 = .ok (.iconst 0, 1) := by decide +kernel
theorem dL_law_833 : decode cL_law 833 = .ok (.ireturn, 1) := by decide +kernel
theorem dL_law_834 : decode cL_law 834 = .ok (.aload_n 1, 1) := by decide +kernel
theorem dL_law_835 : decode cL_law 835 = .ok (.aload_n 0, 1) := by decide +kernel
theorem dL_law_836 : decode cL_law 836 = .ok (.iload_n 3, 1) := by decide +kernel
theorem dL_law_837 : decode cL_law 837 = .ok (.iconst 1, 1) := by decide +kernel
theorem dL_law_838 : decode cL_law 838 = .ok (.iadd, 1) := by decide +kernel
theorem dL_law_839 : decode cL_law 839 = .ok (.iaload, 1) := by decide +kernel
theorem dL_law_840 : decode cL_law 840 = .ok (.invokevirtual 113, 3) := by decide +kernel
theorem dL_law_843 : decode cL_law 843 = .ok (.aload_n 2, 1) := by decide +kernel
theorem dL_law_844 : decode cL_law 844 = .ok (.aload_n 0, 1) := by decide +kernel
theorem dL_law_845 : decode cL_law 845 = .ok (.iload_n 3, 1) := by decide +kernel
theorem dL_law_846 : decode cL_law 846 = .ok (.iconst 1, 1) := by decide +kernel
theorem dL_law_847 : decode cL_law 847 = .ok (.iadd, 1) := by decide +kernel
theorem dL_law_848 : decode cL_law 848 = .ok (.iaload, 1) := by decide +kernel
theorem dL_law_849 : decode cL_law 849 = .ok (.invokevirtual 116, 3) := by decide +kernel
theorem dL_law_852 : decode cL_law 852 = .ok (.if_icmp .eq 410, 3) := by decide +kernel
theorem dL_law_855 : decode cL_law 855 = .ok (.iconst 0, 1) := by decide +kernel
theorem dL_law_856 : decode cL_law 856 = .ok (.ireturn, 1) := by decide +kernel
theorem dL_law_857 : decode cL_law 857 = .ok (.aload_n 1, 1) := by decide +kernel
theorem dL_law_858 : decode cL_law 858 = .ok (.aload_n 0, 1) := by decide +kernel
theorem dL_law_859 : decode cL_law 859 = .ok (.iload_n 3, 1) := by decide +kernel
theorem dL_law_860 : decode cL_law 860 = .ok (.iconst 1, 1) := by decide +kernel
theorem dL_law_861 : decode cL_law 861 = .ok (.iadd, 1) := by decide +kernel
theorem dL_law_862 : decode cL_law 862 = .ok (.iaload, 1) := by decide +kernel
theorem dL_law_863 : decode cL_law 863 = .ok (.invokevirtual 117, 3) := by decide +kernel
theorem dL_law_866 : decode cL_law 866 = .ok (.aload_n 2, 1) := by decide +kernel
theorem dL_law_867 : decode cL_law 867 = .ok (.aload_n 0, 1) := by decide +kernel
theorem dL_law_868 : decode cL_law 868 = .ok (.iload_n 3, 1) := by decide +kernel
theorem dL_law_869 : decode cL_law 869 = .ok (.iconst 1, 1) := by decide +kernel
theorem dL_law_870 : decode cL_law 870 = .ok (.iadd, 1) := by decide +kernel
theorem dL_law_871 : decode cL_law 871 = .ok (.iaload, 1) := by decide +kernel
theorem dL_law_872 : decode cL_law 872 = .ok (.invokevirtual 120, 3) := by decide +kernel
theorem dL_law_875 : decode cL_law 875 = .ok (.if_icmp .eq 387, 3) := by decide +kernel
theorem dL_law_878 : decode cL_law 878 = .ok (.iconst 0, 1) := by decide +kernel
theorem dL_law_879 : decode cL_law 879 = .ok (.ireturn, 1) := by decide +kernel
theorem dL_law_880 : decode cL_law 880 = .ok (.aload_n 1, 1) := by decide +kernel
theorem dL_law_881 : decode cL_law 881 = .ok (.aload_n 0, 1) := by decide +kernel
theorem dL_law_882 : decode cL_law 882 = .ok (.iload_n 3, 1) := by decide +kernel
theorem dL_law_883 : decode cL_law 883 = .ok (.iconst 1, 1) := by decide +kernel
theorem dL_law_884 : decode cL_law 884 = .ok (.iadd, 1) := by decide +kernel
theorem dL_law_885 : decode cL_law 885 = .ok (.iaload, 1) := by decide +kernel
theorem dL_law_886 : decode cL_law 886 = .ok (.aload_n 0, 1) := by decide +kernel
theorem dL_law_887 : decode cL_law 887 = .ok (.iload_n 3, 1) := by decide +kernel
theorem dL_law_888 : decode cL_law 888 = .ok (.iconst 2, 1) := by decide +kernel
theorem dL_law_889 : decode cL_law 889 = .ok (.iadd, 1) := by decide +kernel
theorem dL_law_890 : decode cL_law 890 = .ok (.iaload, 1) := by decide +kernel
theorem dL_law_891 : decode cL_law 891 = .ok (.aload_n 0, 1) := by decide +kernel
theorem dL_law_892 : decode cL_law 892 = .ok (.iload_n 3, 1) := by decide +kernel
theorem dL_law_893 : decode cL_law 893 = .ok (.iconst 3, 1) := by decide +kernel
theorem dL_law_894 : decode cL_law 894 = .ok (.iadd, 1) := by decide +kernel
theorem dL_law_895 : decode cL_law 895 = .ok (.iaload, 1) := by decide +kernel
theorem dL_law_896 : decode cL_law 896 = .ok (.invokevirtual 121, 3) := by decide +kernel
theorem dL_law_899 : decode cL_law 899 = .ok (.aload_n 2, 1) := by decide +kernel
theorem dL_law_900 : decode cL_law 900 = .ok (.aload_n 0, 1) := by decide +kernel
theorem dL_law_901 : decode cL_law 901 = .ok (.iload_n 3, 1) := by decide +kernel
theorem dL_law_902 : decode cL_law 902 = .ok (.iconst 1, 1) := by decide +kernel
theorem dL_law_903 : decode cL_law 903 = .ok (.iadd, 1) := by decide +kernel
theorem dL_law_904 : decode cL_law 904 = .ok (.iaload, 1) := by decide +kernel
theorem dL_law_905 : decode cL_law 905 = .ok (.aload_n 0, 1) := by decide +kernel
theorem dL_law_906 : decode cL_law 906 = .ok (.iload_n 3, 1) := by decide +kernel
theorem dL_law_907 : decode cL_law 907 = .ok (.iconst 2, 1) := by decide +kernel
theorem dL_law_908 : decode cL_law 908 = .ok (.iadd, 1) := by decide +kernel
theorem dL_law_909 : decode cL_law 909 = .ok (.iaload, 1) := by decide +kernel
theorem dL_law_910 : decode cL_law 910 = .ok (.aload_n 0, 1) := by decide +kernel
theorem dL_law_911 : decode cL_law 911 = .ok (.iload_n 3, 1) := by decide +kernel
theorem dL_law_912 : decode cL_law 912 = .ok (.iconst 3, 1) := by decide +kernel
theorem dL_law_913 : decode cL_law 913 = .ok (.iadd, 1) := by decide +kernel
theorem dL_law_914 : decode cL_law 914 = .ok (.iaload, 1) := by decide +kernel
theorem dL_law_915 : decode cL_law 915 = .ok (.invokevirtual 125, 3) := by decide +kernel
theorem dL_law_918 : decode cL_law 918 = .ok (.lcmp, 1) := by decide +kernel
theorem dL_law_919 : decode cL_law 919 = .ok (.ifCond .eq 343, 3) := by decide +kernel
theorem dL_law_922 : decode cL_law 922 = .ok (.iconst 0, 1) := by decide +kernel
theorem dL_law_923 : decode cL_law 923 = .ok (.ireturn, 1) := by decide +kernel
theorem dL_law_924 : decode cL_law 924 = .ok (.aload_n 1, 1) := by decide +kernel
theorem dL_law_925 : decode cL_law 925 = .ok (.aload_n 0, 1) := by decide +kernel
theorem dL_law_926 : decode cL_law 926 = .ok (.iload_n 3, 1) := by decide +kernel
theorem dL_law_927 : decode cL_law 927 = .ok (.iconst 1, 1) := by decide +kernel
theorem dL_law_928 : decode cL_law 928 = .ok (.iadd, 1) := by decide +kernel
theorem dL_law_929 : decode cL_law 929 = .ok (.iaload, 1) := by decide +kernel
theorem dL_law_930 : decode cL_law 930 = .ok (.aload_n 0, 1) := by decide +kernel
theorem dL_law_931 : decode cL_law 931 = .ok (.iload_n 3, 1) := by decide +kernel
theorem dL_law_932 : decode cL_law 932 = .ok (.iconst 2, 1) := by decide +kernel
theorem dL_law_933 : decode cL_law 933 = .ok (.iadd, 1) := by decide +kernel
theorem dL_law_934 : decode cL_law 934 = .ok (.iaload, 1) := by decide +kernel
theorem dL_law_935 : decode cL_law 935 = .ok (.aload_n 0, 1) := by decide +kernel
theorem dL_law_936 : decode cL_law 936 = .ok (.iload_n 3, 1) := by decide +kernel
theorem dL_law_937 : decode cL_law 937 = .ok (.iconst 3, 1) := by decide +kernel
theorem dL_law_938 : decode cL_law 938 = .ok (.iadd, 1) := by decide +kernel
theorem dL_law_939 : decode cL_law 939 = .ok (.iaload, 1) := by decide +kernel
theorem dL_law_940 : decode cL_law 940 = .ok (.invokevirtual 126, 3) := by decide +kernel
theorem dL_law_943 : decode cL_law 943 = .ok (.aload_n 2, 1) := by decide +kernel
theorem dL_law_944 : decode cL_law 944 = .ok (.aload_n 0, 1) := by decide +kernel
theorem dL_law_945 : decode cL_law 945 = .ok (.iload_n 3, 1) := by decide +kernel
theorem dL_law_946 : decode cL_law 946 = .ok (.iconst 1, 1) := by decide +kernel
theorem dL_law_947 : decode cL_law 947 = .ok (.iadd, 1) := by decide +kernel
theorem dL_law_948 : decode cL_law 948 = .ok (.iaload, 1) := by decide +kernel
theorem dL_law_949 : decode cL_law 949 = .ok (.aload_n 0, 1) := by decide +kernel
theorem dL_law_950 : decode cL_law 950 = .ok (.iload_n 3, 1) := by decide +kernel
theorem dL_law_951 : decode cL_law 951 = .ok (.iconst 2, 1) := by decide +kernel
theorem dL_law_952 : decode cL_law 952 = .ok (.iadd, 1) := by decide +kernel
theorem dL_law_953 : decode cL_law 953 = .ok (.iaload, 1) := by decide +kernel
theorem dL_law_954 : decode cL_law 954 = .ok (.aload_n 0, 1) := by decide +kernel
theorem dL_law_955 : decode cL_law 955 = .ok (.iload_n 3, 1) := by decide +kernel
theorem dL_law_956 : decode cL_law 956 = .ok (.iconst 3, 1) := by decide +kernel
theorem dL_law_957 : decode cL_law 957 = .ok (.iadd, 1) := by decide +kernel
theorem dL_law_958 : decode cL_law 958 = .ok (.iaload, 1) := by decide +kernel
theorem dL_law_959 : decode cL_law 959 = .ok (.invokevirtual 129, 3) := by decide +kernel
theorem dL_law_962 : decode cL_law 962 = .ok (.if_icmp .eq 300, 3) := by decide +kernel
theorem dL_law_965 : decode cL_law 965 = .ok (.iconst 0, 1) := by decide +kernel
theorem dL_law_966 : decode cL_law 966 = .ok (.ireturn, 1) := by decide +kernel
theorem dL_law_967 : decode cL_law 967 = .ok (.aload_n 1, 1) := by decide +kernel
theorem dL_law_968 : decode cL_law 968 = .ok (.aload_n 0, 1) := by decide +kernel
theorem dL_law_969 : decode cL_law 969 = .ok (.iload_n 3, 1) := by decide +kernel
theorem dL_law_970 : decode cL_law 970 = .ok (.iconst 1, 1) := by decide +kernel
theorem dL_law_971 : decode cL_law 971 = .ok (.iadd, 1) := by decide +kernel
theorem dL_law_972 : decode cL_law 972 = .ok (.iaload, 1) := by decide +kernel
theorem dL_law_973 : decode cL_law 973 = .ok (.aload_n 0, 1) := by decide +kernel
theorem dL_law_974 : decode cL_law 974 = .ok (.iload_n 3, 1) := by decide +kernel
theorem dL_law_975 : decode cL_law 975 = .ok (.iconst 2, 1) := by decide +kernel
theorem dL_law_976 : decode cL_law 976 = .ok (.iadd, 1) := by decide +kernel
theorem dL_law_977 : decode cL_law 977 = .ok (.iaload, 1) := by decide +kernel
theorem dL_law_978 : decode cL_law 978 = .ok (.aload_n 0, 1) := by decide +kernel
theorem dL_law_979 : decode cL_law 979 = .ok (.iload_n 3, 1) := by decide +kernel
theorem dL_law_980 : decode cL_law 980 = .ok (.iconst 3, 1) := by decide +kernel
theorem dL_law_981 : decode cL_law 981 = .ok (.iadd, 1) := by decide +kernel
theorem dL_law_982 : decode cL_law 982 = .ok (.iaload, 1) := by decide +kernel
theorem dL_law_983 : decode cL_law 983 = .ok (.invokevirtual 130, 3) := by decide +kernel
theorem dL_law_986 : decode cL_law 986 = .ok (.aload_n 2, 1) := by decide +kernel
theorem dL_law_987 : decode cL_law 987 = .ok (.aload_n 0, 1) := by decide +kernel
theorem dL_law_988 : decode cL_law 988 = .ok (.iload_n 3, 1) := by decide +kernel
theorem dL_law_989 : decode cL_law 989 = .ok (.iconst 1, 1) := by decide +kernel
theorem dL_law_990 : decode cL_law 990 = .ok (.iadd, 1) := by decide +kernel
theorem dL_law_991 : decode cL_law 991 = .ok (.iaload, 1) := by decide +kernel
theorem dL_law_992 : decode cL_law 992 = .ok (.aload_n 0, 1) := by decide +kernel
theorem dL_law_993 : decode cL_law 993 = .ok (.iload_n 3, 1) := by decide +kernel
theorem dL_law_994 : decode cL_law 994 = .ok (.iconst 2, 1) := by decide +kernel
theorem dL_law_995 : decode cL_law 995 = .ok (.iadd, 1) := by decide +kernel
theorem dL_law_996 : decode cL_law 996 = .ok (.iaload, 1) := by decide +kernel
theorem dL_law_997 : decode cL_law 997 = .ok (.aload_n 0, 1) := by decide +kernel
theorem dL_law_998 : decode cL_law 998 = .ok (.iload_n 3, 1) := by decide +kernel
theorem dL_law_999 : decode cL_law 999 = .ok (.iconst 3, 1) := by decide +kernel
theorem dL_law_1000 : decode cL_law 1000 = .ok (.iadd, 1) := by decide +kernel
theorem dL_law_1001 : decode cL_law 1001 = .ok (.iaload, 1) := by decide +kernel
theorem dL_law_1002 : decode cL_law 1002 = .ok (.invokevirtual 133, 3) := by decide +kernel
theorem dL_law_1005 : decode cL_law 1005 = .ok (.if_icmp .eq 257, 3) := by decide +kernel
theorem dL_law_1008 : decode cL_law 1008 = .ok (.iconst 0, 1) := by decide +kernel
theorem dL_law_1009 : decode cL_law 1009 = .ok (.ireturn, 1) := by decide +kernel
theorem dL_law_1010 : decode cL_law 1010 = .ok (.aload_n 1, 1) := by decide +kernel
theorem dL_law_1011 : decode cL_law 1011 = .ok (.aload_n 0, 1) := by decide +kernel
theorem dL_law_1012 : decode cL_law 1012 = .ok (.iload_n 3, 1) := by decide +kernel
theorem dL_law_1013 : decode cL_law 1013 = .ok (.iconst 1, 1) := by decide +kernel
theorem dL_law_1014 : decode cL_law 1014 = .ok (.iadd, 1) := by decide +kernel
theorem dL_law_1015 : decode cL_law 1015 = .ok (.iaload, 1) := by decide +kernel
theorem dL_law_1016 : decode cL_law 1016 = .ok (.invokevirtual 134, 3) := by decide +kernel
theorem dL_law_1019 : decode cL_law 1019 = .ok (.aload_n 2, 1) := by decide +kernel
theorem dL_law_1020 : decode cL_law 1020 = .ok (.aload_n 0, 1) := by decide +kernel
theorem dL_law_1021 : decode cL_law 1021 = .ok (.iload_n 3, 1) := by decide +kernel
theorem dL_law_1022 : decode cL_law 1022 = .ok (.iconst 1, 1) := by decide +kernel
theorem dL_law_1023 : decode cL_law 1023 = .ok (.iadd, 1) := by decide +kernel
theorem dL_law_1024 : decode cL_law 1024 = .ok (.iaload, 1) := by decide +kernel
theorem dL_law_1025 : decode cL_law 1025 = .ok (.invokevirtual 137, 3) := by decide +kernel
theorem dL_law_1028 : decode cL_law 1028 = .ok (.if_icmp .eq 234, 3) := by decide +kernel
theorem dL_law_1031 : decode cL_law 1031 = .ok (.iconst 0, 1) := by decide +kernel
theorem dL_law_1032 : decode cL_law 1032 = .ok (.ireturn, 1) := by decide +kernel
theorem dL_law_1033 : decode cL_law 1033 = .ok (.aload_n 1, 1) := by decide +kernel
theorem dL_law_1034 : decode cL_law 1034 = .ok (.aload_n 0, 1) := by decide +kernel
theorem dL_law_1035 : decode cL_law 1035 = .ok (.iload_n 3, 1) := by decide +kernel
theorem dL_law_1036 : decode cL_law 1036 = .ok (.iconst 1, 1) := by decide +kernel
theorem dL_law_1037 : decode cL_law 1037 = .ok (.iadd, 1) := by decide +kernel
theorem dL_law_1038 : decode cL_law 1038 = .ok (.iaload, 1) := by decide +kernel
theorem dL_law_1039 : decode cL_law 1039 = .ok (.aload_n 0, 1) := by decide +kernel
theorem dL_law_1040 : decode cL_law 1040 = .ok (.iload_n 3, 1) := by decide +kernel
theorem dL_law_1041 : decode cL_law 1041 = .ok (.iconst 2, 1) := by decide +kernel
theorem dL_law_1042 : decode cL_law 1042 = .ok (.iadd, 1) := by decide +kernel
theorem dL_law_1043 : decode cL_law 1043 = .ok (.iaload, 1) := by decide +kernel
theorem dL_law_1044 : decode cL_law 1044 = .ok (.aload_n 0, 1) := by decide +kernel
theorem dL_law_1045 : decode cL_law 1045 = .ok (.iload_n 3, 1) := by decide +kernel
theorem dL_law_1046 : decode cL_law 1046 = .ok (.iconst 3, 1) := by decide +kernel
theorem dL_law_1047 : decode cL_law 1047 = .ok (.iadd, 1) := by decide +kernel
theorem dL_law_1048 : decode cL_law 1048 = .ok (.iaload, 1) := by decide +kernel
theorem dL_law_1049 : decode cL_law 1049 = .ok (.aload_n 0, 1) := by decide +kernel
theorem dL_law_1050 : decode cL_law 1050 = .ok (.iload_n 3, 1) := by decide +kernel
theorem dL_law_1051 : decode cL_law 1051 = .ok (.iconst 4, 1) := by decide +kernel
theorem dL_law_1052 : decode cL_law 1052 = .ok (.iadd, 1) := by decide +kernel
theorem dL_law_1053 : decode cL_law 1053 = .ok (.iaload, 1) := by decide +kernel
theorem dL_law_1054 : decode cL_law 1054 = .ok (.invokevirtual 138, 3) := by decide +kernel
theorem dL_law_1057 : decode cL_law 1057 = .ok (.aload_n 2, 1) := by decide +kernel
theorem dL_law_1058 : decode cL_law 1058 = .ok (.aload_n 0, 1) := by decide +kernel
theorem dL_law_1059 : decode cL_law 1059 = .ok (.iload_n 3, 1) := by decide +kernel
theorem dL_law_1060 : decode cL_law 1060 = .ok (.iconst 1, 1) := by decide +kernel
theorem dL_law_1061 : decode cL_law 1061 = .ok (.iadd, 1) := by decide +kernel
theorem dL_law_1062 : decode cL_law 1062 = .ok (.iaload, 1) := by decide +kernel
theorem dL_law_1063 : decode cL_law 1063 = .ok (.aload_n 0, 1) := by decide +kernel
theorem dL_law_1064 : decode cL_law 1064 = .ok (.iload_n 3, 1) := by decide +kernel
theorem dL_law_1065 : decode cL_law 1065 = .ok (.iconst 2, 1) := by decide +kernel
theorem dL_law_1066 : decode cL_law 1066 = .ok (.iadd, 1) := by decide +kernel
theorem dL_law_1067 : decode cL_law 1067 = .ok (.iaload, 1) := by decide +kernel
theorem dL_law_1068 : decode cL_law 1068 = .ok (.aload_n 0, 1) := by decide +kernel
theorem dL_law_1069 : decode cL_law 1069 = .ok (.iload_n 3, 1) := by decide +kernel
theorem dL_law_1070 : decode cL_law 1070 = .ok (.iconst 3, 1) := by decide +kernel
theorem dL_law_1071 : decode cL_law 1071 = .ok (.iadd, 1) := by decide +kernel
theorem dL_law_1072 : decode cL_law 1072 = .ok (.iaload, 1) := by decide +kernel
theorem dL_law_1073 : decode cL_law 1073 = .ok (.aload_n 0, 1) := by decide +kernel
theorem dL_law_1074 : decode cL_law 1074 = .ok (.iload_n 3, 1) := by decide +kernel
theorem dL_law_1075 : decode cL_law 1075 = .ok (.iconst 4, 1) := by decide +kernel
theorem dL_law_1076 : decode cL_law 1076 = .ok (.iadd, 1) := by decide +kernel
theorem dL_law_1077 : decode cL_law 1077 = .ok (.iaload, 1) := by decide +kernel
theorem dL_law_1078 : decode cL_law 1078 = .ok (.invokevirtual 142, 3) := by decide +kernel
theorem dL_law_1081 : decode cL_law 1081 = .ok (.if_icmp .eq 181, 3) := by decide +kernel
theorem dL_law_1084 : decode cL_law 1084 = .ok (.iconst 0, 1) := by decide +kernel
theorem dL_law_1085 : decode cL_law 1085 = .ok (.ireturn, 1) := by decide +kernel
theorem dL_law_1086 : decode cL_law 1086 = .ok (.aload_n 1, 1) := by decide +kernel
theorem dL_law_1087 : decode cL_law 1087 = .ok (.aload_n 0, 1) := by decide +kernel
theorem dL_law_1088 : decode cL_law 1088 = .ok (.iload_n 3, 1) := by decide +kernel
theorem dL_law_1089 : decode cL_law 1089 = .ok (.iconst 1, 1) := by decide +kernel
theorem dL_law_1090 : decode cL_law 1090 = .ok (.iadd, 1) := by decide +kernel
theorem dL_law_1091 : decode cL_law 1091 = .ok (.iaload, 1) := by decide +kernel
theorem dL_law_1092 : decode cL_law 1092 = .ok (.aload_n 0, 1) := by decide +kernel
theorem dL_law_1093 : decode cL_law 1093 = .ok (.iload_n 3, 1) := by decide +kernel
theorem dL_law_1094 : decode cL_law 1094 = .ok (.iconst 2, 1) := by decide +kernel
theorem dL_law_1095 : decode cL_law 1095 = .ok (.iadd, 1) := by decide +kernel
theorem dL_law_1096 : decode cL_law 1096 = .ok (.iaload, 1) := by decide +kernel
theorem dL_law_1097 : decode cL_law 1097 = .ok (.aload_n 0, 1) := by decide +kernel
theorem dL_law_1098 : decode cL_law 1098 = .ok (.iload_n 3, 1) := by decide +kernel
theorem dL_law_1099 : decode cL_law 1099 = .ok (.iconst 3, 1) := by decide +kernel
theorem dL_law_1100 : decode cL_law 1100 = .ok (.iadd, 1) := by decide +kernel
theorem dL_law_1101 : decode cL_law 1101 = .ok (.iaload, 1) := by decide +kernel
theorem dL_law_1102 : decode cL_law 1102 = .ok (.invokevirtual 143, 3) := by decide +kernel
theorem dL_law_1105 : decode cL_law 1105 = .ok (.aload_n 2, 1) := by decide +kernel
theorem dL_law_1106 : decode cL_law 1106 = .ok (.aload_n 0, 1) := by decide +kernel
theorem dL_law_1107 : decode cL_law 1107 = .ok (.iload_n 3, 1) := by decide +kernel
theorem dL_law_1108 : decode cL_law 1108 = .ok (.iconst 1, 1) := by decide +kernel
theorem dL_law_1109 : decode cL_law 1109 = .ok (.iadd, 1) := by decide +kernel
theorem dL_law_1110 : decode cL_law 1110 = .ok (.iaload, 1) := by decide +kernel
theorem dL_law_1111 : decode cL_law 1111 = .ok (.aload_n 0, 1) := by decide +kernel
theorem dL_law_1112 : decode cL_law 1112 = .ok (.iload_n 3, 1) := by decide +kernel
theorem dL_law_1113 : decode cL_law 1113 = .ok (.iconst 2, 1) := by decide +kernel
theorem dL_law_1114 : decode cL_law 1114 = .ok (.iadd, 1) := by decide +kernel
theorem dL_law_1115 : decode cL_law 1115 = .ok (.iaload, 1) := by decide +kernel
theorem dL_law_1116 : decode cL_law 1116 = .ok (.aload_n 0, 1) := by decide +kernel
theorem dL_law_1117 : decode cL_law 1117 = .ok (.iload_n 3, 1) := by decide +kernel
theorem dL_law_1118 : decode cL_law 1118 = .ok (.iconst 3, 1) := by decide +kernel
theorem dL_law_1119 : decode cL_law 1119 = .ok (.iadd, 1) := by decide +kernel
theorem dL_law_1120 : decode cL_law 1120 = .ok (.iaload, 1) := by decide +kernel
theorem dL_law_1121 : decode cL_law 1121 = .ok (.invokevirtual 146, 3) := by decide +kernel
theorem dL_law_1124 : decode cL_law 1124 = .ok (.if_icmp .eq 138, 3) := by decide +kernel
theorem dL_law_1127 : decode cL_law 1127 = .ok (.iconst 0, 1) := by decide +kernel
theorem dL_law_1128 : decode cL_law 1128 = .ok (.ireturn, 1) := by decide +kernel
theorem dL_law_1129 : decode cL_law 1129 = .ok (.aload_n 1, 1) := by decide +kernel
theorem dL_law_1130 : decode cL_law 1130 = .ok (.aload_n 0, 1) := by decide +kernel
theorem dL_law_1131 : decode cL_law 1131 = .ok (.iload_n 3, 1) := by decide +kernel
theorem dL_law_1132 : decode cL_law 1132 = .ok (.iconst 1, 1) := by decide +kernel
theorem dL_law_1133 : decode cL_law 1133 = .ok (.iadd, 1) := by decide +kernel
theorem dL_law_1134 : decode cL_law 1134 = .ok (.iaload, 1) := by decide +kernel
theorem dL_law_1135 : decode cL_law 1135 = .ok (.aload_n 0, 1) := by decide +kernel
theorem dL_law_1136 : decode cL_law 1136 = .ok (.iload_n 3, 1) := by decide +kernel
theorem dL_law_1137 : decode cL_law 1137 = .ok (.iconst 2, 1) := by decide +kernel
theorem dL_law_1138 : decode cL_law 1138 = .ok (.iadd, 1) := by decide +kernel
theorem dL_law_1139 : decode cL_law 1139 = .ok (.iaload, 1) := by decide +kernel
theorem dL_law_1140 : decode cL_law 1140 = .ok (.aload_n 0, 1) := by decide +kernel
theorem dL_law_1141 : decode cL_law 1141 = .ok (.iload_n 3, 1) := by decide +kernel
theorem dL_law_1142 : decode cL_law 1142 = .ok (.iconst 3, 1) := by decide +kernel
theorem dL_law_1143 : decode cL_law 1143 = .ok (.iadd, 1) := by decide +kernel
theorem dL_law_1144 : decode cL_law 1144 = .ok (.iaload, 1) := by decide +kernel
theorem dL_law_1145 : decode cL_law 1145 = .ok (.aload_n 0, 1) := by decide +kernel
theorem dL_law_1146 : decode cL_law 1146 = .ok (.iload_n 3, 1) := by decide +kernel
theorem dL_law_1147 : decode cL_law 1147 = .ok (.iconst 4, 1) := by decide +kernel
theorem dL_law_1148 : decode cL_law 1148 = .ok (.iadd, 1) := by decide +kernel
theorem dL_law_1149 : decode cL_law 1149 = .ok (.iaload, 1) := by decide +kernel
theorem dL_law_1150 : decode cL_law 1150 = .ok (.aload_n 0, 1) := by decide +kernel
theorem dL_law_1151 : decode cL_law 1151 = .ok (.iload_n 3, 1) := by decide +kernel
theorem dL_law_1152 : decode cL_law 1152 = .ok (.iconst 5, 1) := by decide +kernel
theorem dL_law_1153 : decode cL_law 1153 = .ok (.iadd, 1) := by decide +kernel
theorem dL_law_1154 : decode cL_law 1154 = .ok (.iaload, 1) := by decide +kernel
theorem dL_law_1155 : decode cL_law 1155 = .ok (.invokevirtual 147, 3) := by decide +kernel
theorem dL_law_1158 : decode cL_law 1158 = .ok (.aload_n 2, 1) := by decide +kernel
theorem dL_law_1159 : decode cL_law 1159 = .ok (.aload_n 0, 1) := by decide +kernel
theorem dL_law_1160 : decode cL_law 1160 = .ok (.iload_n 3, 1) := by decide +kernel
theorem dL_law_1161 : decode cL_law 1161 = .ok (.iconst 1, 1) := by decide +kernel
theorem dL_law_1162 : decode cL_law 1162 = .ok (.iadd, 1) := by decide +kernel
theorem dL_law_1163 : decode cL_law 1163 = .ok (.iaload, 1) := by decide +kernel
theorem dL_law_1164 : decode cL_law 1164 = .ok (.aload_n 0, 1) := by decide +kernel
theorem dL_law_1165 : decode cL_law 1165 = .ok (.iload_n 3, 1) := by decide +kernel
theorem dL_law_1166 : decode cL_law 1166 = .ok (.iconst 2, 1) := by decide +kernel
theorem dL_law_1167 : decode cL_law 1167 = .ok (.iadd, 1) := by decide +kernel
theorem dL_law_1168 : decode cL_law 1168 = .ok (.iaload, 1) := by decide +kernel
theorem dL_law_1169 : decode cL_law 1169 = .ok (.aload_n 0, 1) := by decide +kernel
theorem dL_law_1170 : decode cL_law 1170 = .ok (.iload_n 3, 1) := by decide +kernel
theorem dL_law_1171 : decode cL_law 1171 = .ok (.iconst 3, 1) := by decide +kernel
theorem dL_law_1172 : decode cL_law 1172 = .ok (.iadd, 1) := by decide +kernel
theorem dL_law_1173 : decode cL_law 1173 = .ok (.iaload, 1) := by decide +kernel
theorem dL_law_1174 : decode cL_law 1174 = .ok (.aload_n 0, 1) := by decide +kernel
theorem dL_law_1175 : decode cL_law 1175 = .ok (.iload_n 3, 1) := by decide +kernel
theorem dL_law_1176 : decode cL_law 1176 = .ok (.iconst 4, 1) := by decide +kernel
theorem dL_law_1177 : decode cL_law 1177 = .ok (.iadd, 1) := by decide +kernel
theorem dL_law_1178 : decode cL_law 1178 = .ok (.iaload, 1) := by decide +kernel
theorem dL_law_1179 : decode cL_law 1179 = .ok (.aload_n 0, 1) := by decide +kernel
theorem dL_law_1180 : decode cL_law 1180 = .ok (.iload_n 3, 1) := by decide +kernel
theorem dL_law_1181 : decode cL_law 1181 = .ok (.iconst 5, 1) := by decide +kernel
theorem dL_law_1182 : decode cL_law 1182 = .ok (.iadd, 1) := by decide +kernel
theorem dL_law_1183 : decode cL_law 1183 = .ok (.iaload, 1) := by decide +kernel
theorem dL_law_1184 : decode cL_law 1184 = .ok (.invokevirtual 151, 3) := by decide +kernel
theorem dL_law_1187 : decode cL_law 1187 = .ok (.if_icmp .eq 75, 3) := by decide +kernel
theorem dL_law_1190 : decode cL_law 1190 = .ok (.iconst 0, 1) := by decide +kernel
theorem dL_law_1191 : decode cL_law 1191 = .ok (.ireturn, 1) := by decide +kernel
theorem dL_law_1192 : decode cL_law 1192 = .ok (.aload_n 1, 1) := by decide +kernel
theorem dL_law_1193 : decode cL_law 1193 = .ok (.aload_n 0, 1) := by decide +kernel
theorem dL_law_1194 : decode cL_law 1194 = .ok (.iload_n 3, 1) := by decide +kernel
theorem dL_law_1195 : decode cL_law 1195 = .ok (.iconst 1, 1) := by decide +kernel
theorem dL_law_1196 : decode cL_law 1196 = .ok (.iadd, 1) := by decide +kernel
theorem dL_law_1197 : decode cL_law 1197 = .ok (.iaload, 1) := by decide +kernel
theorem dL_law_1198 : decode cL_law 1198 = .ok (.aload_n 0, 1) := by decide +kernel
theorem dL_law_1199 : decode cL_law 1199 = .ok (.iload_n 3, 1) := by decide +kernel
theorem dL_law_1200 : decode cL_law 1200 = .ok (.iconst 2, 1) := by decide +kernel
theorem dL_law_1201 : decode cL_law 1201 = .ok (.iadd, 1) := by decide +kernel
theorem dL_law_1202 : decode cL_law 1202 = .ok (.iaload, 1) := by decide +kernel
theorem dL_law_1203 : decode cL_law 1203 = .ok (.invokevirtual 152, 3) := by decide +kernel
theorem dL_law_1206 : decode cL_law 1206 = .ok (.aload_n 2, 1) := by decide +kernel
theorem dL_law_1207 : decode cL_law 1207 = .ok (.aload_n 0, 1) := by decide +kernel
theorem dL_law_1208 : decode cL_law 1208 = .ok (.iload_n 3, 1) := by decide +kernel
theorem dL_law_1209 : decode cL_law 1209 = .ok (.iconst 1, 1) := by decide +kernel
theorem dL_law_1210 : decode cL_law 1210 = .ok (.iadd, 1) := by decide +kernel
theorem dL_law_1211 : decode cL_law 1211 = .ok (.iaload, 1) := by decide +kernel
theorem dL_law_1212 : decode cL_law 1212 = .ok (.aload_n 0, 1) := by decide +kernel
theorem dL_law_1213 : decode cL_law 1213 = .ok (.iload_n 3, 1) := by decide +kernel
theorem dL_law_1214 : decode cL_law 1214 = .ok (.iconst 2, 1) := by decide +kernel
theorem dL_law_1215 : decode cL_law 1215 = .ok (.iadd, 1) := by decide +kernel
theorem dL_law_1216 : decode cL_law 1216 = .ok (.iaload, 1) := by decide +kernel
theorem dL_law_1217 : decode cL_law 1217 = .ok (.invokevirtual 155, 3) := by decide +kernel
theorem dL_law_1220 : decode cL_law 1220 = .ok (.if_icmp .eq 42, 3) := by decide +kernel
theorem dL_law_1223 : decode cL_law 1223 = .ok (.iconst 0, 1) := by decide +kernel
theorem dL_law_1224 : decode cL_law 1224 = .ok (.ireturn, 1) := by decide +kernel
theorem dL_law_1225 : decode cL_law 1225 = .ok (.aload_n 1, 1) := by decide +kernel
theorem dL_law_1226 : decode cL_law 1226 = .ok (.aload_n 0, 1) := by decide +kernel
theorem dL_law_1227 : decode cL_law 1227 = .ok (.iload_n 3, 1) := by decide +kernel
theorem dL_law_1228 : decode cL_law 1228 = .ok (.iconst 1, 1) := by decide +kernel
theorem dL_law_1229 : decode cL_law 1229 = .ok (.iadd, 1) := by decide +kernel
theorem dL_law_1230 : decode cL_law 1230 = .ok (.iaload, 1) := by decide +kernel
theorem dL_law_1231 : decode cL_law 1231 = .ok (.invokevirtual 156, 3) := by decide +kernel
theorem dL_law_1234 : decode cL_law 1234 = .ok (.aload_n 2, 1) := by decide +kernel
theorem dL_law_1235 : decode cL_law 1235 = .ok (.aload_n 0, 1) := by decide +kernel
theorem dL_law_1236 : decode cL_law 1236 = .ok (.iload_n 3, 1) := by decide +kernel
theorem dL_law_1237 : decode cL_law 1237 = .ok (.iconst 1, 1) := by decide +kernel
theorem dL_law_1238 : decode cL_law 1238 = .ok (.iadd, 1) := by decide +kernel
theorem dL_law_1239 : decode cL_law 1239 = .ok (.iaload, 1) := by decide +kernel
theorem dL_law_1240 : decode cL_law 1240 = .ok (.invokevirtual 159, 3) := by decide +kernel
theorem dL_law_1243 : decode cL_law 1243 = .ok (.if_icmp .eq 19, 3) := by decide +kernel
theorem dL_law_1246 : decode cL_law 1246 = .ok (.iconst 0, 1) := by decide +kernel
theorem dL_law_1247 : decode cL_law 1247 = .ok (.ireturn, 1) := by decide +kernel
theorem dL_law_1248 : decode cL_law 1248 = .ok (.aload_n 1, 1) := by decide +kernel
theorem dL_law_1249 : decode cL_law 1249 = .ok (.invokevirtual 160, 3) := by decide +kernel
theorem dL_law_1252 : decode cL_law 1252 = .ok (.aload_n 2, 1) := by decide +kernel
theorem dL_law_1253 : decode cL_law 1253 = .ok (.invokevirtual 164, 3) := by decide +kernel
theorem dL_law_1256 : decode cL_law 1256 = .ok (.lcmp, 1) := by decide +kernel
theorem dL_law_1257 : decode cL_law 1257 = .ok (.ifCond .eq 5, 3) := by decide +kernel
theorem dL_law_1260 : decode cL_law 1260 = .ok (.iconst 0, 1) := by decide +kernel
theorem dL_law_1261 : decode cL_law 1261 = .ok (.ireturn, 1) := by decide +kernel
theorem dL_law_1262 : decode cL_law 1262 = .ok (.iinc 3 6, 3) := by decide +kernel
theorem dL_law_1265 : decode cL_law 1265 = .ok (.goto (-1247), 3) := by decide +kernel
theorem dL_law_1268 : decode cL_law 1268 = .ok (.iconst 1, 1) := by decide +kernel
theorem dL_law_1269 : decode cL_law 1269 = .ok (.ireturn, 1) := by decide +kernel
end
section
/-! THE ABSTRACT MACHINE: a world of cells that are made once (arrays of ints, arrays of references, objects); its state is a memory of ints, by cell and place. -/
abbrev mm_M : Type := Nat → Nat → Int32
abbrev mm_Ds : Type := Nat ⊕ ((List Nat × Nat) ⊕ (Nat × List (Option Nat)))
abbrev mm_Ly : Type := List mm_Ds
def mm_up (M : mm_M) (k : Nat) (f : Nat → Int32) : mm_M := fun q => if q = k then f else M q
def mm_wr (M : mm_M) (k i : Nat) (x : Int32) : mm_M := mm_up M k (upd (M k) i x)
/-- an item of an array of n ints; none: the machine would throw -/
def mm_rd (M : mm_M) (k n : Nat) (i : Int32) : Option Int32 := if i < 0 ∨ n ≤ i.toNatClampNeg then none else some (M k i.toNatClampNeg)
def mm_wa (M : mm_M) (k n : Nat) (i x : Int32) : Option mm_M := if i < 0 ∨ n ≤ i.toNatClampNeg then none else some (mm_wr M k i.toNatClampNeg x)
def mm_pf (M : mm_M) (k j : Nat) (x : Int32) : Option mm_M := some (mm_wr M k j x)
def mm_ra (rs : List Nat) (i : Int32) : Option Nat := if i < 0 ∨ rs.length ≤ i.toNatClampNeg then none else rs[i.toNatClampNeg]?
def mm_dv (x y : Int32) : Option Int32 := if y = 0 then none else some (x / y)
def mm_rm (x y : Int32) : Option Int32 := if y = 0 then none else some (x - x / y * y)
def mm_ldv (x y : Int64) : Option Int64 := if y = 0 then none else some (x / y)
def mm_lrm (x y : Int64) : Option Int64 := if y = 0 then none else some (x - x / y * y)
def mm_zb (x : Int32) : Option Int32 := if x = 0 ∨ x = 1 then some x else none
/-- System.arraycopy from cell k (n0 items) to cell k1 (n1 items) -/
def mm_cp (M : mm_M) (k n0 : Nat) (sp : Int32) (k1 n1 : Nat) (dp n : Int32) : Option mm_M := if sp < 0 ∨ dp < 0 ∨ n < 0 ∨ n0 < sp.toNatClampNeg + n.toNatClampNeg ∨ n1 < dp.toNatClampNeg + n.toNatClampNeg then none else some (mm_up M k1 (va_cpy (M k) (M k1) sp.toNatClampNeg dp.toNatClampNeg n.toNatClampNeg))
def mm_cv (ad : Nat → Nat) : Value → Value
  | .ref k => .ref (ad k)
  | v => v
theorem mm_cv_cat (ad : Nat → Nat) (v : Value) : (mm_cv ad v).category = v.category := by cases v <;> rfl
def mm_fv (ad : Nat → Nat) (f : Nat → Int32) (j : Nat) (q : Option Nat) : Value := match q with
  | some k => .ref (ad k)
  | none => .int (f j)
def mm_cell (ad : Nat → Nat) (cA : Nat → ClassId) (f : Nat → Int32) (d : mm_Ds) : va_E := match d with
  | .inl n => .inl (cA 0, n, .inl f)
  | .inr (.inl r) => .inl (cA r.2, r.1.length, .inr (.inr (.inr (.inr (fun j => (r.1[j]?).map ad)))))
  | .inr (.inr o) => .inr (o.1, o.2.mapIdx (mm_fv ad f))
def mm_w (Λ : mm_Ly) (ad : Nat → Nat) (cA : Nat → ClassId) (M : mm_M) : va_W := Λ.mapIdx (fun k d => (ad k, mm_cell ad cA (M k) d))
theorem mm_w_at {Λ : mm_Ly} {ad : Nat → Nat} {cA : Nat → ClassId} {M : mm_M} {k : Nat} {d : mm_Ds} (h : Λ[k]? = some d) : (mm_w Λ ad cA M)[k]? = some (ad k, mm_cell ad cA (M k) d) := by
  simp [mm_w, List.getElem?_mapIdx, h]
theorem mm_w_of {Λ : mm_Ly} {ad : Nat → Nat} {cA : Nat → ClassId} {M : mm_M} {k : Nat} {q : Nat × va_E} (h : (mm_w Λ ad cA M)[k]? = some q) : ∃ d, Λ[k]? = some d ∧ q = (ad k, mm_cell ad cA (M k) d) := by
  simp only [mm_w, List.getElem?_mapIdx, Option.map_eq_some_iff] at h
  obtain ⟨d, h1, h2⟩ := h
  exact ⟨d, h1, h2.symm⟩
theorem mm_w_up {Λ : mm_Ly} {ad : Nat → Nat} {cA : Nat → ClassId} {M : mm_M} {k : Nat} {d : mm_Ds} {f : Nat → Int32} {E : va_E} (h : Λ[k]? = some d) (he : E = mm_cell ad cA f d) : (mm_w Λ ad cA M).set k (ad k, E) = mm_w Λ ad cA (mm_up M k f) := by
  subst he
  apply List.ext_getElem?
  intro j
  by_cases hj : j = k
  · subst hj
    rw [mm_w_at h]
    have hl : j < (mm_w Λ ad cA M).length := by
      have := (List.getElem?_eq_some_iff.mp h).1
      simpa [mm_w] using this
    rw [List.getElem?_set_self hl]
    simp [mm_up]
  · rw [List.getElem?_set_ne (Ne.symm hj)]
    simp [mm_w, List.getElem?_mapIdx, mm_up, hj]
theorem mm_w_arr {Λ : mm_Ly} {ad : Nat → Nat} {cA : Nat → ClassId} {M : mm_M} {k n : Nat} {f : Nat → Int32} (h : Λ[k]? = some (.inl n)) : (mm_w Λ ad cA M).set k (ad k, .inl (cA 0, n, .inl f)) = mm_w Λ ad cA (mm_up M k f) := mm_w_up h rfl
theorem mm_w_obj {ad : Nat → Nat} {f : Nat → Int32} {ci : Nat} {fs : List (Option Nat)} {cA : Nat → ClassId} {j : Nat} {x : Int32} (h : fs[j]? = some none) : (.inr (ci, (fs.mapIdx (mm_fv ad f)).set j (.int x)) : va_E) = mm_cell ad cA (upd f j x) (.inr (.inr (ci, fs))) := by
  show _ = (.inr (ci, fs.mapIdx (mm_fv ad (upd f j x))) : va_E)
  congr 2
  apply List.ext_getElem?
  intro i
  by_cases hi : i = j
  · subst hi
    have hl : i < (fs.mapIdx (mm_fv ad f)).length := by
      have := (List.getElem?_eq_some_iff.mp h).1
      simpa using this
    rw [List.getElem?_set_self hl, List.getElem?_mapIdx, h]
    simp [mm_fv, upd]
  · rw [List.getElem?_set_ne (Ne.symm hi), List.getElem?_mapIdx, List.getElem?_mapIdx]
    cases hf : fs[i]? with
    | none => rfl
    | some q => cases q with
      | none => simp [mm_fv, upd, hi]
      | some k => simp [mm_fv]
def mm_A (Λ : mm_Ly) (ad : Nat → Nat) : Nat → Prop := fun q => ∃ k, k < Λ.length ∧ q = ad k
def mm_in (Λ : mm_Ly) (ad : Nat → Nat) : Prop := ∀ i j, i < Λ.length → j < Λ.length → ad i = ad j → i = j
theorem mm_D {Λ : mm_Ly} {ad : Nat → Nat} {cA : Nat → ClassId} {M : mm_M} (h : mm_in Λ ad) : va_D (mm_A Λ ad) (mm_w Λ ad cA M) := by
  refine ⟨fun i j p q hi hj hpq => ?_, fun k q hk => ?_⟩
  · obtain ⟨d, h1, rfl⟩ := mm_w_of hi
    obtain ⟨d2, h2, rfl⟩ := mm_w_of hj
    exact h i j (List.getElem?_eq_some_iff.mp h1).1 (List.getElem?_eq_some_iff.mp h2).1 hpq
  · obtain ⟨d, h1, rfl⟩ := mm_w_of hk
    exact ⟨k, (List.getElem?_eq_some_iff.mp h1).1, rfl⟩
def mm_tys (cA : Nat → ClassId) : List (ClassId × FieldType) := [(cA 0, .int), (cA 1, .object "WordsLent$Text"), (cA 2, .object "WordsLent$Sheet")]
def mm_isN : Cond → Bool
  | .fieldLinkNest _ _ _ _ _ _ => true
  | .methodLinkNest _ _ _ _ => true
  | _ => false
def mm_tb : List Cond := lw_tbl.filter goodWord
theorem mm_tb_in {w : Cond} (h : w ∈ lw_tbl) (hg : goodWord w = true) : w ∈ mm_tb := List.mem_filter.mpr ⟨h, hg⟩
theorem mm_tb_good {w : Cond} (h : w ∈ mm_tb) : GoodIn mm_tb (w :: mm_tb) := fun v hv => by
  have hm : v ∈ mm_tb := by
    rcases List.mem_cons.mp hv with e | e
    · rw [e]; exact h
    · exact e
  exact ⟨hm, good_of_word (List.mem_filter.mp hm).2⟩
def mm_N (U : State) : Prop := ∀ w ∈ lw_tbl, mm_isN w = true → va_Nw w U
theorem mm_N.warm {s U : State} (hW : s.WarmedH U.vm) (h : mm_N s) : mm_N U := by
  intro w hw hn
  have h1 := h w hw hn
  cases w <;> simp [mm_isN] at hn
  · first | exact va_Nw.warmF hW h1 | exact va_Nw.warmM hW h1
  · first | exact va_Nw.warmF hW h1 | exact va_Nw.warmM hW h1
theorem mm_N.same {u U : State} (hv : u.vm = U.vm) (h : mm_N u) : mm_N U := by
  intro w hw hn
  have h1 := h w hw hn
  cases w <;> simp [mm_isN] at hn
  · exact va_Nw.same rfl hv h1
  · exact va_Nw.same rfl hv h1
/-- the one static: a table of four days, at the address of the place 1000 -/
def mm_dg : Nat → Value := fun j => .int (([0, 6, 13, 23] : List Int32).getD j 0)
def mm_Z (Λ : mm_Ly) (ad : Nat → Nat) (U : State) (H : Heap) : Prop := va_Z "WordsLent" "DIGEST_DAYS" "[I" (.ref (ad 1000)) (mm_A Λ ad) U H ∧ va_T .int (ad 1000) 4 mm_dg (mm_A Λ ad) U H
def mm_X (Λ : mm_Ly) (D : va_G) (cA : Nat → ClassId) (ad : Nat → Nat) (U : State) : Prop := va_K D vwCl (mm_tys cA) U ∧ mm_N U ∧ mm_in Λ ad ∧ mm_Z Λ ad U U.heap
theorem mm_X.same {Λ : mm_Ly} {D : va_G} {cA : Nat → ClassId} {ad : Nat → Nat} {u U : State} (hv : u.vm = U.vm) (hh : u.heap = U.heap) (h : mm_X Λ D cA ad u) : mm_X Λ D cA ad U := by
  obtain ⟨h1, h2, h3, h4, h5⟩ := h
  have ha : u.vm.Alike U.vm := by rw [hv]; exact Vm.Alike.refl _
  refine ⟨va_K.moved ha h1, h2.same hv, h3, ?_, ?_⟩
  · rw [← hh]; exact h4.moved ha
  · rw [← hh]; exact h5.moved ha
theorem mm_X.on {Λ : mm_Ly} {D : va_G} {cA : Nat → ClassId} {ad : Nat → Nat} {s U : State} {locs : List Loc} (hW : s.WarmedH U.vm) (hS : va_S (mm_A Λ ad) s.heap U.heap locs) (h : mm_X Λ D cA ad s) : mm_X Λ D cA ad U := by
  obtain ⟨h1, h2, h3, h4, h5⟩ := h
  exact ⟨va_K.moved hW.alike h1, h2.warm hW, h3, (h4.moved hW.alike).kept (fun a l n => hS.2.1 a l n), (h5.moved hW.alike).kept (fun a l n => hS.2.1 a l n)⟩
def mm_R (d : Nat) : Room := { frames := d, cells := 0, slots := 0, locals := 40 * d }
def mm_Q (Λ : mm_Ly) (D : va_G) (cA : Nat → ClassId) (ad : Nat → Nat) (r : Option Value × mm_M) : Array Value → State → Outcome → State → Prop := fun _ st oc t => oc = .returned (r.1.map (mm_cv ad)) ∧ va_P D vwCl (mm_w Λ ad cA r.2) t.heap ∧ va_F (mm_A Λ ad) st t
/-- the locals, by their numbers -/
def mm_L (ad : Nat → Nat) (sl : Array Slot) (nL : Nat) (ls : List (Option Value)) : Prop := sl.size = nL ∧ lv_wf sl ∧ ∀ (i : Nat) (v : Value), ls[i]? = some (some v) → sl[i]? = some (.val (mm_cv ad v))
def mm_pl (ad : Nat → Nat) (ls : List (Option Value)) : List (Nat × Value) := ls.zipIdx.filterMap (fun q => q.1.map (fun v => (q.2, mm_cv ad v)))
theorem mm_pl_mem {ad : Nat → Nat} {ls : List (Option Value)} {q : Nat × Value} : q ∈ mm_pl ad ls ↔ ∃ v, ls[q.1]? = some (some v) ∧ q.2 = mm_cv ad v := by
  unfold mm_pl
  rw [List.mem_filterMap]
  constructor
  · rintro ⟨⟨o, i⟩, h1, h2⟩
    rw [List.mem_zipIdx_iff_getElem?] at h1
    cases o with
    | none => cases h2
    | some v =>
      cases h2
      exact ⟨v, h1, rfl⟩
  · rintro ⟨v, h1, h2⟩
    refine ⟨(some v, q.1), List.mem_zipIdx_iff_getElem?.mpr h1, ?_⟩
    show some (q.1, mm_cv ad v) = some q
    rw [← h2]
theorem mm_L.pl {ad : Nat → Nat} {sl : Array Slot} {nL : Nat} {ls : List (Option Value)} (h : mm_L ad sl nL ls) : lv_has sl nL (mm_pl ad ls) := by
  refine ⟨h.1, h.2.1, fun q hq => ?_⟩
  obtain ⟨v, h1, h2⟩ := mm_pl_mem.mp hq
  rw [h2]
  exact h.2.2 q.1 v h1
def mm_ok1 (ls : List (Option Value)) : Nat → Bool
  | 0 => true
  | i + 1 => match ls[i]? with
    | some (some v) => v.category != 2
    | _ => true
theorem mm_L.st1 {ad : Nat → Nat} {sl : Array Slot} {nL i : Nat} {ls : List (Option Value)} {v : Value} (hk : mm_ok1 ls i = true) (h : lv_has sl nL ((i, mm_cv ad v) :: (mm_pl ad ls).filter (fun q => !(q.1 == i) && !(q.1 + 1 == i && q.2.category == 2)))) : mm_L ad sl nL (ls.set i (some v)) := by
  refine ⟨h.1, h.2.1, fun j u hj => ?_⟩
  by_cases hji : j = i
  · subst hji
    have hl : j < ls.length := by
      have := (List.getElem?_eq_some_iff.mp hj).1
      simpa using this
    rw [List.getElem?_set_self hl] at hj
    cases hj
    exact h.2.2 _ List.mem_cons_self
  · rw [List.getElem?_set_ne (Ne.symm hji)] at hj
    refine h.2.2 (j, mm_cv ad u) (List.mem_cons_of_mem _ (List.mem_filter.mpr ⟨mm_pl_mem.mpr ⟨u, hj, rfl⟩, ?_⟩))
    simp only [Bool.and_eq_true, Bool.not_eq_true', beq_eq_false_iff_ne, ne_eq, Bool.and_eq_false_iff]
    refine ⟨hji, ?_⟩
    by_cases hj1 : j + 1 = i
    · right
      subst hj1
      simp only [mm_ok1, hj] at hk
      rw [mm_cv_cat]
      simpa using hk
    · exact Or.inl hj1
theorem mm_L.st2 {ad : Nat → Nat} {sl : Array Slot} {nL i : Nat} {ls : List (Option Value)} {v : Value} (hk : mm_ok1 ls i = true) (h : lv_has sl nL ((i, mm_cv ad v) :: (mm_pl ad ls).filter (fun q => !(q.1 == i) && (!(q.1 == i + 1) && !(q.1 + 1 == i && q.2.category == 2))))) : mm_L ad sl nL ((ls.set i (some v)).set (i + 1) none) := by
  refine ⟨h.1, h.2.1, fun j u hj => ?_⟩
  by_cases hj2 : j = i + 1
  · subst hj2
    by_cases hl : i + 1 < (ls.set i (some v)).length
    · rw [List.getElem?_set_self hl] at hj
      cases hj
    · rw [List.getElem?_eq_none (by simpa using hl)] at hj
      cases hj
  rw [List.getElem?_set_ne (Ne.symm hj2)] at hj
  by_cases hji : j = i
  · subst hji
    have hl : j < ls.length := by
      have := (List.getElem?_eq_some_iff.mp hj).1
      simpa using this
    rw [List.getElem?_set_self hl] at hj
    cases hj
    exact h.2.2 _ List.mem_cons_self
  · rw [List.getElem?_set_ne (Ne.symm hji)] at hj
    refine h.2.2 (j, mm_cv ad u) (List.mem_cons_of_mem _ (List.mem_filter.mpr ⟨mm_pl_mem.mpr ⟨u, hj, rfl⟩, ?_⟩))
    simp only [Bool.and_eq_true, Bool.not_eq_true', beq_eq_false_iff_ne, ne_eq, Bool.and_eq_false_iff]
    refine ⟨hji, hj2, ?_⟩
    by_cases hj1 : j + 1 = i
    · right
      subst hj1
      simp only [mm_ok1, hj] at hk
      rw [mm_cv_cat]
      simpa using hk
    · exact Or.inl hj1
def mm_a0 : List Value → List (Option Value)
  | [] => []
  | v :: vs => if v.category = 2 then some v :: none :: mm_a0 vs else some v :: mm_a0 vs
theorem mm_a0_at (ad : Nat → Nat) : ∀ (vs : List Value) (b i : Nat) (v : Value), (mm_a0 vs)[i]? = some (some v) → (b + i, mm_cv ad v) ∈ lv_args b (vs.map (mm_cv ad))
  | [], b, i, v, h => by simp [mm_a0] at h
  | u :: vs, b, i, v, h => by
    simp only [List.map_cons, lv_args, mm_cv_cat]
    by_cases hc : u.category = 2
    · simp only [mm_a0, hc, if_true] at h ⊢
      match i, h with
      | 0, h =>
        simp at h
        rw [h]
        exact List.mem_cons_self
      | 1, h => simp at h
      | i + 2, h =>
        have := mm_a0_at ad vs (b + 2) i v (by simpa using h)
        rw [show b + (i + 2) = b + 2 + i by omega]
        exact List.mem_cons_of_mem _ this
    · simp only [mm_a0, hc, if_false] at h ⊢
      match i, h with
      | 0, h =>
        simp at h
        rw [h]
        exact List.mem_cons_self
      | i + 1, h =>
        have := mm_a0_at ad vs (b + 1) i v (by simpa using h)
        rw [show b + (i + 1) = b + 1 + i by omega]
        exact List.mem_cons_of_mem _ this
theorem mm_a0_len (ad : Nat → Nat) : ∀ vs : List Value, (lg_sl (vs.map (mm_cv ad))).length = (mm_a0 vs).length
  | [] => rfl
  | u :: vs => by
    have ih := mm_a0_len ad vs
    simp only [lg_sl] at ih ⊢
    by_cases hc : u.category = 2
    · simp [mm_cv_cat, hc, mm_a0]
      simpa using ih
    · simp [mm_cv_cat, hc, mm_a0]
      simpa using ih
def mm_Cx (cc : ByteArray) (nL : Nat) (own : String) (ret : Option FieldType) (p : Program) (s : State) (m : MethodId) (args : Array Value) (meth : Method) (c : Code) : Prop :=
  p.tables.exec = Jvm.exec ∧ c.code = cc ∧ c.maxLocals = nL ∧ s.vm.findClass own = some m.cls ∧ (∀ w ∈ mm_tb, w.before args s = true) ∧ meth.sig.returnType = ret ∧ meth.locks = false
theorem mm_Cx.fix {cc : ByteArray} {nL : Nat} {own : String} {ret : Option FieldType} {p : Program} {s : State} {m : MethodId} {args : Array Value} {meth : Method} {c : Code} (h : mm_Cx cc nL own ret p s m args meth c) : CallFix p m c cc nL s args mm_tb own := ⟨h.1, h.2.1, h.2.2.1, h.2.2.2.1, h.2.2.2.2.1⟩
theorem mm_Cx.ts {cc : ByteArray} {nL : Nat} {own : String} {ret : Option FieldType} {p : Program} {s : State} {m : MethodId} {args : Array Value} {meth : Method} {c : Code} (h : mm_Cx cc nL own ret p s m args meth c) {w : Cond} (hw : w ∈ mm_tb) : w.before args s = true := h.2.2.2.2.1 w hw
/-- from pc, with these locals, this stack, this memory, the method comes to its end with what o says (nothing is said where o is none) -/
def mm_C {α : Type} (Λ : mm_Ly) (cc : ByteArray) (nL : Nat) (own : String) (ret : Option FieldType) (d : Nat) (enc : α → Option Value × mm_M) (pc : Nat) (ls : List (Option Value)) (st : List Value) (M : mm_M) (o : Option α) : Prop :=
  ∀ (a : α), o = some a → ∀ (p : Program) (l : Launch) (e : Env) (s : State) (m : MethodId) (args : Array Value) (below : List Frame) (meth : Method) (c : Code) (D : va_G) (cA : Nat → ClassId) (ad : Nat → Nat) (H : Heap) (locs : List Loc) (sl : Array Slot),
    mm_Cx cc nL own ret p s m args meth c → mm_X Λ D cA ad s → va_P D vwCl (mm_w Λ ad cA M) H → va_S (mm_A Λ ad) s.heap H locs → mm_L ad sl nL ls →
    W p l e (mm_R d) s m args below meth c H locs 0 0 (MQ below (mm_Q Λ D cA ad (enc a)) args s 0 0 (mm_A Λ ad)) (F0 m pc sl (st.map (mm_cv ad)))
/-- a method's contract: called with these arguments over this memory it answers what o says -/
def mm_E {α : Type} (Λ : mm_Ly) (y : MethodName) (cc : ByteArray) (nL : Nat) (ret : Option FieldType) (d : Nat) (enc : α → Option Value × mm_M) (as : List Value) (M : mm_M) (o : Option α) : Prop :=
  ∀ (a : α), o = some a → ∀ (l : Launch) (D : va_G) (cA : Nat → ClassId) (ad : Nat → Nat), Met l y (.code y cc nL ret :: mm_tb) (mm_R d) (fun v U => v = (as.map (mm_cv ad)).toArray ∧ mm_X Λ D cA ad U ∧ va_P D vwCl (mm_w Λ ad cA M) U.heap) (mm_Q Λ D cA ad (enc a)) 0 0 (mm_A Λ ad)
theorem mm_E.of {α : Type} {Λ : mm_Ly} {y : MethodName} {cc : ByteArray} {nL : Nat} {ret : Option FieldType} {d : Nat} {enc : α → Option Value × mm_M} {as : List Value} {M : mm_M} {o : Option α} {own : String} {ls : List (Option Value)} (hy : plainName y.cls = true) (ho : y.cls = own)
    (hl : mm_a0 as ++ List.replicate (nL - (mm_a0 as).length) none = ls) (hn : (mm_a0 as).length ≤ nL) (k : mm_C Λ cc nL own ret d enc 0 ls [] M o) : mm_E Λ y cc nL ret d enc as M o := by
  subst ho
  subst hl
  intro a ha l D cA ad
  refine Met.ofW (cc := cc) (maxL := nL) (ret := ret) hy rfl ?_
  intro p e s m args below meth c s₁ B hml hv
  obtain ⟨rfl, hX, hP⟩ := hv
  have hts := atoms_spec (ws := .code y cc nL ret :: mm_tb) B.pre
  rw [lg_entry_eq]
  refine k a ha p l e s m _ below meth c D cA ad s.heap [] _ ⟨B.exec, B.bytes, hml, findClass_of_methodNamed B.named, fun w hw => hts w (List.mem_cons_of_mem _ hw), B.returns, B.notSynchronized⟩ hX hP va_S.rf ?_
  obtain ⟨e1, e2, e3⟩ := lv_entry (as.map (mm_cv ad)) (n := nL) (by rw [mm_a0_len]; exact hn)
  refine ⟨e1, e2, fun i v hv => ?_⟩
  have hi : (mm_a0 as)[i]? = some (some v) := by
    by_cases hlt : i < (mm_a0 as).length
    · rwa [List.getElem?_append_left hlt] at hv
    · rw [List.getElem?_append_right (by omega)] at hv
      have := List.mem_of_getElem? hv
      rw [List.mem_replicate] at this
      cases this.2
  have := mm_a0_at ad as 0 i v hi
  rw [Nat.zero_add] at this
  exact e3 _ this
abbrev mm_eI : Int32 × mm_M → Option Value × mm_M := fun r => (some (.int r.1), r.2)
abbrev mm_eL : Int64 × mm_M → Option Value × mm_M := fun r => (some (.long r.1), r.2)
abbrev mm_eV : mm_M → Option Value × mm_M := fun r => (none, r)
abbrev mm_pI (M : mm_M) : Int32 → Option Value × mm_M := fun r => (some (.int r), M)
abbrev mm_pL (M : mm_M) : Int64 → Option Value × mm_M := fun r => (some (.long r), M)
section MMR
variable {α : Type} {Λ : mm_Ly} {cc : ByteArray} {nL : Nat} {own : String} {ret : Option FieldType} {d : Nat} {enc : α → Option Value × mm_M} {pc q : Nat} {ls ls' : List (Option Value)} {st : List Value} {M : mm_M} {o : Option α}
theorem mm_none : mm_C Λ cc nL own ret d enc pc ls st M none := fun a h => by cases h
theorem mm_eq {o' : Option α} (e : o = o') (k : mm_C Λ cc nL own ret d enc pc ls st M o') : mm_C Λ cc nL own ret d enc pc ls st M o := e ▸ k
/-- locals may be forgotten -/
theorem mm_drop (h : ∀ (i : Nat) (v : Value), ls'[i]? = some (some v) → ls[i]? = some (some v)) (k : mm_C Λ cc nL own ret d enc pc ls' st M o) : mm_C Λ cc nL own ret d enc pc ls st M o :=
  fun a ha p l e s m args below meth c D cA ad H locs sl hC hX hP hS hL => k a ha p l e s m args below meth c D cA ad H locs sl hC hX hP hS ⟨hL.1, hL.2.1, fun i v hv => hL.2.2 i v (h i v hv)⟩
def mm_sub : List (Option Value) → List (Option Value) → Prop
  | [], _ => True
  | none :: l, [] => mm_sub l []
  | none :: l, _ :: r => mm_sub l r
  | some _ :: _, [] => False
  | some v :: l, q :: r => q = some v ∧ mm_sub l r
theorem mm_sub_at : ∀ (l r : List (Option Value)), mm_sub l r → ∀ (i : Nat) (v : Value), l[i]? = some (some v) → r[i]? = some (some v)
  | [], _, _, i, v, h => by simp at h
  | none :: l, [], hs, i, v, h => by
    cases i with
    | zero => simp at h
    | succ i => have := mm_sub_at l [] hs i v (by simpa using h); simp at this
  | none :: l, _ :: r, hs, i, v, h => by
    cases i with
    | zero => simp at h
    | succ i => have := mm_sub_at l r hs i v (by simpa using h); simpa using this
  | some _ :: _, [], hs, _, _, _ => hs.elim
  | some u :: l, q :: r, hs, i, v, h => by
    cases i with
    | zero => simp at h; simp [hs.1, h]
    | succ i => have := mm_sub_at l r hs.2 i v (by simpa using h); simpa using this

theorem mm_iconst {n : Int} {v : Int32}  (hd : decode cc pc = .ok (.iconst n, 1)) (hq : pc + 1 = q) (hv : Int32.ofInt n = v) (k : mm_C Λ cc nL own ret d enc q ls (.int v :: st) M o) : mm_C Λ cc nL own ret d enc pc ls st M o := by
  subst hq
  intro a ha p l e s m args below meth c D cA ad H locs sl hC hX hP hS hL
  exact lv_iconst hC.1 hC.2.1 hd hv (k a ha p l e s m args below meth c D cA ad H locs sl hC hX hP hS hL)
theorem mm_bipush {n : Int} {v : Int32}  (hd : decode cc pc = .ok (.bipush n, 2)) (hq : pc + 2 = q) (hv : (Int8.ofInt n).toInt32 = v) (k : mm_C Λ cc nL own ret d enc q ls (.int v :: st) M o) : mm_C Λ cc nL own ret d enc pc ls st M o := by
  subst hq
  intro a ha p l e s m args below meth c D cA ad H locs sl hC hX hP hS hL
  exact lv_bipush hC.1 hC.2.1 hd hv (k a ha p l e s m args below meth c D cA ad H locs sl hC hX hP hS hL)
theorem mm_sipush {n : Int} {v : Int32}  (hd : decode cc pc = .ok (.sipush n, 3)) (hq : pc + 3 = q) (hv : (Int16.ofInt n).toInt32 = v) (k : mm_C Λ cc nL own ret d enc q ls (.int v :: st) M o) : mm_C Λ cc nL own ret d enc pc ls st M o := by
  subst hq
  intro a ha p l e s m args below meth c D cA ad H locs sl hC hX hP hS hL
  exact lv_sipush hC.1 hC.2.1 hd hv (k a ha p l e s m args below meth c D cA ad H locs sl hC hX hP hS hL)
theorem mm_lconst {n : Fin 2} {v : Int64}  (hd : decode cc pc = .ok (.lconst n, 1)) (hq : pc + 1 = q) (hv : Int64.ofNat (n : Nat) = v) (k : mm_C Λ cc nL own ret d enc q ls (.long v :: st) M o) : mm_C Λ cc nL own ret d enc pc ls st M o := by
  subst hq
  intro a ha p l e s m args below meth c D cA ad H locs sl hC hX hP hS hL
  exact lv_lconst hC.1 hC.2.1 hd hv (k a ha p l e s m args below meth c D cA ad H locs sl hC hX hP hS hL)
theorem mm_ldc {ix : Nat} {v : Int32}  (hd : decode cc pc = .ok (.ldc ix, 2)) (hq : pc + 2 = q) (hw : Cond.constant own ix v ∈ mm_tb) (k : mm_C Λ cc nL own ret d enc q ls (.int v :: st) M o) : mm_C Λ cc nL own ret d enc pc ls st M o := by
  subst hq
  intro a ha p l e s m args below meth c D cA ad H locs sl hC hX hP hS hL
  exact lv_ldc hC.1 hC.2.1 hC.2.2.2.1 (hC.ts hw) hd (k a ha p l e s m args below meth c D cA ad H locs sl hC hX hP hS hL)
theorem mm_ldcw {ix : Nat} {v : Int32}  (hd : decode cc pc = .ok (.ldc_w ix, 3)) (hq : pc + 3 = q) (hw : Cond.constant own ix v ∈ mm_tb) (k : mm_C Λ cc nL own ret d enc q ls (.int v :: st) M o) : mm_C Λ cc nL own ret d enc pc ls st M o := by
  subst hq
  intro a ha p l e s m args below meth c D cA ad H locs sl hC hX hP hS hL
  exact lv_ldcw hC.1 hC.2.1 hC.2.2.2.1 (hC.ts hw) hd (k a ha p l e s m args below meth c D cA ad H locs sl hC hX hP hS hL)
theorem mm_ldc2 {ix : Nat} {v : Int64}  (hd : decode cc pc = .ok (.ldc2_w ix, 3)) (hq : pc + 3 = q) (hw : Cond.constantLong own ix v ∈ mm_tb) (k : mm_C Λ cc nL own ret d enc q ls (.long v :: st) M o) : mm_C Λ cc nL own ret d enc pc ls st M o := by
  subst hq
  intro a ha p l e s m args below meth c D cA ad H locs sl hC hX hP hS hL
  exact lv_ldc2 hC.1 hC.2.1 hC.2.2.2.1 (hC.ts hw) hd (k a ha p l e s m args below meth c D cA ad H locs sl hC hX hP hS hL)
theorem mm_iload_n {f : Fin 4} {i : Nat} {x : Int32}  (hd : decode cc pc = .ok (.iload_n f, 1)) (hq : pc + 1 = q) (hi : (f : Nat) = i) (hl : ls[i]? = some (some (.int x))) (k : mm_C Λ cc nL own ret d enc q ls (.int x :: st) M o) : mm_C Λ cc nL own ret d enc pc ls st M o := by
  subst hq
  intro a ha p l e s m args below meth c D cA ad H locs sl hC hX hP hS hL
  exact lv_iload_n hC.1 hC.2.1 hd hi (hL.2.2 i _ hl) (k a ha p l e s m args below meth c D cA ad H locs sl hC hX hP hS hL)
theorem mm_iload {i : Nat} {x : Int32}  (hd : decode cc pc = .ok (.iload i, 2)) (hq : pc + 2 = q) (hl : ls[i]? = some (some (.int x))) (k : mm_C Λ cc nL own ret d enc q ls (.int x :: st) M o) : mm_C Λ cc nL own ret d enc pc ls st M o := by
  subst hq
  intro a ha p l e s m args below meth c D cA ad H locs sl hC hX hP hS hL
  exact lv_iload hC.1 hC.2.1 hd (hL.2.2 i _ hl) (k a ha p l e s m args below meth c D cA ad H locs sl hC hX hP hS hL)
theorem mm_lload_n {f : Fin 4} {i : Nat} {x : Int64}  (hd : decode cc pc = .ok (.lload_n f, 1)) (hq : pc + 1 = q) (hi : (f : Nat) = i) (hl : ls[i]? = some (some (.long x))) (k : mm_C Λ cc nL own ret d enc q ls (.long x :: st) M o) : mm_C Λ cc nL own ret d enc pc ls st M o := by
  subst hq
  intro a ha p l e s m args below meth c D cA ad H locs sl hC hX hP hS hL
  exact lv_lload_n hC.1 hC.2.1 hd hi (hL.2.2 i _ hl) (k a ha p l e s m args below meth c D cA ad H locs sl hC hX hP hS hL)
theorem mm_lload {i : Nat} {x : Int64}  (hd : decode cc pc = .ok (.lload i, 2)) (hq : pc + 2 = q) (hl : ls[i]? = some (some (.long x))) (k : mm_C Λ cc nL own ret d enc q ls (.long x :: st) M o) : mm_C Λ cc nL own ret d enc pc ls st M o := by
  subst hq
  intro a ha p l e s m args below meth c D cA ad H locs sl hC hX hP hS hL
  exact lv_lload hC.1 hC.2.1 hd (hL.2.2 i _ hl) (k a ha p l e s m args below meth c D cA ad H locs sl hC hX hP hS hL)
theorem mm_aload_n {f : Fin 4} {i : Nat} {x : Nat}  (hd : decode cc pc = .ok (.aload_n f, 1)) (hq : pc + 1 = q) (hi : (f : Nat) = i) (hl : ls[i]? = some (some (.ref x))) (k : mm_C Λ cc nL own ret d enc q ls (.ref x :: st) M o) : mm_C Λ cc nL own ret d enc pc ls st M o := by
  subst hq
  intro a ha p l e s m args below meth c D cA ad H locs sl hC hX hP hS hL
  exact lv_aload_n hC.1 hC.2.1 hd hi (hL.2.2 i _ hl) (k a ha p l e s m args below meth c D cA ad H locs sl hC hX hP hS hL)
theorem mm_aload {i : Nat} {x : Nat}  (hd : decode cc pc = .ok (.aload i, 2)) (hq : pc + 2 = q) (hl : ls[i]? = some (some (.ref x))) (k : mm_C Λ cc nL own ret d enc q ls (.ref x :: st) M o) : mm_C Λ cc nL own ret d enc pc ls st M o := by
  subst hq
  intro a ha p l e s m args below meth c D cA ad H locs sl hC hX hP hS hL
  exact lv_aload hC.1 hC.2.1 hd (hL.2.2 i _ hl) (k a ha p l e s m args below meth c D cA ad H locs sl hC hX hP hS hL)
theorem mm_istore_n {f : Fin 4} {i : Nat} {x : Int32}  (hd : decode cc pc = .ok (.istore_n f, 1)) (hq : pc + 1 = q) (hi : (f : Nat) = i) (hk : mm_ok1 ls i = true) (hn : i < nL) (hs : ls.set i (some (.int x)) = ls') (k : mm_C Λ cc nL own ret d enc q ls' st M o) : mm_C Λ cc nL own ret d enc pc ls (.int x :: st) M o := by
  subst hq
  subst hs
  intro a ha p l e s m args below meth c D cA ad H locs sl hC hX hP hS hL
  exact lv_istore_n hC.1 hC.2.1 hd hi hL.pl hn rfl (fun sl' hl' => k a ha p l e s m args below meth c D cA ad H locs sl' hC hX hP hS (mm_L.st1 (v := .int x) hk hl'))
theorem mm_istore {i : Nat} {x : Int32} (hd : decode cc pc = .ok (.istore i, 2)) (hq : pc + 2 = q)  (hk : mm_ok1 ls i = true) (hn : i < nL) (hs : ls.set i (some (.int x)) = ls') (k : mm_C Λ cc nL own ret d enc q ls' st M o) : mm_C Λ cc nL own ret d enc pc ls (.int x :: st) M o := by
  subst hq
  subst hs
  intro a ha p l e s m args below meth c D cA ad H locs sl hC hX hP hS hL
  exact lv_istore hC.1 hC.2.1 hd hL.pl hn rfl (fun sl' hl' => k a ha p l e s m args below meth c D cA ad H locs sl' hC hX hP hS (mm_L.st1 (v := .int x) hk hl'))
theorem mm_lstore_n {f : Fin 4} {i : Nat} {x : Int64}  (hd : decode cc pc = .ok (.lstore_n f, 1)) (hq : pc + 1 = q) (hi : (f : Nat) = i) (hk : mm_ok1 ls i = true) (hn : i + 1 < nL) (hs : (ls.set i (some (.long x))).set (i + 1) none = ls') (k : mm_C Λ cc nL own ret d enc q ls' st M o) : mm_C Λ cc nL own ret d enc pc ls (.long x :: st) M o := by
  subst hq
  subst hs
  intro a ha p l e s m args below meth c D cA ad H locs sl hC hX hP hS hL
  exact lv_lstore_n hC.1 hC.2.1 hd hi hL.pl hn rfl (fun sl' hl' => k a ha p l e s m args below meth c D cA ad H locs sl' hC hX hP hS (mm_L.st2 (v := .long x) hk hl'))
theorem mm_lstore {i : Nat} {x : Int64} (hd : decode cc pc = .ok (.lstore i, 2)) (hq : pc + 2 = q)  (hk : mm_ok1 ls i = true) (hn : i + 1 < nL) (hs : (ls.set i (some (.long x))).set (i + 1) none = ls') (k : mm_C Λ cc nL own ret d enc q ls' st M o) : mm_C Λ cc nL own ret d enc pc ls (.long x :: st) M o := by
  subst hq
  subst hs
  intro a ha p l e s m args below meth c D cA ad H locs sl hC hX hP hS hL
  exact lv_lstore hC.1 hC.2.1 hd hL.pl hn rfl (fun sl' hl' => k a ha p l e s m args below meth c D cA ad H locs sl' hC hX hP hS (mm_L.st2 (v := .long x) hk hl'))
theorem mm_astore_n {f : Fin 4} {i : Nat} {x : Nat}  (hd : decode cc pc = .ok (.astore_n f, 1)) (hq : pc + 1 = q) (hi : (f : Nat) = i) (hk : mm_ok1 ls i = true) (hn : i < nL) (hs : ls.set i (some (.ref x)) = ls') (k : mm_C Λ cc nL own ret d enc q ls' st M o) : mm_C Λ cc nL own ret d enc pc ls (.ref x :: st) M o := by
  subst hq
  subst hs
  intro a ha p l e s m args below meth c D cA ad H locs sl hC hX hP hS hL
  exact lv_astore_n hC.1 hC.2.1 hd hi hL.pl hn rfl (fun sl' hl' => k a ha p l e s m args below meth c D cA ad H locs sl' hC hX hP hS (mm_L.st1 (v := .ref x) hk hl'))
theorem mm_astore {i : Nat} {x : Nat} (hd : decode cc pc = .ok (.astore i, 2)) (hq : pc + 2 = q)  (hk : mm_ok1 ls i = true) (hn : i < nL) (hs : ls.set i (some (.ref x)) = ls') (k : mm_C Λ cc nL own ret d enc q ls' st M o) : mm_C Λ cc nL own ret d enc pc ls (.ref x :: st) M o := by
  subst hq
  subst hs
  intro a ha p l e s m args below meth c D cA ad H locs sl hC hX hP hS hL
  exact lv_astore hC.1 hC.2.1 hd hL.pl hn rfl (fun sl' hl' => k a ha p l e s m args below meth c D cA ad H locs sl' hC hX hP hS (mm_L.st1 (v := .ref x) hk hl'))
theorem mm_iinc {i : Nat} {n : Int} {x v : Int32} (hd : decode cc pc = .ok (.iinc i n, 3)) (hq : pc + 3 = q) (hl : ls[i]? = some (some (.int x))) (hv : x + Int32.ofInt n = v) (hk : mm_ok1 ls i = true) (hn : i < nL) (hs : ls.set i (some (.int v)) = ls') (k : mm_C Λ cc nL own ret d enc q ls' st M o) : mm_C Λ cc nL own ret d enc pc ls st M o := by
  subst hq
  subst hs
  intro a ha p l e s m args below meth c D cA ad H locs sl hC hX hP hS hL
  have hm : (i, Value.int x) ∈ mm_pl ad ls := mm_pl_mem.mpr ⟨.int x, hl, rfl⟩
  obtain ⟨z, hz⟩ := List.getElem?_of_mem hm
  exact lv_iinc (v := v) hC.1 hC.2.1 hd hL.pl hz hv hn rfl (fun sl' hl' => k a ha p l e s m args below meth c D cA ad H locs sl' hC hX hP hS (mm_L.st1 (v := .int v) hk hl'))
theorem mm_iadd {x y : Int32} (hd : decode cc pc = .ok (.iadd, 1)) (hq : pc + 1 = q)  (k : mm_C Λ cc nL own ret d enc q ls (.int (x + y) :: st) M o) : mm_C Λ cc nL own ret d enc pc ls (.int y :: .int x :: st) M o := by
  subst hq
  intro a ha p l e s m args below meth c D cA ad H locs sl hC hX hP hS hL
  exact lv_iadd hC.1 hC.2.1 hd (k a ha p l e s m args below meth c D cA ad H locs sl hC hX hP hS hL)
theorem mm_isub {x y : Int32} (hd : decode cc pc = .ok (.isub, 1)) (hq : pc + 1 = q)  (k : mm_C Λ cc nL own ret d enc q ls (.int (x - y) :: st) M o) : mm_C Λ cc nL own ret d enc pc ls (.int y :: .int x :: st) M o := by
  subst hq
  intro a ha p l e s m args below meth c D cA ad H locs sl hC hX hP hS hL
  exact lv_isub hC.1 hC.2.1 hd (k a ha p l e s m args below meth c D cA ad H locs sl hC hX hP hS hL)
theorem mm_imul {x y : Int32} (hd : decode cc pc = .ok (.imul, 1)) (hq : pc + 1 = q)  (k : mm_C Λ cc nL own ret d enc q ls (.int (x * y) :: st) M o) : mm_C Λ cc nL own ret d enc pc ls (.int y :: .int x :: st) M o := by
  subst hq
  intro a ha p l e s m args below meth c D cA ad H locs sl hC hX hP hS hL
  exact lv_imul hC.1 hC.2.1 hd (k a ha p l e s m args below meth c D cA ad H locs sl hC hX hP hS hL)
theorem mm_iand {x y : Int32} (hd : decode cc pc = .ok (.iand, 1)) (hq : pc + 1 = q)  (k : mm_C Λ cc nL own ret d enc q ls (.int (x &&& y) :: st) M o) : mm_C Λ cc nL own ret d enc pc ls (.int y :: .int x :: st) M o := by
  subst hq
  intro a ha p l e s m args below meth c D cA ad H locs sl hC hX hP hS hL
  exact lv_iand hC.1 hC.2.1 hd (k a ha p l e s m args below meth c D cA ad H locs sl hC hX hP hS hL)
theorem mm_ior {x y : Int32} (hd : decode cc pc = .ok (.ior, 1)) (hq : pc + 1 = q)  (k : mm_C Λ cc nL own ret d enc q ls (.int (x ||| y) :: st) M o) : mm_C Λ cc nL own ret d enc pc ls (.int y :: .int x :: st) M o := by
  subst hq
  intro a ha p l e s m args below meth c D cA ad H locs sl hC hX hP hS hL
  exact lv_ior hC.1 hC.2.1 hd (k a ha p l e s m args below meth c D cA ad H locs sl hC hX hP hS hL)
theorem mm_ixor {x y : Int32} (hd : decode cc pc = .ok (.ixor, 1)) (hq : pc + 1 = q)  (k : mm_C Λ cc nL own ret d enc q ls (.int (x ^^^ y) :: st) M o) : mm_C Λ cc nL own ret d enc pc ls (.int y :: .int x :: st) M o := by
  subst hq
  intro a ha p l e s m args below meth c D cA ad H locs sl hC hX hP hS hL
  exact lv_ixor hC.1 hC.2.1 hd (k a ha p l e s m args below meth c D cA ad H locs sl hC hX hP hS hL)
theorem mm_ishl {x y : Int32} (hd : decode cc pc = .ok (.ishl, 1)) (hq : pc + 1 = q)  (k : mm_C Λ cc nL own ret d enc q ls (.int (x <<< (y &&& 31)) :: st) M o) : mm_C Λ cc nL own ret d enc pc ls (.int y :: .int x :: st) M o := by
  subst hq
  intro a ha p l e s m args below meth c D cA ad H locs sl hC hX hP hS hL
  exact lv_ishl hC.1 hC.2.1 hd (k a ha p l e s m args below meth c D cA ad H locs sl hC hX hP hS hL)
theorem mm_ishr {x y : Int32} (hd : decode cc pc = .ok (.ishr, 1)) (hq : pc + 1 = q)  (k : mm_C Λ cc nL own ret d enc q ls (.int (x >>> (y &&& 31)) :: st) M o) : mm_C Λ cc nL own ret d enc pc ls (.int y :: .int x :: st) M o := by
  subst hq
  intro a ha p l e s m args below meth c D cA ad H locs sl hC hX hP hS hL
  exact lv_ishr hC.1 hC.2.1 hd (k a ha p l e s m args below meth c D cA ad H locs sl hC hX hP hS hL)
theorem mm_ladd {x y : Int64} (hd : decode cc pc = .ok (.ladd, 1)) (hq : pc + 1 = q)  (k : mm_C Λ cc nL own ret d enc q ls (.long (x + y) :: st) M o) : mm_C Λ cc nL own ret d enc pc ls (.long y :: .long x :: st) M o := by
  subst hq
  intro a ha p l e s m args below meth c D cA ad H locs sl hC hX hP hS hL
  exact lv_ladd hC.1 hC.2.1 hd (k a ha p l e s m args below meth c D cA ad H locs sl hC hX hP hS hL)
theorem mm_lsub {x y : Int64} (hd : decode cc pc = .ok (.lsub, 1)) (hq : pc + 1 = q)  (k : mm_C Λ cc nL own ret d enc q ls (.long (x - y) :: st) M o) : mm_C Λ cc nL own ret d enc pc ls (.long y :: .long x :: st) M o := by
  subst hq
  intro a ha p l e s m args below meth c D cA ad H locs sl hC hX hP hS hL
  exact lv_lsub hC.1 hC.2.1 hd (k a ha p l e s m args below meth c D cA ad H locs sl hC hX hP hS hL)
theorem mm_lmul {x y : Int64} (hd : decode cc pc = .ok (.lmul, 1)) (hq : pc + 1 = q)  (k : mm_C Λ cc nL own ret d enc q ls (.long (x * y) :: st) M o) : mm_C Λ cc nL own ret d enc pc ls (.long y :: .long x :: st) M o := by
  subst hq
  intro a ha p l e s m args below meth c D cA ad H locs sl hC hX hP hS hL
  exact lv_lmul hC.1 hC.2.1 hd (k a ha p l e s m args below meth c D cA ad H locs sl hC hX hP hS hL)
theorem mm_land {x y : Int64} (hd : decode cc pc = .ok (.land, 1)) (hq : pc + 1 = q)  (k : mm_C Λ cc nL own ret d enc q ls (.long (x &&& y) :: st) M o) : mm_C Λ cc nL own ret d enc pc ls (.long y :: .long x :: st) M o := by
  subst hq
  intro a ha p l e s m args below meth c D cA ad H locs sl hC hX hP hS hL
  exact lv_land hC.1 hC.2.1 hd (k a ha p l e s m args below meth c D cA ad H locs sl hC hX hP hS hL)
def mm_ushr (x y : Int32) : Int32 := (x.toUInt32 >>> (y.toUInt32 &&& Int32.toUInt32 31)).toInt32
theorem mm_iushr {x y : Int32} (hd : decode cc pc = .ok (.iushr, 1)) (hq : pc + 1 = q)  (k : mm_C Λ cc nL own ret d enc q ls (.int (mm_ushr x y) :: st) M o) : mm_C Λ cc nL own ret d enc pc ls (.int y :: .int x :: st) M o := by
  subst hq
  intro a ha p l e s m args below meth c D cA ad H locs sl hC hX hP hS hL
  exact lv_iushr hC.1 hC.2.1 hd rfl (k a ha p l e s m args below meth c D cA ad H locs sl hC hX hP hS hL)
theorem mm_lshl {x : Int64} {y : Int32} (hd : decode cc pc = .ok (.lshl, 1)) (hq : pc + 1 = q)  (k : mm_C Λ cc nL own ret d enc q ls (.long (x <<< (y.toInt64 &&& 63)) :: st) M o) : mm_C Λ cc nL own ret d enc pc ls (.int y :: .long x :: st) M o := by
  subst hq
  intro a ha p l e s m args below meth c D cA ad H locs sl hC hX hP hS hL
  exact lv_lshl hC.1 hC.2.1 hd rfl (k a ha p l e s m args below meth c D cA ad H locs sl hC hX hP hS hL)
theorem mm_lshr {x : Int64} {y : Int32} (hd : decode cc pc = .ok (.lshr, 1)) (hq : pc + 1 = q)  (k : mm_C Λ cc nL own ret d enc q ls (.long (x >>> (y.toInt64 &&& 63)) :: st) M o) : mm_C Λ cc nL own ret d enc pc ls (.int y :: .long x :: st) M o := by
  subst hq
  intro a ha p l e s m args below meth c D cA ad H locs sl hC hX hP hS hL
  exact lv_lshr hC.1 hC.2.1 hd rfl (k a ha p l e s m args below meth c D cA ad H locs sl hC hX hP hS hL)
theorem mm_lcmp {x y : Int64} (hd : decode cc pc = .ok (.lcmp, 1)) (hq : pc + 1 = q)  (k : mm_C Λ cc nL own ret d enc q ls (.int (lg_cmp x y) :: st) M o) : mm_C Λ cc nL own ret d enc pc ls (.long y :: .long x :: st) M o := by
  subst hq
  intro a ha p l e s m args below meth c D cA ad H locs sl hC hX hP hS hL
  exact W.lcmp hC.1 hC.2.1 hd (k a ha p l e s m args below meth c D cA ad H locs sl hC hX hP hS hL)
theorem mm_i2l {x : Int32} (hd : decode cc pc = .ok (.i2l, 1)) (hq : pc + 1 = q)  (k : mm_C Λ cc nL own ret d enc q ls (.long x.toInt64 :: st) M o) : mm_C Λ cc nL own ret d enc pc ls (.int x :: st) M o := by
  subst hq
  intro a ha p l e s m args below meth c D cA ad H locs sl hC hX hP hS hL
  exact lv_i2l hC.1 hC.2.1 hd rfl (k a ha p l e s m args below meth c D cA ad H locs sl hC hX hP hS hL)
theorem mm_i2b {x : Int32} (hd : decode cc pc = .ok (.i2b, 1)) (hq : pc + 1 = q)  (k : mm_C Λ cc nL own ret d enc q ls (.int x.toInt8.toInt32 :: st) M o) : mm_C Λ cc nL own ret d enc pc ls (.int x :: st) M o := by
  subst hq
  intro a ha p l e s m args below meth c D cA ad H locs sl hC hX hP hS hL
  exact lv_i2b hC.1 hC.2.1 hd rfl (k a ha p l e s m args below meth c D cA ad H locs sl hC hX hP hS hL)
theorem mm_i2s {x : Int32} (hd : decode cc pc = .ok (.i2s, 1)) (hq : pc + 1 = q)  (k : mm_C Λ cc nL own ret d enc q ls (.int x.toInt16.toInt32 :: st) M o) : mm_C Λ cc nL own ret d enc pc ls (.int x :: st) M o := by
  subst hq
  intro a ha p l e s m args below meth c D cA ad H locs sl hC hX hP hS hL
  exact lv_i2s hC.1 hC.2.1 hd rfl (k a ha p l e s m args below meth c D cA ad H locs sl hC hX hP hS hL)
theorem mm_dup {v : Value}  (hd : decode cc pc = .ok (.dup, 1)) (hq : pc + 1 = q) (hv : v.category = 1) (k : mm_C Λ cc nL own ret d enc q ls (v :: v :: st) M o) : mm_C Λ cc nL own ret d enc pc ls (v :: st) M o := by
  subst hq
  intro a ha p l e s m args below meth c D cA ad H locs sl hC hX hP hS hL
  exact lv_dup hC.1 hC.2.1 hd (by rw [mm_cv_cat]; exact hv) (k a ha p l e s m args below meth c D cA ad H locs sl hC hX hP hS hL)
theorem mm_pop {v : Value}  (hd : decode cc pc = .ok (.pop, 1)) (hq : pc + 1 = q) (hv : v.category = 1) (k : mm_C Λ cc nL own ret d enc q ls st M o) : mm_C Λ cc nL own ret d enc pc ls (v :: st) M o := by
  subst hq
  intro a ha p l e s m args below meth c D cA ad H locs sl hC hX hP hS hL
  exact lv_pop hC.1 hC.2.1 hd (by rw [mm_cv_cat]; exact hv) (k a ha p l e s m args below meth c D cA ad H locs sl hC hX hP hS hL)
theorem mm_dup2 {v u : Value}  (hd : decode cc pc = .ok (.dup2, 1)) (hq : pc + 1 = q) (hv : v.category = 1) (hu : u.category = 1) (k : mm_C Λ cc nL own ret d enc q ls (v :: u :: v :: u :: st) M o) : mm_C Λ cc nL own ret d enc pc ls (v :: u :: st) M o := by
  subst hq
  intro a ha p l e s m args below meth c D cA ad H locs sl hC hX hP hS hL
  exact lv_dup2_11 hC.1 hC.2.1 hd (by rw [mm_cv_cat]; exact hv) (by rw [mm_cv_cat]; exact hu) (k a ha p l e s m args below meth c D cA ad H locs sl hC hX hP hS hL)
theorem mm_idivC {x y : Int32}  (hd : decode cc pc = .ok (.idiv, 1)) (hq : pc + 1 = q) (hy : ¬ y = 0) (k : mm_C Λ cc nL own ret d enc q ls (.int (x / y) :: st) M o) : mm_C Λ cc nL own ret d enc pc ls (.int y :: .int x :: st) M o := by
  subst hq
  intro a ha p l e s m args below meth c D cA ad H locs sl hC hX hP hS hL
  exact lv_idiv hC.1 hC.2.1 hd hy (k a ha p l e s m args below meth c D cA ad H locs sl hC hX hP hS hL)
theorem mm_iremC {x y : Int32}  (hd : decode cc pc = .ok (.irem, 1)) (hq : pc + 1 = q) (hy : ¬ y = 0) (k : mm_C Λ cc nL own ret d enc q ls (.int (x - x / y * y) :: st) M o) : mm_C Λ cc nL own ret d enc pc ls (.int y :: .int x :: st) M o := by
  subst hq
  intro a ha p l e s m args below meth c D cA ad H locs sl hC hX hP hS hL
  exact lv_irem hC.1 hC.2.1 hd hy (k a ha p l e s m args below meth c D cA ad H locs sl hC hX hP hS hL)
theorem mm_idiv {x y : Int32} {g : Int32 → Option α} (hd : decode cc pc = .ok (.idiv, 1)) (hq : pc + 1 = q) (k : ∀ z, mm_dv x y = some z → mm_C Λ cc nL own ret d enc q ls (.int z :: st) M (g z)) : mm_C Λ cc nL own ret d enc pc ls (.int y :: .int x :: st) M ((mm_dv x y).bind g) := by
  by_cases hy : y = 0
  · rw [show mm_dv x y = none by simp [mm_dv, hy]]
    exact mm_none
  · have hz : mm_dv x y = some (x / y) := by simp [mm_dv, hy]
    have := k _ hz
    rw [hz]
    exact mm_idivC hd hq hy this
theorem mm_irem {x y : Int32} {g : Int32 → Option α} (hd : decode cc pc = .ok (.irem, 1)) (hq : pc + 1 = q) (k : ∀ z, mm_rm x y = some z → mm_C Λ cc nL own ret d enc q ls (.int z :: st) M (g z)) : mm_C Λ cc nL own ret d enc pc ls (.int y :: .int x :: st) M ((mm_rm x y).bind g) := by
  by_cases hy : y = 0
  · rw [show mm_rm x y = none by simp [mm_rm, hy]]
    exact mm_none
  · have hz : mm_rm x y = some (x - x / y * y) := by simp [mm_rm, hy]
    have := k _ hz
    rw [hz]
    exact mm_iremC hd hq hy this
theorem mm_ldivC {x y : Int64}  (hd : decode cc pc = .ok (.ldiv, 1)) (hq : pc + 1 = q) (hy : ¬ y = 0) (k : mm_C Λ cc nL own ret d enc q ls (.long (x / y) :: st) M o) : mm_C Λ cc nL own ret d enc pc ls (.long y :: .long x :: st) M o := by
  subst hq
  intro a ha p l e s m args below meth c D cA ad H locs sl hC hX hP hS hL
  exact lv_ldiv hC.1 hC.2.1 hd hy (k a ha p l e s m args below meth c D cA ad H locs sl hC hX hP hS hL)
theorem mm_lremC {x y : Int64}  (hd : decode cc pc = .ok (.lrem, 1)) (hq : pc + 1 = q) (hy : ¬ y = 0) (k : mm_C Λ cc nL own ret d enc q ls (.long (x - x / y * y) :: st) M o) : mm_C Λ cc nL own ret d enc pc ls (.long y :: .long x :: st) M o := by
  subst hq
  intro a ha p l e s m args below meth c D cA ad H locs sl hC hX hP hS hL
  exact lv_lrem hC.1 hC.2.1 hd hy (k a ha p l e s m args below meth c D cA ad H locs sl hC hX hP hS hL)
theorem mm_ldiv {x y : Int64} {g : Int64 → Option α} (hd : decode cc pc = .ok (.ldiv, 1)) (hq : pc + 1 = q) (k : ∀ z, mm_ldv x y = some z → mm_C Λ cc nL own ret d enc q ls (.long z :: st) M (g z)) : mm_C Λ cc nL own ret d enc pc ls (.long y :: .long x :: st) M ((mm_ldv x y).bind g) := by
  by_cases hy : y = 0
  · rw [show mm_ldv x y = none by simp [mm_ldv, hy]]
    exact mm_none
  · have hz : mm_ldv x y = some (x / y) := by simp [mm_ldv, hy]
    have := k _ hz
    rw [hz]
    exact mm_ldivC hd hq hy this
theorem mm_lrem {x y : Int64} {g : Int64 → Option α} (hd : decode cc pc = .ok (.lrem, 1)) (hq : pc + 1 = q) (k : ∀ z, mm_lrm x y = some z → mm_C Λ cc nL own ret d enc q ls (.long z :: st) M (g z)) : mm_C Λ cc nL own ret d enc pc ls (.long y :: .long x :: st) M ((mm_lrm x y).bind g) := by
  by_cases hy : y = 0
  · rw [show mm_lrm x y = none by simp [mm_lrm, hy]]
    exact mm_none
  · have hz : mm_lrm x y = some (x - x / y * y) := by simp [mm_lrm, hy]
    have := k _ hz
    rw [hz]
    exact mm_lremC hd hq hy this
theorem mm_goto {off : Int} {tgt : Nat} (hd : decode cc pc = .ok (.goto off, 3)) (ht : (pc : Int) + off = (tgt : Int)) (k : mm_C Λ cc nL own ret d enc tgt ls st M o) : mm_C Λ cc nL own ret d enc pc ls st M o := by
  intro a ha p l e s m args below meth c D cA ad H locs sl hC hX hP hS hL
  exact lv_goto hC.1 hC.2.1 hd ht (k a ha p l e s m args below meth c D cA ad H locs sl hC hX hP hS hL)
theorem mm_if_eq {x : Int32} {off : Int} {tgt : Nat} {A B : Option α} (hd : decode cc pc = .ok (.ifCond .eq off, 3)) (hq : pc + 3 = q) (ht : (pc : Int) + off = (tgt : Int)) (kt : x = 0 → mm_C Λ cc nL own ret d enc tgt ls st M A) (kf : ¬ x = 0 → mm_C Λ cc nL own ret d enc q ls st M B) : mm_C Λ cc nL own ret d enc pc ls (.int x :: st) M (if x = 0 then A else B) := by
  subst hq
  intro a ha p l e s m args below meth c D cA ad H locs sl hC hX hP hS hL
  exact lv_if_eq hC.1 hC.2.1 hd ht (fun h => by rw [if_pos h] at ha; exact kt h a ha p l e s m args below meth c D cA ad H locs sl hC hX hP hS hL) (fun h => by rw [if_neg h] at ha; exact kf h a ha p l e s m args below meth c D cA ad H locs sl hC hX hP hS hL)
theorem mm_if_eq_t {x : Int32} {off : Int} {tgt : Nat} (h0 : x = 0) (hd : decode cc pc = .ok (.ifCond .eq off, 3)) (ht : (pc : Int) + off = (tgt : Int)) (k : mm_C Λ cc nL own ret d enc tgt ls st M o) : mm_C Λ cc nL own ret d enc pc ls (.int x :: st) M o := by
  intro a ha p l e s m args below meth c D cA ad H locs sl hC hX hP hS hL
  exact lv_if_eq hC.1 hC.2.1 hd ht (fun _ => (k a ha p l e s m args below meth c D cA ad H locs sl hC hX hP hS hL)) (fun h => absurd h0 h)
theorem mm_if_eq_f {x : Int32} {off : Int} {tgt : Nat} (h0 : ¬ x = 0) (hd : decode cc pc = .ok (.ifCond .eq off, 3)) (hq : pc + 3 = q) (ht : (pc : Int) + off = (tgt : Int)) (k : mm_C Λ cc nL own ret d enc q ls st M o) : mm_C Λ cc nL own ret d enc pc ls (.int x :: st) M o := by
  subst hq
  intro a ha p l e s m args below meth c D cA ad H locs sl hC hX hP hS hL
  exact lv_if_eq hC.1 hC.2.1 hd ht (fun h => absurd h h0) (fun _ => (k a ha p l e s m args below meth c D cA ad H locs sl hC hX hP hS hL))
theorem mm_icmp_eq {x y : Int32} {off : Int} {tgt : Nat} {A B : Option α} (hd : decode cc pc = .ok (.if_icmp .eq off, 3)) (hq : pc + 3 = q) (ht : (pc : Int) + off = (tgt : Int)) (kt : x = y → mm_C Λ cc nL own ret d enc tgt ls st M A) (kf : ¬ x = y → mm_C Λ cc nL own ret d enc q ls st M B) : mm_C Λ cc nL own ret d enc pc ls (.int y :: .int x :: st) M (if x = y then A else B) := by
  subst hq
  intro a ha p l e s m args below meth c D cA ad H locs sl hC hX hP hS hL
  exact lv_icmp_eq hC.1 hC.2.1 hd ht (fun h => by rw [if_pos h] at ha; exact kt h a ha p l e s m args below meth c D cA ad H locs sl hC hX hP hS hL) (fun h => by rw [if_neg h] at ha; exact kf h a ha p l e s m args below meth c D cA ad H locs sl hC hX hP hS hL)
theorem mm_icmp_eq_t {x y : Int32} {off : Int} {tgt : Nat} (h0 : x = y) (hd : decode cc pc = .ok (.if_icmp .eq off, 3)) (ht : (pc : Int) + off = (tgt : Int)) (k : mm_C Λ cc nL own ret d enc tgt ls st M o) : mm_C Λ cc nL own ret d enc pc ls (.int y :: .int x :: st) M o := by
  intro a ha p l e s m args below meth c D cA ad H locs sl hC hX hP hS hL
  exact lv_icmp_eq hC.1 hC.2.1 hd ht (fun _ => (k a ha p l e s m args below meth c D cA ad H locs sl hC hX hP hS hL)) (fun h => absurd h0 h)
theorem mm_icmp_eq_f {x y : Int32} {off : Int} {tgt : Nat} (h0 : ¬ x = y) (hd : decode cc pc = .ok (.if_icmp .eq off, 3)) (hq : pc + 3 = q) (ht : (pc : Int) + off = (tgt : Int)) (k : mm_C Λ cc nL own ret d enc q ls st M o) : mm_C Λ cc nL own ret d enc pc ls (.int y :: .int x :: st) M o := by
  subst hq
  intro a ha p l e s m args below meth c D cA ad H locs sl hC hX hP hS hL
  exact lv_icmp_eq hC.1 hC.2.1 hd ht (fun h => absurd h h0) (fun _ => (k a ha p l e s m args below meth c D cA ad H locs sl hC hX hP hS hL))
theorem mm_if_ne {x : Int32} {off : Int} {tgt : Nat} {A B : Option α} (hd : decode cc pc = .ok (.ifCond .ne off, 3)) (hq : pc + 3 = q) (ht : (pc : Int) + off = (tgt : Int)) (kt : x = 0 → mm_C Λ cc nL own ret d enc q ls st M A) (kf : ¬ x = 0 → mm_C Λ cc nL own ret d enc tgt ls st M B) : mm_C Λ cc nL own ret d enc pc ls (.int x :: st) M (if x = 0 then A else B) := by
  subst hq
  intro a ha p l e s m args below meth c D cA ad H locs sl hC hX hP hS hL
  exact lv_if_ne hC.1 hC.2.1 hd ht (fun h => by rw [if_neg h] at ha; exact kf h a ha p l e s m args below meth c D cA ad H locs sl hC hX hP hS hL) (fun h => by rw [if_pos h] at ha; exact kt h a ha p l e s m args below meth c D cA ad H locs sl hC hX hP hS hL)
theorem mm_if_ne_t {x : Int32} {off : Int} {tgt : Nat} (h0 : x = 0) (hd : decode cc pc = .ok (.ifCond .ne off, 3)) (hq : pc + 3 = q) (ht : (pc : Int) + off = (tgt : Int)) (k : mm_C Λ cc nL own ret d enc q ls st M o) : mm_C Λ cc nL own ret d enc pc ls (.int x :: st) M o := by
  subst hq
  intro a ha p l e s m args below meth c D cA ad H locs sl hC hX hP hS hL
  exact lv_if_ne hC.1 hC.2.1 hd ht (fun h => absurd h0 h) (fun _ => (k a ha p l e s m args below meth c D cA ad H locs sl hC hX hP hS hL))
theorem mm_if_ne_f {x : Int32} {off : Int} {tgt : Nat} (h0 : ¬ x = 0) (hd : decode cc pc = .ok (.ifCond .ne off, 3)) (ht : (pc : Int) + off = (tgt : Int)) (k : mm_C Λ cc nL own ret d enc tgt ls st M o) : mm_C Λ cc nL own ret d enc pc ls (.int x :: st) M o := by
  intro a ha p l e s m args below meth c D cA ad H locs sl hC hX hP hS hL
  exact lv_if_ne hC.1 hC.2.1 hd ht (fun _ => (k a ha p l e s m args below meth c D cA ad H locs sl hC hX hP hS hL)) (fun h => absurd h h0)
theorem mm_icmp_ne {x y : Int32} {off : Int} {tgt : Nat} {A B : Option α} (hd : decode cc pc = .ok (.if_icmp .ne off, 3)) (hq : pc + 3 = q) (ht : (pc : Int) + off = (tgt : Int)) (kt : x = y → mm_C Λ cc nL own ret d enc q ls st M A) (kf : ¬ x = y → mm_C Λ cc nL own ret d enc tgt ls st M B) : mm_C Λ cc nL own ret d enc pc ls (.int y :: .int x :: st) M (if x = y then A else B) := by
  subst hq
  intro a ha p l e s m args below meth c D cA ad H locs sl hC hX hP hS hL
  exact lv_icmp_ne hC.1 hC.2.1 hd ht (fun h => by rw [if_neg h] at ha; exact kf h a ha p l e s m args below meth c D cA ad H locs sl hC hX hP hS hL) (fun h => by rw [if_pos h] at ha; exact kt h a ha p l e s m args below meth c D cA ad H locs sl hC hX hP hS hL)
theorem mm_icmp_ne_t {x y : Int32} {off : Int} {tgt : Nat} (h0 : x = y) (hd : decode cc pc = .ok (.if_icmp .ne off, 3)) (hq : pc + 3 = q) (ht : (pc : Int) + off = (tgt : Int)) (k : mm_C Λ cc nL own ret d enc q ls st M o) : mm_C Λ cc nL own ret d enc pc ls (.int y :: .int x :: st) M o := by
  subst hq
  intro a ha p l e s m args below meth c D cA ad H locs sl hC hX hP hS hL
  exact lv_icmp_ne hC.1 hC.2.1 hd ht (fun h => absurd h0 h) (fun _ => (k a ha p l e s m args below meth c D cA ad H locs sl hC hX hP hS hL))
theorem mm_icmp_ne_f {x y : Int32} {off : Int} {tgt : Nat} (h0 : ¬ x = y) (hd : decode cc pc = .ok (.if_icmp .ne off, 3)) (ht : (pc : Int) + off = (tgt : Int)) (k : mm_C Λ cc nL own ret d enc tgt ls st M o) : mm_C Λ cc nL own ret d enc pc ls (.int y :: .int x :: st) M o := by
  intro a ha p l e s m args below meth c D cA ad H locs sl hC hX hP hS hL
  exact lv_icmp_ne hC.1 hC.2.1 hd ht (fun _ => (k a ha p l e s m args below meth c D cA ad H locs sl hC hX hP hS hL)) (fun h => absurd h h0)
theorem mm_if_lt {x : Int32} {off : Int} {tgt : Nat} {A B : Option α} (hd : decode cc pc = .ok (.ifCond .lt off, 3)) (hq : pc + 3 = q) (ht : (pc : Int) + off = (tgt : Int)) (kt : x < 0 → mm_C Λ cc nL own ret d enc tgt ls st M A) (kf : ¬ x < 0 → mm_C Λ cc nL own ret d enc q ls st M B) : mm_C Λ cc nL own ret d enc pc ls (.int x :: st) M (if x < 0 then A else B) := by
  subst hq
  intro a ha p l e s m args below meth c D cA ad H locs sl hC hX hP hS hL
  exact lv_if_lt hC.1 hC.2.1 hd ht (fun h => by rw [if_pos h] at ha; exact kt h a ha p l e s m args below meth c D cA ad H locs sl hC hX hP hS hL) (fun h => by rw [if_neg h] at ha; exact kf h a ha p l e s m args below meth c D cA ad H locs sl hC hX hP hS hL)
theorem mm_if_lt_t {x : Int32} {off : Int} {tgt : Nat} (h0 : x < 0) (hd : decode cc pc = .ok (.ifCond .lt off, 3)) (ht : (pc : Int) + off = (tgt : Int)) (k : mm_C Λ cc nL own ret d enc tgt ls st M o) : mm_C Λ cc nL own ret d enc pc ls (.int x :: st) M o := by
  intro a ha p l e s m args below meth c D cA ad H locs sl hC hX hP hS hL
  exact lv_if_lt hC.1 hC.2.1 hd ht (fun _ => (k a ha p l e s m args below meth c D cA ad H locs sl hC hX hP hS hL)) (fun h => absurd h0 h)
theorem mm_if_lt_f {x : Int32} {off : Int} {tgt : Nat} (h0 : ¬ x < 0) (hd : decode cc pc = .ok (.ifCond .lt off, 3)) (hq : pc + 3 = q) (ht : (pc : Int) + off = (tgt : Int)) (k : mm_C Λ cc nL own ret d enc q ls st M o) : mm_C Λ cc nL own ret d enc pc ls (.int x :: st) M o := by
  subst hq
  intro a ha p l e s m args below meth c D cA ad H locs sl hC hX hP hS hL
  exact lv_if_lt hC.1 hC.2.1 hd ht (fun h => absurd h h0) (fun _ => (k a ha p l e s m args below meth c D cA ad H locs sl hC hX hP hS hL))
theorem mm_icmp_lt {x y : Int32} {off : Int} {tgt : Nat} {A B : Option α} (hd : decode cc pc = .ok (.if_icmp .lt off, 3)) (hq : pc + 3 = q) (ht : (pc : Int) + off = (tgt : Int)) (kt : x < y → mm_C Λ cc nL own ret d enc tgt ls st M A) (kf : ¬ x < y → mm_C Λ cc nL own ret d enc q ls st M B) : mm_C Λ cc nL own ret d enc pc ls (.int y :: .int x :: st) M (if x < y then A else B) := by
  subst hq
  intro a ha p l e s m args below meth c D cA ad H locs sl hC hX hP hS hL
  exact lv_icmp_lt hC.1 hC.2.1 hd ht (fun h => by rw [if_pos h] at ha; exact kt h a ha p l e s m args below meth c D cA ad H locs sl hC hX hP hS hL) (fun h => by rw [if_neg h] at ha; exact kf h a ha p l e s m args below meth c D cA ad H locs sl hC hX hP hS hL)
theorem mm_icmp_lt_t {x y : Int32} {off : Int} {tgt : Nat} (h0 : x < y) (hd : decode cc pc = .ok (.if_icmp .lt off, 3)) (ht : (pc : Int) + off = (tgt : Int)) (k : mm_C Λ cc nL own ret d enc tgt ls st M o) : mm_C Λ cc nL own ret d enc pc ls (.int y :: .int x :: st) M o := by
  intro a ha p l e s m args below meth c D cA ad H locs sl hC hX hP hS hL
  exact lv_icmp_lt hC.1 hC.2.1 hd ht (fun _ => (k a ha p l e s m args below meth c D cA ad H locs sl hC hX hP hS hL)) (fun h => absurd h0 h)
theorem mm_icmp_lt_f {x y : Int32} {off : Int} {tgt : Nat} (h0 : ¬ x < y) (hd : decode cc pc = .ok (.if_icmp .lt off, 3)) (hq : pc + 3 = q) (ht : (pc : Int) + off = (tgt : Int)) (k : mm_C Λ cc nL own ret d enc q ls st M o) : mm_C Λ cc nL own ret d enc pc ls (.int y :: .int x :: st) M o := by
  subst hq
  intro a ha p l e s m args below meth c D cA ad H locs sl hC hX hP hS hL
  exact lv_icmp_lt hC.1 hC.2.1 hd ht (fun h => absurd h h0) (fun _ => (k a ha p l e s m args below meth c D cA ad H locs sl hC hX hP hS hL))
theorem mm_if_ge {x : Int32} {off : Int} {tgt : Nat} {A B : Option α} (hd : decode cc pc = .ok (.ifCond .ge off, 3)) (hq : pc + 3 = q) (ht : (pc : Int) + off = (tgt : Int)) (kt : 0 ≤ x → mm_C Λ cc nL own ret d enc tgt ls st M A) (kf : ¬ 0 ≤ x → mm_C Λ cc nL own ret d enc q ls st M B) : mm_C Λ cc nL own ret d enc pc ls (.int x :: st) M (if 0 ≤ x then A else B) := by
  subst hq
  intro a ha p l e s m args below meth c D cA ad H locs sl hC hX hP hS hL
  exact lv_if_ge hC.1 hC.2.1 hd ht (fun h => by rw [if_pos h] at ha; exact kt h a ha p l e s m args below meth c D cA ad H locs sl hC hX hP hS hL) (fun h => by rw [if_neg h] at ha; exact kf h a ha p l e s m args below meth c D cA ad H locs sl hC hX hP hS hL)
theorem mm_if_ge_t {x : Int32} {off : Int} {tgt : Nat} (h0 : 0 ≤ x) (hd : decode cc pc = .ok (.ifCond .ge off, 3)) (ht : (pc : Int) + off = (tgt : Int)) (k : mm_C Λ cc nL own ret d enc tgt ls st M o) : mm_C Λ cc nL own ret d enc pc ls (.int x :: st) M o := by
  intro a ha p l e s m args below meth c D cA ad H locs sl hC hX hP hS hL
  exact lv_if_ge hC.1 hC.2.1 hd ht (fun _ => (k a ha p l e s m args below meth c D cA ad H locs sl hC hX hP hS hL)) (fun h => absurd h0 h)
theorem mm_if_ge_f {x : Int32} {off : Int} {tgt : Nat} (h0 : ¬ 0 ≤ x) (hd : decode cc pc = .ok (.ifCond .ge off, 3)) (hq : pc + 3 = q) (ht : (pc : Int) + off = (tgt : Int)) (k : mm_C Λ cc nL own ret d enc q ls st M o) : mm_C Λ cc nL own ret d enc pc ls (.int x :: st) M o := by
  subst hq
  intro a ha p l e s m args below meth c D cA ad H locs sl hC hX hP hS hL
  exact lv_if_ge hC.1 hC.2.1 hd ht (fun h => absurd h h0) (fun _ => (k a ha p l e s m args below meth c D cA ad H locs sl hC hX hP hS hL))
theorem mm_icmp_ge {x y : Int32} {off : Int} {tgt : Nat} {A B : Option α} (hd : decode cc pc = .ok (.if_icmp .ge off, 3)) (hq : pc + 3 = q) (ht : (pc : Int) + off = (tgt : Int)) (kt : y ≤ x → mm_C Λ cc nL own ret d enc tgt ls st M A) (kf : ¬ y ≤ x → mm_C Λ cc nL own ret d enc q ls st M B) : mm_C Λ cc nL own ret d enc pc ls (.int y :: .int x :: st) M (if y ≤ x then A else B) := by
  subst hq
  intro a ha p l e s m args below meth c D cA ad H locs sl hC hX hP hS hL
  exact lv_icmp_ge hC.1 hC.2.1 hd ht (fun h => by rw [if_pos h] at ha; exact kt h a ha p l e s m args below meth c D cA ad H locs sl hC hX hP hS hL) (fun h => by rw [if_neg h] at ha; exact kf h a ha p l e s m args below meth c D cA ad H locs sl hC hX hP hS hL)
theorem mm_icmp_ge_t {x y : Int32} {off : Int} {tgt : Nat} (h0 : y ≤ x) (hd : decode cc pc = .ok (.if_icmp .ge off, 3)) (ht : (pc : Int) + off = (tgt : Int)) (k : mm_C Λ cc nL own ret d enc tgt ls st M o) : mm_C Λ cc nL own ret d enc pc ls (.int y :: .int x :: st) M o := by
  intro a ha p l e s m args below meth c D cA ad H locs sl hC hX hP hS hL
  exact lv_icmp_ge hC.1 hC.2.1 hd ht (fun _ => (k a ha p l e s m args below meth c D cA ad H locs sl hC hX hP hS hL)) (fun h => absurd h0 h)
theorem mm_icmp_ge_f {x y : Int32} {off : Int} {tgt : Nat} (h0 : ¬ y ≤ x) (hd : decode cc pc = .ok (.if_icmp .ge off, 3)) (hq : pc + 3 = q) (ht : (pc : Int) + off = (tgt : Int)) (k : mm_C Λ cc nL own ret d enc q ls st M o) : mm_C Λ cc nL own ret d enc pc ls (.int y :: .int x :: st) M o := by
  subst hq
  intro a ha p l e s m args below meth c D cA ad H locs sl hC hX hP hS hL
  exact lv_icmp_ge hC.1 hC.2.1 hd ht (fun h => absurd h h0) (fun _ => (k a ha p l e s m args below meth c D cA ad H locs sl hC hX hP hS hL))
theorem mm_if_gt {x : Int32} {off : Int} {tgt : Nat} {A B : Option α} (hd : decode cc pc = .ok (.ifCond .gt off, 3)) (hq : pc + 3 = q) (ht : (pc : Int) + off = (tgt : Int)) (kt : 0 < x → mm_C Λ cc nL own ret d enc tgt ls st M A) (kf : ¬ 0 < x → mm_C Λ cc nL own ret d enc q ls st M B) : mm_C Λ cc nL own ret d enc pc ls (.int x :: st) M (if 0 < x then A else B) := by
  subst hq
  intro a ha p l e s m args below meth c D cA ad H locs sl hC hX hP hS hL
  exact lv_if_gt hC.1 hC.2.1 hd ht (fun h => by rw [if_pos h] at ha; exact kt h a ha p l e s m args below meth c D cA ad H locs sl hC hX hP hS hL) (fun h => by rw [if_neg h] at ha; exact kf h a ha p l e s m args below meth c D cA ad H locs sl hC hX hP hS hL)
theorem mm_if_gt_t {x : Int32} {off : Int} {tgt : Nat} (h0 : 0 < x) (hd : decode cc pc = .ok (.ifCond .gt off, 3)) (ht : (pc : Int) + off = (tgt : Int)) (k : mm_C Λ cc nL own ret d enc tgt ls st M o) : mm_C Λ cc nL own ret d enc pc ls (.int x :: st) M o := by
  intro a ha p l e s m args below meth c D cA ad H locs sl hC hX hP hS hL
  exact lv_if_gt hC.1 hC.2.1 hd ht (fun _ => (k a ha p l e s m args below meth c D cA ad H locs sl hC hX hP hS hL)) (fun h => absurd h0 h)
theorem mm_if_gt_f {x : Int32} {off : Int} {tgt : Nat} (h0 : ¬ 0 < x) (hd : decode cc pc = .ok (.ifCond .gt off, 3)) (hq : pc + 3 = q) (ht : (pc : Int) + off = (tgt : Int)) (k : mm_C Λ cc nL own ret d enc q ls st M o) : mm_C Λ cc nL own ret d enc pc ls (.int x :: st) M o := by
  subst hq
  intro a ha p l e s m args below meth c D cA ad H locs sl hC hX hP hS hL
  exact lv_if_gt hC.1 hC.2.1 hd ht (fun h => absurd h h0) (fun _ => (k a ha p l e s m args below meth c D cA ad H locs sl hC hX hP hS hL))
theorem mm_icmp_gt {x y : Int32} {off : Int} {tgt : Nat} {A B : Option α} (hd : decode cc pc = .ok (.if_icmp .gt off, 3)) (hq : pc + 3 = q) (ht : (pc : Int) + off = (tgt : Int)) (kt : y < x → mm_C Λ cc nL own ret d enc tgt ls st M A) (kf : ¬ y < x → mm_C Λ cc nL own ret d enc q ls st M B) : mm_C Λ cc nL own ret d enc pc ls (.int y :: .int x :: st) M (if y < x then A else B) := by
  subst hq
  intro a ha p l e s m args below meth c D cA ad H locs sl hC hX hP hS hL
  exact lv_icmp_gt hC.1 hC.2.1 hd ht (fun h => by rw [if_pos h] at ha; exact kt h a ha p l e s m args below meth c D cA ad H locs sl hC hX hP hS hL) (fun h => by rw [if_neg h] at ha; exact kf h a ha p l e s m args below meth c D cA ad H locs sl hC hX hP hS hL)
theorem mm_icmp_gt_t {x y : Int32} {off : Int} {tgt : Nat} (h0 : y < x) (hd : decode cc pc = .ok (.if_icmp .gt off, 3)) (ht : (pc : Int) + off = (tgt : Int)) (k : mm_C Λ cc nL own ret d enc tgt ls st M o) : mm_C Λ cc nL own ret d enc pc ls (.int y :: .int x :: st) M o := by
  intro a ha p l e s m args below meth c D cA ad H locs sl hC hX hP hS hL
  exact lv_icmp_gt hC.1 hC.2.1 hd ht (fun _ => (k a ha p l e s m args below meth c D cA ad H locs sl hC hX hP hS hL)) (fun h => absurd h0 h)
theorem mm_icmp_gt_f {x y : Int32} {off : Int} {tgt : Nat} (h0 : ¬ y < x) (hd : decode cc pc = .ok (.if_icmp .gt off, 3)) (hq : pc + 3 = q) (ht : (pc : Int) + off = (tgt : Int)) (k : mm_C Λ cc nL own ret d enc q ls st M o) : mm_C Λ cc nL own ret d enc pc ls (.int y :: .int x :: st) M o := by
  subst hq
  intro a ha p l e s m args below meth c D cA ad H locs sl hC hX hP hS hL
  exact lv_icmp_gt hC.1 hC.2.1 hd ht (fun h => absurd h h0) (fun _ => (k a ha p l e s m args below meth c D cA ad H locs sl hC hX hP hS hL))
theorem mm_if_le {x : Int32} {off : Int} {tgt : Nat} {A B : Option α} (hd : decode cc pc = .ok (.ifCond .le off, 3)) (hq : pc + 3 = q) (ht : (pc : Int) + off = (tgt : Int)) (kt : x ≤ 0 → mm_C Λ cc nL own ret d enc tgt ls st M A) (kf : ¬ x ≤ 0 → mm_C Λ cc nL own ret d enc q ls st M B) : mm_C Λ cc nL own ret d enc pc ls (.int x :: st) M (if x ≤ 0 then A else B) := by
  subst hq
  intro a ha p l e s m args below meth c D cA ad H locs sl hC hX hP hS hL
  exact lv_if_le hC.1 hC.2.1 hd ht (fun h => by rw [if_pos h] at ha; exact kt h a ha p l e s m args below meth c D cA ad H locs sl hC hX hP hS hL) (fun h => by rw [if_neg h] at ha; exact kf h a ha p l e s m args below meth c D cA ad H locs sl hC hX hP hS hL)
theorem mm_if_le_t {x : Int32} {off : Int} {tgt : Nat} (h0 : x ≤ 0) (hd : decode cc pc = .ok (.ifCond .le off, 3)) (ht : (pc : Int) + off = (tgt : Int)) (k : mm_C Λ cc nL own ret d enc tgt ls st M o) : mm_C Λ cc nL own ret d enc pc ls (.int x :: st) M o := by
  intro a ha p l e s m args below meth c D cA ad H locs sl hC hX hP hS hL
  exact lv_if_le hC.1 hC.2.1 hd ht (fun _ => (k a ha p l e s m args below meth c D cA ad H locs sl hC hX hP hS hL)) (fun h => absurd h0 h)
theorem mm_if_le_f {x : Int32} {off : Int} {tgt : Nat} (h0 : ¬ x ≤ 0) (hd : decode cc pc = .ok (.ifCond .le off, 3)) (hq : pc + 3 = q) (ht : (pc : Int) + off = (tgt : Int)) (k : mm_C Λ cc nL own ret d enc q ls st M o) : mm_C Λ cc nL own ret d enc pc ls (.int x :: st) M o := by
  subst hq
  intro a ha p l e s m args below meth c D cA ad H locs sl hC hX hP hS hL
  exact lv_if_le hC.1 hC.2.1 hd ht (fun h => absurd h h0) (fun _ => (k a ha p l e s m args below meth c D cA ad H locs sl hC hX hP hS hL))
theorem mm_icmp_le {x y : Int32} {off : Int} {tgt : Nat} {A B : Option α} (hd : decode cc pc = .ok (.if_icmp .le off, 3)) (hq : pc + 3 = q) (ht : (pc : Int) + off = (tgt : Int)) (kt : x ≤ y → mm_C Λ cc nL own ret d enc tgt ls st M A) (kf : ¬ x ≤ y → mm_C Λ cc nL own ret d enc q ls st M B) : mm_C Λ cc nL own ret d enc pc ls (.int y :: .int x :: st) M (if x ≤ y then A else B) := by
  subst hq
  intro a ha p l e s m args below meth c D cA ad H locs sl hC hX hP hS hL
  exact lv_icmp_le hC.1 hC.2.1 hd ht (fun h => by rw [if_pos h] at ha; exact kt h a ha p l e s m args below meth c D cA ad H locs sl hC hX hP hS hL) (fun h => by rw [if_neg h] at ha; exact kf h a ha p l e s m args below meth c D cA ad H locs sl hC hX hP hS hL)
theorem mm_icmp_le_t {x y : Int32} {off : Int} {tgt : Nat} (h0 : x ≤ y) (hd : decode cc pc = .ok (.if_icmp .le off, 3)) (ht : (pc : Int) + off = (tgt : Int)) (k : mm_C Λ cc nL own ret d enc tgt ls st M o) : mm_C Λ cc nL own ret d enc pc ls (.int y :: .int x :: st) M o := by
  intro a ha p l e s m args below meth c D cA ad H locs sl hC hX hP hS hL
  exact lv_icmp_le hC.1 hC.2.1 hd ht (fun _ => (k a ha p l e s m args below meth c D cA ad H locs sl hC hX hP hS hL)) (fun h => absurd h0 h)
theorem mm_icmp_le_f {x y : Int32} {off : Int} {tgt : Nat} (h0 : ¬ x ≤ y) (hd : decode cc pc = .ok (.if_icmp .le off, 3)) (hq : pc + 3 = q) (ht : (pc : Int) + off = (tgt : Int)) (k : mm_C Λ cc nL own ret d enc q ls st M o) : mm_C Λ cc nL own ret d enc pc ls (.int y :: .int x :: st) M o := by
  subst hq
  intro a ha p l e s m args below meth c D cA ad H locs sl hC hX hP hS hL
  exact lv_icmp_le hC.1 hC.2.1 hd ht (fun h => absurd h h0) (fun _ => (k a ha p l e s m args below meth c D cA ad H locs sl hC hX hP hS hL))
def mm_fd (own : String) (ix ci j : Nat) : Prop := ∃ (C : String) (T : u_T) (N : Nat), vwCl[ci]? = some (C, T, N) ∧ j < N ∧ (∀ w ∈ u_ws C T N, w ∈ mm_tb) ∧ Cond.fieldLink own ix (T j).1 (T j).2.1 (T j).2.2.1 ∈ mm_tb
def mm_fdN (own : String) (ix ci j : Nat) : Prop := ∃ (C : String) (T : u_T) (N : Nat) (host : String), vwCl[ci]? = some (C, T, N) ∧ j < N ∧ (∀ w ∈ u_ws C T N, w ∈ mm_tb) ∧ Cond.fieldLinkNest own ix (T j).1 (T j).2.1 (T j).2.2.1 host ∈ lw_tbl
def mm_ps (ci j : Nat) (ty : FieldType) : Prop := ∃ (C : String) (T : u_T) (N : Nat) (ty0 : Nat → FieldType), vwCl[ci]? = some (C, T, N) ∧ (∀ k, k < N → parseFieldDescriptor (T k).2.2.1 = some (ty0 k)) ∧ (∀ a, a < N → ∀ b, b < N → a ≠ b → (T a).2.1 ≠ (T b).2.1) ∧ (T j).2.2.2 = false ∧ ty0 j = ty
theorem mm_getI {k0 ci j ix : Nat} {fs : List (Option Nat)} (hd : decode cc pc = .ok (.getfield ix, 3)) (hq : pc + 3 = q) (hΛ : Λ[k0]? = some (.inr (.inr (ci, fs)))) (hb : mm_fd own ix ci j) (hf : fs[j]? = some none) (k : mm_C Λ cc nL own ret d enc q ls (.int (M k0 j) :: st) M o) : mm_C Λ cc nL own ret d enc pc ls (.ref k0 :: st) M o := by
  subst hq
  obtain ⟨C, T, N, b1, b2, b3, b4⟩ := hb
  intro a ha p l e s m args below meth c D cA ad H locs sl hC hX hP hS hL
  exact va_get (D := D) (v := .int (M k0 j)) hC.1 hC.2.1 hC.2.2.2.2.1 b3 hC.2.2.2.1 hX.1 hP k0 (mm_w_at hΛ) b1 j b2 (hC.ts b4) (fun _ h => h) (by rw [List.getElem?_mapIdx, hf]; rfl) hd (k a ha p l e s m args below meth c D cA ad H locs sl hC hX hP hS hL)
theorem mm_getR {k0 k1 ci j ix : Nat} {fs : List (Option Nat)} (hd : decode cc pc = .ok (.getfield ix, 3)) (hq : pc + 3 = q) (hΛ : Λ[k0]? = some (.inr (.inr (ci, fs)))) (hb : mm_fd own ix ci j) (hf : fs[j]? = some (some k1)) (k : mm_C Λ cc nL own ret d enc q ls (.ref k1 :: st) M o) : mm_C Λ cc nL own ret d enc pc ls (.ref k0 :: st) M o := by
  subst hq
  obtain ⟨C, T, N, b1, b2, b3, b4⟩ := hb
  intro a ha p l e s m args below meth c D cA ad H locs sl hC hX hP hS hL
  exact va_get (D := D) (v := .ref (ad k1)) hC.1 hC.2.1 hC.2.2.2.2.1 b3 hC.2.2.2.1 hX.1 hP k0 (mm_w_at hΛ) b1 j b2 (hC.ts b4) (fun _ h => h) (by rw [List.getElem?_mapIdx, hf]; rfl) hd (k a ha p l e s m args below meth c D cA ad H locs sl hC hX hP hS hL)
theorem mm_put {k0 ci j ix : Nat} {fs : List (Option Nat)} {x : Int32} {ty : FieldType} {g : mm_M → Option α} (hd : decode cc pc = .ok (.putfield ix, 3)) (hq : pc + 3 = q) (hΛ : Λ[k0]? = some (.inr (.inr (ci, fs)))) (hb : mm_fd own ix ci j) (hp : mm_ps ci j ty) (hf : fs[j]? = some none) (hn : narrow ty (.int x) = .int x) (hfit : fits ty (.int x) = true) (k : ∀ M', mm_pf M k0 j x = some M' → mm_C Λ cc nL own ret d enc q ls st M' (g M')) : mm_C Λ cc nL own ret d enc pc ls (.int x :: .ref k0 :: st) M ((mm_pf M k0 j x).bind g) := by
  subst hq
  obtain ⟨C, T, N, b1, b2, b3, b4⟩ := hb
  obtain ⟨C2, T2, N2, ty0, p1, hty, hnm, hfin, ht⟩ := hp
  cases b1.symm.trans p1
  subst ht
  intro a ha p l e s m args below meth c D cA ad H locs sl hC hX hP hS hL
  refine va_put (D := D) (v := .int x) hC.1 hC.2.1 hC.2.2.2.2.1 b3 ty0 hty hnm hC.2.2.2.1 hX.1 hP (mm_D hX.2.2.1) hS k0 (mm_w_at hΛ) b1 j b2 (hC.ts b4) (fun _ h => h) hfin (hty j b2) hn hfit (by rw [List.length_mapIdx]; exact (List.getElem?_eq_some_iff.mp hf).1) hd (fun H1 locs1 hP1 _ hS1 => ?_)
  rw [mm_w_up hΛ (mm_w_obj (cA := cA) hf)] at hP1
  exact k (mm_wr M k0 j x) rfl a ha p l e s m args below meth c D cA ad H1 locs1 sl hC hX hP1 hS1 hL
theorem mm_getIN {k0 ci j ix : Nat} {fs : List (Option Nat)} (hd : decode cc pc = .ok (.getfield ix, 3)) (hq : pc + 3 = q) (hΛ : Λ[k0]? = some (.inr (.inr (ci, fs)))) (hb : mm_fdN own ix ci j) (hf : fs[j]? = some none) (k : mm_C Λ cc nL own ret d enc q ls (.int (M k0 j) :: st) M o) : mm_C Λ cc nL own ret d enc pc ls (.ref k0 :: st) M o := by
  subst hq
  obtain ⟨C, T, N, host, b1, b2, b3, b4⟩ := hb
  intro a ha p l e s m args below meth c D cA ad H locs sl hC hX hP hS hL
  exact va_getN (D := D) (v := .int (M k0 j)) hC.1 hC.2.1 hC.2.2.2.2.1 b3 hC.2.2.2.1 hX.1 hP k0 (mm_w_at hΛ) b1 j b2 ((hX.2.1 _ b4 rfl).use rfl) (fun _ h => h) (by rw [List.getElem?_mapIdx, hf]; rfl) hd (k a ha p l e s m args below meth c D cA ad H locs sl hC hX hP hS hL)
theorem mm_getRN {k0 k1 ci j ix : Nat} {fs : List (Option Nat)} (hd : decode cc pc = .ok (.getfield ix, 3)) (hq : pc + 3 = q) (hΛ : Λ[k0]? = some (.inr (.inr (ci, fs)))) (hb : mm_fdN own ix ci j) (hf : fs[j]? = some (some k1)) (k : mm_C Λ cc nL own ret d enc q ls (.ref k1 :: st) M o) : mm_C Λ cc nL own ret d enc pc ls (.ref k0 :: st) M o := by
  subst hq
  obtain ⟨C, T, N, host, b1, b2, b3, b4⟩ := hb
  intro a ha p l e s m args below meth c D cA ad H locs sl hC hX hP hS hL
  exact va_getN (D := D) (v := .ref (ad k1)) hC.1 hC.2.1 hC.2.2.2.2.1 b3 hC.2.2.2.1 hX.1 hP k0 (mm_w_at hΛ) b1 j b2 ((hX.2.1 _ b4 rfl).use rfl) (fun _ h => h) (by rw [List.getElem?_mapIdx, hf]; rfl) hd (k a ha p l e s m args below meth c D cA ad H locs sl hC hX hP hS hL)
theorem mm_putN {k0 ci j ix : Nat} {fs : List (Option Nat)} {x : Int32} {ty : FieldType} {g : mm_M → Option α} (hd : decode cc pc = .ok (.putfield ix, 3)) (hq : pc + 3 = q) (hΛ : Λ[k0]? = some (.inr (.inr (ci, fs)))) (hb : mm_fdN own ix ci j) (hp : mm_ps ci j ty) (hf : fs[j]? = some none) (hn : narrow ty (.int x) = .int x) (hfit : fits ty (.int x) = true) (k : ∀ M', mm_pf M k0 j x = some M' → mm_C Λ cc nL own ret d enc q ls st M' (g M')) : mm_C Λ cc nL own ret d enc pc ls (.int x :: .ref k0 :: st) M ((mm_pf M k0 j x).bind g) := by
  subst hq
  obtain ⟨C, T, N, host, b1, b2, b3, b4⟩ := hb
  obtain ⟨C2, T2, N2, ty0, p1, hty, hnm, hfin, ht⟩ := hp
  cases b1.symm.trans p1
  subst ht
  intro a ha p l e s m args below meth c D cA ad H locs sl hC hX hP hS hL
  refine va_putN (D := D) (v := .int x) hC.1 hC.2.1 hC.2.2.2.2.1 b3 ty0 hty hnm hC.2.2.2.1 hX.1 hP (mm_D hX.2.2.1) hS k0 (mm_w_at hΛ) b1 j b2 ((hX.2.1 _ b4 rfl).use rfl) (fun _ h => h) hfin (hty j b2) hn hfit (by rw [List.length_mapIdx]; exact (List.getElem?_eq_some_iff.mp hf).1) hd (fun H1 locs1 hP1 _ hS1 => ?_)
  rw [mm_w_up hΛ (mm_w_obj (cA := cA) hf)] at hP1
  exact k (mm_wr M k0 j x) rfl a ha p l e s m args below meth c D cA ad H1 locs1 sl hC hX hP1 hS1 hL
theorem mm_rd_some {k0 n : Nat} {i x : Int32} (h : mm_rd M k0 n i = some x) : vp_in i n ∧ x = M k0 i.toNatClampNeg := by
  unfold mm_rd at h
  split at h
  · cases h
  · rename_i hb
    exact ⟨hb, (Option.some.inj h).symm⟩
theorem mm_iald {k0 n : Nat} {i : Int32} {g : Int32 → Option α} (hd : decode cc pc = .ok (.iaload, 1)) (hq : pc + 1 = q) (hΛ : Λ[k0]? = some (.inl n)) (k : ∀ x, mm_rd M k0 n i = some x → mm_C Λ cc nL own ret d enc q ls (.int x :: st) M (g x)) : mm_C Λ cc nL own ret d enc pc ls (.int i :: .ref k0 :: st) M ((mm_rd M k0 n i).bind g) := by
  subst hq
  intro a ha p l e s m args below meth c D cA ad H locs sl hC hX hP hS hL
  cases hx : mm_rd M k0 n i with
  | none => rw [hx] at ha; cases ha
  | some x =>
    rw [hx] at ha
    obtain ⟨h1, h2⟩ := mm_rd_some hx
    subst h2
    exact va_iald hC.1 hC.2.1 hX.1 hP k0 0 (mm_w_at hΛ) rfl h1 hd (k _ hx a ha p l e s m args below meth c D cA ad H locs sl hC hX hP hS hL)
theorem mm_iast {k0 n : Nat} {i x : Int32} {g : mm_M → Option α} (hd : decode cc pc = .ok (.iastore, 1)) (hq : pc + 1 = q) (hΛ : Λ[k0]? = some (.inl n)) (k : ∀ M', mm_wa M k0 n i x = some M' → mm_C Λ cc nL own ret d enc q ls st M' (g M')) : mm_C Λ cc nL own ret d enc pc ls (.int x :: .int i :: .ref k0 :: st) M ((mm_wa M k0 n i x).bind g) := by
  subst hq
  intro a ha p l e s m args below meth c D cA ad H locs sl hC hX hP hS hL
  cases hx : mm_wa M k0 n i x with
  | none => rw [hx] at ha; cases ha
  | some M' =>
    rw [hx] at ha
    have hx' := hx
    unfold mm_wa at hx
    split at hx
    · cases hx
    · rename_i hb
      cases hx
      refine va_iast hC.1 hC.2.1 hX.1 hP (mm_D hX.2.2.1) hS k0 0 (mm_w_at hΛ) rfl hb hd (fun H1 locs1 hP1 _ hS1 => ?_)
      rw [mm_w_arr hΛ] at hP1
      exact k _ hx' a ha p l e s m args below meth c D cA ad H1 locs1 sl hC hX hP1 hS1 hL
theorem mm_alen {k0 n : Nat} {v : Int32} (hd : decode cc pc = .ok (.arraylength, 1)) (hq : pc + 1 = q) (hΛ : Λ[k0]? = some (.inl n)) (hv : Int32.ofNat n = v) (k : mm_C Λ cc nL own ret d enc q ls (.int v :: st) M o) : mm_C Λ cc nL own ret d enc pc ls (.ref k0 :: st) M o := by
  subst hq
  intro a ha p l e s m args below meth c D cA ad H locs sl hC hX hP hS hL
  exact va_alen hC.1 hC.2.1 hX.1 hP k0 0 (mm_w_at hΛ) rfl hv hd (k a ha p l e s m args below meth c D cA ad H locs sl hC hX hP hS hL)
theorem mm_aald {k0 t : Nat} {rs : List Nat} {i : Int32} {cn : String} {g : Nat → Option α} (hd : decode cc pc = .ok (.aaload, 1)) (hq : pc + 1 = q) (hΛ : Λ[k0]? = some (.inr (.inl (rs, t)))) (ht : ∀ cA, (mm_tys cA)[t]? = some (cA t, .object cn)) (k : ∀ x, mm_ra rs i = some x → mm_C Λ cc nL own ret d enc q ls (.ref x :: st) M (g x)) : mm_C Λ cc nL own ret d enc pc ls (.int i :: .ref k0 :: st) M ((mm_ra rs i).bind g) := by
  subst hq
  intro a ha p l e s m args below meth c D cA ad H locs sl hC hX hP hS hL
  cases hx : mm_ra rs i with
  | none => rw [hx] at ha; cases ha
  | some x =>
    rw [hx] at ha
    have hx' := hx
    unfold mm_ra at hx
    split at hx
    · cases hx
    · rename_i hb
      have hk := k _ hx' a ha p l e s m args below meth c D cA ad H locs sl hC hX hP hS hL
      refine va_aldq hC.1 hC.2.1 hX.1 hP k0 t (mm_w_at hΛ) (ht cA) hb hd ?_
      rw [hx]
      exact hk
theorem mm_iret {x : Int32} {b : α} (he : enc b = (some (.int x), M)) (hd : decode cc pc = .ok (.ireturn, 1)) : mm_C Λ cc nL own (some .int) d enc pc ls [.int x] M (some b) := by
  intro a ha p l e s m args below meth c D cA ad H locs sl hC hX hP hS hL
  cases ha
  rw [he]
  exact W.iret hC.1 hC.2.1 hC.2.2.2.2.2.1 (fun t ht hW => ⟨rfl, by rw [ht]; exact hP, hS.F ht⟩) hS.2.2 hd hC.2.2.2.2.2.2
theorem mm_zret {x : Int32} {b : α} (he : enc b = (some (.int x), M)) (hn : narrow .boolean (.int x) = .int x) (hd : decode cc pc = .ok (.ireturn, 1)) : mm_C Λ cc nL own (some .boolean) d enc pc ls [.int x] M (some b) := by
  intro a ha p l e s m args below meth c D cA ad H locs sl hC hX hP hS hL
  cases ha
  rw [he]
  exact W.zret hC.1 hC.2.1 hC.2.2.2.2.2.1 hn (fun t ht hW => ⟨rfl, by rw [ht]; exact hP, hS.F ht⟩) hS.2.2 hd hC.2.2.2.2.2.2
theorem mm_zretB {x : Int32} {g : Int32 → Option α} {f : Int32 → α} (hg : ∀ z, g z = some (f z)) (he : ∀ z, enc (f z) = (some (.int z), M)) (hd : decode cc pc = .ok (.ireturn, 1)) : mm_C Λ cc nL own (some .boolean) d enc pc ls [.int x] M ((mm_zb x).bind g) := by
  by_cases h : x = 0 ∨ x = 1
  · rw [show mm_zb x = some x by simp [mm_zb, h]]
    show mm_C Λ cc nL own (some .boolean) d enc pc ls [.int x] M (g x)
    rw [hg]
    exact mm_zret (he x) (by rcases h with h | h <;> subst h <;> rfl) hd
  · rw [show mm_zb x = none by simp [mm_zb, h]]
    exact mm_none
theorem mm_lret {x : Int64} {b : α} (he : enc b = (some (.long x), M)) (hd : decode cc pc = .ok (.lreturn, 1)) : mm_C Λ cc nL own (some .long) d enc pc ls [.long x] M (some b) := by
  intro a ha p l e s m args below meth c D cA ad H locs sl hC hX hP hS hL
  cases ha
  rw [he]
  exact W.lret hC.1 hC.2.1 hC.2.2.2.2.2.1 (fun t ht hW => ⟨rfl, by rw [ht]; exact hP, hS.F ht⟩) hS.2.2 hd hC.2.2.2.2.2.2
theorem mm_vret {b : α} (he : enc b = (none, M)) (hd : decode cc pc = .ok (.return_, 1)) : mm_C Λ cc nL own none d enc pc ls [] M (some b) := by
  intro a ha p l e s m args below meth c D cA ad H locs sl hC hX hP hS hL
  cases ha
  rw [he]
  exact W.vret hC.1 hC.2.1 hC.2.2.2.2.2.1 (fun t ht hW => ⟨rfl, by rw [ht]; exact hP, hS.F ht⟩) hS.2.2 hd hC.2.2.2.2.2.2
theorem mm_ra_mem {rs : List Nat} {i : Int32} {x : Nat} (h : mm_ra rs i = some x) : x ∈ rs := by
  unfold mm_ra at h
  split at h
  · cases h
  · exact List.mem_of_getElem? h
theorem mm_cats (ad : Nat → Nat) (st : List Value) : ((st.map (mm_cv ad)).map fun v => v.category).sum = (st.map fun v => v.category).sum := by
  induction st with
  | nil => rfl
  | cons v t ih => simp only [List.map_cons, List.sum_cons, mm_cv_cat, ih]
theorem mm_after {p : Program} {l : Launch} {e : Env} {s : State} {m : MethodId} {args a : Array Value} {below : List Frame} {meth : Method} {c : Code} {H : Heap} {locs : List Loc} {D : va_G} {cA : Nat → ClassId} {ad : Nat → Nat} {sl : Array Slot} {st0 rest : List Value} {r : Option Value × mm_M} {Q : State → Prop} {R : Room}
    (hr : va_Run p l e R s m args below meth c H locs 0 0 0 0 (F0 m pc sl st0) rest (mm_Q Λ D cA ad r a) (mm_A Λ ad)) (hS : va_S (mm_A Λ ad) s.heap H locs)
    (kk : ∀ (H1 : Heap) (locs1 : List Loc), va_P D vwCl (mm_w Λ ad cA r.2) H1 → va_S (mm_A Λ ad) s.heap H1 locs1 → W p l e R s m args below meth c H1 locs1 0 0 Q (F0 m (pc + 3) sl ((r.1.map (mm_cv ad)).toList ++ rest))) : W p l e R s m args below meth c H locs 0 0 Q (F0 m pc sl st0) := by
  intro T hT X
  obtain ⟨v, st₀, t, T', L, h0, X', hL, e1, e2, ⟨hv, hp, hz, hk⟩, st⟩ := hr T hT X
  cases hv
  rw [h0] at hz hk
  obtain ⟨t2, a1, b1⟩ := kk T'.heap (locs ++ L) (by rw [e1]; exact hp)
    ⟨Nat.le_trans hS.1 (by rw [e1]; exact hz), fun q h1 h2 => by rw [e1, hk q (Nat.lt_of_lt_of_le h1 hS.1) h2]; exact hS.2.1 q h1 h2, fun q hq => by
      rcases List.mem_append.mp hq with h | h
      · exact hS.2.2 q h
      · exact hL q h⟩ T' rfl X'
  exact ⟨t2, st t2 a1, b1⟩
def mm_dsc (y : MethodName) (n : Nat) : Prop := y.cls ≠ "java/lang/invoke/MethodHandle" ∧ y.cls ≠ "java/lang/invoke/VarHandle" ∧ (parseMethodDescriptor y.desc).map (fun d => d.parameters.length) = some n
def mm_sV (own : String) (ix : Nat) (y : MethodName) (cc' : ByteArray) (nL' : Nat) (ret' : Option FieldType) (n : Nat) : Prop := Cond.methodLink own ix y ∈ mm_tb ∧ Cond.instanceMethod y ∈ mm_tb ∧ Cond.selects y.cls y y ∈ mm_tb ∧ Cond.initialized y.cls ∈ mm_tb ∧ Cond.code y cc' nL' ret' ∈ mm_tb ∧ mm_dsc y n ∧ nL' ≤ 21
def mm_sS (own : String) (ix : Nat) (y : MethodName) (cc' : ByteArray) (nL' : Nat) (ret' : Option FieldType) (n : Nat) : Prop := Cond.methodLink own ix y ∈ mm_tb ∧ Cond.static y ∈ mm_tb ∧ Cond.initialized y.cls ∈ mm_tb ∧ Cond.code y cc' nL' ret' ∈ mm_tb ∧ mm_dsc y n ∧ nL' ≤ 21
def mm_sSN (own : String) (ix : Nat) (y : MethodName) (cc' : ByteArray) (nL' : Nat) (ret' : Option FieldType) (n : Nat) : Prop := (∃ host, Cond.methodLinkNest own ix y host ∈ lw_tbl) ∧ Cond.static y ∈ mm_tb ∧ Cond.initialized y.cls ∈ mm_tb ∧ Cond.code y cc' nL' ret' ∈ mm_tb ∧ mm_dsc y n ∧ nL' ≤ 21
theorem mm_blind {D : va_G} {cA : Nat → ClassId} {ad : Nat → Nat} {as : List Value} : FrameBlind (fun v U => v = (as.map (mm_cv ad)).toArray ∧ mm_X Λ D cA ad U ∧ va_P D vwCl (mm_w Λ ad cA M) U.heap) := fun a U g mk h => ⟨h.1, mm_X.same (u := U) rfl rfl h.2.1, h.2.2⟩
theorem mm_callV {β : Type} {y : MethodName} {cc' : ByteArray} {nL' d' n ix : Nat} {ret' : Option FieldType} {enc' : β → Option Value × mm_M} {as stk : List Value} {o' : Option β} {g : β → Option α} {b ci N : Nat} {fs : List (Option Nat)} {T : u_T} (hΛ : Λ[b]? = some (.inr (.inr (ci, fs)))) (hc : vwCl[ci]? = some (y.cls, T, N)) (E : mm_E Λ y cc' nL' ret' d' enc' (.ref b :: as) M o') (hsite : mm_sV own ix y cc' nL' ret' n) (hn : as.length = n) (hdep : d' + 1 ≤ d) (hst : (st.map fun v => v.category).sum ≤ 8) (hstk : stk = as.reverse ++ .ref b :: st) (hd : decode cc pc = .ok (.invokevirtual ix, 3)) (hq : pc + 3 = q) (k : ∀ r, o' = some r → mm_C Λ cc nL own ret d enc q ls ((enc' r).1.toList ++ st) (enc' r).2 (g r)) : mm_C Λ cc nL own ret d enc pc ls stk M (o'.bind g) := by
  subst hq
  subst hstk
  intro a ha p l e s m args below meth c D cA ad H locs sl hC hX hP hS hL
  cases ho : o' with
  | none => rw [ho] at ha; cases ha
  | some r =>
    rw [ho] at ha
    have hM := E r ho l D cA ad
    obtain ⟨w1, w2, w3, w4, w5, w6, w7⟩ := hsite
    have hR : (mm_R d').frames + 1 ≤ (mm_R d).frames ∧ 8 + (nL' + 11) + (mm_R d').locals ≤ (mm_R d).locals := ⟨hdep, by show 8 + (nL' + 11) + 40 * d' ≤ 40 * d; omega⟩
    refine mm_after (va_runV (As := as.map (mm_cv ad)) (rest := st.map (mm_cv ad)) hC.fix hM ⟨callB_of n hC.2.2.2.2.1 (mm_tb_good w5) rfl rfl rfl (hC.ts w4) (hC.ts w1) w6 hR, hC.ts w2, hC.ts w3⟩ ⟨mm_blind (as := .ref b :: as), va_recv hX.1 hP hc (mm_w_at hΛ), fun U hU hW => ⟨by simp [mm_cv], hX.on (locs := locs) hW (by rw [hU]; exact hS), by rw [hU]; exact hP⟩⟩ rfl (by rw [List.length_map]; exact hn) hL.1 (by simp [mm_cv]) (lv_room (by rw [mm_cats]; exact hst)) hd ⟨Nat.zero_le _, Nat.zero_le _⟩) hS (fun H1 locs1 hP1 hS1 => ?_)
    have hk := k r ho a ha p l e s m args below meth c D cA ad H1 locs1 sl hC hX hP1 hS1 hL
    rw [List.map_append] at hk
    rwa [show (Option.map (mm_cv ad) (enc' r).1).toList = (enc' r).1.toList.map (mm_cv ad) by cases (enc' r).1 <;> rfl]
theorem mm_callVI {y : MethodName} {cc' : ByteArray} {nL' d' n ix : Nat} {ret' : Option FieldType} {as stk : List Value} {o' : Option (Int32 × mm_M)} {g : Int32 × mm_M → Option α} {b ci N : Nat} {fs : List (Option Nat)} {T : u_T} (hΛ : Λ[b]? = some (.inr (.inr (ci, fs)))) (hc : vwCl[ci]? = some (y.cls, T, N)) (E : mm_E Λ y cc' nL' ret' d' mm_eI (.ref b :: as) M o') (hsite : mm_sV own ix y cc' nL' ret' n) (hn : as.length = n) (hdep : d' + 1 ≤ d) (hst : (st.map fun v => v.category).sum ≤ 8) (hstk : stk = as.reverse ++ .ref b :: st) (hd : decode cc pc = .ok (.invokevirtual ix, 3)) (hq : pc + 3 = q) (k : ∀ r, o' = some r → mm_C Λ cc nL own ret d enc q ls (.int r.1 :: st) r.2 (g r)) : mm_C Λ cc nL own ret d enc pc ls stk M (o'.bind g) := mm_callV hΛ hc E hsite hn hdep hst hstk hd hq k
theorem mm_callVV {y : MethodName} {cc' : ByteArray} {nL' d' n ix : Nat} {ret' : Option FieldType} {as stk : List Value} {o' : Option (mm_M)} {g : mm_M → Option α} {b ci N : Nat} {fs : List (Option Nat)} {T : u_T} (hΛ : Λ[b]? = some (.inr (.inr (ci, fs)))) (hc : vwCl[ci]? = some (y.cls, T, N)) (E : mm_E Λ y cc' nL' ret' d' mm_eV (.ref b :: as) M o') (hsite : mm_sV own ix y cc' nL' ret' n) (hn : as.length = n) (hdep : d' + 1 ≤ d) (hst : (st.map fun v => v.category).sum ≤ 8) (hstk : stk = as.reverse ++ .ref b :: st) (hd : decode cc pc = .ok (.invokevirtual ix, 3)) (hq : pc + 3 = q) (k : ∀ r, o' = some r → mm_C Λ cc nL own ret d enc q ls st r (g r)) : mm_C Λ cc nL own ret d enc pc ls stk M (o'.bind g) := mm_callV hΛ hc E hsite hn hdep hst hstk hd hq k
theorem mm_callVL {y : MethodName} {cc' : ByteArray} {nL' d' n ix : Nat} {ret' : Option FieldType} {as stk : List Value} {o' : Option (Int64 × mm_M)} {g : Int64 × mm_M → Option α} {b ci N : Nat} {fs : List (Option Nat)} {T : u_T} (hΛ : Λ[b]? = some (.inr (.inr (ci, fs)))) (hc : vwCl[ci]? = some (y.cls, T, N)) (E : mm_E Λ y cc' nL' ret' d' mm_eL (.ref b :: as) M o') (hsite : mm_sV own ix y cc' nL' ret' n) (hn : as.length = n) (hdep : d' + 1 ≤ d) (hst : (st.map fun v => v.category).sum ≤ 8) (hstk : stk = as.reverse ++ .ref b :: st) (hd : decode cc pc = .ok (.invokevirtual ix, 3)) (hq : pc + 3 = q) (k : ∀ r, o' = some r → mm_C Λ cc nL own ret d enc q ls (.long r.1 :: st) r.2 (g r)) : mm_C Λ cc nL own ret d enc pc ls stk M (o'.bind g) := mm_callV hΛ hc E hsite hn hdep hst hstk hd hq k
theorem mm_callVP {y : MethodName} {cc' : ByteArray} {nL' d' n ix : Nat} {ret' : Option FieldType} {as stk : List Value} {o' : Option (Int32)} {g : Int32 → Option α} {b ci N : Nat} {fs : List (Option Nat)} {T : u_T} (hΛ : Λ[b]? = some (.inr (.inr (ci, fs)))) (hc : vwCl[ci]? = some (y.cls, T, N)) (E : mm_E Λ y cc' nL' ret' d' (mm_pI M) (.ref b :: as) M o') (hsite : mm_sV own ix y cc' nL' ret' n) (hn : as.length = n) (hdep : d' + 1 ≤ d) (hst : (st.map fun v => v.category).sum ≤ 8) (hstk : stk = as.reverse ++ .ref b :: st) (hd : decode cc pc = .ok (.invokevirtual ix, 3)) (hq : pc + 3 = q) (k : ∀ r, o' = some r → mm_C Λ cc nL own ret d enc q ls (.int r :: st) M (g r)) : mm_C Λ cc nL own ret d enc pc ls stk M (o'.bind g) := mm_callV hΛ hc E hsite hn hdep hst hstk hd hq k
theorem mm_callVQ {y : MethodName} {cc' : ByteArray} {nL' d' n ix : Nat} {ret' : Option FieldType} {as stk : List Value} {o' : Option (Int64)} {g : Int64 → Option α} {b ci N : Nat} {fs : List (Option Nat)} {T : u_T} (hΛ : Λ[b]? = some (.inr (.inr (ci, fs)))) (hc : vwCl[ci]? = some (y.cls, T, N)) (E : mm_E Λ y cc' nL' ret' d' (mm_pL M) (.ref b :: as) M o') (hsite : mm_sV own ix y cc' nL' ret' n) (hn : as.length = n) (hdep : d' + 1 ≤ d) (hst : (st.map fun v => v.category).sum ≤ 8) (hstk : stk = as.reverse ++ .ref b :: st) (hd : decode cc pc = .ok (.invokevirtual ix, 3)) (hq : pc + 3 = q) (k : ∀ r, o' = some r → mm_C Λ cc nL own ret d enc q ls (.long r :: st) M (g r)) : mm_C Λ cc nL own ret d enc pc ls stk M (o'.bind g) := mm_callV hΛ hc E hsite hn hdep hst hstk hd hq k
theorem mm_callVT {y : MethodName} {cc' : ByteArray} {nL' d' n ix : Nat} {ret' : Option FieldType} {as stk : List Value} {t : Int32} {b ci N : Nat} {fs : List (Option Nat)} {T : u_T} (hΛ : Λ[b]? = some (.inr (.inr (ci, fs)))) (hc : vwCl[ci]? = some (y.cls, T, N)) (E : mm_E Λ y cc' nL' ret' d' (mm_pI M) (.ref b :: as) M (some t)) (hsite : mm_sV own ix y cc' nL' ret' n) (hn : as.length = n) (hdep : d' + 1 ≤ d) (hst : (st.map fun v => v.category).sum ≤ 8) (hstk : stk = as.reverse ++ .ref b :: st) (hd : decode cc pc = .ok (.invokevirtual ix, 3)) (hq : pc + 3 = q) (k : mm_C Λ cc nL own ret d enc q ls (.int t :: st) M o) : mm_C Λ cc nL own ret d enc pc ls stk M o := by
  have h := mm_callV (g := fun _ => o) hΛ hc E hsite hn hdep hst hstk hd hq (fun r hr => by cases hr; exact k)
  exact h
theorem mm_callVU {y : MethodName} {cc' : ByteArray} {nL' d' n ix : Nat} {ret' : Option FieldType} {as stk : List Value} {t : Int64} {b ci N : Nat} {fs : List (Option Nat)} {T : u_T} (hΛ : Λ[b]? = some (.inr (.inr (ci, fs)))) (hc : vwCl[ci]? = some (y.cls, T, N)) (E : mm_E Λ y cc' nL' ret' d' (mm_pL M) (.ref b :: as) M (some t)) (hsite : mm_sV own ix y cc' nL' ret' n) (hn : as.length = n) (hdep : d' + 1 ≤ d) (hst : (st.map fun v => v.category).sum ≤ 8) (hstk : stk = as.reverse ++ .ref b :: st) (hd : decode cc pc = .ok (.invokevirtual ix, 3)) (hq : pc + 3 = q) (k : mm_C Λ cc nL own ret d enc q ls (.long t :: st) M o) : mm_C Λ cc nL own ret d enc pc ls stk M o := by
  have h := mm_callV (g := fun _ => o) hΛ hc E hsite hn hdep hst hstk hd hq (fun r hr => by cases hr; exact k)
  exact h
theorem mm_callS {β : Type} {y : MethodName} {cc' : ByteArray} {nL' d' n ix : Nat} {ret' : Option FieldType} {enc' : β → Option Value × mm_M} {as stk : List Value} {o' : Option β} {g : β → Option α} (E : mm_E Λ y cc' nL' ret' d' enc' as M o') (hsite : mm_sS own ix y cc' nL' ret' n) (hn : as.length = n) (hdep : d' + 1 ≤ d) (hst : (st.map fun v => v.category).sum ≤ 8) (hstk : stk = as.reverse ++ st) (hd : decode cc pc = .ok (.invokestatic ix, 3)) (hq : pc + 3 = q) (k : ∀ r, o' = some r → mm_C Λ cc nL own ret d enc q ls ((enc' r).1.toList ++ st) (enc' r).2 (g r)) : mm_C Λ cc nL own ret d enc pc ls stk M (o'.bind g) := by
  subst hq
  subst hstk
  intro a ha p l e s m args below meth c D cA ad H locs sl hC hX hP hS hL
  cases ho : o' with
  | none => rw [ho] at ha; cases ha
  | some r =>
    rw [ho] at ha
    have hM := E r ho l D cA ad
    obtain ⟨w1, w2, w4, w5, w6, w7⟩ := hsite
    have hR : (mm_R d').frames + 1 ≤ (mm_R d).frames ∧ 8 + (nL' + 11) + (mm_R d').locals ≤ (mm_R d).locals := ⟨hdep, by show 8 + (nL' + 11) + 40 * d' ≤ 40 * d; omega⟩
    refine mm_after (va_runS (As := as.map (mm_cv ad)) (rest := st.map (mm_cv ad)) hC.fix hM ⟨callB_of n hC.2.2.2.2.1 (mm_tb_good w5) rfl rfl rfl (hC.ts w4) (hC.ts w1) w6 hR, hC.ts w2⟩ ⟨mm_blind (as := as), fun U hU hW => ⟨by simp [mm_cv], hX.on (locs := locs) hW (by rw [hU]; exact hS), by rw [hU]; exact hP⟩⟩ rfl (by rw [List.length_map]; exact hn) hL.1 (by simp [mm_cv]) (lv_room (by rw [mm_cats]; exact hst)) hd ⟨Nat.zero_le _, Nat.zero_le _⟩) hS (fun H1 locs1 hP1 hS1 => ?_)
    have hk := k r ho a ha p l e s m args below meth c D cA ad H1 locs1 sl hC hX hP1 hS1 hL
    rw [List.map_append] at hk
    rwa [show (Option.map (mm_cv ad) (enc' r).1).toList = (enc' r).1.toList.map (mm_cv ad) by cases (enc' r).1 <;> rfl]
theorem mm_callSI {y : MethodName} {cc' : ByteArray} {nL' d' n ix : Nat} {ret' : Option FieldType} {as stk : List Value} {o' : Option (Int32 × mm_M)} {g : Int32 × mm_M → Option α} (E : mm_E Λ y cc' nL' ret' d' mm_eI as M o') (hsite : mm_sS own ix y cc' nL' ret' n) (hn : as.length = n) (hdep : d' + 1 ≤ d) (hst : (st.map fun v => v.category).sum ≤ 8) (hstk : stk = as.reverse ++ st) (hd : decode cc pc = .ok (.invokestatic ix, 3)) (hq : pc + 3 = q) (k : ∀ r, o' = some r → mm_C Λ cc nL own ret d enc q ls (.int r.1 :: st) r.2 (g r)) : mm_C Λ cc nL own ret d enc pc ls stk M (o'.bind g) := mm_callS E hsite hn hdep hst hstk hd hq k
theorem mm_callSV {y : MethodName} {cc' : ByteArray} {nL' d' n ix : Nat} {ret' : Option FieldType} {as stk : List Value} {o' : Option (mm_M)} {g : mm_M → Option α} (E : mm_E Λ y cc' nL' ret' d' mm_eV as M o') (hsite : mm_sS own ix y cc' nL' ret' n) (hn : as.length = n) (hdep : d' + 1 ≤ d) (hst : (st.map fun v => v.category).sum ≤ 8) (hstk : stk = as.reverse ++ st) (hd : decode cc pc = .ok (.invokestatic ix, 3)) (hq : pc + 3 = q) (k : ∀ r, o' = some r → mm_C Λ cc nL own ret d enc q ls st r (g r)) : mm_C Λ cc nL own ret d enc pc ls stk M (o'.bind g) := mm_callS E hsite hn hdep hst hstk hd hq k
theorem mm_callSL {y : MethodName} {cc' : ByteArray} {nL' d' n ix : Nat} {ret' : Option FieldType} {as stk : List Value} {o' : Option (Int64 × mm_M)} {g : Int64 × mm_M → Option α} (E : mm_E Λ y cc' nL' ret' d' mm_eL as M o') (hsite : mm_sS own ix y cc' nL' ret' n) (hn : as.length = n) (hdep : d' + 1 ≤ d) (hst : (st.map fun v => v.category).sum ≤ 8) (hstk : stk = as.reverse ++ st) (hd : decode cc pc = .ok (.invokestatic ix, 3)) (hq : pc + 3 = q) (k : ∀ r, o' = some r → mm_C Λ cc nL own ret d enc q ls (.long r.1 :: st) r.2 (g r)) : mm_C Λ cc nL own ret d enc pc ls stk M (o'.bind g) := mm_callS E hsite hn hdep hst hstk hd hq k
theorem mm_callSP {y : MethodName} {cc' : ByteArray} {nL' d' n ix : Nat} {ret' : Option FieldType} {as stk : List Value} {o' : Option (Int32)} {g : Int32 → Option α} (E : mm_E Λ y cc' nL' ret' d' (mm_pI M) as M o') (hsite : mm_sS own ix y cc' nL' ret' n) (hn : as.length = n) (hdep : d' + 1 ≤ d) (hst : (st.map fun v => v.category).sum ≤ 8) (hstk : stk = as.reverse ++ st) (hd : decode cc pc = .ok (.invokestatic ix, 3)) (hq : pc + 3 = q) (k : ∀ r, o' = some r → mm_C Λ cc nL own ret d enc q ls (.int r :: st) M (g r)) : mm_C Λ cc nL own ret d enc pc ls stk M (o'.bind g) := mm_callS E hsite hn hdep hst hstk hd hq k
theorem mm_callSQ {y : MethodName} {cc' : ByteArray} {nL' d' n ix : Nat} {ret' : Option FieldType} {as stk : List Value} {o' : Option (Int64)} {g : Int64 → Option α} (E : mm_E Λ y cc' nL' ret' d' (mm_pL M) as M o') (hsite : mm_sS own ix y cc' nL' ret' n) (hn : as.length = n) (hdep : d' + 1 ≤ d) (hst : (st.map fun v => v.category).sum ≤ 8) (hstk : stk = as.reverse ++ st) (hd : decode cc pc = .ok (.invokestatic ix, 3)) (hq : pc + 3 = q) (k : ∀ r, o' = some r → mm_C Λ cc nL own ret d enc q ls (.long r :: st) M (g r)) : mm_C Λ cc nL own ret d enc pc ls stk M (o'.bind g) := mm_callS E hsite hn hdep hst hstk hd hq k
theorem mm_callST {y : MethodName} {cc' : ByteArray} {nL' d' n ix : Nat} {ret' : Option FieldType} {as stk : List Value} {t : Int32} (E : mm_E Λ y cc' nL' ret' d' (mm_pI M) as M (some t)) (hsite : mm_sS own ix y cc' nL' ret' n) (hn : as.length = n) (hdep : d' + 1 ≤ d) (hst : (st.map fun v => v.category).sum ≤ 8) (hstk : stk = as.reverse ++ st) (hd : decode cc pc = .ok (.invokestatic ix, 3)) (hq : pc + 3 = q) (k : mm_C Λ cc nL own ret d enc q ls (.int t :: st) M o) : mm_C Λ cc nL own ret d enc pc ls stk M o := by
  have h := mm_callS (g := fun _ => o) E hsite hn hdep hst hstk hd hq (fun r hr => by cases hr; exact k)
  exact h
theorem mm_callSU {y : MethodName} {cc' : ByteArray} {nL' d' n ix : Nat} {ret' : Option FieldType} {as stk : List Value} {t : Int64} (E : mm_E Λ y cc' nL' ret' d' (mm_pL M) as M (some t)) (hsite : mm_sS own ix y cc' nL' ret' n) (hn : as.length = n) (hdep : d' + 1 ≤ d) (hst : (st.map fun v => v.category).sum ≤ 8) (hstk : stk = as.reverse ++ st) (hd : decode cc pc = .ok (.invokestatic ix, 3)) (hq : pc + 3 = q) (k : mm_C Λ cc nL own ret d enc q ls (.long t :: st) M o) : mm_C Λ cc nL own ret d enc pc ls stk M o := by
  have h := mm_callS (g := fun _ => o) E hsite hn hdep hst hstk hd hq (fun r hr => by cases hr; exact k)
  exact h
theorem mm_callSN {β : Type} {y : MethodName} {cc' : ByteArray} {nL' d' n ix : Nat} {ret' : Option FieldType} {enc' : β → Option Value × mm_M} {as stk : List Value} {o' : Option β} {g : β → Option α} (E : mm_E Λ y cc' nL' ret' d' enc' as M o') (hsite : mm_sSN own ix y cc' nL' ret' n) (hn : as.length = n) (hdep : d' + 1 ≤ d) (hst : (st.map fun v => v.category).sum ≤ 8) (hstk : stk = as.reverse ++ st) (hd : decode cc pc = .ok (.invokestatic ix, 3)) (hq : pc + 3 = q) (k : ∀ r, o' = some r → mm_C Λ cc nL own ret d enc q ls ((enc' r).1.toList ++ st) (enc' r).2 (g r)) : mm_C Λ cc nL own ret d enc pc ls stk M (o'.bind g) := by
  subst hq
  subst hstk
  intro a ha p l e s m args below meth c D cA ad H locs sl hC hX hP hS hL
  cases ho : o' with
  | none => rw [ho] at ha; cases ha
  | some r =>
    rw [ho] at ha
    have hM := E r ho l D cA ad
    obtain ⟨⟨host, w1⟩, w2, w4, w5, w6, w7⟩ := hsite
    have hR : (mm_R d').frames + 1 ≤ (mm_R d).frames ∧ 8 + (nL' + 11) + (mm_R d').locals ≤ (mm_R d).locals := ⟨hdep, by show 8 + (nL' + 11) + 40 * d' ≤ 40 * d; omega⟩
    refine mm_after (va_runSN (As := as.map (mm_cv ad)) (rest := st.map (mm_cv ad)) hC.fix hM ⟨va_cnB n hC.2.2.2.2.1 (mm_tb_good w5) rfl rfl rfl (hX.2.1 _ w1 rfl) (hC.ts w4) w6 hR, hC.ts w2, trivial⟩ ⟨mm_blind (as := as), fun U hU hW => ⟨by simp [mm_cv], hX.on (locs := locs) hW (by rw [hU]; exact hS), by rw [hU]; exact hP⟩⟩ rfl (by rw [List.length_map]; exact hn) hL.1 (by simp [mm_cv]) (lv_room (by rw [mm_cats]; exact hst)) hd ⟨Nat.zero_le _, Nat.zero_le _⟩) hS (fun H1 locs1 hP1 hS1 => ?_)
    have hk := k r ho a ha p l e s m args below meth c D cA ad H1 locs1 sl hC hX hP1 hS1 hL
    rw [List.map_append] at hk
    rwa [show (Option.map (mm_cv ad) (enc' r).1).toList = (enc' r).1.toList.map (mm_cv ad) by cases (enc' r).1 <;> rfl]
theorem mm_callSNI {y : MethodName} {cc' : ByteArray} {nL' d' n ix : Nat} {ret' : Option FieldType} {as stk : List Value} {o' : Option (Int32 × mm_M)} {g : Int32 × mm_M → Option α} (E : mm_E Λ y cc' nL' ret' d' mm_eI as M o') (hsite : mm_sSN own ix y cc' nL' ret' n) (hn : as.length = n) (hdep : d' + 1 ≤ d) (hst : (st.map fun v => v.category).sum ≤ 8) (hstk : stk = as.reverse ++ st) (hd : decode cc pc = .ok (.invokestatic ix, 3)) (hq : pc + 3 = q) (k : ∀ r, o' = some r → mm_C Λ cc nL own ret d enc q ls (.int r.1 :: st) r.2 (g r)) : mm_C Λ cc nL own ret d enc pc ls stk M (o'.bind g) := mm_callSN E hsite hn hdep hst hstk hd hq k
theorem mm_callSNV {y : MethodName} {cc' : ByteArray} {nL' d' n ix : Nat} {ret' : Option FieldType} {as stk : List Value} {o' : Option (mm_M)} {g : mm_M → Option α} (E : mm_E Λ y cc' nL' ret' d' mm_eV as M o') (hsite : mm_sSN own ix y cc' nL' ret' n) (hn : as.length = n) (hdep : d' + 1 ≤ d) (hst : (st.map fun v => v.category).sum ≤ 8) (hstk : stk = as.reverse ++ st) (hd : decode cc pc = .ok (.invokestatic ix, 3)) (hq : pc + 3 = q) (k : ∀ r, o' = some r → mm_C Λ cc nL own ret d enc q ls st r (g r)) : mm_C Λ cc nL own ret d enc pc ls stk M (o'.bind g) := mm_callSN E hsite hn hdep hst hstk hd hq k
theorem mm_callSNL {y : MethodName} {cc' : ByteArray} {nL' d' n ix : Nat} {ret' : Option FieldType} {as stk : List Value} {o' : Option (Int64 × mm_M)} {g : Int64 × mm_M → Option α} (E : mm_E Λ y cc' nL' ret' d' mm_eL as M o') (hsite : mm_sSN own ix y cc' nL' ret' n) (hn : as.length = n) (hdep : d' + 1 ≤ d) (hst : (st.map fun v => v.category).sum ≤ 8) (hstk : stk = as.reverse ++ st) (hd : decode cc pc = .ok (.invokestatic ix, 3)) (hq : pc + 3 = q) (k : ∀ r, o' = some r → mm_C Λ cc nL own ret d enc q ls (.long r.1 :: st) r.2 (g r)) : mm_C Λ cc nL own ret d enc pc ls stk M (o'.bind g) := mm_callSN E hsite hn hdep hst hstk hd hq k
theorem mm_callSNP {y : MethodName} {cc' : ByteArray} {nL' d' n ix : Nat} {ret' : Option FieldType} {as stk : List Value} {o' : Option (Int32)} {g : Int32 → Option α} (E : mm_E Λ y cc' nL' ret' d' (mm_pI M) as M o') (hsite : mm_sSN own ix y cc' nL' ret' n) (hn : as.length = n) (hdep : d' + 1 ≤ d) (hst : (st.map fun v => v.category).sum ≤ 8) (hstk : stk = as.reverse ++ st) (hd : decode cc pc = .ok (.invokestatic ix, 3)) (hq : pc + 3 = q) (k : ∀ r, o' = some r → mm_C Λ cc nL own ret d enc q ls (.int r :: st) M (g r)) : mm_C Λ cc nL own ret d enc pc ls stk M (o'.bind g) := mm_callSN E hsite hn hdep hst hstk hd hq k
theorem mm_callSNQ {y : MethodName} {cc' : ByteArray} {nL' d' n ix : Nat} {ret' : Option FieldType} {as stk : List Value} {o' : Option (Int64)} {g : Int64 → Option α} (E : mm_E Λ y cc' nL' ret' d' (mm_pL M) as M o') (hsite : mm_sSN own ix y cc' nL' ret' n) (hn : as.length = n) (hdep : d' + 1 ≤ d) (hst : (st.map fun v => v.category).sum ≤ 8) (hstk : stk = as.reverse ++ st) (hd : decode cc pc = .ok (.invokestatic ix, 3)) (hq : pc + 3 = q) (k : ∀ r, o' = some r → mm_C Λ cc nL own ret d enc q ls (.long r :: st) M (g r)) : mm_C Λ cc nL own ret d enc pc ls stk M (o'.bind g) := mm_callSN E hsite hn hdep hst hstk hd hq k
theorem mm_callSNT {y : MethodName} {cc' : ByteArray} {nL' d' n ix : Nat} {ret' : Option FieldType} {as stk : List Value} {t : Int32} (E : mm_E Λ y cc' nL' ret' d' (mm_pI M) as M (some t)) (hsite : mm_sSN own ix y cc' nL' ret' n) (hn : as.length = n) (hdep : d' + 1 ≤ d) (hst : (st.map fun v => v.category).sum ≤ 8) (hstk : stk = as.reverse ++ st) (hd : decode cc pc = .ok (.invokestatic ix, 3)) (hq : pc + 3 = q) (k : mm_C Λ cc nL own ret d enc q ls (.int t :: st) M o) : mm_C Λ cc nL own ret d enc pc ls stk M o := by
  have h := mm_callSN (g := fun _ => o) E hsite hn hdep hst hstk hd hq (fun r hr => by cases hr; exact k)
  exact h
theorem mm_callSNU {y : MethodName} {cc' : ByteArray} {nL' d' n ix : Nat} {ret' : Option FieldType} {as stk : List Value} {t : Int64} (E : mm_E Λ y cc' nL' ret' d' (mm_pL M) as M (some t)) (hsite : mm_sSN own ix y cc' nL' ret' n) (hn : as.length = n) (hdep : d' + 1 ≤ d) (hst : (st.map fun v => v.category).sum ≤ 8) (hstk : stk = as.reverse ++ st) (hd : decode cc pc = .ok (.invokestatic ix, 3)) (hq : pc + 3 = q) (k : mm_C Λ cc nL own ret d enc q ls (.long t :: st) M o) : mm_C Λ cc nL own ret d enc pc ls stk M o := by
  have h := mm_callSN (g := fun _ => o) E hsite hn hdep hst hstk hd hq (fun r hr => by cases hr; exact k)
  exact h
theorem mm_copy {k0 n0 k1 n1 ix : Nat} {sp dp n : Int32} {g : mm_M → Option α} (hΛ0 : Λ[k0]? = some (.inl n0)) (hΛ1 : Λ[k1]? = some (.inl n1)) (w1 : Cond.methodLink own ix arraycopyName ∈ mm_tb) (w2 : Cond.native arraycopyName ∈ mm_tb) (w3 : Cond.static arraycopyName ∈ mm_tb) (w4 : Cond.initialized "java/lang/System" ∈ mm_tb) (hdep : 1 ≤ d) (hst : (st.map fun v => v.category).sum ≤ 8) (hd : decode cc pc = .ok (.invokestatic ix, 3)) (hq : pc + 3 = q)
    (k : ∀ M', mm_cp M k0 n0 sp k1 n1 dp n = some M' → mm_C Λ cc nL own ret d enc q ls st M' (g M')) : mm_C Λ cc nL own ret d enc pc ls (.int n :: .int dp :: .ref k1 :: .int sp :: .ref k0 :: st) M ((mm_cp M k0 n0 sp k1 n1 dp n).bind g) := by
  subst hq
  intro a ha p l e s m args below meth c D cA ad H locs sl hC hX hP hS hL
  cases hx : mm_cp M k0 n0 sp k1 n1 dp n with
  | none => rw [hx] at ha; cases ha
  | some M' =>
    rw [hx] at ha
    have hx' := hx
    unfold mm_cp at hx
    split at hx
    · cases hx
    · rename_i hb
      cases hx
      simp only [not_or] at hb
      obtain ⟨b1, b2, b3, b4, b5⟩ := hb
      refine va_copyi (ty := .int) hC.1 hC.2.1 (hC.2.2.1.trans hL.1.symm) hC.2.2.2.1 (hC.ts w1) (hC.ts w2) (hC.ts w3) (hC.ts w4) hX.1 hP (mm_D hX.2.2.1) hS k0 k1 0 0 (mm_w_at hΛ0) (mm_w_at hΛ1) rfl rfl rfl b1 b2 b3 (by omega) (by omega) (fun _ _ => rfl) hdep (by rw [mm_cats]; show _ + (7 + 11) ≤ 40 * d; omega) hd (fun H1 locs1 hP1 _ hS1 => ?_)
      rw [mm_w_arr hΛ1] at hP1
      exact k _ hx' a ha p l e s m args below meth c D cA ad H1 locs1 sl hC hX hP1 hS1 hL
def mm_dr (i : Int32) : Option Int32 := if i < 0 ∨ 4 ≤ i.toNatClampNeg then none else some (([0, 6, 13, 23] : List Int32).getD i.toNatClampNeg 0)
theorem mm_gets {ix : Nat} (hw : Cond.fieldLink own ix "WordsLent" "DIGEST_DAYS" "[I" ∈ mm_tb) (hd : decode cc pc = .ok (.getstatic ix, 3)) (hq : pc + 3 = q) (k : mm_C Λ cc nL own ret d enc q ls (.ref 1000 :: st) M o) : mm_C Λ cc nL own ret d enc pc ls st M o := by
  subst hq
  intro a ha p l e s m args below meth c D cA ad H locs sl hC hX hP hS hL
  exact va_gets hC.1 hC.2.1 hX.2.2.2.1 hS hC.2.2.2.1 (hC.ts hw) (fun _ h => h) hd (k a ha p l e s m args below meth c D cA ad H locs sl hC hX hP hS hL)
theorem mm_glen (hd : decode cc pc = .ok (.arraylength, 1)) (hq : pc + 1 = q) (k : mm_C Λ cc nL own ret d enc q ls (.int 4 :: st) M o) : mm_C Λ cc nL own ret d enc pc ls (.ref 1000 :: st) M o := by
  subst hq
  intro a ha p l e s m args below meth c D cA ad H locs sl hC hX hP hS hL
  exact va_tlen hC.1 hC.2.1 hX.2.2.2.2 hS rfl hd (k a ha p l e s m args below meth c D cA ad H locs sl hC hX hP hS hL)
theorem mm_gld {i : Int32} {g : Int32 → Option α} (hd : decode cc pc = .ok (.iaload, 1)) (hq : pc + 1 = q) (k : ∀ x, mm_dr i = some x → mm_C Λ cc nL own ret d enc q ls (.int x :: st) M (g x)) : mm_C Λ cc nL own ret d enc pc ls (.int i :: .ref 1000 :: st) M ((mm_dr i).bind g) := by
  subst hq
  intro a ha p l e s m args below meth c D cA ad H locs sl hC hX hP hS hL
  cases hx : mm_dr i with
  | none => rw [hx] at ha; cases ha
  | some x =>
    rw [hx] at ha
    have hx' := hx
    unfold mm_dr at hx
    split at hx
    · cases hx
    · rename_i hb
      cases hx
      exact va_ti hC.1 hC.2.1 hX.2.2.2.2 hS hb rfl hd (k _ hx' a ha p l e s m args below meth c D cA ad H locs sl hC hX hP hS hL)
theorem mm_tswI {x : Int32} {v dflt lo hi off : Int} {offs : Array Int} {len tgt : Nat} (hx : x.toInt = v) (hd : decode cc pc = .ok (.tableswitch dflt lo hi offs, len)) (h1 : ¬ v < lo) (h2 : ¬ hi < v) (ho : offs[(v - lo).toNat]? = some off) (ht : (pc : Int) + off = (tgt : Int)) (k : mm_C Λ cc nL own ret d enc tgt ls st M o) : mm_C Λ cc nL own ret d enc pc ls (.int x :: st) M o := by
  subst hx
  intro a ha p l e s m args below meth c D cA ad H locs sl hC hX hP hS hL
  exact lv_tableIn hC.1 hC.2.1 hd h1 h2 ho ht (k a ha p l e s m args below meth c D cA ad H locs sl hC hX hP hS hL)
theorem mm_tswO {x : Int32} {dflt lo hi : Int} {offs : Array Int} {len tgt : Nat} (hx : x.toInt < lo ∨ hi < x.toInt) (hd : decode cc pc = .ok (.tableswitch dflt lo hi offs, len)) (ht : (pc : Int) + dflt = (tgt : Int)) (k : mm_C Λ cc nL own ret d enc tgt ls st M o) : mm_C Λ cc nL own ret d enc pc ls (.int x :: st) M o := by
  intro a ha p l e s m args below meth c D cA ad H locs sl hC hX hP hS hL
  exact lv_tableOut hC.1 hC.2.1 hd hx ht (k a ha p l e s m args below meth c D cA ad H locs sl hC hX hP hS hL)
theorem mm_lsw {x : Int32} {dflt off : Int} {ps : Array (Int × Int)} {len tgt : Nat} (hd : decode cc pc = .ok (.lookupswitch dflt ps, len)) (hp : (ps.toList.zip (ps.toList.drop 1)).all (fun (a, next) => a.1 < next.1) = true) (ho : Op.lookupswitch.offset ps.toList dflt x.toInt = off) (ht : (pc : Int) + off = (tgt : Int)) (k : mm_C Λ cc nL own ret d enc tgt ls st M o) : mm_C Λ cc nL own ret d enc pc ls (.int x :: st) M o := by
  intro a ha p l e s m args below meth c D cA ad H locs sl hC hX hP hS hL
  exact lv_lookup hC.1 hC.2.1 hd hp ho ht (k a ha p l e s m args below meth c D cA ad H locs sl hC hX hP hS hL)
end MMR
end
section
theorem nt_all : lw_tbl = k2_sels lw_privs ++ (tables_1_1 ++ (tables_1_2 ++ (tables_1_3 ++ (tables_1_4 ++ (tables_1_5 ++ tables_1_6))))) := rfl
theorem nt_len : tables_1_1.length = 200 := by decide +kernel
theorem nt_143 : Cond.fieldLinkNest RX1 119 "WordsLent$Told" "sorts" "[I" "WordsLent" ∈ lw_tbl := List.mem_of_getElem? (i := 143) (by decide +kernel)
theorem nt_667 : Cond.constantLong RX6 227 (-9223372036854775806 : Int64) ∈ mm_tb := mm_tb_in (List.mem_of_getElem? (i := 667) (by decide +kernel)) rfl
theorem nt_341 : Cond.instanceMethod yX4_meaning ∈ mm_tb := mm_tb_in (List.mem_of_getElem? (i := 341) (by decide +kernel)) rfl
theorem nt_435 : Cond.instanceMethod yX2_append ∈ mm_tb := mm_tb_in (List.mem_of_getElem? (i := 435) (by decide +kernel)) rfl
theorem nt_517 : Cond.instanceMethod yX1_leftBehind ∈ mm_tb := mm_tb_in (List.mem_of_getElem? (i := 517) (by decide +kernel)) rfl
theorem nt_636 : Cond.instanceMethod yX0_comesOut ∈ mm_tb := mm_tb_in (List.mem_of_getElem? (i := 636) (by decide +kernel)) rfl
theorem nt_647 : Cond.code yX6_lent cX6_lent 4 (some .int) ∈ mm_tb := mm_tb_in (List.mem_of_getElem? (i := 647) (by decide +kernel)) rfl
theorem nt_876 : Cond.static yX7_isSheet ∈ mm_tb := mm_tb_in (List.mem_of_getElem? (i := 876) (by decide +kernel)) rfl
theorem nt_993 : Cond.instanceMethod yX7_echo ∈ mm_tb := mm_tb_in (List.mem_of_getElem? (i := 993) (by decide +kernel)) rfl
theorem nt_44 : Cond.selects RX7 yX7_bankOf yX7_bankOf ∈ mm_tb := mm_tb_in (List.mem_of_getElem? (i := 44) (by decide +kernel)) rfl
end
