section
-- ===== PART A: goes FIRST, ahead of the names: the tables' words, and 'selects' of the private methods out of them =====
/-- a private method of a class that the tables say can be made, by its rows of tables_1 -/
def lw_okq (q : MethodName × Nat) : Prop := (q.1.cls ≠ "java/lang/invoke/MethodHandle" ∧ q.1.cls ≠ "java/lang/invoke/VarHandle") ∧ Cond.instantiable q.1.cls q.2 ∈ tables_1 ∧ Cond.privateMethod q.1 ∈ tables_1 ∧ Cond.instanceMethod q.1 ∈ tables_1
theorem lw_p0 : lw_okq (⟨"RoadOfDoors", "outlookChanged", "()V"⟩, 9) := ⟨⟨by decide +kernel, by decide +kernel⟩, List.mem_of_getElem? (i := 19) (by decide +kernel), List.mem_of_getElem? (i := 381) (by decide +kernel), List.mem_of_getElem? (i := 382) (by decide +kernel)⟩
theorem lw_p1 : lw_okq (⟨"RoadOfDoors", "isDoor", "(I)Z"⟩, 9) := ⟨⟨by decide +kernel, by decide +kernel⟩, List.mem_of_getElem? (i := 19) (by decide +kernel), List.mem_of_getElem? (i := 397) (by decide +kernel), List.mem_of_getElem? (i := 398) (by decide +kernel)⟩
theorem lw_p2 : lw_okq (⟨"RoadOfDoors$Tape", "byteAt", "(I)I"⟩, 6) := ⟨⟨by decide +kernel, by decide +kernel⟩, List.mem_of_getElem? (i := 166) (by decide +kernel), List.mem_of_getElem? (i := 441) (by decide +kernel), List.mem_of_getElem? (i := 442) (by decide +kernel)⟩
theorem lw_p3 : lw_okq (⟨"RoadOfDoors$Tape", "readWord", "()V"⟩, 6) := ⟨⟨by decide +kernel, by decide +kernel⟩, List.mem_of_getElem? (i := 166) (by decide +kernel), List.mem_of_getElem? (i := 453) (by decide +kernel), List.mem_of_getElem? (i := 454) (by decide +kernel)⟩
theorem lw_p4 : lw_okq (⟨"RoadOfDoors$Tape", "nameSpelt", "()I"⟩, 6) := ⟨⟨by decide +kernel, by decide +kernel⟩, List.mem_of_getElem? (i := 166) (by decide +kernel), List.mem_of_getElem? (i := 457) (by decide +kernel), List.mem_of_getElem? (i := 458) (by decide +kernel)⟩
theorem lw_p5 : lw_okq (⟨"RoadOfDoors$Tape", "spells", "(Ljava/lang/String;)Z"⟩, 6) := ⟨⟨by decide +kernel, by decide +kernel⟩, List.mem_of_getElem? (i := 166) (by decide +kernel), List.mem_of_getElem? (i := 462) (by decide +kernel), List.mem_of_getElem? (i := 463) (by decide +kernel)⟩
theorem lw_p6 : lw_okq (⟨"RoadOfDoors$Tape", "wordSpelt", "()I"⟩, 6) := ⟨⟨by decide +kernel, by decide +kernel⟩, List.mem_of_getElem? (i := 166) (by decide +kernel), List.mem_of_getElem? (i := 521) (by decide +kernel), List.mem_of_getElem? (i := 522) (by decide +kernel)⟩
theorem lw_p7 : lw_okq (⟨"RoadOfDoors$Tape", "readNumber", "()V"⟩, 6) := ⟨⟨by decide +kernel, by decide +kernel⟩, List.mem_of_getElem? (i := 166) (by decide +kernel), List.mem_of_getElem? (i := 535) (by decide +kernel), List.mem_of_getElem? (i := 536) (by decide +kernel)⟩
theorem lw_p8 : lw_okq (⟨"RoadOfDoors$Reader", "take", "(I)V"⟩, 10) := ⟨⟨by decide +kernel, by decide +kernel⟩, List.mem_of_getElem? (i := 272) (by decide +kernel), List.mem_of_getElem? (i := 545) (by decide +kernel), List.mem_of_getElem? (i := 546) (by decide +kernel)⟩
theorem lw_p9 : lw_okq (⟨"RoadOfDoors$Reader", "takeClause", "(I)V"⟩, 10) := ⟨⟨by decide +kernel, by decide +kernel⟩, List.mem_of_getElem? (i := 272) (by decide +kernel), List.mem_of_getElem? (i := 549) (by decide +kernel), List.mem_of_getElem? (i := 550) (by decide +kernel)⟩
theorem lw_p10 : lw_okq (⟨"RoadOfDoors$Reader", "refuse", "(I)V"⟩, 10) := ⟨⟨by decide +kernel, by decide +kernel⟩, List.mem_of_getElem? (i := 272) (by decide +kernel), List.mem_of_getElem? (i := 553) (by decide +kernel), List.mem_of_getElem? (i := 554) (by decide +kernel)⟩
theorem lw_p11 : lw_okq (⟨"RoadOfDoors$Reader", "takeNumber", "(III)V"⟩, 10) := ⟨⟨by decide +kernel, by decide +kernel⟩, List.mem_of_getElem? (i := 272) (by decide +kernel), List.mem_of_getElem? (i := 561) (by decide +kernel), List.mem_of_getElem? (i := 562) (by decide +kernel)⟩
theorem lw_p12 : lw_okq (⟨"RoadOfDoors$Reader", "takeSign", "(II)V"⟩, 10) := ⟨⟨by decide +kernel, by decide +kernel⟩, List.mem_of_getElem? (i := 272) (by decide +kernel), List.mem_of_getElem? (i := 571) (by decide +kernel), List.mem_of_getElem? (i := 572) (by decide +kernel)⟩
theorem lw_p13 : lw_okq (⟨"RoadOfDoors$Reader", "takeOne", "(I)V"⟩, 10) := ⟨⟨by decide +kernel, by decide +kernel⟩, List.mem_of_getElem? (i := 272) (by decide +kernel), List.mem_of_getElem? (i := 579) (by decide +kernel), List.mem_of_getElem? (i := 580) (by decide +kernel)⟩
theorem lw_p14 : lw_okq (⟨"RoadOfDoors$Reader", "nest", "(I)V"⟩, 10) := ⟨⟨by decide +kernel, by decide +kernel⟩, List.mem_of_getElem? (i := 272) (by decide +kernel), List.mem_of_getElem? (i := 583) (by decide +kernel), List.mem_of_getElem? (i := 584) (by decide +kernel)⟩
theorem lw_p15 : lw_okq (⟨"RoadOfDoors$Reader", "put", "(I)V"⟩, 10) := ⟨⟨by decide +kernel, by decide +kernel⟩, List.mem_of_getElem? (i := 272) (by decide +kernel), List.mem_of_getElem? (i := 587) (by decide +kernel), List.mem_of_getElem? (i := 588) (by decide +kernel)⟩
def lw_privs_1 : List (MethodName × Nat) := [(⟨"RoadOfDoors", "outlookChanged", "()V"⟩, 9), (⟨"RoadOfDoors", "isDoor", "(I)Z"⟩, 9), (⟨"RoadOfDoors$Tape", "byteAt", "(I)I"⟩, 6), (⟨"RoadOfDoors$Tape", "readWord", "()V"⟩, 6), (⟨"RoadOfDoors$Tape", "nameSpelt", "()I"⟩, 6), (⟨"RoadOfDoors$Tape", "spells", "(Ljava/lang/String;)Z"⟩, 6), (⟨"RoadOfDoors$Tape", "wordSpelt", "()I"⟩, 6), (⟨"RoadOfDoors$Tape", "readNumber", "()V"⟩, 6), (⟨"RoadOfDoors$Reader", "take", "(I)V"⟩, 10), (⟨"RoadOfDoors$Reader", "takeClause", "(I)V"⟩, 10), (⟨"RoadOfDoors$Reader", "refuse", "(I)V"⟩, 10), (⟨"RoadOfDoors$Reader", "takeNumber", "(III)V"⟩, 10), (⟨"RoadOfDoors$Reader", "takeSign", "(II)V"⟩, 10), (⟨"RoadOfDoors$Reader", "takeOne", "(I)V"⟩, 10), (⟨"RoadOfDoors$Reader", "nest", "(I)V"⟩, 10), (⟨"RoadOfDoors$Reader", "put", "(I)V"⟩, 10)]
theorem lw_r1 : ∀ q ∈ lw_privs_1, lw_okq q := List.forall_mem_cons.mpr ⟨lw_p0, List.forall_mem_cons.mpr ⟨lw_p1, List.forall_mem_cons.mpr ⟨lw_p2, List.forall_mem_cons.mpr ⟨lw_p3, List.forall_mem_cons.mpr ⟨lw_p4, List.forall_mem_cons.mpr ⟨lw_p5, List.forall_mem_cons.mpr ⟨lw_p6, List.forall_mem_cons.mpr ⟨lw_p7, List.forall_mem_cons.mpr ⟨lw_p8, List.forall_mem_cons.mpr ⟨lw_p9, List.forall_mem_cons.mpr ⟨lw_p10, List.forall_mem_cons.mpr ⟨lw_p11, List.forall_mem_cons.mpr ⟨lw_p12, List.forall_mem_cons.mpr ⟨lw_p13, List.forall_mem_cons.mpr ⟨lw_p14, List.forall_mem_cons.mpr ⟨lw_p15, fun _ h => absurd h List.not_mem_nil⟩⟩⟩⟩⟩⟩⟩⟩⟩⟩⟩⟩⟩⟩⟩⟩
theorem lw_p16 : lw_okq (⟨"RoadOfDoors$Reader", "atAsk", "()Z"⟩, 10) := ⟨⟨by decide +kernel, by decide +kernel⟩, List.mem_of_getElem? (i := 272) (by decide +kernel), List.mem_of_getElem? (i := 591) (by decide +kernel), List.mem_of_getElem? (i := 592) (by decide +kernel)⟩
theorem lw_p17 : lw_okq (⟨"RoadOfDoors$Reader", "pileAt", "(I)I"⟩, 10) := ⟨⟨by decide +kernel, by decide +kernel⟩, List.mem_of_getElem? (i := 272) (by decide +kernel), List.mem_of_getElem? (i := 595) (by decide +kernel), List.mem_of_getElem? (i := 596) (by decide +kernel)⟩
theorem lw_p18 : lw_okq (⟨"RoadOfDoors$Reader", "endOne", "()V"⟩, 10) := ⟨⟨by decide +kernel, by decide +kernel⟩, List.mem_of_getElem? (i := 272) (by decide +kernel), List.mem_of_getElem? (i := 607) (by decide +kernel), List.mem_of_getElem? (i := 608) (by decide +kernel)⟩
theorem lw_p19 : lw_okq (⟨"RoadOfDoors$Reader", "joinDownTo", "(I)V"⟩, 10) := ⟨⟨by decide +kernel, by decide +kernel⟩, List.mem_of_getElem? (i := 272) (by decide +kernel), List.mem_of_getElem? (i := 611) (by decide +kernel), List.mem_of_getElem? (i := 612) (by decide +kernel)⟩
theorem lw_p20 : lw_okq (⟨"RoadOfDoors$Reader", "takeBehindOne", "(I)V"⟩, 10) := ⟨⟨by decide +kernel, by decide +kernel⟩, List.mem_of_getElem? (i := 272) (by decide +kernel), List.mem_of_getElem? (i := 619) (by decide +kernel), List.mem_of_getElem? (i := 620) (by decide +kernel)⟩
theorem lw_p21 : lw_okq (⟨"RoadOfDoors$Reader", "join", "(II)V"⟩, 10) := ⟨⟨by decide +kernel, by decide +kernel⟩, List.mem_of_getElem? (i := 272) (by decide +kernel), List.mem_of_getElem? (i := 623) (by decide +kernel), List.mem_of_getElem? (i := 624) (by decide +kernel)⟩
theorem lw_p22 : lw_okq (⟨"RoadOfDoors$Reader", "close", "()V"⟩, 10) := ⟨⟨by decide +kernel, by decide +kernel⟩, List.mem_of_getElem? (i := 272) (by decide +kernel), List.mem_of_getElem? (i := 627) (by decide +kernel), List.mem_of_getElem? (i := 628) (by decide +kernel)⟩
theorem lw_p23 : lw_okq (⟨"RoadOfDoors", "isKnock", "(IIIII)Z"⟩, 9) := ⟨⟨by decide +kernel, by decide +kernel⟩, List.mem_of_getElem? (i := 19) (by decide +kernel), List.mem_of_getElem? (i := 643) (by decide +kernel), List.mem_of_getElem? (i := 644) (by decide +kernel)⟩
theorem lw_p24 : lw_okq (⟨"RoadOfDoors$Rules", "face", "(III)V"⟩, 7) := ⟨⟨by decide +kernel, by decide +kernel⟩, List.mem_of_getElem? (i := 196) (by decide +kernel), List.mem_of_getElem? (i := 655) (by decide +kernel), List.mem_of_getElem? (i := 656) (by decide +kernel)⟩
theorem lw_p25 : lw_okq (⟨"RoadOfDoors$Rules", "holds", "(LRoadOfDoors$Text;)Z"⟩, 7) := ⟨⟨by decide +kernel, by decide +kernel⟩, List.mem_of_getElem? (i := 196) (by decide +kernel), List.mem_of_getElem? (i := 659) (by decide +kernel), List.mem_of_getElem? (i := 660) (by decide +kernel)⟩
theorem lw_p26 : lw_okq (⟨"RoadOfDoors", "isTraveller", "(IIII)Z"⟩, 9) := ⟨⟨by decide +kernel, by decide +kernel⟩, List.mem_of_getElem? (i := 19) (by decide +kernel), List.mem_of_getElem? (i := 674) (by decide +kernel), List.mem_of_getElem? (i := 675) (by decide +kernel)⟩
theorem lw_p27 : lw_okq (⟨"RoadOfDoors", "canKnock", "(II)Z"⟩, 9) := ⟨⟨by decide +kernel, by decide +kernel⟩, List.mem_of_getElem? (i := 19) (by decide +kernel), List.mem_of_getElem? (i := 686) (by decide +kernel), List.mem_of_getElem? (i := 687) (by decide +kernel)⟩
theorem lw_p28 : lw_okq (⟨"RoadOfDoors", "knocked", "(II)Z"⟩, 9) := ⟨⟨by decide +kernel, by decide +kernel⟩, List.mem_of_getElem? (i := 19) (by decide +kernel), List.mem_of_getElem? (i := 690) (by decide +kernel), List.mem_of_getElem? (i := 691) (by decide +kernel)⟩
theorem lw_p29 : lw_okq (⟨"RoadOfDoors", "canWait", "(I)Z"⟩, 9) := ⟨⟨by decide +kernel, by decide +kernel⟩, List.mem_of_getElem? (i := 19) (by decide +kernel), List.mem_of_getElem? (i := 717) (by decide +kernel), List.mem_of_getElem? (i := 718) (by decide +kernel)⟩
theorem lw_p30 : lw_okq (⟨"RoadOfDoors", "waited", "(I)V"⟩, 9) := ⟨⟨by decide +kernel, by decide +kernel⟩, List.mem_of_getElem? (i := 19) (by decide +kernel), List.mem_of_getElem? (i := 721) (by decide +kernel), List.mem_of_getElem? (i := 722) (by decide +kernel)⟩
theorem lw_p31 : lw_okq (⟨"RoadOfDoors", "clauseDone", "(II)Z"⟩, 9) := ⟨⟨by decide +kernel, by decide +kernel⟩, List.mem_of_getElem? (i := 19) (by decide +kernel), List.mem_of_getElem? (i := 729) (by decide +kernel), List.mem_of_getElem? (i := 730) (by decide +kernel)⟩
def lw_privs_2 : List (MethodName × Nat) := [(⟨"RoadOfDoors$Reader", "atAsk", "()Z"⟩, 10), (⟨"RoadOfDoors$Reader", "pileAt", "(I)I"⟩, 10), (⟨"RoadOfDoors$Reader", "endOne", "()V"⟩, 10), (⟨"RoadOfDoors$Reader", "joinDownTo", "(I)V"⟩, 10), (⟨"RoadOfDoors$Reader", "takeBehindOne", "(I)V"⟩, 10), (⟨"RoadOfDoors$Reader", "join", "(II)V"⟩, 10), (⟨"RoadOfDoors$Reader", "close", "()V"⟩, 10), (⟨"RoadOfDoors", "isKnock", "(IIIII)Z"⟩, 9), (⟨"RoadOfDoors$Rules", "face", "(III)V"⟩, 7), (⟨"RoadOfDoors$Rules", "holds", "(LRoadOfDoors$Text;)Z"⟩, 7), (⟨"RoadOfDoors", "isTraveller", "(IIII)Z"⟩, 9), (⟨"RoadOfDoors", "canKnock", "(II)Z"⟩, 9), (⟨"RoadOfDoors", "knocked", "(II)Z"⟩, 9), (⟨"RoadOfDoors", "canWait", "(I)Z"⟩, 9), (⟨"RoadOfDoors", "waited", "(I)V"⟩, 9), (⟨"RoadOfDoors", "clauseDone", "(II)Z"⟩, 9)]
theorem lw_r2 : ∀ q ∈ lw_privs_2, lw_okq q := List.forall_mem_cons.mpr ⟨lw_p16, List.forall_mem_cons.mpr ⟨lw_p17, List.forall_mem_cons.mpr ⟨lw_p18, List.forall_mem_cons.mpr ⟨lw_p19, List.forall_mem_cons.mpr ⟨lw_p20, List.forall_mem_cons.mpr ⟨lw_p21, List.forall_mem_cons.mpr ⟨lw_p22, List.forall_mem_cons.mpr ⟨lw_p23, List.forall_mem_cons.mpr ⟨lw_p24, List.forall_mem_cons.mpr ⟨lw_p25, List.forall_mem_cons.mpr ⟨lw_p26, List.forall_mem_cons.mpr ⟨lw_p27, List.forall_mem_cons.mpr ⟨lw_p28, List.forall_mem_cons.mpr ⟨lw_p29, List.forall_mem_cons.mpr ⟨lw_p30, List.forall_mem_cons.mpr ⟨lw_p31, fun _ h => absurd h List.not_mem_nil⟩⟩⟩⟩⟩⟩⟩⟩⟩⟩⟩⟩⟩⟩⟩⟩
theorem lw_p32 : lw_okq (⟨"RoadOfDoors$Rules", "searched", "(LRoadOfDoors$Text;)J"⟩, 7) := ⟨⟨by decide +kernel, by decide +kernel⟩, List.mem_of_getElem? (i := 196) (by decide +kernel), List.mem_of_getElem? (i := 761) (by decide +kernel), List.mem_of_getElem? (i := 762) (by decide +kernel)⟩
theorem lw_p33 : lw_okq (⟨"RoadOfDoors$Ways", "canPass", "([III)Z"⟩, 12) := ⟨⟨by decide +kernel, by decide +kernel⟩, List.mem_of_getElem? (i := 225) (by decide +kernel), List.mem_of_getElem? (i := 773) (by decide +kernel), List.mem_of_getElem? (i := 774) (by decide +kernel)⟩
theorem lw_p34 : lw_okq (⟨"RoadOfDoors$Ways", "cheapest", "(I)I"⟩, 12) := ⟨⟨by decide +kernel, by decide +kernel⟩, List.mem_of_getElem? (i := 225) (by decide +kernel), List.mem_of_getElem? (i := 784) (by decide +kernel), List.mem_of_getElem? (i := 785) (by decide +kernel)⟩
theorem lw_p35 : lw_okq (⟨"RoadOfDoors$Ways", "choose", "(IIJ)V"⟩, 12) := ⟨⟨by decide +kernel, by decide +kernel⟩, List.mem_of_getElem? (i := 225) (by decide +kernel), List.mem_of_getElem? (i := 800) (by decide +kernel), List.mem_of_getElem? (i := 801) (by decide +kernel)⟩
theorem lw_p36 : lw_okq (⟨"RoadOfDoors$Ways", "walk", "(I)V"⟩, 12) := ⟨⟨by decide +kernel, by decide +kernel⟩, List.mem_of_getElem? (i := 225) (by decide +kernel), List.mem_of_getElem? (i := 804) (by decide +kernel), List.mem_of_getElem? (i := 805) (by decide +kernel)⟩
theorem lw_p37 : lw_okq (⟨"RoadOfDoors$Earnings", "startTrial", "(Z)V"⟩, 8) := ⟨⟨by decide +kernel, by decide +kernel⟩, List.mem_of_getElem? (i := 311) (by decide +kernel), List.mem_of_getElem? (i := 833) (by decide +kernel), List.mem_of_getElem? (i := 834) (by decide +kernel)⟩
theorem lw_p38 : lw_okq (⟨"RoadOfDoors$Earnings", "earned", "(I)I"⟩, 8) := ⟨⟨by decide +kernel, by decide +kernel⟩, List.mem_of_getElem? (i := 311) (by decide +kernel), List.mem_of_getElem? (i := 840) (by decide +kernel), List.mem_of_getElem? (i := 841) (by decide +kernel)⟩
theorem lw_p39 : lw_okq (⟨"RoadOfDoors$Earnings", "bestRule", "(I)I"⟩, 8) := ⟨⟨by decide +kernel, by decide +kernel⟩, List.mem_of_getElem? (i := 311) (by decide +kernel), List.mem_of_getElem? (i := 854) (by decide +kernel), List.mem_of_getElem? (i := 855) (by decide +kernel)⟩
theorem lw_p40 : lw_okq (⟨"RoadOfDoors$Earnings", "trialNumber", "()I"⟩, 8) := ⟨⟨by decide +kernel, by decide +kernel⟩, List.mem_of_getElem? (i := 311) (by decide +kernel), List.mem_of_getElem? (i := 866) (by decide +kernel), List.mem_of_getElem? (i := 867) (by decide +kernel)⟩
theorem lw_p41 : lw_okq (⟨"RoadOfDoors$Earnings", "isPast", "(I)Z"⟩, 8) := ⟨⟨by decide +kernel, by decide +kernel⟩, List.mem_of_getElem? (i := 311) (by decide +kernel), List.mem_of_getElem? (i := 870) (by decide +kernel), List.mem_of_getElem? (i := 871) (by decide +kernel)⟩
theorem lw_p42 : lw_okq (⟨"RoadOfDoors", "agrees", "(III)Z"⟩, 9) := ⟨⟨by decide +kernel, by decide +kernel⟩, List.mem_of_getElem? (i := 19) (by decide +kernel), List.mem_of_getElem? (i := 882) (by decide +kernel), List.mem_of_getElem? (i := 883) (by decide +kernel)⟩
theorem lw_p43 : lw_okq (⟨"RoadOfDoors", "aboutPart", "(I)I"⟩, 9) := ⟨⟨by decide +kernel, by decide +kernel⟩, List.mem_of_getElem? (i := 19) (by decide +kernel), List.mem_of_getElem? (i := 907) (by decide +kernel), List.mem_of_getElem? (i := 908) (by decide +kernel)⟩
theorem lw_p44 : lw_okq (⟨"RoadOfDoorsModel", "isDoor", "(I)Z"⟩, 32) := ⟨⟨by decide +kernel, by decide +kernel⟩, List.mem_of_getElem? (i := 914) (by decide +kernel), List.mem_of_getElem? (i := 1033) (by decide +kernel), List.mem_of_getElem? (i := 1034) (by decide +kernel)⟩
theorem lw_p45 : lw_okq (⟨"RoadOfDoorsModel", "four", "(I)V"⟩, 32) := ⟨⟨by decide +kernel, by decide +kernel⟩, List.mem_of_getElem? (i := 914) (by decide +kernel), List.mem_of_getElem? (i := 1049) (by decide +kernel), List.mem_of_getElem? (i := 1050) (by decide +kernel)⟩
theorem lw_p46 : lw_okq (⟨"RoadOfDoorsModel", "readText", "()I"⟩, 32) := ⟨⟨by decide +kernel, by decide +kernel⟩, List.mem_of_getElem? (i := 914) (by decide +kernel), List.mem_of_getElem? (i := 1061) (by decide +kernel), List.mem_of_getElem? (i := 1062) (by decide +kernel)⟩
theorem lw_p47 : lw_okq (⟨"RoadOfDoorsModel", "nextToken", "()V"⟩, 32) := ⟨⟨by decide +kernel, by decide +kernel⟩, List.mem_of_getElem? (i := 914) (by decide +kernel), List.mem_of_getElem? (i := 1065) (by decide +kernel), List.mem_of_getElem? (i := 1066) (by decide +kernel)⟩
def lw_privs_3 : List (MethodName × Nat) := [(⟨"RoadOfDoors$Rules", "searched", "(LRoadOfDoors$Text;)J"⟩, 7), (⟨"RoadOfDoors$Ways", "canPass", "([III)Z"⟩, 12), (⟨"RoadOfDoors$Ways", "cheapest", "(I)I"⟩, 12), (⟨"RoadOfDoors$Ways", "choose", "(IIJ)V"⟩, 12), (⟨"RoadOfDoors$Ways", "walk", "(I)V"⟩, 12), (⟨"RoadOfDoors$Earnings", "startTrial", "(Z)V"⟩, 8), (⟨"RoadOfDoors$Earnings", "earned", "(I)I"⟩, 8), (⟨"RoadOfDoors$Earnings", "bestRule", "(I)I"⟩, 8), (⟨"RoadOfDoors$Earnings", "trialNumber", "()I"⟩, 8), (⟨"RoadOfDoors$Earnings", "isPast", "(I)Z"⟩, 8), (⟨"RoadOfDoors", "agrees", "(III)Z"⟩, 9), (⟨"RoadOfDoors", "aboutPart", "(I)I"⟩, 9), (⟨"RoadOfDoorsModel", "isDoor", "(I)Z"⟩, 32), (⟨"RoadOfDoorsModel", "four", "(I)V"⟩, 32), (⟨"RoadOfDoorsModel", "readText", "()I"⟩, 32), (⟨"RoadOfDoorsModel", "nextToken", "()V"⟩, 32)]
theorem lw_r3 : ∀ q ∈ lw_privs_3, lw_okq q := List.forall_mem_cons.mpr ⟨lw_p32, List.forall_mem_cons.mpr ⟨lw_p33, List.forall_mem_cons.mpr ⟨lw_p34, List.forall_mem_cons.mpr ⟨lw_p35, List.forall_mem_cons.mpr ⟨lw_p36, List.forall_mem_cons.mpr ⟨lw_p37, List.forall_mem_cons.mpr ⟨lw_p38, List.forall_mem_cons.mpr ⟨lw_p39, List.forall_mem_cons.mpr ⟨lw_p40, List.forall_mem_cons.mpr ⟨lw_p41, List.forall_mem_cons.mpr ⟨lw_p42, List.forall_mem_cons.mpr ⟨lw_p43, List.forall_mem_cons.mpr ⟨lw_p44, List.forall_mem_cons.mpr ⟨lw_p45, List.forall_mem_cons.mpr ⟨lw_p46, List.forall_mem_cons.mpr ⟨lw_p47, fun _ h => absurd h List.not_mem_nil⟩⟩⟩⟩⟩⟩⟩⟩⟩⟩⟩⟩⟩⟩⟩⟩
theorem lw_p48 : lw_okq (⟨"RoadOfDoorsModel", "byteAt", "(I)I"⟩, 32) := ⟨⟨by decide +kernel, by decide +kernel⟩, List.mem_of_getElem? (i := 914) (by decide +kernel), List.mem_of_getElem? (i := 1069) (by decide +kernel), List.mem_of_getElem? (i := 1070) (by decide +kernel)⟩
theorem lw_p49 : lw_okq (⟨"RoadOfDoorsModel", "clause", "()I"⟩, 32) := ⟨⟨by decide +kernel, by decide +kernel⟩, List.mem_of_getElem? (i := 914) (by decide +kernel), List.mem_of_getElem? (i := 1080) (by decide +kernel), List.mem_of_getElem? (i := 1081) (by decide +kernel)⟩
theorem lw_p50 : lw_okq (⟨"RoadOfDoorsModel", "sortOf", "()I"⟩, 32) := ⟨⟨by decide +kernel, by decide +kernel⟩, List.mem_of_getElem? (i := 914) (by decide +kernel), List.mem_of_getElem? (i := 1084) (by decide +kernel), List.mem_of_getElem? (i := 1085) (by decide +kernel)⟩
theorem lw_p51 : lw_okq (⟨"RoadOfDoorsModel", "isWord", "(J)Z"⟩, 32) := ⟨⟨by decide +kernel, by decide +kernel⟩, List.mem_of_getElem? (i := 914) (by decide +kernel), List.mem_of_getElem? (i := 1094) (by decide +kernel), List.mem_of_getElem? (i := 1095) (by decide +kernel)⟩
theorem lw_p52 : lw_okq (⟨"RoadOfDoorsModel", "either", "()I"⟩, 32) := ⟨⟨by decide +kernel, by decide +kernel⟩, List.mem_of_getElem? (i := 914) (by decide +kernel), List.mem_of_getElem? (i := 1101) (by decide +kernel), List.mem_of_getElem? (i := 1102) (by decide +kernel)⟩
theorem lw_p53 : lw_okq (⟨"RoadOfDoorsModel", "asks", "()I"⟩, 32) := ⟨⟨by decide +kernel, by decide +kernel⟩, List.mem_of_getElem? (i := 914) (by decide +kernel), List.mem_of_getElem? (i := 1105) (by decide +kernel), List.mem_of_getElem? (i := 1106) (by decide +kernel)⟩
theorem lw_p54 : lw_okq (⟨"RoadOfDoorsModel", "summed", "()I"⟩, 32) := ⟨⟨by decide +kernel, by decide +kernel⟩, List.mem_of_getElem? (i := 914) (by decide +kernel), List.mem_of_getElem? (i := 1109) (by decide +kernel), List.mem_of_getElem? (i := 1110) (by decide +kernel)⟩
theorem lw_p55 : lw_okq (⟨"RoadOfDoorsModel", "goesOn", "()Z"⟩, 32) := ⟨⟨by decide +kernel, by decide +kernel⟩, List.mem_of_getElem? (i := 914) (by decide +kernel), List.mem_of_getElem? (i := 1113) (by decide +kernel), List.mem_of_getElem? (i := 1114) (by decide +kernel)⟩
theorem lw_p56 : lw_okq (⟨"RoadOfDoorsModel", "hasParen", "()Z"⟩, 32) := ⟨⟨by decide +kernel, by decide +kernel⟩, List.mem_of_getElem? (i := 914) (by decide +kernel), List.mem_of_getElem? (i := 1117) (by decide +kernel), List.mem_of_getElem? (i := 1118) (by decide +kernel)⟩
theorem lw_p57 : lw_okq (⟨"RoadOfDoorsModel", "behindOne", "()I"⟩, 32) := ⟨⟨by decide +kernel, by decide +kernel⟩, List.mem_of_getElem? (i := 914) (by decide +kernel), List.mem_of_getElem? (i := 1121) (by decide +kernel), List.mem_of_getElem? (i := 1122) (by decide +kernel)⟩
theorem lw_p58 : lw_okq (⟨"RoadOfDoorsModel", "settle", "(I)V"⟩, 32) := ⟨⟨by decide +kernel, by decide +kernel⟩, List.mem_of_getElem? (i := 914) (by decide +kernel), List.mem_of_getElem? (i := 1125) (by decide +kernel), List.mem_of_getElem? (i := 1126) (by decide +kernel)⟩
theorem lw_p59 : lw_okq (⟨"RoadOfDoorsModel", "emit", "(II)V"⟩, 32) := ⟨⟨by decide +kernel, by decide +kernel⟩, List.mem_of_getElem? (i := 914) (by decide +kernel), List.mem_of_getElem? (i := 1129) (by decide +kernel), List.mem_of_getElem? (i := 1130) (by decide +kernel)⟩
theorem lw_p60 : lw_okq (⟨"RoadOfDoorsModel", "push", "(I)V"⟩, 32) := ⟨⟨by decide +kernel, by decide +kernel⟩, List.mem_of_getElem? (i := 914) (by decide +kernel), List.mem_of_getElem? (i := 1133) (by decide +kernel), List.mem_of_getElem? (i := 1134) (by decide +kernel)⟩
theorem lw_p61 : lw_okq (⟨"RoadOfDoorsModel", "whole", "()V"⟩, 32) := ⟨⟨by decide +kernel, by decide +kernel⟩, List.mem_of_getElem? (i := 914) (by decide +kernel), List.mem_of_getElem? (i := 1137) (by decide +kernel), List.mem_of_getElem? (i := 1138) (by decide +kernel)⟩
theorem lw_p62 : lw_okq (⟨"RoadOfDoorsModel", "beginOne", "()I"⟩, 32) := ⟨⟨by decide +kernel, by decide +kernel⟩, List.mem_of_getElem? (i := 914) (by decide +kernel), List.mem_of_getElem? (i := 1141) (by decide +kernel), List.mem_of_getElem? (i := 1142) (by decide +kernel)⟩
theorem lw_p63 : lw_okq (⟨"RoadOfDoorsModel", "nameOf", "()I"⟩, 32) := ⟨⟨by decide +kernel, by decide +kernel⟩, List.mem_of_getElem? (i := 914) (by decide +kernel), List.mem_of_getElem? (i := 1145) (by decide +kernel), List.mem_of_getElem? (i := 1146) (by decide +kernel)⟩
def lw_privs_4 : List (MethodName × Nat) := [(⟨"RoadOfDoorsModel", "byteAt", "(I)I"⟩, 32), (⟨"RoadOfDoorsModel", "clause", "()I"⟩, 32), (⟨"RoadOfDoorsModel", "sortOf", "()I"⟩, 32), (⟨"RoadOfDoorsModel", "isWord", "(J)Z"⟩, 32), (⟨"RoadOfDoorsModel", "either", "()I"⟩, 32), (⟨"RoadOfDoorsModel", "asks", "()I"⟩, 32), (⟨"RoadOfDoorsModel", "summed", "()I"⟩, 32), (⟨"RoadOfDoorsModel", "goesOn", "()Z"⟩, 32), (⟨"RoadOfDoorsModel", "hasParen", "()Z"⟩, 32), (⟨"RoadOfDoorsModel", "behindOne", "()I"⟩, 32), (⟨"RoadOfDoorsModel", "settle", "(I)V"⟩, 32), (⟨"RoadOfDoorsModel", "emit", "(II)V"⟩, 32), (⟨"RoadOfDoorsModel", "push", "(I)V"⟩, 32), (⟨"RoadOfDoorsModel", "whole", "()V"⟩, 32), (⟨"RoadOfDoorsModel", "beginOne", "()I"⟩, 32), (⟨"RoadOfDoorsModel", "nameOf", "()I"⟩, 32)]
theorem lw_r4 : ∀ q ∈ lw_privs_4, lw_okq q := List.forall_mem_cons.mpr ⟨lw_p48, List.forall_mem_cons.mpr ⟨lw_p49, List.forall_mem_cons.mpr ⟨lw_p50, List.forall_mem_cons.mpr ⟨lw_p51, List.forall_mem_cons.mpr ⟨lw_p52, List.forall_mem_cons.mpr ⟨lw_p53, List.forall_mem_cons.mpr ⟨lw_p54, List.forall_mem_cons.mpr ⟨lw_p55, List.forall_mem_cons.mpr ⟨lw_p56, List.forall_mem_cons.mpr ⟨lw_p57, List.forall_mem_cons.mpr ⟨lw_p58, List.forall_mem_cons.mpr ⟨lw_p59, List.forall_mem_cons.mpr ⟨lw_p60, List.forall_mem_cons.mpr ⟨lw_p61, List.forall_mem_cons.mpr ⟨lw_p62, List.forall_mem_cons.mpr ⟨lw_p63, fun _ h => absurd h List.not_mem_nil⟩⟩⟩⟩⟩⟩⟩⟩⟩⟩⟩⟩⟩⟩⟩⟩
theorem lw_p64 : lw_okq (⟨"RoadOfDoorsModel", "compareOf", "()I"⟩, 32) := ⟨⟨by decide +kernel, by decide +kernel⟩, List.mem_of_getElem? (i := 914) (by decide +kernel), List.mem_of_getElem? (i := 1152) (by decide +kernel), List.mem_of_getElem? (i := 1153) (by decide +kernel)⟩
theorem lw_p65 : lw_okq (⟨"RoadOfDoorsModel", "knocked", "(I)I"⟩, 32) := ⟨⟨by decide +kernel, by decide +kernel⟩, List.mem_of_getElem? (i := 914) (by decide +kernel), List.mem_of_getElem? (i := 1157) (by decide +kernel), List.mem_of_getElem? (i := 1158) (by decide +kernel)⟩
theorem lw_p66 : lw_okq (⟨"RoadOfDoorsModel", "figure", "(III)I"⟩, 32) := ⟨⟨by decide +kernel, by decide +kernel⟩, List.mem_of_getElem? (i := 914) (by decide +kernel), List.mem_of_getElem? (i := 1161) (by decide +kernel), List.mem_of_getElem? (i := 1162) (by decide +kernel)⟩
theorem lw_p67 : lw_okq (⟨"RoadOfDoorsModel", "isRule", "(I)Z"⟩, 32) := ⟨⟨by decide +kernel, by decide +kernel⟩, List.mem_of_getElem? (i := 914) (by decide +kernel), List.mem_of_getElem? (i := 1173) (by decide +kernel), List.mem_of_getElem? (i := 1174) (by decide +kernel)⟩
theorem lw_p68 : lw_okq (⟨"RoadOfDoorsModel", "isOpen", "(IIIIIII)Z"⟩, 32) := ⟨⟨by decide +kernel, by decide +kernel⟩, List.mem_of_getElem? (i := 914) (by decide +kernel), List.mem_of_getElem? (i := 1184) (by decide +kernel), List.mem_of_getElem? (i := 1185) (by decide +kernel)⟩
theorem lw_p69 : lw_okq (⟨"RoadOfDoorsModel", "work", "(II)V"⟩, 32) := ⟨⟨by decide +kernel, by decide +kernel⟩, List.mem_of_getElem? (i := 914) (by decide +kernel), List.mem_of_getElem? (i := 1188) (by decide +kernel), List.mem_of_getElem? (i := 1189) (by decide +kernel)⟩
theorem lw_p70 : lw_okq (⟨"RoadOfDoorsModel", "isTraveller", "(IIII)Z"⟩, 32) := ⟨⟨by decide +kernel, by decide +kernel⟩, List.mem_of_getElem? (i := 914) (by decide +kernel), List.mem_of_getElem? (i := 1207) (by decide +kernel), List.mem_of_getElem? (i := 1208) (by decide +kernel)⟩
theorem lw_p71 : lw_okq (⟨"RoadOfDoorsModel", "keepStep", "()V"⟩, 32) := ⟨⟨by decide +kernel, by decide +kernel⟩, List.mem_of_getElem? (i := 914) (by decide +kernel), List.mem_of_getElem? (i := 1219) (by decide +kernel), List.mem_of_getElem? (i := 1220) (by decide +kernel)⟩
theorem lw_p72 : lw_okq (⟨"RoadOfDoorsModel", "hourBy", "(Z)V"⟩, 32) := ⟨⟨by decide +kernel, by decide +kernel⟩, List.mem_of_getElem? (i := 914) (by decide +kernel), List.mem_of_getElem? (i := 1227) (by decide +kernel), List.mem_of_getElem? (i := 1228) (by decide +kernel)⟩
theorem lw_p73 : lw_okq (⟨"RoadOfDoorsModel", "isPlayed", "(I)Z"⟩, 32) := ⟨⟨by decide +kernel, by decide +kernel⟩, List.mem_of_getElem? (i := 914) (by decide +kernel), List.mem_of_getElem? (i := 1239) (by decide +kernel), List.mem_of_getElem? (i := 1240) (by decide +kernel)⟩
theorem lw_p74 : lw_okq (⟨"RoadOfDoorsModel", "forgetLeasts", "(II)V"⟩, 32) := ⟨⟨by decide +kernel, by decide +kernel⟩, List.mem_of_getElem? (i := 914) (by decide +kernel), List.mem_of_getElem? (i := 1253) (by decide +kernel), List.mem_of_getElem? (i := 1254) (by decide +kernel)⟩
theorem lw_p75 : lw_okq (⟨"RoadOfDoorsModel", "soonestOf", "(II)I"⟩, 32) := ⟨⟨by decide +kernel, by decide +kernel⟩, List.mem_of_getElem? (i := 914) (by decide +kernel), List.mem_of_getElem? (i := 1258) (by decide +kernel), List.mem_of_getElem? (i := 1259) (by decide +kernel)⟩
theorem lw_p76 : lw_okq (⟨"RoadOfDoorsModel", "reckon", "(IIZ)I"⟩, 32) := ⟨⟨by decide +kernel, by decide +kernel⟩, List.mem_of_getElem? (i := 914) (by decide +kernel), List.mem_of_getElem? (i := 1262) (by decide +kernel), List.mem_of_getElem? (i := 1263) (by decide +kernel)⟩
theorem lw_p77 : lw_okq (⟨"RoadOfDoorsModel", "by", "(IIIII)I"⟩, 32) := ⟨⟨by decide +kernel, by decide +kernel⟩, List.mem_of_getElem? (i := 914) (by decide +kernel), List.mem_of_getElem? (i := 1267) (by decide +kernel), List.mem_of_getElem? (i := 1268) (by decide +kernel)⟩
theorem lw_p78 : lw_okq (⟨"RoadOfDoorsModel", "leastGift", "(IIIII)I"⟩, 32) := ⟨⟨by decide +kernel, by decide +kernel⟩, List.mem_of_getElem? (i := 914) (by decide +kernel), List.mem_of_getElem? (i := 1274) (by decide +kernel), List.mem_of_getElem? (i := 1275) (by decide +kernel)⟩
theorem lw_p79 : lw_okq (⟨"RoadOfDoorsModel", "follow", "(I)V"⟩, 32) := ⟨⟨by decide +kernel, by decide +kernel⟩, List.mem_of_getElem? (i := 914) (by decide +kernel), List.mem_of_getElem? (i := 1278) (by decide +kernel), List.mem_of_getElem? (i := 1279) (by decide +kernel)⟩
def lw_privs_5 : List (MethodName × Nat) := [(⟨"RoadOfDoorsModel", "compareOf", "()I"⟩, 32), (⟨"RoadOfDoorsModel", "knocked", "(I)I"⟩, 32), (⟨"RoadOfDoorsModel", "figure", "(III)I"⟩, 32), (⟨"RoadOfDoorsModel", "isRule", "(I)Z"⟩, 32), (⟨"RoadOfDoorsModel", "isOpen", "(IIIIIII)Z"⟩, 32), (⟨"RoadOfDoorsModel", "work", "(II)V"⟩, 32), (⟨"RoadOfDoorsModel", "isTraveller", "(IIII)Z"⟩, 32), (⟨"RoadOfDoorsModel", "keepStep", "()V"⟩, 32), (⟨"RoadOfDoorsModel", "hourBy", "(Z)V"⟩, 32), (⟨"RoadOfDoorsModel", "isPlayed", "(I)Z"⟩, 32), (⟨"RoadOfDoorsModel", "forgetLeasts", "(II)V"⟩, 32), (⟨"RoadOfDoorsModel", "soonestOf", "(II)I"⟩, 32), (⟨"RoadOfDoorsModel", "reckon", "(IIZ)I"⟩, 32), (⟨"RoadOfDoorsModel", "by", "(IIIII)I"⟩, 32), (⟨"RoadOfDoorsModel", "leastGift", "(IIIII)I"⟩, 32), (⟨"RoadOfDoorsModel", "follow", "(I)V"⟩, 32)]
theorem lw_r5 : ∀ q ∈ lw_privs_5, lw_okq q := List.forall_mem_cons.mpr ⟨lw_p64, List.forall_mem_cons.mpr ⟨lw_p65, List.forall_mem_cons.mpr ⟨lw_p66, List.forall_mem_cons.mpr ⟨lw_p67, List.forall_mem_cons.mpr ⟨lw_p68, List.forall_mem_cons.mpr ⟨lw_p69, List.forall_mem_cons.mpr ⟨lw_p70, List.forall_mem_cons.mpr ⟨lw_p71, List.forall_mem_cons.mpr ⟨lw_p72, List.forall_mem_cons.mpr ⟨lw_p73, List.forall_mem_cons.mpr ⟨lw_p74, List.forall_mem_cons.mpr ⟨lw_p75, List.forall_mem_cons.mpr ⟨lw_p76, List.forall_mem_cons.mpr ⟨lw_p77, List.forall_mem_cons.mpr ⟨lw_p78, List.forall_mem_cons.mpr ⟨lw_p79, fun _ h => absurd h List.not_mem_nil⟩⟩⟩⟩⟩⟩⟩⟩⟩⟩⟩⟩⟩⟩⟩⟩
theorem lw_p80 : lw_okq (⟨"RoadOfDoorsModel", "cheapest", "(II)I"⟩, 32) := ⟨⟨by decide +kernel, by decide +kernel⟩, List.mem_of_getElem? (i := 914) (by decide +kernel), List.mem_of_getElem? (i := 1282) (by decide +kernel), List.mem_of_getElem? (i := 1283) (by decide +kernel)⟩
theorem lw_p81 : lw_okq (⟨"RoadOfDoorsModel", "beginGuests", "()V"⟩, 32) := ⟨⟨by decide +kernel, by decide +kernel⟩, List.mem_of_getElem? (i := 914) (by decide +kernel), List.mem_of_getElem? (i := 1298) (by decide +kernel), List.mem_of_getElem? (i := 1299) (by decide +kernel)⟩
theorem lw_p82 : lw_okq (⟨"RoadOfDoorsModel", "earned", "(I)I"⟩, 32) := ⟨⟨by decide +kernel, by decide +kernel⟩, List.mem_of_getElem? (i := 914) (by decide +kernel), List.mem_of_getElem? (i := 1302) (by decide +kernel), List.mem_of_getElem? (i := 1303) (by decide +kernel)⟩
theorem lw_p83 : lw_okq (⟨"RoadOfDoorsModel", "bestRule", "(I)I"⟩, 32) := ⟨⟨by decide +kernel, by decide +kernel⟩, List.mem_of_getElem? (i := 914) (by decide +kernel), List.mem_of_getElem? (i := 1310) (by decide +kernel), List.mem_of_getElem? (i := 1311) (by decide +kernel)⟩
theorem lw_p84 : lw_okq (⟨"RoadOfDoorsModel", "canKeep", "(III)Z"⟩, 32) := ⟨⟨by decide +kernel, by decide +kernel⟩, List.mem_of_getElem? (i := 914) (by decide +kernel), List.mem_of_getElem? (i := 1326) (by decide +kernel), List.mem_of_getElem? (i := 1327) (by decide +kernel)⟩
def lw_privs_6 : List (MethodName × Nat) := [(⟨"RoadOfDoorsModel", "cheapest", "(II)I"⟩, 32), (⟨"RoadOfDoorsModel", "beginGuests", "()V"⟩, 32), (⟨"RoadOfDoorsModel", "earned", "(I)I"⟩, 32), (⟨"RoadOfDoorsModel", "bestRule", "(I)I"⟩, 32), (⟨"RoadOfDoorsModel", "canKeep", "(III)Z"⟩, 32)]
theorem lw_r6 : ∀ q ∈ lw_privs_6, lw_okq q := List.forall_mem_cons.mpr ⟨lw_p80, List.forall_mem_cons.mpr ⟨lw_p81, List.forall_mem_cons.mpr ⟨lw_p82, List.forall_mem_cons.mpr ⟨lw_p83, List.forall_mem_cons.mpr ⟨lw_p84, fun _ h => absurd h List.not_mem_nil⟩⟩⟩⟩⟩
def lw_privs : List (MethodName × Nat) := lw_privs_1 ++ (lw_privs_2 ++ (lw_privs_3 ++ (lw_privs_4 ++ (lw_privs_5 ++ (lw_privs_6)))))
def lw_tbl : List Cond := k2_sels lw_privs ++ tables_1
theorem lw_privs_ok : ∀ q ∈ lw_privs, lw_okq q := by
  show ∀ q ∈ lw_privs_1 ++ (lw_privs_2 ++ (lw_privs_3 ++ (lw_privs_4 ++ (lw_privs_5 ++ (lw_privs_6))))), lw_okq q
  exact List.forall_mem_append.mpr ⟨lw_r1, List.forall_mem_append.mpr ⟨lw_r2, List.forall_mem_append.mpr ⟨lw_r3, List.forall_mem_append.mpr ⟨lw_r4, List.forall_mem_append.mpr ⟨lw_r5, lw_r6⟩⟩⟩⟩⟩

/-- the words of the tables that stay -/
def tW : List Cond := lw_tbl.filter goodWord
theorem tW_in {w : Cond} (h : w ∈ lw_tbl) (g : goodWord w = true) : w ∈ tW := List.mem_filter.mpr ⟨h, g⟩
theorem tW_t {w : Cond} {i : Nat} (h : tables_1[i]? = some w) (g : goodWord w = true) : w ∈ tW := tW_in (List.mem_append_right _ (List.mem_of_getElem? h)) g
theorem tW_p {w : Cond} {i : Nat} (h : (k2_sels lw_privs)[i]? = some w) (g : goodWord w = true) : w ∈ tW := tW_in (List.mem_append_left _ (List.mem_of_getElem? h)) g
theorem tW_good {w : Cond} (h : w ∈ tW) : (w.onTables && w.keeps) = true ∨ ∃ ty, w = .arrayClass ty := good_of_word (List.mem_filter.mp h).2
theorem tW_hts {args : Array Value} {s : State} (h : ∀ w ∈ lw_tbl, w.before args s = true) : ∀ w ∈ tW, w.before args s = true := fun w hw => h w (List.mem_filter.mp hw).1
end
section
def RX0 : String := "RoadOfDoors$Earnings"
def TX0 : u_T := fun k => match k with
  | 0 => ("RoadOfDoors$Earnings", "trial", "[I", true)
  | 1 => ("RoadOfDoors$Earnings", "doors", "I", true)
  | 2 => ("RoadOfDoors$Earnings", "road", "LRoadOfDoors$Road;", true)
  | 3 => ("RoadOfDoors$Earnings", "rules", "LRoadOfDoors$Rules;", true)
  | 4 => ("RoadOfDoors$Earnings", "ways", "LRoadOfDoors$Ways;", true)
  | 5 => ("RoadOfDoors$Earnings", "past", "[I", true)
  | 6 => ("RoadOfDoors$Earnings", "changed", "I", false)
  | _ => ("RoadOfDoors$Earnings", "settled", "Z", false)
def tyX0 : Nat → FieldType := fun k => match k with
  | 0 => .array .int
  | 1 => .int
  | 2 => .object "RoadOfDoors$Road"
  | 3 => .object "RoadOfDoors$Rules"
  | 4 => .object "RoadOfDoors$Ways"
  | 5 => .array .int
  | 6 => .int
  | _ => .boolean
theorem nmX0 : ∀ a, a < 8 → ∀ b, b < 8 → a ≠ b → (TX0 a).2.1 ≠ (TX0 b).2.1 := by decide +kernel
theorem tyX0_ok : ∀ k, k < 8 → parseFieldDescriptor (TX0 k).2.2.1 = some (tyX0 k) := by decide +kernel
abbrev cX0_init : ByteArray := prog_2_method_1_code
def yX0_init : MethodName := ⟨RX0, "<init>", "(ILRoadOfDoors$Road;LRoadOfDoors$Rules;LRoadOfDoors$Ways;)V"⟩
abbrev cX0_forget : ByteArray := prog_2_method_2_code
def yX0_forget : MethodName := ⟨RX0, "forget", "()V"⟩
abbrev cX0_earnedNow : ByteArray := prog_2_method_3_code
def yX0_earnedNow : MethodName := ⟨RX0, "earnedNow", "(I)I"⟩
abbrev cX0_firstUneven : ByteArray := prog_2_method_4_code
def yX0_firstUneven : MethodName := ⟨RX0, "firstUneven", "()I"⟩
abbrev cX0_roundsChanged : ByteArray := prog_2_method_5_code
def yX0_roundsChanged : MethodName := ⟨RX0, "roundsChanged", "()I"⟩
abbrev cX0_startTrial : ByteArray := prog_2_method_6_code
def yX0_startTrial : MethodName := ⟨RX0, "startTrial", "(Z)V"⟩
abbrev cX0_trialNumber : ByteArray := prog_2_method_7_code
def yX0_trialNumber : MethodName := ⟨RX0, "trialNumber", "()I"⟩
abbrev cX0_isPast : ByteArray := prog_2_method_8_code
def yX0_isPast : MethodName := ⟨RX0, "isPast", "(I)Z"⟩
abbrev cX0_bestRule : ByteArray := prog_2_method_9_code
def yX0_bestRule : MethodName := ⟨RX0, "bestRule", "(I)I"⟩
abbrev cX0_earned : ByteArray := prog_2_method_10_code
def yX0_earned : MethodName := ⟨RX0, "earned", "(I)I"⟩
def RX1 : String := "RoadOfDoors$Reader"
def TX1 : u_T := fun k => match k with
  | 0 => ("RoadOfDoors$Reader", "fault", "I", false)
  | 1 => ("RoadOfDoors$Reader", "place", "I", false)
  | 2 => ("RoadOfDoors$Reader", "tape", "LRoadOfDoors$Tape;", true)
  | 3 => ("RoadOfDoors$Reader", "pile", "[I", true)
  | 4 => ("RoadOfDoors$Reader", "text", "LRoadOfDoors$Text;", false)
  | 5 => ("RoadOfDoors$Reader", "state", "I", false)
  | 6 => ("RoadOfDoors$Reader", "height", "I", false)
  | 7 => ("RoadOfDoors$Reader", "nested", "I", false)
  | 8 => ("RoadOfDoors$Reader", "unclosed", "I", false)
  | _ => ("RoadOfDoors$Reader", "compared", "Z", false)
def tyX1 : Nat → FieldType := fun k => match k with
  | 0 => .int
  | 1 => .int
  | 2 => .object "RoadOfDoors$Tape"
  | 3 => .array .int
  | 4 => .object "RoadOfDoors$Text"
  | 5 => .int
  | 6 => .int
  | 7 => .int
  | 8 => .int
  | _ => .boolean
theorem nmX1 : ∀ a, a < 10 → ∀ b, b < 10 → a ≠ b → (TX1 a).2.1 ≠ (TX1 b).2.1 := by decide +kernel
theorem tyX1_ok : ∀ k, k < 10 → parseFieldDescriptor (TX1 k).2.2.1 = some (tyX1 k) := by decide +kernel
abbrev cX1_init : ByteArray := prog_3_method_1_code
def yX1_init : MethodName := ⟨RX1, "<init>", "(LRoadOfDoors$Tape;LRoadOfDoors$Text;)V"⟩
abbrev cX1_read : ByteArray := prog_3_method_2_code
def yX1_read : MethodName := ⟨RX1, "read", "(LRoadOfDoors$Text;)Z"⟩
abbrev cX1_refuse : ByteArray := prog_3_method_3_code
def yX1_refuse : MethodName := ⟨RX1, "refuse", "(I)V"⟩
abbrev cX1_take : ByteArray := prog_3_method_4_code
def yX1_take : MethodName := ⟨RX1, "take", "(I)V"⟩
abbrev cX1_takeClause : ByteArray := prog_3_method_5_code
def yX1_takeClause : MethodName := ⟨RX1, "takeClause", "(I)V"⟩
abbrev cX1_takeNumber : ByteArray := prog_3_method_6_code
def yX1_takeNumber : MethodName := ⟨RX1, "takeNumber", "(III)V"⟩
abbrev cX1_takeSign : ByteArray := prog_3_method_7_code
def yX1_takeSign : MethodName := ⟨RX1, "takeSign", "(II)V"⟩
abbrev cX1_takeOne : ByteArray := prog_3_method_8_code
def yX1_takeOne : MethodName := ⟨RX1, "takeOne", "(I)V"⟩
abbrev cX1_atAsk : ByteArray := prog_3_method_9_code
def yX1_atAsk : MethodName := ⟨RX1, "atAsk", "()Z"⟩
abbrev cX1_nest : ByteArray := prog_3_method_10_code
def yX1_nest : MethodName := ⟨RX1, "nest", "(I)V"⟩
abbrev cX1_endOne : ByteArray := prog_3_method_11_code
def yX1_endOne : MethodName := ⟨RX1, "endOne", "()V"⟩
abbrev cX1_takeBehindOne : ByteArray := prog_3_method_12_code
def yX1_takeBehindOne : MethodName := ⟨RX1, "takeBehindOne", "(I)V"⟩
abbrev cX1_join : ByteArray := prog_3_method_13_code
def yX1_join : MethodName := ⟨RX1, "join", "(II)V"⟩
abbrev cX1_close : ByteArray := prog_3_method_14_code
def yX1_close : MethodName := ⟨RX1, "close", "()V"⟩
abbrev cX1_put : ByteArray := prog_3_method_15_code
def yX1_put : MethodName := ⟨RX1, "put", "(I)V"⟩
abbrev cX1_pileAt : ByteArray := prog_3_method_16_code
def yX1_pileAt : MethodName := ⟨RX1, "pileAt", "(I)I"⟩
abbrev cX1_joinDownTo : ByteArray := prog_3_method_17_code
def yX1_joinDownTo : MethodName := ⟨RX1, "joinDownTo", "(I)V"⟩
abbrev cX1_levelOf : ByteArray := prog_3_method_18_code
def yX1_levelOf : MethodName := ⟨RX1, "levelOf", "(I)I"⟩
def RX2 : String := "RoadOfDoors$Road"
def TX2 : u_T := fun k => match k with
  | 0 => ("RoadOfDoors$Road", "rain", "[I", true)
  | 1 => ("RoadOfDoors$Road", "mood", "[I", true)
  | 2 => ("RoadOfDoors$Road", "rule", "[I", true)
  | 3 => ("RoadOfDoors$Road", "unhinged", "[Z", true)
  | 4 => ("RoadOfDoors$Road", "guests", "[I", true)
  | 5 => ("RoadOfDoors$Road", "seen", "[I", true)
  | 6 => ("RoadOfDoors$Road", "traveller", "LRoadOfDoors$Traveller;", true)
  | 7 => ("RoadOfDoors$Road", "told", "I", false)
  | 8 => ("RoadOfDoors$Road", "guestCount", "I", false)
  | _ => ("RoadOfDoors$Road", "seenCount", "I", false)
def tyX2 : Nat → FieldType := fun k => match k with
  | 0 => .array .int
  | 1 => .array .int
  | 2 => .array .int
  | 3 => .array .boolean
  | 4 => .array .int
  | 5 => .array .int
  | 6 => .object "RoadOfDoors$Traveller"
  | 7 => .int
  | 8 => .int
  | _ => .int
theorem nmX2 : ∀ a, a < 10 → ∀ b, b < 10 → a ≠ b → (TX2 a).2.1 ≠ (TX2 b).2.1 := by decide +kernel
theorem tyX2_ok : ∀ k, k < 10 → parseFieldDescriptor (TX2 k).2.2.1 = some (tyX2 k) := by decide +kernel
abbrev cX2_init : ByteArray := prog_4_method_1_code
def yX2_init : MethodName := ⟨RX2, "<init>", "()V"⟩
abbrev cX2_addGuest : ByteArray := prog_4_method_2_code
def yX2_addGuest : MethodName := ⟨RX2, "addGuest", "(IIII)V"⟩
abbrev cX2_becomes : ByteArray := prog_4_method_3_code
def yX2_becomes : MethodName := ⟨RX2, "becomes", "(LRoadOfDoors$Road;)V"⟩
def RX3 : String := "RoadOfDoors$Rules"
def TX3 : u_T := fun k => match k with
  | 0 => ("RoadOfDoors$Rules", "doors", "I", true)
  | 1 => ("RoadOfDoors$Rules", "road", "LRoadOfDoors$Road;", true)
  | 2 => ("RoadOfDoors$Rules", "texts", "[LRoadOfDoors$Text;", true)
  | 3 => ("RoadOfDoors$Rules", "names", "[I", true)
  | 4 => ("RoadOfDoors$Rules", "values", "[I", true)
  | 5 => ("RoadOfDoors$Rules", "leasts", "[J", true)
  | _ => ("RoadOfDoors$Rules", "stale", "Z", false)
def tyX3 : Nat → FieldType := fun k => match k with
  | 0 => .int
  | 1 => .object "RoadOfDoors$Road"
  | 2 => .array (.object "RoadOfDoors$Text")
  | 3 => .array .int
  | 4 => .array .int
  | 5 => .array .long
  | _ => .boolean
theorem nmX3 : ∀ a, a < 7 → ∀ b, b < 7 → a ≠ b → (TX3 a).2.1 ≠ (TX3 b).2.1 := by decide +kernel
theorem tyX3_ok : ∀ k, k < 7 → parseFieldDescriptor (TX3 k).2.2.1 = some (tyX3 k) := by decide +kernel
abbrev cX3_init : ByteArray := prog_5_method_1_code
def yX3_init : MethodName := ⟨RX3, "<init>", "(ILRoadOfDoors$Road;[LRoadOfDoors$Text;)V"⟩
abbrev cX3_forget : ByteArray := prog_5_method_2_code
def yX3_forget : MethodName := ⟨RX3, "forget", "()V"⟩
abbrev cX3_isOpening : ByteArray := prog_5_method_3_code
def yX3_isOpening : MethodName := ⟨RX3, "isOpening", "(I)Z"⟩
abbrev cX3_looksAtWaited : ByteArray := prog_5_method_4_code
def yX3_looksAtWaited : MethodName := ⟨RX3, "looksAtWaited", "(I)Z"⟩
abbrev cX3_opensBy : ByteArray := prog_5_method_5_code
def yX3_opensBy : MethodName := ⟨RX3, "opensBy", "(IIIIIII)Z"⟩
abbrev cX3_placeOf : ByteArray := prog_5_method_6_code
def yX3_placeOf : MethodName := ⟨RX3, "placeOf", "(III)I"⟩
abbrev cX3_leastsAt : ByteArray := prog_5_method_7_code
def yX3_leastsAt : MethodName := ⟨RX3, "leastsAt", "(II)J"⟩
abbrev cX3_learn : ByteArray := prog_5_method_8_code
def yX3_learn : MethodName := ⟨RX3, "learn", "(III)V"⟩
abbrev cX3_searched : ByteArray := prog_5_method_9_code
def yX3_searched : MethodName := ⟨RX3, "searched", "(LRoadOfDoors$Text;)J"⟩
abbrev cX3_face : ByteArray := prog_5_method_10_code
def yX3_face : MethodName := ⟨RX3, "face", "(III)V"⟩
abbrev cX3_holds : ByteArray := prog_5_method_11_code
def yX3_holds : MethodName := ⟨RX3, "holds", "(LRoadOfDoors$Text;)Z"⟩
abbrev cX3_joined : ByteArray := prog_5_method_12_code
def yX3_joined : MethodName := ⟨RX3, "joined", "(III)I"⟩
def RX4 : String := "RoadOfDoors$Tape"
def TX4 : u_T := fun k => match k with
  | 0 => ("RoadOfDoors$Tape", "bytes", "[B", true)
  | 1 => ("RoadOfDoors$Tape", "length", "I", false)
  | 2 => ("RoadOfDoors$Tape", "kind", "I", false)
  | 3 => ("RoadOfDoors$Tape", "number", "I", false)
  | 4 => ("RoadOfDoors$Tape", "start", "I", false)
  | _ => ("RoadOfDoors$Tape", "after", "I", false)
def tyX4 : Nat → FieldType := fun k => match k with
  | 0 => .array .byte
  | 1 => .int
  | 2 => .int
  | 3 => .int
  | 4 => .int
  | _ => .int
theorem nmX4 : ∀ a, a < 6 → ∀ b, b < 6 → a ≠ b → (TX4 a).2.1 ≠ (TX4 b).2.1 := by decide +kernel
theorem tyX4_ok : ∀ k, k < 6 → parseFieldDescriptor (TX4 k).2.2.1 = some (tyX4 k) := by decide +kernel
abbrev cX4_init : ByteArray := prog_6_method_1_code
def yX4_init : MethodName := ⟨RX4, "<init>", "()V"⟩
abbrev cX4_add : ByteArray := prog_6_method_2_code
def yX4_add : MethodName := ⟨RX4, "add", "(I)V"⟩
abbrev cX4_rewinds : ByteArray := prog_6_method_3_code
def yX4_rewinds : MethodName := ⟨RX4, "rewinds", "()V"⟩
abbrev cX4_nextToken : ByteArray := prog_6_method_4_code
def yX4_nextToken : MethodName := ⟨RX4, "nextToken", "()V"⟩
abbrev cX4_byteAt : ByteArray := prog_6_method_5_code
def yX4_byteAt : MethodName := ⟨RX4, "byteAt", "(I)I"⟩
abbrev cX4_isBlank : ByteArray := prog_6_method_6_code
def yX4_isBlank : MethodName := ⟨RX4, "isBlank", "(I)Z"⟩
abbrev cX4_isLetter : ByteArray := prog_6_method_7_code
def yX4_isLetter : MethodName := ⟨RX4, "isLetter", "(I)Z"⟩
abbrev cX4_isDigit : ByteArray := prog_6_method_8_code
def yX4_isDigit : MethodName := ⟨RX4, "isDigit", "(I)Z"⟩
abbrev cX4_isTwoSigned : ByteArray := prog_6_method_9_code
def yX4_isTwoSigned : MethodName := ⟨RX4, "isTwoSigned", "(I)Z"⟩
abbrev cX4_signAt : ByteArray := prog_6_method_10_code
def yX4_signAt : MethodName := ⟨RX4, "signAt", "(IZ)I"⟩
abbrev cX4_readNumber : ByteArray := prog_6_method_11_code
def yX4_readNumber : MethodName := ⟨RX4, "readNumber", "()V"⟩
abbrev cX4_readWord : ByteArray := prog_6_method_12_code
def yX4_readWord : MethodName := ⟨RX4, "readWord", "()V"⟩
abbrev cX4_spells : ByteArray := prog_6_method_13_code
def yX4_spells : MethodName := ⟨RX4, "spells", "(Ljava/lang/String;)Z"⟩
abbrev cX4_nameSpelt : ByteArray := prog_6_method_14_code
def yX4_nameSpelt : MethodName := ⟨RX4, "nameSpelt", "()I"⟩
abbrev cX4_wordSpelt : ByteArray := prog_6_method_15_code
def yX4_wordSpelt : MethodName := ⟨RX4, "wordSpelt", "()I"⟩
def RX5 : String := "RoadOfDoors$Text"
def TX5 : u_T := fun k => match k with
  | 0 => ("RoadOfDoors$Text", "words", "[I", true)
  | 1 => ("RoadOfDoors$Text", "knocks", "[I", true)
  | 2 => ("RoadOfDoors$Text", "amounts", "[I", true)
  | 3 => ("RoadOfDoors$Text", "length", "I", false)
  | 4 => ("RoadOfDoors$Text", "clauses", "I", false)
  | 5 => ("RoadOfDoors$Text", "looksAt", "I", false)
  | _ => ("RoadOfDoors$Text", "canOpen", "Z", false)
def tyX5 : Nat → FieldType := fun k => match k with
  | 0 => .array .int
  | 1 => .array .int
  | 2 => .array .int
  | 3 => .int
  | 4 => .int
  | 5 => .int
  | _ => .boolean
theorem nmX5 : ∀ a, a < 7 → ∀ b, b < 7 → a ≠ b → (TX5 a).2.1 ≠ (TX5 b).2.1 := by decide +kernel
theorem tyX5_ok : ∀ k, k < 7 → parseFieldDescriptor (TX5 k).2.2.1 = some (tyX5 k) := by decide +kernel
abbrev cX5_init : ByteArray := prog_7_method_1_code
def yX5_init : MethodName := ⟨RX5, "<init>", "()V"⟩
abbrev cX5_empties : ByteArray := prog_7_method_2_code
def yX5_empties : MethodName := ⟨RX5, "empties", "()V"⟩
abbrev cX5_addWord : ByteArray := prog_7_method_3_code
def yX5_addWord : MethodName := ⟨RX5, "addWord", "(I)V"⟩
abbrev cX5_addName : ByteArray := prog_7_method_4_code
def yX5_addName : MethodName := ⟨RX5, "addName", "(I)V"⟩
abbrev cX5_addClause : ByteArray := prog_7_method_5_code
def yX5_addClause : MethodName := ⟨RX5, "addClause", "(I)V"⟩
abbrev cX5_setKnocks : ByteArray := prog_7_method_6_code
def yX5_setKnocks : MethodName := ⟨RX5, "setKnocks", "(I)V"⟩
abbrev cX5_setAmount : ByteArray := prog_7_method_7_code
def yX5_setAmount : MethodName := ⟨RX5, "setAmount", "(I)V"⟩
def RX6 : String := "RoadOfDoors$Traveller"
def TX6 : u_T := fun k => match k with
  | 0 => ("RoadOfDoors$Traveller", "load", "I", false)
  | 1 => ("RoadOfDoors$Traveller", "keys", "I", false)
  | 2 => ("RoadOfDoors$Traveller", "purse", "I", false)
  | 3 => ("RoadOfDoors$Traveller", "hour", "I", false)
  | 4 => ("RoadOfDoors$Traveller", "waited", "I", false)
  | 5 => ("RoadOfDoors$Traveller", "door", "I", false)
  | 6 => ("RoadOfDoors$Traveller", "steps", "I", false)
  | _ => ("RoadOfDoors$Traveller", "before", "[I", true)
def tyX6 : Nat → FieldType := fun k => match k with
  | 0 => .int
  | 1 => .int
  | 2 => .int
  | 3 => .int
  | 4 => .int
  | 5 => .int
  | 6 => .int
  | _ => .array .int
theorem nmX6 : ∀ a, a < 8 → ∀ b, b < 8 → a ≠ b → (TX6 a).2.1 ≠ (TX6 b).2.1 := by decide +kernel
theorem tyX6_ok : ∀ k, k < 8 → parseFieldDescriptor (TX6 k).2.2.1 = some (tyX6 k) := by decide +kernel
abbrev cX6_init : ByteArray := prog_8_method_1_code
def yX6_init : MethodName := ⟨RX6, "<init>", "()V"⟩
abbrev cX6_starts : ByteArray := prog_8_method_2_code
def yX6_starts : MethodName := ⟨RX6, "starts", "(IIII)V"⟩
abbrev cX6_hourGoes : ByteArray := prog_8_method_3_code
def yX6_hourGoes : MethodName := ⟨RX6, "hourGoes", "()V"⟩
abbrev cX6_stays : ByteArray := prog_8_method_4_code
def yX6_stays : MethodName := ⟨RX6, "stays", "()V"⟩
abbrev cX6_keepsStep : ByteArray := prog_8_method_5_code
def yX6_keepsStep : MethodName := ⟨RX6, "keepsStep", "()V"⟩
abbrev cX6_stepsBack : ByteArray := prog_8_method_6_code
def yX6_stepsBack : MethodName := ⟨RX6, "stepsBack", "()Z"⟩
abbrev cX6_becomes : ByteArray := prog_8_method_7_code
def yX6_becomes : MethodName := ⟨RX6, "becomes", "(LRoadOfDoors$Traveller;)V"⟩
def RX7 : String := "RoadOfDoors$Ways"
def TX7 : u_T := fun k => match k with
  | 0 => ("RoadOfDoors$Ways", "gifts", "I", false)
  | 1 => ("RoadOfDoors$Ways", "hours", "I", false)
  | 2 => ("RoadOfDoors$Ways", "acts", "[I", true)
  | 3 => ("RoadOfDoors$Ways", "given", "[I", true)
  | 4 => ("RoadOfDoors$Ways", "doors", "I", true)
  | 5 => ("RoadOfDoors$Ways", "road", "LRoadOfDoors$Road;", true)
  | 6 => ("RoadOfDoors$Ways", "rules", "LRoadOfDoors$Rules;", true)
  | 7 => ("RoadOfDoors$Ways", "costs", "[I", true)
  | 8 => ("RoadOfDoors$Ways", "goes", "[I", true)
  | 9 => ("RoadOfDoors$Ways", "places", "[I", true)
  | 10 => ("RoadOfDoors$Ways", "mostWaited", "[I", true)
  | _ => ("RoadOfDoors$Ways", "firstHour", "I", false)
def tyX7 : Nat → FieldType := fun k => match k with
  | 0 => .int
  | 1 => .int
  | 2 => .array .int
  | 3 => .array .int
  | 4 => .int
  | 5 => .object "RoadOfDoors$Road"
  | 6 => .object "RoadOfDoors$Rules"
  | 7 => .array .int
  | 8 => .array .int
  | 9 => .array .int
  | 10 => .array .int
  | _ => .int
theorem nmX7 : ∀ a, a < 12 → ∀ b, b < 12 → a ≠ b → (TX7 a).2.1 ≠ (TX7 b).2.1 := by decide +kernel
theorem tyX7_ok : ∀ k, k < 12 → parseFieldDescriptor (TX7 k).2.2.1 = some (tyX7 k) := by decide +kernel
abbrev cX7_init : ByteArray := prog_9_method_1_code
def yX7_init : MethodName := ⟨RX7, "<init>", "(ILRoadOfDoors$Road;LRoadOfDoors$Rules;)V"⟩
abbrev cX7_findCheapest : ByteArray := prog_9_method_2_code
def yX7_findCheapest : MethodName := ⟨RX7, "findCheapest", "([IIIIII)Z"⟩
abbrev cX7_findSoonest : ByteArray := prog_9_method_3_code
def yX7_findSoonest : MethodName := ⟨RX7, "findSoonest", "([IIIIII)Z"⟩
abbrev cX7_canPass : ByteArray := prog_9_method_4_code
def yX7_canPass : MethodName := ⟨RX7, "canPass", "([III)Z"⟩
abbrev cX7_cheapest : ByteArray := prog_9_method_5_code
def yX7_cheapest : MethodName := ⟨RX7, "cheapest", "(I)I"⟩
abbrev cX7_choose : ByteArray := prog_9_method_6_code
def yX7_choose : MethodName := ⟨RX7, "choose", "(IIJ)V"⟩
abbrev cX7_walk : ByteArray := prog_9_method_7_code
def yX7_walk : MethodName := ⟨RX7, "walk", "(I)V"⟩
def RX8 : String := "RoadOfDoors"
def TX8 : u_T := fun k => match k with
  | 0 => ("RoadOfDoors", "doors", "I", true)
  | 1 => ("RoadOfDoors", "road", "LRoadOfDoors$Road;", true)
  | 2 => ("RoadOfDoors", "saved", "LRoadOfDoors$Road;", true)
  | 3 => ("RoadOfDoors", "texts", "[LRoadOfDoors$Text;", true)
  | 4 => ("RoadOfDoors", "tape", "LRoadOfDoors$Tape;", true)
  | 5 => ("RoadOfDoors", "reader", "LRoadOfDoors$Reader;", true)
  | 6 => ("RoadOfDoors", "rules", "LRoadOfDoors$Rules;", true)
  | 7 => ("RoadOfDoors", "ways", "LRoadOfDoors$Ways;", true)
  | _ => ("RoadOfDoors", "earnings", "LRoadOfDoors$Earnings;", true)
def tyX8 : Nat → FieldType := fun k => match k with
  | 0 => .int
  | 1 => .object "RoadOfDoors$Road"
  | 2 => .object "RoadOfDoors$Road"
  | 3 => .array (.object "RoadOfDoors$Text")
  | 4 => .object "RoadOfDoors$Tape"
  | 5 => .object "RoadOfDoors$Reader"
  | 6 => .object "RoadOfDoors$Rules"
  | 7 => .object "RoadOfDoors$Ways"
  | _ => .object "RoadOfDoors$Earnings"
theorem nmX8 : ∀ a, a < 9 → ∀ b, b < 9 → a ≠ b → (TX8 a).2.1 ≠ (TX8 b).2.1 := by decide +kernel
theorem tyX8_ok : ∀ k, k < 9 → parseFieldDescriptor (TX8 k).2.2.1 = some (tyX8 k) := by decide +kernel
abbrev cX8_init : ByteArray := prog_1_method_1_code
def yX8_init : MethodName := ⟨RX8, "<init>", "(I)V"⟩
abbrev cX8_rain : ByteArray := prog_1_method_2_code
def yX8_rain : MethodName := ⟨RX8, "rain", "(II)Z"⟩
abbrev cX8_mood : ByteArray := prog_1_method_3_code
def yX8_mood : MethodName := ⟨RX8, "mood", "(II)Z"⟩
abbrev cX8_moods : ByteArray := prog_1_method_4_code
def yX8_moods : MethodName := ⟨RX8, "moods", "(I)I"⟩
abbrev cX8_hinge : ByteArray := prog_1_method_5_code
def yX8_hinge : MethodName := ⟨RX8, "hinge", "(IZ)Z"⟩
abbrev cX8_feed : ByteArray := prog_1_method_6_code
def yX8_feed : MethodName := ⟨RX8, "feed", "(IIIII)I"⟩
abbrev cX8_end : ByteArray := prog_1_method_7_code
def yX8_end : MethodName := ⟨RX8, "end", "(I)I"⟩
abbrev cX8_text : ByteArray := prog_1_method_8_code
def yX8_text : MethodName := ⟨RX8, "text", "()I"⟩
abbrev cX8_fault : ByteArray := prog_1_method_9_code
def yX8_fault : MethodName := ⟨RX8, "fault", "(I)I"⟩
abbrev cX8_keep : ByteArray := prog_1_method_10_code
def yX8_keep : MethodName := ⟨RX8, "keep", "(II)Z"⟩
abbrev cX8_opens : ByteArray := prog_1_method_11_code
def yX8_opens : MethodName := ⟨RX8, "opens", "(IIIIII)Z"⟩
abbrev cX8_sets : ByteArray := prog_1_method_12_code
def yX8_sets : MethodName := ⟨RX8, "sets", "(IIII)Z"⟩
abbrev cX8_knock : ByteArray := prog_1_method_13_code
def yX8_knock : MethodName := ⟨RX8, "knock", "(II)I"⟩
abbrev cX8_later : ByteArray := prog_1_method_14_code
def yX8_later : MethodName := ⟨RX8, "later", "(I)I"⟩
abbrev cX8_played : ByteArray := prog_1_method_15_code
def yX8_played : MethodName := ⟨RX8, "played", "(I)I"⟩
abbrev cX8_undo : ByteArray := prog_1_method_16_code
def yX8_undo : MethodName := ⟨RX8, "undo", "()I"⟩
abbrev cX8_traveller : ByteArray := prog_1_method_17_code
def yX8_traveller : MethodName := ⟨RX8, "traveller", "(I)I"⟩
abbrev cX8_way : ByteArray := prog_1_method_18_code
def yX8_way : MethodName := ⟨RX8, "way", "(IIIIIZI)I"⟩
abbrev cX8_guest : ByteArray := prog_1_method_19_code
def yX8_guest : MethodName := ⟨RX8, "guest", "(IIII)I"⟩
abbrev cX8_clear : ByteArray := prog_1_method_20_code
def yX8_clear : MethodName := ⟨RX8, "clear", "()I"⟩
abbrev cX8_earns : ByteArray := prog_1_method_21_code
def yX8_earns : MethodName := ⟨RX8, "earns", "(I)I"⟩
abbrev cX8_even : ByteArray := prog_1_method_22_code
def yX8_even : MethodName := ⟨RX8, "even", "()I"⟩
abbrev cX8_rounds : ByteArray := prog_1_method_23_code
def yX8_rounds : MethodName := ⟨RX8, "rounds", "(I)I"⟩
abbrev cX8_seen : ByteArray := prog_1_method_24_code
def yX8_seen : MethodName := ⟨RX8, "seen", "(IIIIIZ)I"⟩
abbrev cX8_kept : ByteArray := prog_1_method_25_code
def yX8_kept : MethodName := ⟨RX8, "kept", "(II)I"⟩
abbrev cX8_image : ByteArray := prog_1_method_26_code
def yX8_image : MethodName := ⟨RX8, "image", "()I"⟩
abbrev cX8_back : ByteArray := prog_1_method_27_code
def yX8_back : MethodName := ⟨RX8, "back", "()I"⟩
abbrev cX8_about : ByteArray := prog_1_method_28_code
def yX8_about : MethodName := ⟨RX8, "about", "(I)I"⟩
abbrev cX8_aboutPart : ByteArray := prog_1_method_29_code
def yX8_aboutPart : MethodName := ⟨RX8, "aboutPart", "(I)I"⟩
abbrev cX8_within : ByteArray := prog_1_method_30_code
def yX8_within : MethodName := ⟨RX8, "within", "(III)Z"⟩
abbrev cX8_isDoor : ByteArray := prog_1_method_31_code
def yX8_isDoor : MethodName := ⟨RX8, "isDoor", "(I)Z"⟩
abbrev cX8_isHour : ByteArray := prog_1_method_32_code
def yX8_isHour : MethodName := ⟨RX8, "isHour", "(I)Z"⟩
abbrev cX8_isKnock : ByteArray := prog_1_method_33_code
def yX8_isKnock : MethodName := ⟨RX8, "isKnock", "(IIIII)Z"⟩
abbrev cX8_isTraveller : ByteArray := prog_1_method_34_code
def yX8_isTraveller : MethodName := ⟨RX8, "isTraveller", "(IIII)Z"⟩
abbrev cX8_outlookChanged : ByteArray := prog_1_method_35_code
def yX8_outlookChanged : MethodName := ⟨RX8, "outlookChanged", "()V"⟩
abbrev cX8_canKnock : ByteArray := prog_1_method_36_code
def yX8_canKnock : MethodName := ⟨RX8, "canKnock", "(II)Z"⟩
abbrev cX8_knocked : ByteArray := prog_1_method_37_code
def yX8_knocked : MethodName := ⟨RX8, "knocked", "(II)Z"⟩
abbrev cX8_canWait : ByteArray := prog_1_method_38_code
def yX8_canWait : MethodName := ⟨RX8, "canWait", "(I)Z"⟩
abbrev cX8_waited : ByteArray := prog_1_method_39_code
def yX8_waited : MethodName := ⟨RX8, "waited", "(I)V"⟩
abbrev cX8_clauseDone : ByteArray := prog_1_method_40_code
def yX8_clauseDone : MethodName := ⟨RX8, "clauseDone", "(II)Z"⟩
abbrev cX8_agrees : ByteArray := prog_1_method_41_code
def yX8_agrees : MethodName := ⟨RX8, "agrees", "(III)Z"⟩
abbrev cX8_hasKey : ByteArray := prog_1_method_42_code
def yX8_hasKey : MethodName := ⟨RX8, "hasKey", "(II)Z"⟩
def RX9 : String := "RoadOfDoorsModel"
def TX9 : u_T := fun k => match k with
  | 0 => ("RoadOfDoorsModel", "a", "[I", true)
  | 1 => ("RoadOfDoorsModel", "image", "[I", true)
  | 2 => ("RoadOfDoorsModel", "doors", "I", true)
  | 3 => ("RoadOfDoorsModel", "texts", "[I", true)
  | 4 => ("RoadOfDoorsModel", "tape", "[I", true)
  | 5 => ("RoadOfDoorsModel", "taped", "I", false)
  | 6 => ("RoadOfDoorsModel", "fault", "I", false)
  | 7 => ("RoadOfDoorsModel", "faultPlace", "I", false)
  | 8 => ("RoadOfDoorsModel", "at", "I", false)
  | 9 => ("RoadOfDoorsModel", "place", "I", false)
  | 10 => ("RoadOfDoorsModel", "token", "I", false)
  | 11 => ("RoadOfDoorsModel", "number", "I", false)
  | 12 => ("RoadOfDoorsModel", "word", "J", false)
  | 13 => ("RoadOfDoorsModel", "text0", "I", false)
  | 14 => ("RoadOfDoorsModel", "clauses", "I", false)
  | 15 => ("RoadOfDoorsModel", "written", "I", false)
  | 16 => ("RoadOfDoorsModel", "came", "I", false)
  | 17 => ("RoadOfDoorsModel", "pile", "[I", true)
  | 18 => ("RoadOfDoorsModel", "piled", "I", false)
  | 19 => ("RoadOfDoorsModel", "opens", "I", false)
  | 20 => ("RoadOfDoorsModel", "isWhole", "Z", false)
  | 21 => ("RoadOfDoorsModel", "once", "Z", false)
  | 22 => ("RoadOfDoorsModel", "named", "[I", true)
  | 23 => ("RoadOfDoorsModel", "values", "[J", true)
  | 24 => ("RoadOfDoorsModel", "truth", "[Z", true)
  | 25 => ("RoadOfDoorsModel", "goer", "[I", true)
  | 26 => ("RoadOfDoorsModel", "tried", "[I", true)
  | 27 => ("RoadOfDoorsModel", "leasts", "[I", true)
  | 28 => ("RoadOfDoorsModel", "left", "[I", true)
  | 29 => ("RoadOfDoorsModel", "done", "[I", true)
  | 30 => ("RoadOfDoorsModel", "doneAt", "[I", true)
  | _ => ("RoadOfDoorsModel", "doneMany", "I", false)
def tyX9 : Nat → FieldType := fun k => match k with
  | 0 => .array .int
  | 1 => .array .int
  | 2 => .int
  | 3 => .array .int
  | 4 => .array .int
  | 5 => .int
  | 6 => .int
  | 7 => .int
  | 8 => .int
  | 9 => .int
  | 10 => .int
  | 11 => .int
  | 12 => .long
  | 13 => .int
  | 14 => .int
  | 15 => .int
  | 16 => .int
  | 17 => .array .int
  | 18 => .int
  | 19 => .int
  | 20 => .boolean
  | 21 => .boolean
  | 22 => .array .int
  | 23 => .array .long
  | 24 => .array .boolean
  | 25 => .array .int
  | 26 => .array .int
  | 27 => .array .int
  | 28 => .array .int
  | 29 => .array .int
  | 30 => .array .int
  | _ => .int
theorem nmX9 : ∀ a, a < 32 → ∀ b, b < 32 → a ≠ b → (TX9 a).2.1 ≠ (TX9 b).2.1 := by decide +kernel
theorem tyX9_ok : ∀ k, k < 32 → parseFieldDescriptor (TX9 k).2.2.1 = some (tyX9 k) := by decide +kernel
abbrev cX9_init : ByteArray := prog_11_method_1_code
def yX9_init : MethodName := ⟨RX9, "<init>", "(I)V"⟩
abbrev cX9_copy : ByteArray := prog_11_method_2_code
def yX9_copy : MethodName := ⟨RX9, "copy", "([I[I)V"⟩
abbrev cX9_isIn : ByteArray := prog_11_method_3_code
def yX9_isIn : MethodName := ⟨RX9, "isIn", "(III)Z"⟩
abbrev cX9_has : ByteArray := prog_11_method_4_code
def yX9_has : MethodName := ⟨RX9, "has", "(II)Z"⟩
abbrev cX9_isDoor : ByteArray := prog_11_method_5_code
def yX9_isDoor : MethodName := ⟨RX9, "isDoor", "(I)Z"⟩
abbrev cX9_isHour : ByteArray := prog_11_method_6_code
def yX9_isHour : MethodName := ⟨RX9, "isHour", "(I)Z"⟩
abbrev cX9_rain : ByteArray := prog_11_method_7_code
def yX9_rain : MethodName := ⟨RX9, "rain", "(II)Z"⟩
abbrev cX9_mood : ByteArray := prog_11_method_8_code
def yX9_mood : MethodName := ⟨RX9, "mood", "(II)Z"⟩
abbrev cX9_moods : ByteArray := prog_11_method_9_code
def yX9_moods : MethodName := ⟨RX9, "moods", "(I)I"⟩
abbrev cX9_hinge : ByteArray := prog_11_method_10_code
def yX9_hinge : MethodName := ⟨RX9, "hinge", "(IZ)Z"⟩
abbrev cX9_four : ByteArray := prog_11_method_11_code
def yX9_four : MethodName := ⟨RX9, "four", "(I)V"⟩
abbrev cX9_feed : ByteArray := prog_11_method_12_code
def yX9_feed : MethodName := ⟨RX9, "feed", "(IIIII)I"⟩
abbrev cX9_end : ByteArray := prog_11_method_13_code
def yX9_end : MethodName := ⟨RX9, "end", "(I)I"⟩
abbrev cX9_byteAt : ByteArray := prog_11_method_14_code
def yX9_byteAt : MethodName := ⟨RX9, "byteAt", "(I)I"⟩
abbrev cX9_isLetter : ByteArray := prog_11_method_15_code
def yX9_isLetter : MethodName := ⟨RX9, "isLetter", "(I)Z"⟩
abbrev cX9_isDigit : ByteArray := prog_11_method_16_code
def yX9_isDigit : MethodName := ⟨RX9, "isDigit", "(I)Z"⟩
abbrev cX9_nextToken : ByteArray := prog_11_method_17_code
def yX9_nextToken : MethodName := ⟨RX9, "nextToken", "()V"⟩
abbrev cX9_w3 : ByteArray := prog_11_method_18_code
def yX9_w3 : MethodName := ⟨RX9, "w3", "(III)J"⟩
abbrev cX9_w5 : ByteArray := prog_11_method_19_code
def yX9_w5 : MethodName := ⟨RX9, "w5", "(IIIII)J"⟩
abbrev cX9_w4 : ByteArray := prog_11_method_20_code
def yX9_w4 : MethodName := ⟨RX9, "w4", "(IIII)J"⟩
abbrev cX9_w6 : ByteArray := prog_11_method_21_code
def yX9_w6 : MethodName := ⟨RX9, "w6", "(IIIIII)J"⟩
abbrev cX9_isWord : ByteArray := prog_11_method_22_code
def yX9_isWord : MethodName := ⟨RX9, "isWord", "(J)Z"⟩
abbrev cX9_emit : ByteArray := prog_11_method_23_code
def yX9_emit : MethodName := ⟨RX9, "emit", "(II)V"⟩
abbrev cX9_push : ByteArray := prog_11_method_24_code
def yX9_push : MethodName := ⟨RX9, "push", "(I)V"⟩
abbrev cX9_whole : ByteArray := prog_11_method_25_code
def yX9_whole : MethodName := ⟨RX9, "whole", "()V"⟩
abbrev cX9_settle : ByteArray := prog_11_method_26_code
def yX9_settle : MethodName := ⟨RX9, "settle", "(I)V"⟩
abbrev cX9_nameOf : ByteArray := prog_11_method_27_code
def yX9_nameOf : MethodName := ⟨RX9, "nameOf", "()I"⟩
abbrev cX9_beginOne : ByteArray := prog_11_method_28_code
def yX9_beginOne : MethodName := ⟨RX9, "beginOne", "()I"⟩
abbrev cX9_hasParen : ByteArray := prog_11_method_29_code
def yX9_hasParen : MethodName := ⟨RX9, "hasParen", "()Z"⟩
abbrev cX9_goesOn : ByteArray := prog_11_method_30_code
def yX9_goesOn : MethodName := ⟨RX9, "goesOn", "()Z"⟩
abbrev cX9_behindOne : ByteArray := prog_11_method_31_code
def yX9_behindOne : MethodName := ⟨RX9, "behindOne", "()I"⟩
abbrev cX9_summed : ByteArray := prog_11_method_32_code
def yX9_summed : MethodName := ⟨RX9, "summed", "()I"⟩
abbrev cX9_compareOf : ByteArray := prog_11_method_33_code
def yX9_compareOf : MethodName := ⟨RX9, "compareOf", "()I"⟩
abbrev cX9_asks : ByteArray := prog_11_method_34_code
def yX9_asks : MethodName := ⟨RX9, "asks", "()I"⟩
abbrev cX9_either : ByteArray := prog_11_method_35_code
def yX9_either : MethodName := ⟨RX9, "either", "()I"⟩
abbrev cX9_sortOf : ByteArray := prog_11_method_36_code
def yX9_sortOf : MethodName := ⟨RX9, "sortOf", "()I"⟩
abbrev cX9_figure : ByteArray := prog_11_method_37_code
def yX9_figure : MethodName := ⟨RX9, "figure", "(III)I"⟩
abbrev cX9_knocked : ByteArray := prog_11_method_38_code
def yX9_knocked : MethodName := ⟨RX9, "knocked", "(I)I"⟩
abbrev cX9_clause : ByteArray := prog_11_method_39_code
def yX9_clause : MethodName := ⟨RX9, "clause", "()I"⟩
abbrev cX9_readText : ByteArray := prog_11_method_40_code
def yX9_readText : MethodName := ⟨RX9, "readText", "()I"⟩
abbrev cX9_text : ByteArray := prog_11_method_41_code
def yX9_text : MethodName := ⟨RX9, "text", "()I"⟩
abbrev cX9_fault : ByteArray := prog_11_method_42_code
def yX9_fault : MethodName := ⟨RX9, "fault", "(I)I"⟩
abbrev cX9_isRule : ByteArray := prog_11_method_43_code
def yX9_isRule : MethodName := ⟨RX9, "isRule", "(I)Z"⟩
abbrev cX9_keep : ByteArray := prog_11_method_44_code
def yX9_keep : MethodName := ⟨RX9, "keep", "(II)Z"⟩
abbrev cX9_clip : ByteArray := prog_11_method_45_code
def yX9_clip : MethodName := ⟨RX9, "clip", "(J)J"⟩
abbrev cX9_two : ByteArray := prog_11_method_46_code
def yX9_two : MethodName := ⟨RX9, "two", "(IJJ)J"⟩
abbrev cX9_isAsked : ByteArray := prog_11_method_47_code
def yX9_isAsked : MethodName := ⟨RX9, "isAsked", "(IJJ)Z"⟩
abbrev cX9_work : ByteArray := prog_11_method_48_code
def yX9_work : MethodName := ⟨RX9, "work", "(II)V"⟩
abbrev cX9_isOpen : ByteArray := prog_11_method_49_code
def yX9_isOpen : MethodName := ⟨RX9, "isOpen", "(IIIIIII)Z"⟩
abbrev cX9_isKnock : ByteArray := prog_11_method_50_code
def yX9_isKnock : MethodName := ⟨RX9, "isKnock", "(II)Z"⟩
abbrev cX9_opens : ByteArray := prog_11_method_51_code
def yX9_opens : MethodName := ⟨RX9, "opens", "(IIIIII)Z"⟩
abbrev cX9_isTraveller : ByteArray := prog_11_method_52_code
def yX9_isTraveller : MethodName := ⟨RX9, "isTraveller", "(IIII)Z"⟩
abbrev cX9_sets : ByteArray := prog_11_method_53_code
def yX9_sets : MethodName := ⟨RX9, "sets", "(IIII)Z"⟩
abbrev cX9_keepStep : ByteArray := prog_11_method_54_code
def yX9_keepStep : MethodName := ⟨RX9, "keepStep", "()V"⟩
abbrev cX9_undo : ByteArray := prog_11_method_55_code
def yX9_undo : MethodName := ⟨RX9, "undo", "()I"⟩
abbrev cX9_hourBy : ByteArray := prog_11_method_56_code
def yX9_hourBy : MethodName := ⟨RX9, "hourBy", "(Z)V"⟩
abbrev cX9_knock : ByteArray := prog_11_method_57_code
def yX9_knock : MethodName := ⟨RX9, "knock", "(II)I"⟩
abbrev cX9_later : ByteArray := prog_11_method_58_code
def yX9_later : MethodName := ⟨RX9, "later", "(I)I"⟩
abbrev cX9_isPlayed : ByteArray := prog_11_method_59_code
def yX9_isPlayed : MethodName := ⟨RX9, "isPlayed", "(I)Z"⟩
abbrev cX9_played : ByteArray := prog_11_method_60_code
def yX9_played : MethodName := ⟨RX9, "played", "(I)I"⟩
abbrev cX9_traveller : ByteArray := prog_11_method_61_code
def yX9_traveller : MethodName := ⟨RX9, "traveller", "(I)I"⟩
abbrev cX9_forgetLeasts : ByteArray := prog_11_method_62_code
def yX9_forgetLeasts : MethodName := ⟨RX9, "forgetLeasts", "(II)V"⟩
abbrev cX9_leastGift : ByteArray := prog_11_method_63_code
def yX9_leastGift : MethodName := ⟨RX9, "leastGift", "(IIIII)I"⟩
abbrev cX9_leftAt : ByteArray := prog_11_method_64_code
def yX9_leftAt : MethodName := ⟨RX9, "leftAt", "(III)I"⟩
abbrev cX9_by : ByteArray := prog_11_method_65_code
def yX9_by : MethodName := ⟨RX9, "by", "(IIIII)I"⟩
abbrev cX9_reckon : ByteArray := prog_11_method_66_code
def yX9_reckon : MethodName := ⟨RX9, "reckon", "(IIZ)I"⟩
abbrev cX9_follow : ByteArray := prog_11_method_67_code
def yX9_follow : MethodName := ⟨RX9, "follow", "(I)V"⟩
abbrev cX9_cheapest : ByteArray := prog_11_method_68_code
def yX9_cheapest : MethodName := ⟨RX9, "cheapest", "(II)I"⟩
abbrev cX9_soonestOf : ByteArray := prog_11_method_69_code
def yX9_soonestOf : MethodName := ⟨RX9, "soonestOf", "(II)I"⟩
abbrev cX9_way : ByteArray := prog_11_method_70_code
def yX9_way : MethodName := ⟨RX9, "way", "(IIIIIZI)I"⟩
abbrev cX9_guest : ByteArray := prog_11_method_71_code
def yX9_guest : MethodName := ⟨RX9, "guest", "(IIII)I"⟩
abbrev cX9_clear : ByteArray := prog_11_method_72_code
def yX9_clear : MethodName := ⟨RX9, "clear", "()I"⟩
abbrev cX9_beginGuests : ByteArray := prog_11_method_73_code
def yX9_beginGuests : MethodName := ⟨RX9, "beginGuests", "()V"⟩
abbrev cX9_earned : ByteArray := prog_11_method_74_code
def yX9_earned : MethodName := ⟨RX9, "earned", "(I)I"⟩
abbrev cX9_earns : ByteArray := prog_11_method_75_code
def yX9_earns : MethodName := ⟨RX9, "earns", "(I)I"⟩
abbrev cX9_bestRule : ByteArray := prog_11_method_76_code
def yX9_bestRule : MethodName := ⟨RX9, "bestRule", "(I)I"⟩
abbrev cX9_even : ByteArray := prog_11_method_77_code
def yX9_even : MethodName := ⟨RX9, "even", "()I"⟩
abbrev cX9_rounds : ByteArray := prog_11_method_78_code
def yX9_rounds : MethodName := ⟨RX9, "rounds", "(I)I"⟩
abbrev cX9_seen : ByteArray := prog_11_method_79_code
def yX9_seen : MethodName := ⟨RX9, "seen", "(IIIIIZ)I"⟩
abbrev cX9_canKeep : ByteArray := prog_11_method_80_code
def yX9_canKeep : MethodName := ⟨RX9, "canKeep", "(III)Z"⟩
abbrev cX9_kept : ByteArray := prog_11_method_81_code
def yX9_kept : MethodName := ⟨RX9, "kept", "(II)I"⟩
abbrev cX9_image : ByteArray := prog_11_method_82_code
def yX9_image : MethodName := ⟨RX9, "image", "()I"⟩
abbrev cX9_back : ByteArray := prog_11_method_83_code
def yX9_back : MethodName := ⟨RX9, "back", "()I"⟩
abbrev cX9_about : ByteArray := prog_11_method_84_code
def yX9_about : MethodName := ⟨RX9, "about", "(I)I"⟩
def RJx145de : String := "java/io/Serializable"
def TJx145de : u_T := fun k => match k with
  | _ => ("", "", "", false)
def tyJx145de : Nat → FieldType := fun k => match k with
  | _ => .int
theorem nmJx145de : ∀ a, a < 0 → ∀ b, b < 0 → a ≠ b → (TJx145de a).2.1 ≠ (TJx145de b).2.1 := by decide +kernel
theorem tyJx145de_ok : ∀ k, k < 0 → parseFieldDescriptor (TJx145de k).2.2.1 = some (tyJx145de k) := by decide +kernel
def RJx9f9b0 : String := "java/lang/CharSequence"
def TJx9f9b0 : u_T := fun k => match k with
  | _ => ("", "", "", false)
def tyJx9f9b0 : Nat → FieldType := fun k => match k with
  | _ => .int
theorem nmJx9f9b0 : ∀ a, a < 0 → ∀ b, b < 0 → a ≠ b → (TJx9f9b0 a).2.1 ≠ (TJx9f9b0 b).2.1 := by decide +kernel
theorem tyJx9f9b0_ok : ∀ k, k < 0 → parseFieldDescriptor (TJx9f9b0 k).2.2.1 = some (tyJx9f9b0 k) := by decide +kernel
def RJxb160c : String := "java/lang/Comparable"
def TJxb160c : u_T := fun k => match k with
  | _ => ("", "", "", false)
def tyJxb160c : Nat → FieldType := fun k => match k with
  | _ => .int
theorem nmJxb160c : ∀ a, a < 0 → ∀ b, b < 0 → a ≠ b → (TJxb160c a).2.1 ≠ (TJxb160c b).2.1 := by decide +kernel
theorem tyJxb160c_ok : ∀ k, k < 0 → parseFieldDescriptor (TJxb160c k).2.2.1 = some (tyJxb160c k) := by decide +kernel
def RJ9 : String := "java/lang/Math"
def TJ9 : u_T := fun k => match k with
  | _ => ("", "", "", false)
def tyJ9 : Nat → FieldType := fun k => match k with
  | _ => .int
theorem nmJ9 : ∀ a, a < 0 → ∀ b, b < 0 → a ≠ b → (TJ9 a).2.1 ≠ (TJ9 b).2.1 := by decide +kernel
theorem tyJ9_ok : ∀ k, k < 0 → parseFieldDescriptor (TJ9 k).2.2.1 = some (tyJ9 k) := by decide +kernel
abbrev cJ9_max_7cf53 : ByteArray := prog_12_method_65_code
def yJ9_max_7cf53 : MethodName := ⟨RJ9, "max", "(II)I"⟩
abbrev cJ9_min_7cf53 : ByteArray := prog_12_method_69_code
def yJ9_min_7cf53 : MethodName := ⟨RJ9, "min", "(II)I"⟩
def RJ0 : String := "java/lang/String"
def TJ0 : u_T := fun k => match k with
  | _ => ("", "", "", false)
def tyJ0 : Nat → FieldType := fun k => match k with
  | _ => .int
theorem nmJ0 : ∀ a, a < 0 → ∀ b, b < 0 → a ≠ b → (TJ0 a).2.1 ≠ (TJ0 b).2.1 := by decide +kernel
theorem tyJ0_ok : ∀ k, k < 0 → parseFieldDescriptor (TJ0 k).2.2.1 = some (tyJ0 k) := by decide +kernel
abbrev cJ0_length_8abf5 : ByteArray := prog_13_method_54_code
def yJ0_length_8abf5 : MethodName := ⟨RJ0, "length", "()I"⟩
abbrev cJ0_charAt_5068e : ByteArray := prog_13_method_56_code
def yJ0_charAt_5068e : MethodName := ⟨RJ0, "charAt", "(I)C"⟩
abbrev cJ0_coder_7d493 : ByteArray := prog_13_method_152_code
def yJ0_coder_7d493 : MethodName := ⟨RJ0, "coder", "()B"⟩
abbrev cJ0_isLatin1_aae02 : ByteArray := prog_13_method_154_code
def yJ0_isLatin1_aae02 : MethodName := ⟨RJ0, "isLatin1", "()Z"⟩
abbrev cJ0_checkIndex_df160 : ByteArray := prog_13_method_155_code
def yJ0_checkIndex_df160 : MethodName := ⟨RJ0, "checkIndex", "(II)V"⟩
def RJ1 : String := "java/lang/StringLatin1"
def TJ1 : u_T := fun k => match k with
  | _ => ("", "", "", false)
def tyJ1 : Nat → FieldType := fun k => match k with
  | _ => .int
theorem nmJ1 : ∀ a, a < 0 → ∀ b, b < 0 → a ≠ b → (TJ1 a).2.1 ≠ (TJ1 b).2.1 := by decide +kernel
theorem tyJ1_ok : ∀ k, k < 0 → parseFieldDescriptor (TJ1 k).2.2.1 = some (tyJ1 k) := by decide +kernel
abbrev cJ1_charAt_3b067 : ByteArray := prog_14_method_2_code
def yJ1_charAt_3b067 : MethodName := ⟨RJ1, "charAt", "([BI)C"⟩
def RJ2 : String := "java/lang/StringUTF16"
def TJ2 : u_T := fun k => match k with
  | _ => ("", "", "", false)
def tyJ2 : Nat → FieldType := fun k => match k with
  | _ => .int
theorem nmJ2 : ∀ a, a < 0 → ∀ b, b < 0 → a ≠ b → (TJ2 a).2.1 ≠ (TJ2 b).2.1 := by decide +kernel
theorem tyJ2_ok : ∀ k, k < 0 → parseFieldDescriptor (TJ2 k).2.2.1 = some (tyJ2 k) := by decide +kernel
abbrev cJ2_getChar_3b067 : ByteArray := prog_15_method_5_code
def yJ2_getChar_3b067 : MethodName := ⟨RJ2, "getChar", "([BI)C"⟩
abbrev cJ2_length_9d52b : ByteArray := prog_15_method_6_code
def yJ2_length_9d52b : MethodName := ⟨RJ2, "length", "([B)I"⟩
abbrev cJ2_charAt_3b067 : ByteArray := prog_15_method_83_code
def yJ2_charAt_3b067 : MethodName := ⟨RJ2, "charAt", "([BI)C"⟩
abbrev cJ2_checkIndex_2214a : ByteArray := prog_15_method_91_code
def yJ2_checkIndex_2214a : MethodName := ⟨RJ2, "checkIndex", "(I[B)V"⟩
def RJ10 : String := "java/lang/System"
def TJ10 : u_T := fun k => match k with
  | _ => ("", "", "", false)
def tyJ10 : Nat → FieldType := fun k => match k with
  | _ => .int
theorem nmJ10 : ∀ a, a < 0 → ∀ b, b < 0 → a ≠ b → (TJ10 a).2.1 ≠ (TJ10 b).2.1 := by decide +kernel
theorem tyJ10_ok : ∀ k, k < 0 → parseFieldDescriptor (TJ10 k).2.2.1 = some (tyJ10 k) := by decide +kernel
def RJxfd54e : String := "java/lang/constant/Constable"
def TJxfd54e : u_T := fun k => match k with
  | _ => ("", "", "", false)
def tyJxfd54e : Nat → FieldType := fun k => match k with
  | _ => .int
theorem nmJxfd54e : ∀ a, a < 0 → ∀ b, b < 0 → a ≠ b → (TJxfd54e a).2.1 ≠ (TJxfd54e b).2.1 := by decide +kernel
theorem tyJxfd54e_ok : ∀ k, k < 0 → parseFieldDescriptor (TJxfd54e k).2.2.1 = some (tyJxfd54e k) := by decide +kernel
def RJx3cf43 : String := "java/lang/constant/ConstantDesc"
def TJx3cf43 : u_T := fun k => match k with
  | _ => ("", "", "", false)
def tyJx3cf43 : Nat → FieldType := fun k => match k with
  | _ => .int
theorem nmJx3cf43 : ∀ a, a < 0 → ∀ b, b < 0 → a ≠ b → (TJx3cf43 a).2.1 ≠ (TJx3cf43 b).2.1 := by decide +kernel
theorem tyJx3cf43_ok : ∀ k, k < 0 → parseFieldDescriptor (TJx3cf43 k).2.2.1 = some (tyJx3cf43 k) := by decide +kernel
def RJ7 : String := "java/util/Arrays"
def TJ7 : u_T := fun k => match k with
  | _ => ("", "", "", false)
def tyJ7 : Nat → FieldType := fun k => match k with
  | _ => .int
theorem nmJ7 : ∀ a, a < 0 → ∀ b, b < 0 → a ≠ b → (TJ7 a).2.1 ≠ (TJ7 b).2.1 := by decide +kernel
theorem tyJ7_ok : ∀ k, k < 0 → parseFieldDescriptor (TJ7 k).2.2.1 = some (tyJ7 k) := by decide +kernel
abbrev cJ7_rangeCheck_23922 : ByteArray := prog_17_method_30_code
def yJ7_rangeCheck_23922 : MethodName := ⟨RJ7, "rangeCheck", "(III)V"⟩
abbrev cJ7_fill_d0a16 : ByteArray := prog_17_method_101_code
def yJ7_fill_d0a16 : MethodName := ⟨RJ7, "fill", "([JJ)V"⟩
abbrev cJ7_fill_53178 : ByteArray := prog_17_method_103_code
def yJ7_fill_53178 : MethodName := ⟨RJ7, "fill", "([II)V"⟩
abbrev cJ7_fill_fda19 : ByteArray := prog_17_method_104_code
def yJ7_fill_fda19 : MethodName := ⟨RJ7, "fill", "([IIII)V"⟩
def RJ3 : String := "jdk/internal/util/Preconditions"
def TJ3 : u_T := fun k => match k with
  | _ => ("", "", "", false)
def tyJ3 : Nat → FieldType := fun k => match k with
  | _ => .int
theorem nmJ3 : ∀ a, a < 0 → ∀ b, b < 0 → a ≠ b → (TJ3 a).2.1 ≠ (TJ3 b).2.1 := by decide +kernel
theorem tyJ3_ok : ∀ k, k < 0 → parseFieldDescriptor (TJ3 k).2.2.1 = some (tyJ3 k) := by decide +kernel
abbrev cJ3_checkIndex_8e157 : ByteArray := prog_18_method_11_code
def yJ3_checkIndex_8e157 : MethodName := ⟨RJ3, "checkIndex", "(IILjava/util/function/BiFunction;)I"⟩
def RL : String := "RoadOfDoorsLaw"
abbrev cL_cell : ByteArray := method_2_code
def yL_cell : MethodName := ⟨RL, "cell", "([II)I"⟩
abbrev cL_law : ByteArray := code
def yL_law : MethodName := ⟨RL, "law", "([I)Z"⟩
end
section
theorem w_1 : (Jvm.Cond.initialized "RoadOfDoors") ∈ tW := tW_t (i := 1) (by decide +kernel) rfl
theorem w_2 : (Jvm.Cond.initialized "java/lang/Math") ∈ tW := tW_t (i := 2) (by decide +kernel) rfl
theorem w_3 : (Jvm.Cond.initialized "RoadOfDoors$Text") ∈ tW := tW_t (i := 3) (by decide +kernel) rfl
theorem w_4 : (Jvm.Cond.initialized "RoadOfDoors$Road") ∈ tW := tW_t (i := 4) (by decide +kernel) rfl
theorem w_5 : (Jvm.Cond.initialized "RoadOfDoors$Traveller") ∈ tW := tW_t (i := 5) (by decide +kernel) rfl
theorem w_6 : (Jvm.Cond.initialized "RoadOfDoors$Tape") ∈ tW := tW_t (i := 6) (by decide +kernel) rfl
theorem w_7 : (Jvm.Cond.initialized "RoadOfDoors$Rules") ∈ tW := tW_t (i := 7) (by decide +kernel) rfl
theorem w_8 : (Jvm.Cond.initialized "RoadOfDoors$Ways") ∈ tW := tW_t (i := 8) (by decide +kernel) rfl
theorem w_9 : (Jvm.Cond.initialized "RoadOfDoors$Reader") ∈ tW := tW_t (i := 9) (by decide +kernel) rfl
theorem w_10 : (Jvm.Cond.initialized "RoadOfDoors$Earnings") ∈ tW := tW_t (i := 10) (by decide +kernel) rfl
theorem w_11 : (Jvm.Cond.initialized "RoadOfDoorsModel") ∈ tW := tW_t (i := 11) (by decide +kernel) rfl
theorem w_16 : (Jvm.Cond.initialized "java/lang/System") ∈ tW := tW_t (i := 16) (by decide +kernel) rfl
theorem w_17 : (Jvm.Cond.initialized "java/util/Arrays") ∈ tW := tW_t (i := 17) (by decide +kernel) rfl
theorem w_27 : (Jvm.Cond.static ({ cls := "java/lang/Math", name := "min", desc := "(II)I" } : Jvm.MethodName)) ∈ tW := tW_t (i := 27) (by decide +kernel) rfl
theorem w_28 : (Jvm.Cond.code ({ cls := "java/lang/Math", name := "min", desc := "(II)I" } : Jvm.MethodName) prog_12_method_69_code (2 : Nat) (Option.some Jvm.ClassFile.FieldType.int)) ∈ tW := tW_t (i := 28) (by decide +kernel) rfl
theorem w_39 : (Jvm.Cond.fieldLink "RoadOfDoors$Text" (9 : Nat) "RoadOfDoors$Text" "words" "[I") ∈ tW := tW_t (i := 39) (by decide +kernel) rfl
theorem w_40 : (Jvm.Cond.fieldLink "RoadOfDoors$Rules" (86 : Nat) "RoadOfDoors$Text" "words" "[I") ∈ tW := tW_t (i := 40) (by decide +kernel) rfl
theorem w_41 : (Jvm.Cond.fieldLink "RoadOfDoors$Text" (15 : Nat) "RoadOfDoors$Text" "knocks" "[I") ∈ tW := tW_t (i := 41) (by decide +kernel) rfl
theorem w_42 : (Jvm.Cond.fieldLink "RoadOfDoors" (174 : Nat) "RoadOfDoors$Text" "knocks" "[I") ∈ tW := tW_t (i := 42) (by decide +kernel) rfl
theorem w_43 : (Jvm.Cond.fieldLink "RoadOfDoors$Text" (18 : Nat) "RoadOfDoors$Text" "amounts" "[I") ∈ tW := tW_t (i := 43) (by decide +kernel) rfl
theorem w_44 : (Jvm.Cond.fieldLink "RoadOfDoors" (177 : Nat) "RoadOfDoors$Text" "amounts" "[I") ∈ tW := tW_t (i := 44) (by decide +kernel) rfl
theorem w_45 : (Jvm.Cond.fieldLink "RoadOfDoors$Text" (21 : Nat) "RoadOfDoors$Text" "length" "I") ∈ tW := tW_t (i := 45) (by decide +kernel) rfl
theorem w_46 : (Jvm.Cond.fieldLink "RoadOfDoors$Rules" (83 : Nat) "RoadOfDoors$Text" "length" "I") ∈ tW := tW_t (i := 46) (by decide +kernel) rfl
theorem w_47 : (Jvm.Cond.fieldLink "RoadOfDoors$Text" (25 : Nat) "RoadOfDoors$Text" "clauses" "I") ∈ tW := tW_t (i := 47) (by decide +kernel) rfl
theorem w_48 : (Jvm.Cond.fieldLink "RoadOfDoors$Reader" (89 : Nat) "RoadOfDoors$Text" "clauses" "I") ∈ tW := tW_t (i := 48) (by decide +kernel) rfl
theorem w_49 : (Jvm.Cond.fieldLink "RoadOfDoors" (171 : Nat) "RoadOfDoors$Text" "clauses" "I") ∈ tW := tW_t (i := 49) (by decide +kernel) rfl
theorem w_50 : (Jvm.Cond.fieldLink "RoadOfDoors$Text" (28 : Nat) "RoadOfDoors$Text" "looksAt" "I") ∈ tW := tW_t (i := 50) (by decide +kernel) rfl
theorem w_51 : (Jvm.Cond.fieldLink "RoadOfDoors$Rules" (48 : Nat) "RoadOfDoors$Text" "looksAt" "I") ∈ tW := tW_t (i := 51) (by decide +kernel) rfl
theorem w_52 : (Jvm.Cond.fieldLink "RoadOfDoors$Text" (31 : Nat) "RoadOfDoors$Text" "canOpen" "Z") ∈ tW := tW_t (i := 52) (by decide +kernel) rfl
theorem w_53 : (Jvm.Cond.fieldLink "RoadOfDoors$Rules" (43 : Nat) "RoadOfDoors$Text" "canOpen" "Z") ∈ tW := tW_t (i := 53) (by decide +kernel) rfl
theorem w_54 : (Jvm.Cond.fieldLink "RoadOfDoors$Reader" (85 : Nat) "RoadOfDoors$Text" "canOpen" "Z") ∈ tW := tW_t (i := 54) (by decide +kernel) rfl
theorem w_83 : (Jvm.Cond.fieldLink "RoadOfDoors$Traveller" (15 : Nat) "RoadOfDoors$Traveller" "load" "I") ∈ tW := tW_t (i := 83) (by decide +kernel) rfl
theorem w_84 : (Jvm.Cond.fieldLink "RoadOfDoors" (198 : Nat) "RoadOfDoors$Traveller" "load" "I") ∈ tW := tW_t (i := 84) (by decide +kernel) rfl
theorem w_85 : (Jvm.Cond.fieldLink "RoadOfDoors$Traveller" (19 : Nat) "RoadOfDoors$Traveller" "keys" "I") ∈ tW := tW_t (i := 85) (by decide +kernel) rfl
theorem w_86 : (Jvm.Cond.fieldLink "RoadOfDoors" (201 : Nat) "RoadOfDoors$Traveller" "keys" "I") ∈ tW := tW_t (i := 86) (by decide +kernel) rfl
theorem w_87 : (Jvm.Cond.fieldLink "RoadOfDoors$Traveller" (25 : Nat) "RoadOfDoors$Traveller" "purse" "I") ∈ tW := tW_t (i := 87) (by decide +kernel) rfl
theorem w_88 : (Jvm.Cond.fieldLink "RoadOfDoors" (195 : Nat) "RoadOfDoors$Traveller" "purse" "I") ∈ tW := tW_t (i := 88) (by decide +kernel) rfl
theorem w_89 : (Jvm.Cond.fieldLink "RoadOfDoors$Traveller" (22 : Nat) "RoadOfDoors$Traveller" "hour" "I") ∈ tW := tW_t (i := 89) (by decide +kernel) rfl
theorem w_90 : (Jvm.Cond.fieldLink "RoadOfDoors" (168 : Nat) "RoadOfDoors$Traveller" "hour" "I") ∈ tW := tW_t (i := 90) (by decide +kernel) rfl
theorem w_91 : (Jvm.Cond.fieldLink "RoadOfDoors$Traveller" (28 : Nat) "RoadOfDoors$Traveller" "waited" "I") ∈ tW := tW_t (i := 91) (by decide +kernel) rfl
theorem w_92 : (Jvm.Cond.fieldLink "RoadOfDoors" (193 : Nat) "RoadOfDoors$Traveller" "waited" "I") ∈ tW := tW_t (i := 92) (by decide +kernel) rfl
theorem w_93 : (Jvm.Cond.fieldLink "RoadOfDoors$Traveller" (31 : Nat) "RoadOfDoors$Traveller" "door" "I") ∈ tW := tW_t (i := 93) (by decide +kernel) rfl
theorem w_94 : (Jvm.Cond.fieldLink "RoadOfDoors" (190 : Nat) "RoadOfDoors$Traveller" "door" "I") ∈ tW := tW_t (i := 94) (by decide +kernel) rfl
theorem w_95 : (Jvm.Cond.fieldLink "RoadOfDoors$Traveller" (34 : Nat) "RoadOfDoors$Traveller" "steps" "I") ∈ tW := tW_t (i := 95) (by decide +kernel) rfl
theorem w_96 : (Jvm.Cond.fieldLink "RoadOfDoors" (187 : Nat) "RoadOfDoors$Traveller" "steps" "I") ∈ tW := tW_t (i := 96) (by decide +kernel) rfl
theorem w_97 : (Jvm.Cond.fieldLink "RoadOfDoors$Traveller" (9 : Nat) "RoadOfDoors$Traveller" "before" "[I") ∈ tW := tW_t (i := 97) (by decide +kernel) rfl
theorem w_116 : (Jvm.Cond.fieldLink "RoadOfDoors$Road" (9 : Nat) "RoadOfDoors$Road" "rain" "[I") ∈ tW := tW_t (i := 116) (by decide +kernel) rfl
theorem w_117 : (Jvm.Cond.fieldLink "RoadOfDoors" (90 : Nat) "RoadOfDoors$Road" "rain" "[I") ∈ tW := tW_t (i := 117) (by decide +kernel) rfl
theorem w_118 : (Jvm.Cond.fieldLink "RoadOfDoors$Rules" (77 : Nat) "RoadOfDoors$Road" "rain" "[I") ∈ tW := tW_t (i := 118) (by decide +kernel) rfl
theorem w_119 : (Jvm.Cond.fieldLink "RoadOfDoors$Road" (15 : Nat) "RoadOfDoors$Road" "mood" "[I") ∈ tW := tW_t (i := 119) (by decide +kernel) rfl
theorem w_120 : (Jvm.Cond.fieldLink "RoadOfDoors" (100 : Nat) "RoadOfDoors$Road" "mood" "[I") ∈ tW := tW_t (i := 120) (by decide +kernel) rfl
theorem w_121 : (Jvm.Cond.fieldLink "RoadOfDoors$Rules" (80 : Nat) "RoadOfDoors$Road" "mood" "[I") ∈ tW := tW_t (i := 121) (by decide +kernel) rfl
theorem w_122 : (Jvm.Cond.fieldLink "RoadOfDoors$Road" (18 : Nat) "RoadOfDoors$Road" "rule" "[I") ∈ tW := tW_t (i := 122) (by decide +kernel) rfl
theorem w_123 : (Jvm.Cond.fieldLink "RoadOfDoors$Earnings" (60 : Nat) "RoadOfDoors$Road" "rule" "[I") ∈ tW := tW_t (i := 123) (by decide +kernel) rfl
theorem w_124 : (Jvm.Cond.fieldLink "RoadOfDoors" (130 : Nat) "RoadOfDoors$Road" "rule" "[I") ∈ tW := tW_t (i := 124) (by decide +kernel) rfl
theorem w_125 : (Jvm.Cond.fieldLink "RoadOfDoors$Road" (21 : Nat) "RoadOfDoors$Road" "unhinged" "[Z") ∈ tW := tW_t (i := 125) (by decide +kernel) rfl
theorem w_126 : (Jvm.Cond.fieldLink "RoadOfDoors$Ways" (62 : Nat) "RoadOfDoors$Road" "unhinged" "[Z") ∈ tW := tW_t (i := 126) (by decide +kernel) rfl
theorem w_127 : (Jvm.Cond.fieldLink "RoadOfDoors" (103 : Nat) "RoadOfDoors$Road" "unhinged" "[Z") ∈ tW := tW_t (i := 127) (by decide +kernel) rfl
theorem w_128 : (Jvm.Cond.fieldLink "RoadOfDoors$Earnings" (74 : Nat) "RoadOfDoors$Road" "unhinged" "[Z") ∈ tW := tW_t (i := 128) (by decide +kernel) rfl
theorem w_129 : (Jvm.Cond.fieldLink "RoadOfDoors$Road" (25 : Nat) "RoadOfDoors$Road" "guests" "[I") ∈ tW := tW_t (i := 129) (by decide +kernel) rfl
theorem w_130 : (Jvm.Cond.fieldLink "RoadOfDoors$Earnings" (78 : Nat) "RoadOfDoors$Road" "guests" "[I") ∈ tW := tW_t (i := 130) (by decide +kernel) rfl
theorem w_131 : (Jvm.Cond.fieldLink "RoadOfDoors$Road" (28 : Nat) "RoadOfDoors$Road" "seen" "[I") ∈ tW := tW_t (i := 131) (by decide +kernel) rfl
theorem w_132 : (Jvm.Cond.fieldLink "RoadOfDoors" (250 : Nat) "RoadOfDoors$Road" "seen" "[I") ∈ tW := tW_t (i := 132) (by decide +kernel) rfl
theorem w_133 : (Jvm.Cond.fieldLink "RoadOfDoors$Road" (34 : Nat) "RoadOfDoors$Road" "traveller" "LRoadOfDoors$Traveller;") ∈ tW := tW_t (i := 133) (by decide +kernel) rfl
theorem w_134 : (Jvm.Cond.fieldLink "RoadOfDoors" (145 : Nat) "RoadOfDoors$Road" "traveller" "LRoadOfDoors$Traveller;") ∈ tW := tW_t (i := 134) (by decide +kernel) rfl
theorem w_135 : (Jvm.Cond.fieldLink "RoadOfDoors$Rules" (38 : Nat) "RoadOfDoors$Road" "told" "I") ∈ tW := tW_t (i := 135) (by decide +kernel) rfl
theorem w_136 : (Jvm.Cond.fieldLink "RoadOfDoors$Road" (56 : Nat) "RoadOfDoors$Road" "told" "I") ∈ tW := tW_t (i := 136) (by decide +kernel) rfl
theorem w_137 : (Jvm.Cond.fieldLink "RoadOfDoors$Earnings" (85 : Nat) "RoadOfDoors$Road" "told" "I") ∈ tW := tW_t (i := 137) (by decide +kernel) rfl
theorem w_138 : (Jvm.Cond.fieldLink "RoadOfDoors" (117 : Nat) "RoadOfDoors$Road" "told" "I") ∈ tW := tW_t (i := 138) (by decide +kernel) rfl
theorem w_139 : (Jvm.Cond.fieldLink "RoadOfDoors$Road" (38 : Nat) "RoadOfDoors$Road" "guestCount" "I") ∈ tW := tW_t (i := 139) (by decide +kernel) rfl
theorem w_140 : (Jvm.Cond.fieldLink "RoadOfDoors$Earnings" (71 : Nat) "RoadOfDoors$Road" "guestCount" "I") ∈ tW := tW_t (i := 140) (by decide +kernel) rfl
theorem w_141 : (Jvm.Cond.fieldLink "RoadOfDoors" (227 : Nat) "RoadOfDoors$Road" "guestCount" "I") ∈ tW := tW_t (i := 141) (by decide +kernel) rfl
theorem w_142 : (Jvm.Cond.fieldLink "RoadOfDoors$Road" (59 : Nat) "RoadOfDoors$Road" "seenCount" "I") ∈ tW := tW_t (i := 142) (by decide +kernel) rfl
theorem w_143 : (Jvm.Cond.fieldLink "RoadOfDoors" (247 : Nat) "RoadOfDoors$Road" "seenCount" "I") ∈ tW := tW_t (i := 143) (by decide +kernel) rfl
theorem w_171 : (Jvm.Cond.fieldLink "RoadOfDoors$Tape" (9 : Nat) "RoadOfDoors$Tape" "bytes" "[B") ∈ tW := tW_t (i := 171) (by decide +kernel) rfl
theorem w_172 : (Jvm.Cond.fieldLink "RoadOfDoors$Tape" (15 : Nat) "RoadOfDoors$Tape" "length" "I") ∈ tW := tW_t (i := 172) (by decide +kernel) rfl
theorem w_173 : (Jvm.Cond.fieldLink "RoadOfDoors" (110 : Nat) "RoadOfDoors$Tape" "length" "I") ∈ tW := tW_t (i := 173) (by decide +kernel) rfl
theorem w_174 : (Jvm.Cond.fieldLink "RoadOfDoors$Reader" (46 : Nat) "RoadOfDoors$Tape" "kind" "I") ∈ tW := tW_t (i := 174) (by decide +kernel) rfl
theorem w_175 : (Jvm.Cond.fieldLink "RoadOfDoors$Tape" (39 : Nat) "RoadOfDoors$Tape" "kind" "I") ∈ tW := tW_t (i := 175) (by decide +kernel) rfl
theorem w_176 : (Jvm.Cond.fieldLink "RoadOfDoors$Reader" (63 : Nat) "RoadOfDoors$Tape" "number" "I") ∈ tW := tW_t (i := 176) (by decide +kernel) rfl
theorem w_177 : (Jvm.Cond.fieldLink "RoadOfDoors$Tape" (65 : Nat) "RoadOfDoors$Tape" "number" "I") ∈ tW := tW_t (i := 177) (by decide +kernel) rfl
theorem w_178 : (Jvm.Cond.fieldLink "RoadOfDoors$Reader" (53 : Nat) "RoadOfDoors$Tape" "start" "I") ∈ tW := tW_t (i := 178) (by decide +kernel) rfl
theorem w_179 : (Jvm.Cond.fieldLink "RoadOfDoors$Tape" (30 : Nat) "RoadOfDoors$Tape" "start" "I") ∈ tW := tW_t (i := 179) (by decide +kernel) rfl
theorem w_180 : (Jvm.Cond.fieldLink "RoadOfDoors$Tape" (19 : Nat) "RoadOfDoors$Tape" "after" "I") ∈ tW := tW_t (i := 180) (by decide +kernel) rfl
theorem w_201 : (Jvm.Cond.fieldLink "RoadOfDoors$Rules" (18 : Nat) "RoadOfDoors$Rules" "doors" "I") ∈ tW := tW_t (i := 201) (by decide +kernel) rfl
theorem w_202 : (Jvm.Cond.fieldLink "RoadOfDoors$Rules" (22 : Nat) "RoadOfDoors$Rules" "road" "LRoadOfDoors$Road;") ∈ tW := tW_t (i := 202) (by decide +kernel) rfl
theorem w_203 : (Jvm.Cond.fieldLink "RoadOfDoors$Rules" (26 : Nat) "RoadOfDoors$Rules" "texts" "[LRoadOfDoors$Text;") ∈ tW := tW_t (i := 203) (by decide +kernel) rfl
theorem w_204 : (Jvm.Cond.fieldLink "RoadOfDoors$Rules" (9 : Nat) "RoadOfDoors$Rules" "names" "[I") ∈ tW := tW_t (i := 204) (by decide +kernel) rfl
theorem w_205 : (Jvm.Cond.fieldLink "RoadOfDoors$Rules" (15 : Nat) "RoadOfDoors$Rules" "values" "[I") ∈ tW := tW_t (i := 205) (by decide +kernel) rfl
theorem w_206 : (Jvm.Cond.fieldLink "RoadOfDoors$Rules" (30 : Nat) "RoadOfDoors$Rules" "leasts" "[J") ∈ tW := tW_t (i := 206) (by decide +kernel) rfl
theorem w_207 : (Jvm.Cond.fieldLink "RoadOfDoors$Rules" (34 : Nat) "RoadOfDoors$Rules" "stale" "Z") ∈ tW := tW_t (i := 207) (by decide +kernel) rfl
theorem w_230 : (Jvm.Cond.fieldLink "RoadOfDoors$Ways" (105 : Nat) "RoadOfDoors$Ways" "gifts" "I") ∈ tW := tW_t (i := 230) (by decide +kernel) rfl
theorem w_231 : (Jvm.Cond.fieldLink "RoadOfDoors" (218 : Nat) "RoadOfDoors$Ways" "gifts" "I") ∈ tW := tW_t (i := 231) (by decide +kernel) rfl
theorem w_232 : (Jvm.Cond.fieldLink "RoadOfDoors$Ways" (108 : Nat) "RoadOfDoors$Ways" "hours" "I") ∈ tW := tW_t (i := 232) (by decide +kernel) rfl
theorem w_233 : (Jvm.Cond.fieldLink "RoadOfDoors" (221 : Nat) "RoadOfDoors$Ways" "hours" "I") ∈ tW := tW_t (i := 233) (by decide +kernel) rfl
theorem w_234 : (Jvm.Cond.fieldLink "RoadOfDoors$Ways" (9 : Nat) "RoadOfDoors$Ways" "acts" "[I") ∈ tW := tW_t (i := 234) (by decide +kernel) rfl
theorem w_235 : (Jvm.Cond.fieldLink "RoadOfDoors" (224 : Nat) "RoadOfDoors$Ways" "acts" "[I") ∈ tW := tW_t (i := 235) (by decide +kernel) rfl
theorem w_236 : (Jvm.Cond.fieldLink "RoadOfDoors$Ways" (15 : Nat) "RoadOfDoors$Ways" "given" "[I") ∈ tW := tW_t (i := 236) (by decide +kernel) rfl
theorem w_237 : (Jvm.Cond.fieldLink "RoadOfDoors$Earnings" (103 : Nat) "RoadOfDoors$Ways" "given" "[I") ∈ tW := tW_t (i := 237) (by decide +kernel) rfl
theorem w_238 : (Jvm.Cond.fieldLink "RoadOfDoors$Ways" (30 : Nat) "RoadOfDoors$Ways" "doors" "I") ∈ tW := tW_t (i := 238) (by decide +kernel) rfl
theorem w_239 : (Jvm.Cond.fieldLink "RoadOfDoors$Ways" (34 : Nat) "RoadOfDoors$Ways" "road" "LRoadOfDoors$Road;") ∈ tW := tW_t (i := 239) (by decide +kernel) rfl
theorem w_240 : (Jvm.Cond.fieldLink "RoadOfDoors$Ways" (38 : Nat) "RoadOfDoors$Ways" "rules" "LRoadOfDoors$Rules;") ∈ tW := tW_t (i := 240) (by decide +kernel) rfl
theorem w_241 : (Jvm.Cond.fieldLink "RoadOfDoors$Ways" (18 : Nat) "RoadOfDoors$Ways" "costs" "[I") ∈ tW := tW_t (i := 241) (by decide +kernel) rfl
theorem w_242 : (Jvm.Cond.fieldLink "RoadOfDoors$Ways" (21 : Nat) "RoadOfDoors$Ways" "goes" "[I") ∈ tW := tW_t (i := 242) (by decide +kernel) rfl
theorem w_243 : (Jvm.Cond.fieldLink "RoadOfDoors$Ways" (24 : Nat) "RoadOfDoors$Ways" "places" "[I") ∈ tW := tW_t (i := 243) (by decide +kernel) rfl
theorem w_244 : (Jvm.Cond.fieldLink "RoadOfDoors$Ways" (27 : Nat) "RoadOfDoors$Ways" "mostWaited" "[I") ∈ tW := tW_t (i := 244) (by decide +kernel) rfl
theorem w_245 : (Jvm.Cond.fieldLink "RoadOfDoors$Ways" (46 : Nat) "RoadOfDoors$Ways" "firstHour" "I") ∈ tW := tW_t (i := 245) (by decide +kernel) rfl
theorem w_277 : (Jvm.Cond.fieldLink "RoadOfDoors$Reader" (9 : Nat) "RoadOfDoors$Reader" "fault" "I") ∈ tW := tW_t (i := 277) (by decide +kernel) rfl
theorem w_278 : (Jvm.Cond.fieldLink "RoadOfDoors" (124 : Nat) "RoadOfDoors$Reader" "fault" "I") ∈ tW := tW_t (i := 278) (by decide +kernel) rfl
theorem w_279 : (Jvm.Cond.fieldLink "RoadOfDoors$Reader" (15 : Nat) "RoadOfDoors$Reader" "place" "I") ∈ tW := tW_t (i := 279) (by decide +kernel) rfl
theorem w_280 : (Jvm.Cond.fieldLink "RoadOfDoors" (127 : Nat) "RoadOfDoors$Reader" "place" "I") ∈ tW := tW_t (i := 280) (by decide +kernel) rfl
theorem w_281 : (Jvm.Cond.fieldLink "RoadOfDoors$Reader" (22 : Nat) "RoadOfDoors$Reader" "tape" "LRoadOfDoors$Tape;") ∈ tW := tW_t (i := 281) (by decide +kernel) rfl
theorem w_282 : (Jvm.Cond.fieldLink "RoadOfDoors$Reader" (18 : Nat) "RoadOfDoors$Reader" "pile" "[I") ∈ tW := tW_t (i := 282) (by decide +kernel) rfl
theorem w_283 : (Jvm.Cond.fieldLink "RoadOfDoors$Reader" (26 : Nat) "RoadOfDoors$Reader" "text" "LRoadOfDoors$Text;") ∈ tW := tW_t (i := 283) (by decide +kernel) rfl
theorem w_284 : (Jvm.Cond.fieldLink "RoadOfDoors$Reader" (30 : Nat) "RoadOfDoors$Reader" "state" "I") ∈ tW := tW_t (i := 284) (by decide +kernel) rfl
theorem w_285 : (Jvm.Cond.fieldLink "RoadOfDoors$Reader" (95 : Nat) "RoadOfDoors$Reader" "height" "I") ∈ tW := tW_t (i := 285) (by decide +kernel) rfl
theorem w_286 : (Jvm.Cond.fieldLink "RoadOfDoors$Reader" (98 : Nat) "RoadOfDoors$Reader" "nested" "I") ∈ tW := tW_t (i := 286) (by decide +kernel) rfl
theorem w_287 : (Jvm.Cond.fieldLink "RoadOfDoors$Reader" (101 : Nat) "RoadOfDoors$Reader" "unclosed" "I") ∈ tW := tW_t (i := 287) (by decide +kernel) rfl
theorem w_288 : (Jvm.Cond.fieldLink "RoadOfDoors$Reader" (104 : Nat) "RoadOfDoors$Reader" "compared" "Z") ∈ tW := tW_t (i := 288) (by decide +kernel) rfl
theorem w_316 : (Jvm.Cond.fieldLink "RoadOfDoors$Earnings" (9 : Nat) "RoadOfDoors$Earnings" "trial" "[I") ∈ tW := tW_t (i := 316) (by decide +kernel) rfl
theorem w_317 : (Jvm.Cond.fieldLink "RoadOfDoors" (244 : Nat) "RoadOfDoors$Earnings" "trial" "[I") ∈ tW := tW_t (i := 317) (by decide +kernel) rfl
theorem w_318 : (Jvm.Cond.fieldLink "RoadOfDoors$Earnings" (18 : Nat) "RoadOfDoors$Earnings" "doors" "I") ∈ tW := tW_t (i := 318) (by decide +kernel) rfl
theorem w_319 : (Jvm.Cond.fieldLink "RoadOfDoors$Earnings" (22 : Nat) "RoadOfDoors$Earnings" "road" "LRoadOfDoors$Road;") ∈ tW := tW_t (i := 319) (by decide +kernel) rfl
theorem w_320 : (Jvm.Cond.fieldLink "RoadOfDoors$Earnings" (26 : Nat) "RoadOfDoors$Earnings" "rules" "LRoadOfDoors$Rules;") ∈ tW := tW_t (i := 320) (by decide +kernel) rfl
theorem w_321 : (Jvm.Cond.fieldLink "RoadOfDoors$Earnings" (30 : Nat) "RoadOfDoors$Earnings" "ways" "LRoadOfDoors$Ways;") ∈ tW := tW_t (i := 321) (by decide +kernel) rfl
theorem w_322 : (Jvm.Cond.fieldLink "RoadOfDoors$Earnings" (15 : Nat) "RoadOfDoors$Earnings" "past" "[I") ∈ tW := tW_t (i := 322) (by decide +kernel) rfl
theorem w_323 : (Jvm.Cond.fieldLink "RoadOfDoors$Earnings" (49 : Nat) "RoadOfDoors$Earnings" "changed" "I") ∈ tW := tW_t (i := 323) (by decide +kernel) rfl
theorem w_324 : (Jvm.Cond.fieldLink "RoadOfDoors$Earnings" (34 : Nat) "RoadOfDoors$Earnings" "settled" "Z") ∈ tW := tW_t (i := 324) (by decide +kernel) rfl
theorem w_342 : (Jvm.Cond.fieldLink "RoadOfDoors" (37 : Nat) "RoadOfDoors" "doors" "I") ∈ tW := tW_t (i := 342) (by decide +kernel) rfl
theorem w_343 : (Jvm.Cond.fieldLink "RoadOfDoors" (41 : Nat) "RoadOfDoors" "road" "LRoadOfDoors$Road;") ∈ tW := tW_t (i := 343) (by decide +kernel) rfl
theorem w_344 : (Jvm.Cond.fieldLink "RoadOfDoors" (45 : Nat) "RoadOfDoors" "saved" "LRoadOfDoors$Road;") ∈ tW := tW_t (i := 344) (by decide +kernel) rfl
theorem w_345 : (Jvm.Cond.fieldLink "RoadOfDoors" (48 : Nat) "RoadOfDoors" "texts" "[LRoadOfDoors$Text;") ∈ tW := tW_t (i := 345) (by decide +kernel) rfl
theorem w_346 : (Jvm.Cond.fieldLink "RoadOfDoors" (52 : Nat) "RoadOfDoors" "tape" "LRoadOfDoors$Tape;") ∈ tW := tW_t (i := 346) (by decide +kernel) rfl
theorem w_347 : (Jvm.Cond.fieldLink "RoadOfDoors" (61 : Nat) "RoadOfDoors" "reader" "LRoadOfDoors$Reader;") ∈ tW := tW_t (i := 347) (by decide +kernel) rfl
theorem w_348 : (Jvm.Cond.fieldLink "RoadOfDoors" (65 : Nat) "RoadOfDoors" "rules" "LRoadOfDoors$Rules;") ∈ tW := tW_t (i := 348) (by decide +kernel) rfl
theorem w_349 : (Jvm.Cond.fieldLink "RoadOfDoors" (69 : Nat) "RoadOfDoors" "ways" "LRoadOfDoors$Ways;") ∈ tW := tW_t (i := 349) (by decide +kernel) rfl
theorem w_350 : (Jvm.Cond.fieldLink "RoadOfDoors" (78 : Nat) "RoadOfDoors" "earnings" "LRoadOfDoors$Earnings;") ∈ tW := tW_t (i := 350) (by decide +kernel) rfl
theorem w_374 : (Jvm.Cond.methodLink "RoadOfDoors" (82 : Nat) ({ cls := "RoadOfDoors", name := "isHour", desc := "(I)Z" } : Jvm.MethodName)) ∈ tW := tW_t (i := 374) (by decide +kernel) rfl
theorem w_375 : (Jvm.Cond.static ({ cls := "RoadOfDoors", name := "isHour", desc := "(I)Z" } : Jvm.MethodName)) ∈ tW := tW_t (i := 375) (by decide +kernel) rfl
theorem w_377 : (Jvm.Cond.methodLink "RoadOfDoors" (86 : Nat) ({ cls := "RoadOfDoors", name := "within", desc := "(III)Z" } : Jvm.MethodName)) ∈ tW := tW_t (i := 377) (by decide +kernel) rfl
theorem w_378 : (Jvm.Cond.static ({ cls := "RoadOfDoors", name := "within", desc := "(III)Z" } : Jvm.MethodName)) ∈ tW := tW_t (i := 378) (by decide +kernel) rfl
theorem w_380 : (Jvm.Cond.methodLink "RoadOfDoors" (94 : Nat) ({ cls := "RoadOfDoors", name := "outlookChanged", desc := "()V" } : Jvm.MethodName)) ∈ tW := tW_t (i := 380) (by decide +kernel) rfl
theorem w_382 : (Jvm.Cond.instanceMethod ({ cls := "RoadOfDoors", name := "outlookChanged", desc := "()V" } : Jvm.MethodName)) ∈ tW := tW_t (i := 382) (by decide +kernel) rfl
theorem w_384 : (Jvm.Cond.methodLink "RoadOfDoors" (263 : Nat) ({ cls := "RoadOfDoors$Rules", name := "forget", desc := "()V" } : Jvm.MethodName)) ∈ tW := tW_t (i := 384) (by decide +kernel) rfl
theorem w_385 : (Jvm.Cond.instanceMethod ({ cls := "RoadOfDoors$Rules", name := "forget", desc := "()V" } : Jvm.MethodName)) ∈ tW := tW_t (i := 385) (by decide +kernel) rfl
theorem w_386 : (Jvm.Cond.selects "RoadOfDoors$Rules" ({ cls := "RoadOfDoors$Rules", name := "forget", desc := "()V" } : Jvm.MethodName) ({ cls := "RoadOfDoors$Rules", name := "forget", desc := "()V" } : Jvm.MethodName)) ∈ tW := tW_t (i := 386) (by decide +kernel) rfl
theorem w_388 : (Jvm.Cond.methodLink "RoadOfDoors" (107 : Nat) ({ cls := "RoadOfDoors$Earnings", name := "forget", desc := "()V" } : Jvm.MethodName)) ∈ tW := tW_t (i := 388) (by decide +kernel) rfl
theorem w_389 : (Jvm.Cond.instanceMethod ({ cls := "RoadOfDoors$Earnings", name := "forget", desc := "()V" } : Jvm.MethodName)) ∈ tW := tW_t (i := 389) (by decide +kernel) rfl
theorem w_390 : (Jvm.Cond.selects "RoadOfDoors$Earnings" ({ cls := "RoadOfDoors$Earnings", name := "forget", desc := "()V" } : Jvm.MethodName) ({ cls := "RoadOfDoors$Earnings", name := "forget", desc := "()V" } : Jvm.MethodName)) ∈ tW := tW_t (i := 390) (by decide +kernel) rfl
theorem w_396 : (Jvm.Cond.methodLink "RoadOfDoors" (97 : Nat) ({ cls := "RoadOfDoors", name := "isDoor", desc := "(I)Z" } : Jvm.MethodName)) ∈ tW := tW_t (i := 396) (by decide +kernel) rfl
theorem w_398 : (Jvm.Cond.instanceMethod ({ cls := "RoadOfDoors", name := "isDoor", desc := "(I)Z" } : Jvm.MethodName)) ∈ tW := tW_t (i := 398) (by decide +kernel) rfl
theorem w_412 : (Jvm.Cond.methodLink "RoadOfDoors" (113 : Nat) ({ cls := "RoadOfDoors$Tape", name := "add", desc := "(I)V" } : Jvm.MethodName)) ∈ tW := tW_t (i := 412) (by decide +kernel) rfl
theorem w_413 : (Jvm.Cond.instanceMethod ({ cls := "RoadOfDoors$Tape", name := "add", desc := "(I)V" } : Jvm.MethodName)) ∈ tW := tW_t (i := 413) (by decide +kernel) rfl
theorem w_414 : (Jvm.Cond.selects "RoadOfDoors$Tape" ({ cls := "RoadOfDoors$Tape", name := "add", desc := "(I)V" } : Jvm.MethodName) ({ cls := "RoadOfDoors$Tape", name := "add", desc := "(I)V" } : Jvm.MethodName)) ∈ tW := tW_t (i := 414) (by decide +kernel) rfl
theorem w_424 : (Jvm.Cond.methodLink "RoadOfDoors" (120 : Nat) ({ cls := "RoadOfDoors$Reader", name := "read", desc := "(LRoadOfDoors$Text;)Z" } : Jvm.MethodName)) ∈ tW := tW_t (i := 424) (by decide +kernel) rfl
theorem w_425 : (Jvm.Cond.instanceMethod ({ cls := "RoadOfDoors$Reader", name := "read", desc := "(LRoadOfDoors$Text;)Z" } : Jvm.MethodName)) ∈ tW := tW_t (i := 425) (by decide +kernel) rfl
theorem w_426 : (Jvm.Cond.selects "RoadOfDoors$Reader" ({ cls := "RoadOfDoors$Reader", name := "read", desc := "(LRoadOfDoors$Text;)Z" } : Jvm.MethodName) ({ cls := "RoadOfDoors$Reader", name := "read", desc := "(LRoadOfDoors$Text;)Z" } : Jvm.MethodName)) ∈ tW := tW_t (i := 426) (by decide +kernel) rfl
theorem w_428 : (Jvm.Cond.methodLink "RoadOfDoors$Reader" (33 : Nat) ({ cls := "RoadOfDoors$Text", name := "empties", desc := "()V" } : Jvm.MethodName)) ∈ tW := tW_t (i := 428) (by decide +kernel) rfl
theorem w_429 : (Jvm.Cond.instanceMethod ({ cls := "RoadOfDoors$Text", name := "empties", desc := "()V" } : Jvm.MethodName)) ∈ tW := tW_t (i := 429) (by decide +kernel) rfl
theorem w_430 : (Jvm.Cond.selects "RoadOfDoors$Text" ({ cls := "RoadOfDoors$Text", name := "empties", desc := "()V" } : Jvm.MethodName) ({ cls := "RoadOfDoors$Text", name := "empties", desc := "()V" } : Jvm.MethodName)) ∈ tW := tW_t (i := 430) (by decide +kernel) rfl
theorem w_432 : (Jvm.Cond.methodLink "RoadOfDoors$Reader" (38 : Nat) ({ cls := "RoadOfDoors$Tape", name := "rewinds", desc := "()V" } : Jvm.MethodName)) ∈ tW := tW_t (i := 432) (by decide +kernel) rfl
theorem w_433 : (Jvm.Cond.instanceMethod ({ cls := "RoadOfDoors$Tape", name := "rewinds", desc := "()V" } : Jvm.MethodName)) ∈ tW := tW_t (i := 433) (by decide +kernel) rfl
theorem w_434 : (Jvm.Cond.selects "RoadOfDoors$Tape" ({ cls := "RoadOfDoors$Tape", name := "rewinds", desc := "()V" } : Jvm.MethodName) ({ cls := "RoadOfDoors$Tape", name := "rewinds", desc := "()V" } : Jvm.MethodName)) ∈ tW := tW_t (i := 434) (by decide +kernel) rfl
theorem w_436 : (Jvm.Cond.methodLink "RoadOfDoors$Reader" (43 : Nat) ({ cls := "RoadOfDoors$Tape", name := "nextToken", desc := "()V" } : Jvm.MethodName)) ∈ tW := tW_t (i := 436) (by decide +kernel) rfl
theorem w_437 : (Jvm.Cond.instanceMethod ({ cls := "RoadOfDoors$Tape", name := "nextToken", desc := "()V" } : Jvm.MethodName)) ∈ tW := tW_t (i := 437) (by decide +kernel) rfl
theorem w_438 : (Jvm.Cond.selects "RoadOfDoors$Tape" ({ cls := "RoadOfDoors$Tape", name := "nextToken", desc := "()V" } : Jvm.MethodName) ({ cls := "RoadOfDoors$Tape", name := "nextToken", desc := "()V" } : Jvm.MethodName)) ∈ tW := tW_t (i := 438) (by decide +kernel) rfl
theorem w_440 : (Jvm.Cond.methodLink "RoadOfDoors$Tape" (22 : Nat) ({ cls := "RoadOfDoors$Tape", name := "byteAt", desc := "(I)I" } : Jvm.MethodName)) ∈ tW := tW_t (i := 440) (by decide +kernel) rfl
theorem w_442 : (Jvm.Cond.instanceMethod ({ cls := "RoadOfDoors$Tape", name := "byteAt", desc := "(I)I" } : Jvm.MethodName)) ∈ tW := tW_t (i := 442) (by decide +kernel) rfl
theorem w_444 : (Jvm.Cond.methodLink "RoadOfDoors$Tape" (26 : Nat) ({ cls := "RoadOfDoors$Tape", name := "isBlank", desc := "(I)Z" } : Jvm.MethodName)) ∈ tW := tW_t (i := 444) (by decide +kernel) rfl
theorem w_445 : (Jvm.Cond.static ({ cls := "RoadOfDoors$Tape", name := "isBlank", desc := "(I)Z" } : Jvm.MethodName)) ∈ tW := tW_t (i := 445) (by decide +kernel) rfl
theorem w_447 : (Jvm.Cond.methodLink "RoadOfDoors$Tape" (33 : Nat) ({ cls := "java/lang/Math", name := "min", desc := "(II)I" } : Jvm.MethodName)) ∈ tW := tW_t (i := 447) (by decide +kernel) rfl
theorem w_448 : (Jvm.Cond.methodLink "RoadOfDoors$Tape" (42 : Nat) ({ cls := "RoadOfDoors$Tape", name := "isLetter", desc := "(I)Z" } : Jvm.MethodName)) ∈ tW := tW_t (i := 448) (by decide +kernel) rfl
theorem w_449 : (Jvm.Cond.static ({ cls := "RoadOfDoors$Tape", name := "isLetter", desc := "(I)Z" } : Jvm.MethodName)) ∈ tW := tW_t (i := 449) (by decide +kernel) rfl
theorem w_452 : (Jvm.Cond.methodLink "RoadOfDoors$Tape" (45 : Nat) ({ cls := "RoadOfDoors$Tape", name := "readWord", desc := "()V" } : Jvm.MethodName)) ∈ tW := tW_t (i := 452) (by decide +kernel) rfl
theorem w_454 : (Jvm.Cond.instanceMethod ({ cls := "RoadOfDoors$Tape", name := "readWord", desc := "()V" } : Jvm.MethodName)) ∈ tW := tW_t (i := 454) (by decide +kernel) rfl
theorem w_456 : (Jvm.Cond.methodLink "RoadOfDoors$Tape" (68 : Nat) ({ cls := "RoadOfDoors$Tape", name := "nameSpelt", desc := "()I" } : Jvm.MethodName)) ∈ tW := tW_t (i := 456) (by decide +kernel) rfl
theorem w_458 : (Jvm.Cond.instanceMethod ({ cls := "RoadOfDoors$Tape", name := "nameSpelt", desc := "()I" } : Jvm.MethodName)) ∈ tW := tW_t (i := 458) (by decide +kernel) rfl
theorem w_461 : (Jvm.Cond.methodLink "RoadOfDoors$Tape" (85 : Nat) ({ cls := "RoadOfDoors$Tape", name := "spells", desc := "(Ljava/lang/String;)Z" } : Jvm.MethodName)) ∈ tW := tW_t (i := 461) (by decide +kernel) rfl
theorem w_463 : (Jvm.Cond.instanceMethod ({ cls := "RoadOfDoors$Tape", name := "spells", desc := "(Ljava/lang/String;)Z" } : Jvm.MethodName)) ∈ tW := tW_t (i := 463) (by decide +kernel) rfl
theorem w_520 : (Jvm.Cond.methodLink "RoadOfDoors$Tape" (72 : Nat) ({ cls := "RoadOfDoors$Tape", name := "wordSpelt", desc := "()I" } : Jvm.MethodName)) ∈ tW := tW_t (i := 520) (by decide +kernel) rfl
theorem w_522 : (Jvm.Cond.instanceMethod ({ cls := "RoadOfDoors$Tape", name := "wordSpelt", desc := "()I" } : Jvm.MethodName)) ∈ tW := tW_t (i := 522) (by decide +kernel) rfl
theorem w_531 : (Jvm.Cond.methodLink "RoadOfDoors$Tape" (48 : Nat) ({ cls := "RoadOfDoors$Tape", name := "isDigit", desc := "(I)Z" } : Jvm.MethodName)) ∈ tW := tW_t (i := 531) (by decide +kernel) rfl
theorem w_532 : (Jvm.Cond.static ({ cls := "RoadOfDoors$Tape", name := "isDigit", desc := "(I)Z" } : Jvm.MethodName)) ∈ tW := tW_t (i := 532) (by decide +kernel) rfl
theorem w_534 : (Jvm.Cond.methodLink "RoadOfDoors$Tape" (51 : Nat) ({ cls := "RoadOfDoors$Tape", name := "readNumber", desc := "()V" } : Jvm.MethodName)) ∈ tW := tW_t (i := 534) (by decide +kernel) rfl
theorem w_536 : (Jvm.Cond.instanceMethod ({ cls := "RoadOfDoors$Tape", name := "readNumber", desc := "()V" } : Jvm.MethodName)) ∈ tW := tW_t (i := 536) (by decide +kernel) rfl
theorem w_538 : (Jvm.Cond.methodLink "RoadOfDoors$Tape" (54 : Nat) ({ cls := "RoadOfDoors$Tape", name := "signAt", desc := "(IZ)I" } : Jvm.MethodName)) ∈ tW := tW_t (i := 538) (by decide +kernel) rfl
theorem w_539 : (Jvm.Cond.static ({ cls := "RoadOfDoors$Tape", name := "signAt", desc := "(IZ)I" } : Jvm.MethodName)) ∈ tW := tW_t (i := 539) (by decide +kernel) rfl
theorem w_541 : (Jvm.Cond.methodLink "RoadOfDoors$Tape" (58 : Nat) ({ cls := "RoadOfDoors$Tape", name := "isTwoSigned", desc := "(I)Z" } : Jvm.MethodName)) ∈ tW := tW_t (i := 541) (by decide +kernel) rfl
theorem w_542 : (Jvm.Cond.static ({ cls := "RoadOfDoors$Tape", name := "isTwoSigned", desc := "(I)Z" } : Jvm.MethodName)) ∈ tW := tW_t (i := 542) (by decide +kernel) rfl
theorem w_544 : (Jvm.Cond.methodLink "RoadOfDoors$Reader" (49 : Nat) ({ cls := "RoadOfDoors$Reader", name := "take", desc := "(I)V" } : Jvm.MethodName)) ∈ tW := tW_t (i := 544) (by decide +kernel) rfl
theorem w_546 : (Jvm.Cond.instanceMethod ({ cls := "RoadOfDoors$Reader", name := "take", desc := "(I)V" } : Jvm.MethodName)) ∈ tW := tW_t (i := 546) (by decide +kernel) rfl
theorem w_548 : (Jvm.Cond.methodLink "RoadOfDoors$Reader" (56 : Nat) ({ cls := "RoadOfDoors$Reader", name := "takeClause", desc := "(I)V" } : Jvm.MethodName)) ∈ tW := tW_t (i := 548) (by decide +kernel) rfl
theorem w_550 : (Jvm.Cond.instanceMethod ({ cls := "RoadOfDoors$Reader", name := "takeClause", desc := "(I)V" } : Jvm.MethodName)) ∈ tW := tW_t (i := 550) (by decide +kernel) rfl
theorem w_552 : (Jvm.Cond.methodLink "RoadOfDoors$Reader" (82 : Nat) ({ cls := "RoadOfDoors$Reader", name := "refuse", desc := "(I)V" } : Jvm.MethodName)) ∈ tW := tW_t (i := 552) (by decide +kernel) rfl
theorem w_554 : (Jvm.Cond.instanceMethod ({ cls := "RoadOfDoors$Reader", name := "refuse", desc := "(I)V" } : Jvm.MethodName)) ∈ tW := tW_t (i := 554) (by decide +kernel) rfl
theorem w_556 : (Jvm.Cond.methodLink "RoadOfDoors$Reader" (92 : Nat) ({ cls := "RoadOfDoors$Text", name := "addClause", desc := "(I)V" } : Jvm.MethodName)) ∈ tW := tW_t (i := 556) (by decide +kernel) rfl
theorem w_557 : (Jvm.Cond.instanceMethod ({ cls := "RoadOfDoors$Text", name := "addClause", desc := "(I)V" } : Jvm.MethodName)) ∈ tW := tW_t (i := 557) (by decide +kernel) rfl
theorem w_558 : (Jvm.Cond.selects "RoadOfDoors$Text" ({ cls := "RoadOfDoors$Text", name := "addClause", desc := "(I)V" } : Jvm.MethodName) ({ cls := "RoadOfDoors$Text", name := "addClause", desc := "(I)V" } : Jvm.MethodName)) ∈ tW := tW_t (i := 558) (by decide +kernel) rfl
theorem w_560 : (Jvm.Cond.methodLink "RoadOfDoors$Reader" (59 : Nat) ({ cls := "RoadOfDoors$Reader", name := "takeNumber", desc := "(III)V" } : Jvm.MethodName)) ∈ tW := tW_t (i := 560) (by decide +kernel) rfl
theorem w_562 : (Jvm.Cond.instanceMethod ({ cls := "RoadOfDoors$Reader", name := "takeNumber", desc := "(III)V" } : Jvm.MethodName)) ∈ tW := tW_t (i := 562) (by decide +kernel) rfl
theorem w_565 : (Jvm.Cond.methodLink "RoadOfDoors$Reader" (66 : Nat) ({ cls := "RoadOfDoors$Text", name := "setKnocks", desc := "(I)V" } : Jvm.MethodName)) ∈ tW := tW_t (i := 565) (by decide +kernel) rfl
theorem w_566 : (Jvm.Cond.instanceMethod ({ cls := "RoadOfDoors$Text", name := "setKnocks", desc := "(I)V" } : Jvm.MethodName)) ∈ tW := tW_t (i := 566) (by decide +kernel) rfl
theorem w_567 : (Jvm.Cond.selects "RoadOfDoors$Text" ({ cls := "RoadOfDoors$Text", name := "setKnocks", desc := "(I)V" } : Jvm.MethodName) ({ cls := "RoadOfDoors$Text", name := "setKnocks", desc := "(I)V" } : Jvm.MethodName)) ∈ tW := tW_t (i := 567) (by decide +kernel) rfl
theorem w_570 : (Jvm.Cond.methodLink "RoadOfDoors$Reader" (69 : Nat) ({ cls := "RoadOfDoors$Reader", name := "takeSign", desc := "(II)V" } : Jvm.MethodName)) ∈ tW := tW_t (i := 570) (by decide +kernel) rfl
theorem w_572 : (Jvm.Cond.instanceMethod ({ cls := "RoadOfDoors$Reader", name := "takeSign", desc := "(II)V" } : Jvm.MethodName)) ∈ tW := tW_t (i := 572) (by decide +kernel) rfl
theorem w_574 : (Jvm.Cond.methodLink "RoadOfDoors$Reader" (73 : Nat) ({ cls := "RoadOfDoors$Text", name := "setAmount", desc := "(I)V" } : Jvm.MethodName)) ∈ tW := tW_t (i := 574) (by decide +kernel) rfl
theorem w_575 : (Jvm.Cond.instanceMethod ({ cls := "RoadOfDoors$Text", name := "setAmount", desc := "(I)V" } : Jvm.MethodName)) ∈ tW := tW_t (i := 575) (by decide +kernel) rfl
theorem w_576 : (Jvm.Cond.selects "RoadOfDoors$Text" ({ cls := "RoadOfDoors$Text", name := "setAmount", desc := "(I)V" } : Jvm.MethodName) ({ cls := "RoadOfDoors$Text", name := "setAmount", desc := "(I)V" } : Jvm.MethodName)) ∈ tW := tW_t (i := 576) (by decide +kernel) rfl
theorem w_578 : (Jvm.Cond.methodLink "RoadOfDoors$Reader" (76 : Nat) ({ cls := "RoadOfDoors$Reader", name := "takeOne", desc := "(I)V" } : Jvm.MethodName)) ∈ tW := tW_t (i := 578) (by decide +kernel) rfl
theorem w_580 : (Jvm.Cond.instanceMethod ({ cls := "RoadOfDoors$Reader", name := "takeOne", desc := "(I)V" } : Jvm.MethodName)) ∈ tW := tW_t (i := 580) (by decide +kernel) rfl
theorem w_582 : (Jvm.Cond.methodLink "RoadOfDoors$Reader" (111 : Nat) ({ cls := "RoadOfDoors$Reader", name := "nest", desc := "(I)V" } : Jvm.MethodName)) ∈ tW := tW_t (i := 582) (by decide +kernel) rfl
theorem w_584 : (Jvm.Cond.instanceMethod ({ cls := "RoadOfDoors$Reader", name := "nest", desc := "(I)V" } : Jvm.MethodName)) ∈ tW := tW_t (i := 584) (by decide +kernel) rfl
theorem w_586 : (Jvm.Cond.methodLink "RoadOfDoors$Reader" (131 : Nat) ({ cls := "RoadOfDoors$Reader", name := "put", desc := "(I)V" } : Jvm.MethodName)) ∈ tW := tW_t (i := 586) (by decide +kernel) rfl
theorem w_588 : (Jvm.Cond.instanceMethod ({ cls := "RoadOfDoors$Reader", name := "put", desc := "(I)V" } : Jvm.MethodName)) ∈ tW := tW_t (i := 588) (by decide +kernel) rfl
theorem w_590 : (Jvm.Cond.methodLink "RoadOfDoors$Reader" (114 : Nat) ({ cls := "RoadOfDoors$Reader", name := "atAsk", desc := "()Z" } : Jvm.MethodName)) ∈ tW := tW_t (i := 590) (by decide +kernel) rfl
theorem w_592 : (Jvm.Cond.instanceMethod ({ cls := "RoadOfDoors$Reader", name := "atAsk", desc := "()Z" } : Jvm.MethodName)) ∈ tW := tW_t (i := 592) (by decide +kernel) rfl
theorem w_594 : (Jvm.Cond.methodLink "RoadOfDoors$Reader" (127 : Nat) ({ cls := "RoadOfDoors$Reader", name := "pileAt", desc := "(I)I" } : Jvm.MethodName)) ∈ tW := tW_t (i := 594) (by decide +kernel) rfl
theorem w_596 : (Jvm.Cond.instanceMethod ({ cls := "RoadOfDoors$Reader", name := "pileAt", desc := "(I)I" } : Jvm.MethodName)) ∈ tW := tW_t (i := 596) (by decide +kernel) rfl
theorem w_598 : (Jvm.Cond.methodLink "RoadOfDoors$Reader" (118 : Nat) ({ cls := "RoadOfDoors$Text", name := "addName", desc := "(I)V" } : Jvm.MethodName)) ∈ tW := tW_t (i := 598) (by decide +kernel) rfl
theorem w_599 : (Jvm.Cond.instanceMethod ({ cls := "RoadOfDoors$Text", name := "addName", desc := "(I)V" } : Jvm.MethodName)) ∈ tW := tW_t (i := 599) (by decide +kernel) rfl
theorem w_600 : (Jvm.Cond.selects "RoadOfDoors$Text" ({ cls := "RoadOfDoors$Text", name := "addName", desc := "(I)V" } : Jvm.MethodName) ({ cls := "RoadOfDoors$Text", name := "addName", desc := "(I)V" } : Jvm.MethodName)) ∈ tW := tW_t (i := 600) (by decide +kernel) rfl
theorem w_602 : (Jvm.Cond.methodLink "RoadOfDoors$Text" (35 : Nat) ({ cls := "RoadOfDoors$Text", name := "addWord", desc := "(I)V" } : Jvm.MethodName)) ∈ tW := tW_t (i := 602) (by decide +kernel) rfl
theorem w_603 : (Jvm.Cond.instanceMethod ({ cls := "RoadOfDoors$Text", name := "addWord", desc := "(I)V" } : Jvm.MethodName)) ∈ tW := tW_t (i := 603) (by decide +kernel) rfl
theorem w_604 : (Jvm.Cond.selects "RoadOfDoors$Text" ({ cls := "RoadOfDoors$Text", name := "addWord", desc := "(I)V" } : Jvm.MethodName) ({ cls := "RoadOfDoors$Text", name := "addWord", desc := "(I)V" } : Jvm.MethodName)) ∈ tW := tW_t (i := 604) (by decide +kernel) rfl
theorem w_606 : (Jvm.Cond.methodLink "RoadOfDoors$Reader" (121 : Nat) ({ cls := "RoadOfDoors$Reader", name := "endOne", desc := "()V" } : Jvm.MethodName)) ∈ tW := tW_t (i := 606) (by decide +kernel) rfl
theorem w_608 : (Jvm.Cond.instanceMethod ({ cls := "RoadOfDoors$Reader", name := "endOne", desc := "()V" } : Jvm.MethodName)) ∈ tW := tW_t (i := 608) (by decide +kernel) rfl
theorem w_610 : (Jvm.Cond.methodLink "RoadOfDoors$Reader" (134 : Nat) ({ cls := "RoadOfDoors$Reader", name := "joinDownTo", desc := "(I)V" } : Jvm.MethodName)) ∈ tW := tW_t (i := 610) (by decide +kernel) rfl
theorem w_612 : (Jvm.Cond.instanceMethod ({ cls := "RoadOfDoors$Reader", name := "joinDownTo", desc := "(I)V" } : Jvm.MethodName)) ∈ tW := tW_t (i := 612) (by decide +kernel) rfl
theorem w_614 : (Jvm.Cond.methodLink "RoadOfDoors$Reader" (137 : Nat) ({ cls := "RoadOfDoors$Reader", name := "levelOf", desc := "(I)I" } : Jvm.MethodName)) ∈ tW := tW_t (i := 614) (by decide +kernel) rfl
theorem w_615 : (Jvm.Cond.static ({ cls := "RoadOfDoors$Reader", name := "levelOf", desc := "(I)I" } : Jvm.MethodName)) ∈ tW := tW_t (i := 615) (by decide +kernel) rfl
theorem w_617 : (Jvm.Cond.methodLink "RoadOfDoors$Reader" (124 : Nat) ({ cls := "RoadOfDoors$Text", name := "addWord", desc := "(I)V" } : Jvm.MethodName)) ∈ tW := tW_t (i := 617) (by decide +kernel) rfl
theorem w_618 : (Jvm.Cond.methodLink "RoadOfDoors$Reader" (79 : Nat) ({ cls := "RoadOfDoors$Reader", name := "takeBehindOne", desc := "(I)V" } : Jvm.MethodName)) ∈ tW := tW_t (i := 618) (by decide +kernel) rfl
theorem w_620 : (Jvm.Cond.instanceMethod ({ cls := "RoadOfDoors$Reader", name := "takeBehindOne", desc := "(I)V" } : Jvm.MethodName)) ∈ tW := tW_t (i := 620) (by decide +kernel) rfl
theorem w_622 : (Jvm.Cond.methodLink "RoadOfDoors$Reader" (140 : Nat) ({ cls := "RoadOfDoors$Reader", name := "join", desc := "(II)V" } : Jvm.MethodName)) ∈ tW := tW_t (i := 622) (by decide +kernel) rfl
theorem w_624 : (Jvm.Cond.instanceMethod ({ cls := "RoadOfDoors$Reader", name := "join", desc := "(II)V" } : Jvm.MethodName)) ∈ tW := tW_t (i := 624) (by decide +kernel) rfl
theorem w_626 : (Jvm.Cond.methodLink "RoadOfDoors$Reader" (143 : Nat) ({ cls := "RoadOfDoors$Reader", name := "close", desc := "()V" } : Jvm.MethodName)) ∈ tW := tW_t (i := 626) (by decide +kernel) rfl
theorem w_628 : (Jvm.Cond.instanceMethod ({ cls := "RoadOfDoors$Reader", name := "close", desc := "()V" } : Jvm.MethodName)) ∈ tW := tW_t (i := 628) (by decide +kernel) rfl
theorem w_642 : (Jvm.Cond.methodLink "RoadOfDoors" (133 : Nat) ({ cls := "RoadOfDoors", name := "isKnock", desc := "(IIIII)Z" } : Jvm.MethodName)) ∈ tW := tW_t (i := 642) (by decide +kernel) rfl
theorem w_644 : (Jvm.Cond.instanceMethod ({ cls := "RoadOfDoors", name := "isKnock", desc := "(IIIII)Z" } : Jvm.MethodName)) ∈ tW := tW_t (i := 644) (by decide +kernel) rfl
theorem w_646 : (Jvm.Cond.methodLink "RoadOfDoors" (137 : Nat) ({ cls := "RoadOfDoors$Rules", name := "opensBy", desc := "(IIIIIII)Z" } : Jvm.MethodName)) ∈ tW := tW_t (i := 646) (by decide +kernel) rfl
theorem w_647 : (Jvm.Cond.instanceMethod ({ cls := "RoadOfDoors$Rules", name := "opensBy", desc := "(IIIIIII)Z" } : Jvm.MethodName)) ∈ tW := tW_t (i := 647) (by decide +kernel) rfl
theorem w_648 : (Jvm.Cond.selects "RoadOfDoors$Rules" ({ cls := "RoadOfDoors$Rules", name := "opensBy", desc := "(IIIIIII)Z" } : Jvm.MethodName) ({ cls := "RoadOfDoors$Rules", name := "opensBy", desc := "(IIIIIII)Z" } : Jvm.MethodName)) ∈ tW := tW_t (i := 648) (by decide +kernel) rfl
theorem w_650 : (Jvm.Cond.methodLink "RoadOfDoors$Rules" (51 : Nat) ({ cls := "RoadOfDoors$Rules", name := "isOpening", desc := "(I)Z" } : Jvm.MethodName)) ∈ tW := tW_t (i := 650) (by decide +kernel) rfl
theorem w_651 : (Jvm.Cond.instanceMethod ({ cls := "RoadOfDoors$Rules", name := "isOpening", desc := "(I)Z" } : Jvm.MethodName)) ∈ tW := tW_t (i := 651) (by decide +kernel) rfl
theorem w_652 : (Jvm.Cond.selects "RoadOfDoors$Rules" ({ cls := "RoadOfDoors$Rules", name := "isOpening", desc := "(I)Z" } : Jvm.MethodName) ({ cls := "RoadOfDoors$Rules", name := "isOpening", desc := "(I)Z" } : Jvm.MethodName)) ∈ tW := tW_t (i := 652) (by decide +kernel) rfl
theorem w_654 : (Jvm.Cond.methodLink "RoadOfDoors$Rules" (55 : Nat) ({ cls := "RoadOfDoors$Rules", name := "face", desc := "(III)V" } : Jvm.MethodName)) ∈ tW := tW_t (i := 654) (by decide +kernel) rfl
theorem w_656 : (Jvm.Cond.instanceMethod ({ cls := "RoadOfDoors$Rules", name := "face", desc := "(III)V" } : Jvm.MethodName)) ∈ tW := tW_t (i := 656) (by decide +kernel) rfl
theorem w_658 : (Jvm.Cond.methodLink "RoadOfDoors$Rules" (59 : Nat) ({ cls := "RoadOfDoors$Rules", name := "holds", desc := "(LRoadOfDoors$Text;)Z" } : Jvm.MethodName)) ∈ tW := tW_t (i := 658) (by decide +kernel) rfl
theorem w_660 : (Jvm.Cond.instanceMethod ({ cls := "RoadOfDoors$Rules", name := "holds", desc := "(LRoadOfDoors$Text;)Z" } : Jvm.MethodName)) ∈ tW := tW_t (i := 660) (by decide +kernel) rfl
theorem w_662 : (Jvm.Cond.methodLink "RoadOfDoors$Rules" (89 : Nat) ({ cls := "RoadOfDoors$Rules", name := "joined", desc := "(III)I" } : Jvm.MethodName)) ∈ tW := tW_t (i := 662) (by decide +kernel) rfl
theorem w_663 : (Jvm.Cond.static ({ cls := "RoadOfDoors$Rules", name := "joined", desc := "(III)I" } : Jvm.MethodName)) ∈ tW := tW_t (i := 663) (by decide +kernel) rfl
theorem w_665 : (Jvm.Cond.constantLong "RoadOfDoors$Rules" (92 : Nat) (1000000 : Int64)) ∈ tW := tW_t (i := 665) (by decide +kernel) rfl
theorem w_666 : (Jvm.Cond.constant "RoadOfDoors$Rules" (94 : Nat) (1000000 : Int32)) ∈ tW := tW_t (i := 666) (by decide +kernel) rfl
theorem w_667 : (Jvm.Cond.constantLong "RoadOfDoors$Rules" (95 : Nat) (-1000000 : Int64)) ∈ tW := tW_t (i := 667) (by decide +kernel) rfl
theorem w_668 : (Jvm.Cond.constant "RoadOfDoors$Rules" (97 : Nat) (-1000000 : Int32)) ∈ tW := tW_t (i := 668) (by decide +kernel) rfl
theorem w_673 : (Jvm.Cond.methodLink "RoadOfDoors" (141 : Nat) ({ cls := "RoadOfDoors", name := "isTraveller", desc := "(IIII)Z" } : Jvm.MethodName)) ∈ tW := tW_t (i := 673) (by decide +kernel) rfl
theorem w_675 : (Jvm.Cond.instanceMethod ({ cls := "RoadOfDoors", name := "isTraveller", desc := "(IIII)Z" } : Jvm.MethodName)) ∈ tW := tW_t (i := 675) (by decide +kernel) rfl
theorem w_677 : (Jvm.Cond.methodLink "RoadOfDoors" (149 : Nat) ({ cls := "RoadOfDoors$Traveller", name := "starts", desc := "(IIII)V" } : Jvm.MethodName)) ∈ tW := tW_t (i := 677) (by decide +kernel) rfl
theorem w_678 : (Jvm.Cond.instanceMethod ({ cls := "RoadOfDoors$Traveller", name := "starts", desc := "(IIII)V" } : Jvm.MethodName)) ∈ tW := tW_t (i := 678) (by decide +kernel) rfl
theorem w_679 : (Jvm.Cond.selects "RoadOfDoors$Traveller" ({ cls := "RoadOfDoors$Traveller", name := "starts", desc := "(IIII)V" } : Jvm.MethodName) ({ cls := "RoadOfDoors$Traveller", name := "starts", desc := "(IIII)V" } : Jvm.MethodName)) ∈ tW := tW_t (i := 679) (by decide +kernel) rfl
theorem w_685 : (Jvm.Cond.methodLink "RoadOfDoors" (155 : Nat) ({ cls := "RoadOfDoors", name := "canKnock", desc := "(II)Z" } : Jvm.MethodName)) ∈ tW := tW_t (i := 685) (by decide +kernel) rfl
theorem w_687 : (Jvm.Cond.instanceMethod ({ cls := "RoadOfDoors", name := "canKnock", desc := "(II)Z" } : Jvm.MethodName)) ∈ tW := tW_t (i := 687) (by decide +kernel) rfl
theorem w_689 : (Jvm.Cond.methodLink "RoadOfDoors" (159 : Nat) ({ cls := "RoadOfDoors", name := "knocked", desc := "(II)Z" } : Jvm.MethodName)) ∈ tW := tW_t (i := 689) (by decide +kernel) rfl
theorem w_691 : (Jvm.Cond.instanceMethod ({ cls := "RoadOfDoors", name := "knocked", desc := "(II)Z" } : Jvm.MethodName)) ∈ tW := tW_t (i := 691) (by decide +kernel) rfl
theorem w_693 : (Jvm.Cond.methodLink "RoadOfDoors" (204 : Nat) ({ cls := "RoadOfDoors", name := "hasKey", desc := "(II)Z" } : Jvm.MethodName)) ∈ tW := tW_t (i := 693) (by decide +kernel) rfl
theorem w_694 : (Jvm.Cond.static ({ cls := "RoadOfDoors", name := "hasKey", desc := "(II)Z" } : Jvm.MethodName)) ∈ tW := tW_t (i := 694) (by decide +kernel) rfl
theorem w_696 : (Jvm.Cond.methodLink "RoadOfDoors" (264 : Nat) ({ cls := "RoadOfDoors$Traveller", name := "keepsStep", desc := "()V" } : Jvm.MethodName)) ∈ tW := tW_t (i := 696) (by decide +kernel) rfl
theorem w_697 : (Jvm.Cond.instanceMethod ({ cls := "RoadOfDoors$Traveller", name := "keepsStep", desc := "()V" } : Jvm.MethodName)) ∈ tW := tW_t (i := 697) (by decide +kernel) rfl
theorem w_698 : (Jvm.Cond.selects "RoadOfDoors$Traveller" ({ cls := "RoadOfDoors$Traveller", name := "keepsStep", desc := "()V" } : Jvm.MethodName) ({ cls := "RoadOfDoors$Traveller", name := "keepsStep", desc := "()V" } : Jvm.MethodName)) ∈ tW := tW_t (i := 698) (by decide +kernel) rfl
theorem w_700 : (Jvm.Cond.methodLink "RoadOfDoors$Traveller" (43 : Nat) ({ cls := "java/lang/System", name := "arraycopy", desc := "(Ljava/lang/Object;ILjava/lang/Object;II)V" } : Jvm.MethodName)) ∈ tW := tW_t (i := 700) (by decide +kernel) rfl
theorem w_701 : (Jvm.Cond.static ({ cls := "java/lang/System", name := "arraycopy", desc := "(Ljava/lang/Object;ILjava/lang/Object;II)V" } : Jvm.MethodName)) ∈ tW := tW_t (i := 701) (by decide +kernel) rfl
theorem w_702 : (Jvm.Cond.native ({ cls := "java/lang/System", name := "arraycopy", desc := "(Ljava/lang/Object;ILjava/lang/Object;II)V" } : Jvm.MethodName)) ∈ tW := tW_t (i := 702) (by decide +kernel) rfl
theorem w_703 : (Jvm.Cond.methodLink "RoadOfDoors" (267 : Nat) ({ cls := "RoadOfDoors$Traveller", name := "hourGoes", desc := "()V" } : Jvm.MethodName)) ∈ tW := tW_t (i := 703) (by decide +kernel) rfl
theorem w_704 : (Jvm.Cond.instanceMethod ({ cls := "RoadOfDoors$Traveller", name := "hourGoes", desc := "()V" } : Jvm.MethodName)) ∈ tW := tW_t (i := 704) (by decide +kernel) rfl
theorem w_705 : (Jvm.Cond.selects "RoadOfDoors$Traveller" ({ cls := "RoadOfDoors$Traveller", name := "hourGoes", desc := "()V" } : Jvm.MethodName) ({ cls := "RoadOfDoors$Traveller", name := "hourGoes", desc := "()V" } : Jvm.MethodName)) ∈ tW := tW_t (i := 705) (by decide +kernel) rfl
theorem w_707 : (Jvm.Cond.methodLink "RoadOfDoors" (270 : Nat) ({ cls := "RoadOfDoors$Traveller", name := "stays", desc := "()V" } : Jvm.MethodName)) ∈ tW := tW_t (i := 707) (by decide +kernel) rfl
theorem w_708 : (Jvm.Cond.instanceMethod ({ cls := "RoadOfDoors$Traveller", name := "stays", desc := "()V" } : Jvm.MethodName)) ∈ tW := tW_t (i := 708) (by decide +kernel) rfl
theorem w_709 : (Jvm.Cond.selects "RoadOfDoors$Traveller" ({ cls := "RoadOfDoors$Traveller", name := "stays", desc := "()V" } : Jvm.MethodName) ({ cls := "RoadOfDoors$Traveller", name := "stays", desc := "()V" } : Jvm.MethodName)) ∈ tW := tW_t (i := 709) (by decide +kernel) rfl
theorem w_711 : (Jvm.Cond.methodLink "RoadOfDoors$Traveller" (37 : Nat) ({ cls := "java/lang/Math", name := "min", desc := "(II)I" } : Jvm.MethodName)) ∈ tW := tW_t (i := 711) (by decide +kernel) rfl
theorem w_716 : (Jvm.Cond.methodLink "RoadOfDoors" (162 : Nat) ({ cls := "RoadOfDoors", name := "canWait", desc := "(I)Z" } : Jvm.MethodName)) ∈ tW := tW_t (i := 716) (by decide +kernel) rfl
theorem w_718 : (Jvm.Cond.instanceMethod ({ cls := "RoadOfDoors", name := "canWait", desc := "(I)Z" } : Jvm.MethodName)) ∈ tW := tW_t (i := 718) (by decide +kernel) rfl
theorem w_720 : (Jvm.Cond.methodLink "RoadOfDoors" (165 : Nat) ({ cls := "RoadOfDoors", name := "waited", desc := "(I)V" } : Jvm.MethodName)) ∈ tW := tW_t (i := 720) (by decide +kernel) rfl
theorem w_722 : (Jvm.Cond.instanceMethod ({ cls := "RoadOfDoors", name := "waited", desc := "(I)V" } : Jvm.MethodName)) ∈ tW := tW_t (i := 722) (by decide +kernel) rfl
theorem w_728 : (Jvm.Cond.methodLink "RoadOfDoors" (180 : Nat) ({ cls := "RoadOfDoors", name := "clauseDone", desc := "(II)Z" } : Jvm.MethodName)) ∈ tW := tW_t (i := 728) (by decide +kernel) rfl
theorem w_730 : (Jvm.Cond.instanceMethod ({ cls := "RoadOfDoors", name := "clauseDone", desc := "(II)Z" } : Jvm.MethodName)) ∈ tW := tW_t (i := 730) (by decide +kernel) rfl
theorem w_736 : (Jvm.Cond.methodLink "RoadOfDoors" (183 : Nat) ({ cls := "RoadOfDoors$Traveller", name := "stepsBack", desc := "()Z" } : Jvm.MethodName)) ∈ tW := tW_t (i := 736) (by decide +kernel) rfl
theorem w_737 : (Jvm.Cond.instanceMethod ({ cls := "RoadOfDoors$Traveller", name := "stepsBack", desc := "()Z" } : Jvm.MethodName)) ∈ tW := tW_t (i := 737) (by decide +kernel) rfl
theorem w_738 : (Jvm.Cond.selects "RoadOfDoors$Traveller" ({ cls := "RoadOfDoors$Traveller", name := "stepsBack", desc := "()Z" } : Jvm.MethodName) ({ cls := "RoadOfDoors$Traveller", name := "stepsBack", desc := "()Z" } : Jvm.MethodName)) ∈ tW := tW_t (i := 738) (by decide +kernel) rfl
theorem w_749 : (Jvm.Cond.methodLink "RoadOfDoors" (207 : Nat) ({ cls := "RoadOfDoors$Rules", name := "learn", desc := "(III)V" } : Jvm.MethodName)) ∈ tW := tW_t (i := 749) (by decide +kernel) rfl
theorem w_750 : (Jvm.Cond.instanceMethod ({ cls := "RoadOfDoors$Rules", name := "learn", desc := "(III)V" } : Jvm.MethodName)) ∈ tW := tW_t (i := 750) (by decide +kernel) rfl
theorem w_751 : (Jvm.Cond.selects "RoadOfDoors$Rules" ({ cls := "RoadOfDoors$Rules", name := "learn", desc := "(III)V" } : Jvm.MethodName) ({ cls := "RoadOfDoors$Rules", name := "learn", desc := "(III)V" } : Jvm.MethodName)) ∈ tW := tW_t (i := 751) (by decide +kernel) rfl
theorem w_753 : (Jvm.Cond.methodLink "RoadOfDoors$Rules" (63 : Nat) ({ cls := "java/util/Arrays", name := "fill", desc := "([JJ)V" } : Jvm.MethodName)) ∈ tW := tW_t (i := 753) (by decide +kernel) rfl
theorem w_754 : (Jvm.Cond.static ({ cls := "java/util/Arrays", name := "fill", desc := "([JJ)V" } : Jvm.MethodName)) ∈ tW := tW_t (i := 754) (by decide +kernel) rfl
theorem w_756 : (Jvm.Cond.methodLink "RoadOfDoors$Rules" (69 : Nat) ({ cls := "RoadOfDoors$Rules", name := "placeOf", desc := "(III)I" } : Jvm.MethodName)) ∈ tW := tW_t (i := 756) (by decide +kernel) rfl
theorem w_757 : (Jvm.Cond.instanceMethod ({ cls := "RoadOfDoors$Rules", name := "placeOf", desc := "(III)I" } : Jvm.MethodName)) ∈ tW := tW_t (i := 757) (by decide +kernel) rfl
theorem w_758 : (Jvm.Cond.selects "RoadOfDoors$Rules" ({ cls := "RoadOfDoors$Rules", name := "placeOf", desc := "(III)I" } : Jvm.MethodName) ({ cls := "RoadOfDoors$Rules", name := "placeOf", desc := "(III)I" } : Jvm.MethodName)) ∈ tW := tW_t (i := 758) (by decide +kernel) rfl
theorem w_760 : (Jvm.Cond.methodLink "RoadOfDoors$Rules" (73 : Nat) ({ cls := "RoadOfDoors$Rules", name := "searched", desc := "(LRoadOfDoors$Text;)J" } : Jvm.MethodName)) ∈ tW := tW_t (i := 760) (by decide +kernel) rfl
theorem w_762 : (Jvm.Cond.instanceMethod ({ cls := "RoadOfDoors$Rules", name := "searched", desc := "(LRoadOfDoors$Text;)J" } : Jvm.MethodName)) ∈ tW := tW_t (i := 762) (by decide +kernel) rfl
theorem w_764 : (Jvm.Cond.methodLink "RoadOfDoors" (211 : Nat) ({ cls := "RoadOfDoors$Ways", name := "findSoonest", desc := "([IIIIII)Z" } : Jvm.MethodName)) ∈ tW := tW_t (i := 764) (by decide +kernel) rfl
theorem w_765 : (Jvm.Cond.instanceMethod ({ cls := "RoadOfDoors$Ways", name := "findSoonest", desc := "([IIIIII)Z" } : Jvm.MethodName)) ∈ tW := tW_t (i := 765) (by decide +kernel) rfl
theorem w_766 : (Jvm.Cond.selects "RoadOfDoors$Ways" ({ cls := "RoadOfDoors$Ways", name := "findSoonest", desc := "([IIIIII)Z" } : Jvm.MethodName) ({ cls := "RoadOfDoors$Ways", name := "findSoonest", desc := "([IIIIII)Z" } : Jvm.MethodName)) ∈ tW := tW_t (i := 766) (by decide +kernel) rfl
theorem w_768 : (Jvm.Cond.methodLink "RoadOfDoors$Ways" (58 : Nat) ({ cls := "RoadOfDoors$Ways", name := "findCheapest", desc := "([IIIIII)Z" } : Jvm.MethodName)) ∈ tW := tW_t (i := 768) (by decide +kernel) rfl
theorem w_769 : (Jvm.Cond.instanceMethod ({ cls := "RoadOfDoors$Ways", name := "findCheapest", desc := "([IIIIII)Z" } : Jvm.MethodName)) ∈ tW := tW_t (i := 769) (by decide +kernel) rfl
theorem w_770 : (Jvm.Cond.selects "RoadOfDoors$Ways" ({ cls := "RoadOfDoors$Ways", name := "findCheapest", desc := "([IIIIII)Z" } : Jvm.MethodName) ({ cls := "RoadOfDoors$Ways", name := "findCheapest", desc := "([IIIIII)Z" } : Jvm.MethodName)) ∈ tW := tW_t (i := 770) (by decide +kernel) rfl
theorem w_772 : (Jvm.Cond.methodLink "RoadOfDoors$Ways" (42 : Nat) ({ cls := "RoadOfDoors$Ways", name := "canPass", desc := "([III)Z" } : Jvm.MethodName)) ∈ tW := tW_t (i := 772) (by decide +kernel) rfl
theorem w_774 : (Jvm.Cond.instanceMethod ({ cls := "RoadOfDoors$Ways", name := "canPass", desc := "([III)Z" } : Jvm.MethodName)) ∈ tW := tW_t (i := 774) (by decide +kernel) rfl
theorem w_777 : (Jvm.Cond.methodLink "RoadOfDoors$Ways" (72 : Nat) ({ cls := "RoadOfDoors$Rules", name := "isOpening", desc := "(I)Z" } : Jvm.MethodName)) ∈ tW := tW_t (i := 777) (by decide +kernel) rfl
theorem w_778 : (Jvm.Cond.methodLink "RoadOfDoors$Ways" (78 : Nat) ({ cls := "RoadOfDoors$Rules", name := "placeOf", desc := "(III)I" } : Jvm.MethodName)) ∈ tW := tW_t (i := 778) (by decide +kernel) rfl
theorem w_779 : (Jvm.Cond.methodLink "RoadOfDoors$Ways" (82 : Nat) ({ cls := "RoadOfDoors$Rules", name := "looksAtWaited", desc := "(I)Z" } : Jvm.MethodName)) ∈ tW := tW_t (i := 779) (by decide +kernel) rfl
theorem w_780 : (Jvm.Cond.instanceMethod ({ cls := "RoadOfDoors$Rules", name := "looksAtWaited", desc := "(I)Z" } : Jvm.MethodName)) ∈ tW := tW_t (i := 780) (by decide +kernel) rfl
theorem w_781 : (Jvm.Cond.selects "RoadOfDoors$Rules" ({ cls := "RoadOfDoors$Rules", name := "looksAtWaited", desc := "(I)Z" } : Jvm.MethodName) ({ cls := "RoadOfDoors$Rules", name := "looksAtWaited", desc := "(I)Z" } : Jvm.MethodName)) ∈ tW := tW_t (i := 781) (by decide +kernel) rfl
theorem w_783 : (Jvm.Cond.methodLink "RoadOfDoors$Ways" (49 : Nat) ({ cls := "RoadOfDoors$Ways", name := "cheapest", desc := "(I)I" } : Jvm.MethodName)) ∈ tW := tW_t (i := 783) (by decide +kernel) rfl
theorem w_785 : (Jvm.Cond.instanceMethod ({ cls := "RoadOfDoors$Ways", name := "cheapest", desc := "(I)I" } : Jvm.MethodName)) ∈ tW := tW_t (i := 785) (by decide +kernel) rfl
theorem w_787 : (Jvm.Cond.constant "RoadOfDoors$Ways" (53 : Nat) (1048576 : Int32)) ∈ tW := tW_t (i := 787) (by decide +kernel) rfl
theorem w_788 : (Jvm.Cond.methodLink "RoadOfDoors$Ways" (85 : Nat) ({ cls := "java/util/Arrays", name := "fill", desc := "([IIII)V" } : Jvm.MethodName)) ∈ tW := tW_t (i := 788) (by decide +kernel) rfl
theorem w_789 : (Jvm.Cond.static ({ cls := "java/util/Arrays", name := "fill", desc := "([IIII)V" } : Jvm.MethodName)) ∈ tW := tW_t (i := 789) (by decide +kernel) rfl
theorem w_791 : (Jvm.Cond.methodLink "java/util/Arrays" (13 : Nat) ({ cls := "java/util/Arrays", name := "rangeCheck", desc := "(III)V" } : Jvm.MethodName)) ∈ tW := tW_t (i := 791) (by decide +kernel) rfl
theorem w_792 : (Jvm.Cond.static ({ cls := "java/util/Arrays", name := "rangeCheck", desc := "(III)V" } : Jvm.MethodName)) ∈ tW := tW_t (i := 792) (by decide +kernel) rfl
theorem w_794 : (Jvm.Cond.methodLink "RoadOfDoors$Ways" (91 : Nat) ({ cls := "java/lang/Math", name := "min", desc := "(II)I" } : Jvm.MethodName)) ∈ tW := tW_t (i := 794) (by decide +kernel) rfl
theorem w_795 : (Jvm.Cond.methodLink "RoadOfDoors$Ways" (97 : Nat) ({ cls := "RoadOfDoors$Rules", name := "leastsAt", desc := "(II)J" } : Jvm.MethodName)) ∈ tW := tW_t (i := 795) (by decide +kernel) rfl
theorem w_796 : (Jvm.Cond.instanceMethod ({ cls := "RoadOfDoors$Rules", name := "leastsAt", desc := "(II)J" } : Jvm.MethodName)) ∈ tW := tW_t (i := 796) (by decide +kernel) rfl
theorem w_797 : (Jvm.Cond.selects "RoadOfDoors$Rules" ({ cls := "RoadOfDoors$Rules", name := "leastsAt", desc := "(II)J" } : Jvm.MethodName) ({ cls := "RoadOfDoors$Rules", name := "leastsAt", desc := "(II)J" } : Jvm.MethodName)) ∈ tW := tW_t (i := 797) (by decide +kernel) rfl
theorem w_799 : (Jvm.Cond.methodLink "RoadOfDoors$Ways" (101 : Nat) ({ cls := "RoadOfDoors$Ways", name := "choose", desc := "(IIJ)V" } : Jvm.MethodName)) ∈ tW := tW_t (i := 799) (by decide +kernel) rfl
theorem w_801 : (Jvm.Cond.instanceMethod ({ cls := "RoadOfDoors$Ways", name := "choose", desc := "(IIJ)V" } : Jvm.MethodName)) ∈ tW := tW_t (i := 801) (by decide +kernel) rfl
theorem w_803 : (Jvm.Cond.methodLink "RoadOfDoors$Ways" (54 : Nat) ({ cls := "RoadOfDoors$Ways", name := "walk", desc := "(I)V" } : Jvm.MethodName)) ∈ tW := tW_t (i := 803) (by decide +kernel) rfl
theorem w_805 : (Jvm.Cond.instanceMethod ({ cls := "RoadOfDoors$Ways", name := "walk", desc := "(I)V" } : Jvm.MethodName)) ∈ tW := tW_t (i := 805) (by decide +kernel) rfl
theorem w_807 : (Jvm.Cond.methodLink "RoadOfDoors$Ways" (111 : Nat) ({ cls := "java/util/Arrays", name := "fill", desc := "([II)V" } : Jvm.MethodName)) ∈ tW := tW_t (i := 807) (by decide +kernel) rfl
theorem w_808 : (Jvm.Cond.static ({ cls := "java/util/Arrays", name := "fill", desc := "([II)V" } : Jvm.MethodName)) ∈ tW := tW_t (i := 808) (by decide +kernel) rfl
theorem w_810 : (Jvm.Cond.methodLink "RoadOfDoors" (215 : Nat) ({ cls := "RoadOfDoors$Ways", name := "findCheapest", desc := "([IIIIII)Z" } : Jvm.MethodName)) ∈ tW := tW_t (i := 810) (by decide +kernel) rfl
theorem w_815 : (Jvm.Cond.methodLink "RoadOfDoors" (230 : Nat) ({ cls := "RoadOfDoors$Road", name := "addGuest", desc := "(IIII)V" } : Jvm.MethodName)) ∈ tW := tW_t (i := 815) (by decide +kernel) rfl
theorem w_816 : (Jvm.Cond.instanceMethod ({ cls := "RoadOfDoors$Road", name := "addGuest", desc := "(IIII)V" } : Jvm.MethodName)) ∈ tW := tW_t (i := 816) (by decide +kernel) rfl
theorem w_817 : (Jvm.Cond.selects "RoadOfDoors$Road" ({ cls := "RoadOfDoors$Road", name := "addGuest", desc := "(IIII)V" } : Jvm.MethodName) ({ cls := "RoadOfDoors$Road", name := "addGuest", desc := "(IIII)V" } : Jvm.MethodName)) ∈ tW := tW_t (i := 817) (by decide +kernel) rfl
theorem w_828 : (Jvm.Cond.methodLink "RoadOfDoors" (233 : Nat) ({ cls := "RoadOfDoors$Earnings", name := "earnedNow", desc := "(I)I" } : Jvm.MethodName)) ∈ tW := tW_t (i := 828) (by decide +kernel) rfl
theorem w_829 : (Jvm.Cond.instanceMethod ({ cls := "RoadOfDoors$Earnings", name := "earnedNow", desc := "(I)I" } : Jvm.MethodName)) ∈ tW := tW_t (i := 829) (by decide +kernel) rfl
theorem w_830 : (Jvm.Cond.selects "RoadOfDoors$Earnings" ({ cls := "RoadOfDoors$Earnings", name := "earnedNow", desc := "(I)I" } : Jvm.MethodName) ({ cls := "RoadOfDoors$Earnings", name := "earnedNow", desc := "(I)I" } : Jvm.MethodName)) ∈ tW := tW_t (i := 830) (by decide +kernel) rfl
theorem w_832 : (Jvm.Cond.methodLink "RoadOfDoors$Earnings" (38 : Nat) ({ cls := "RoadOfDoors$Earnings", name := "startTrial", desc := "(Z)V" } : Jvm.MethodName)) ∈ tW := tW_t (i := 832) (by decide +kernel) rfl
theorem w_834 : (Jvm.Cond.instanceMethod ({ cls := "RoadOfDoors$Earnings", name := "startTrial", desc := "(Z)V" } : Jvm.MethodName)) ∈ tW := tW_t (i := 834) (by decide +kernel) rfl
theorem w_836 : (Jvm.Cond.methodLink "RoadOfDoors$Earnings" (65 : Nat) ({ cls := "java/lang/System", name := "arraycopy", desc := "(Ljava/lang/Object;ILjava/lang/Object;II)V" } : Jvm.MethodName)) ∈ tW := tW_t (i := 836) (by decide +kernel) rfl
theorem w_838 : (Jvm.Cond.methodLink "RoadOfDoors$Earnings" (88 : Nat) ({ cls := "RoadOfDoors$Rules", name := "learn", desc := "(III)V" } : Jvm.MethodName)) ∈ tW := tW_t (i := 838) (by decide +kernel) rfl
theorem w_839 : (Jvm.Cond.methodLink "RoadOfDoors$Earnings" (42 : Nat) ({ cls := "RoadOfDoors$Earnings", name := "earned", desc := "(I)I" } : Jvm.MethodName)) ∈ tW := tW_t (i := 839) (by decide +kernel) rfl
theorem w_841 : (Jvm.Cond.instanceMethod ({ cls := "RoadOfDoors$Earnings", name := "earned", desc := "(I)I" } : Jvm.MethodName)) ∈ tW := tW_t (i := 841) (by decide +kernel) rfl
theorem w_843 : (Jvm.Cond.methodLink "RoadOfDoors$Earnings" (94 : Nat) ({ cls := "RoadOfDoors$Rules", name := "isOpening", desc := "(I)Z" } : Jvm.MethodName)) ∈ tW := tW_t (i := 843) (by decide +kernel) rfl
theorem w_844 : (Jvm.Cond.methodLink "RoadOfDoors$Earnings" (97 : Nat) ({ cls := "RoadOfDoors$Ways", name := "findCheapest", desc := "([IIIIII)Z" } : Jvm.MethodName)) ∈ tW := tW_t (i := 844) (by decide +kernel) rfl
theorem w_849 : (Jvm.Cond.methodLink "RoadOfDoors" (237 : Nat) ({ cls := "RoadOfDoors$Earnings", name := "firstUneven", desc := "()I" } : Jvm.MethodName)) ∈ tW := tW_t (i := 849) (by decide +kernel) rfl
theorem w_850 : (Jvm.Cond.instanceMethod ({ cls := "RoadOfDoors$Earnings", name := "firstUneven", desc := "()I" } : Jvm.MethodName)) ∈ tW := tW_t (i := 850) (by decide +kernel) rfl
theorem w_851 : (Jvm.Cond.selects "RoadOfDoors$Earnings" ({ cls := "RoadOfDoors$Earnings", name := "firstUneven", desc := "()I" } : Jvm.MethodName) ({ cls := "RoadOfDoors$Earnings", name := "firstUneven", desc := "()I" } : Jvm.MethodName)) ∈ tW := tW_t (i := 851) (by decide +kernel) rfl
theorem w_853 : (Jvm.Cond.methodLink "RoadOfDoors$Earnings" (46 : Nat) ({ cls := "RoadOfDoors$Earnings", name := "bestRule", desc := "(I)I" } : Jvm.MethodName)) ∈ tW := tW_t (i := 853) (by decide +kernel) rfl
theorem w_855 : (Jvm.Cond.instanceMethod ({ cls := "RoadOfDoors$Earnings", name := "bestRule", desc := "(I)I" } : Jvm.MethodName)) ∈ tW := tW_t (i := 855) (by decide +kernel) rfl
theorem w_861 : (Jvm.Cond.methodLink "RoadOfDoors" (241 : Nat) ({ cls := "RoadOfDoors$Earnings", name := "roundsChanged", desc := "()I" } : Jvm.MethodName)) ∈ tW := tW_t (i := 861) (by decide +kernel) rfl
theorem w_862 : (Jvm.Cond.instanceMethod ({ cls := "RoadOfDoors$Earnings", name := "roundsChanged", desc := "()I" } : Jvm.MethodName)) ∈ tW := tW_t (i := 862) (by decide +kernel) rfl
theorem w_863 : (Jvm.Cond.selects "RoadOfDoors$Earnings" ({ cls := "RoadOfDoors$Earnings", name := "roundsChanged", desc := "()I" } : Jvm.MethodName) ({ cls := "RoadOfDoors$Earnings", name := "roundsChanged", desc := "()I" } : Jvm.MethodName)) ∈ tW := tW_t (i := 863) (by decide +kernel) rfl
theorem w_865 : (Jvm.Cond.methodLink "RoadOfDoors$Earnings" (52 : Nat) ({ cls := "RoadOfDoors$Earnings", name := "trialNumber", desc := "()I" } : Jvm.MethodName)) ∈ tW := tW_t (i := 865) (by decide +kernel) rfl
theorem w_867 : (Jvm.Cond.instanceMethod ({ cls := "RoadOfDoors$Earnings", name := "trialNumber", desc := "()I" } : Jvm.MethodName)) ∈ tW := tW_t (i := 867) (by decide +kernel) rfl
theorem w_869 : (Jvm.Cond.methodLink "RoadOfDoors$Earnings" (56 : Nat) ({ cls := "RoadOfDoors$Earnings", name := "isPast", desc := "(I)Z" } : Jvm.MethodName)) ∈ tW := tW_t (i := 869) (by decide +kernel) rfl
theorem w_871 : (Jvm.Cond.instanceMethod ({ cls := "RoadOfDoors$Earnings", name := "isPast", desc := "(I)Z" } : Jvm.MethodName)) ∈ tW := tW_t (i := 871) (by decide +kernel) rfl
theorem w_881 : (Jvm.Cond.methodLink "RoadOfDoors" (253 : Nat) ({ cls := "RoadOfDoors", name := "agrees", desc := "(III)Z" } : Jvm.MethodName)) ∈ tW := tW_t (i := 881) (by decide +kernel) rfl
theorem w_883 : (Jvm.Cond.instanceMethod ({ cls := "RoadOfDoors", name := "agrees", desc := "(III)Z" } : Jvm.MethodName)) ∈ tW := tW_t (i := 883) (by decide +kernel) rfl
theorem w_889 : (Jvm.Cond.methodLink "RoadOfDoors" (256 : Nat) ({ cls := "RoadOfDoors$Road", name := "becomes", desc := "(LRoadOfDoors$Road;)V" } : Jvm.MethodName)) ∈ tW := tW_t (i := 889) (by decide +kernel) rfl
theorem w_890 : (Jvm.Cond.instanceMethod ({ cls := "RoadOfDoors$Road", name := "becomes", desc := "(LRoadOfDoors$Road;)V" } : Jvm.MethodName)) ∈ tW := tW_t (i := 890) (by decide +kernel) rfl
theorem w_891 : (Jvm.Cond.selects "RoadOfDoors$Road" ({ cls := "RoadOfDoors$Road", name := "becomes", desc := "(LRoadOfDoors$Road;)V" } : Jvm.MethodName) ({ cls := "RoadOfDoors$Road", name := "becomes", desc := "(LRoadOfDoors$Road;)V" } : Jvm.MethodName)) ∈ tW := tW_t (i := 891) (by decide +kernel) rfl
theorem w_893 : (Jvm.Cond.methodLink "RoadOfDoors$Road" (46 : Nat) ({ cls := "java/lang/System", name := "arraycopy", desc := "(Ljava/lang/Object;ILjava/lang/Object;II)V" } : Jvm.MethodName)) ∈ tW := tW_t (i := 893) (by decide +kernel) rfl
theorem w_894 : (Jvm.Cond.methodLink "RoadOfDoors$Road" (52 : Nat) ({ cls := "RoadOfDoors$Traveller", name := "becomes", desc := "(LRoadOfDoors$Traveller;)V" } : Jvm.MethodName)) ∈ tW := tW_t (i := 894) (by decide +kernel) rfl
theorem w_895 : (Jvm.Cond.instanceMethod ({ cls := "RoadOfDoors$Traveller", name := "becomes", desc := "(LRoadOfDoors$Traveller;)V" } : Jvm.MethodName)) ∈ tW := tW_t (i := 895) (by decide +kernel) rfl
theorem w_896 : (Jvm.Cond.selects "RoadOfDoors$Traveller" ({ cls := "RoadOfDoors$Traveller", name := "becomes", desc := "(LRoadOfDoors$Traveller;)V" } : Jvm.MethodName) ({ cls := "RoadOfDoors$Traveller", name := "becomes", desc := "(LRoadOfDoors$Traveller;)V" } : Jvm.MethodName)) ∈ tW := tW_t (i := 896) (by decide +kernel) rfl
theorem w_906 : (Jvm.Cond.methodLink "RoadOfDoors" (260 : Nat) ({ cls := "RoadOfDoors", name := "aboutPart", desc := "(I)I" } : Jvm.MethodName)) ∈ tW := tW_t (i := 906) (by decide +kernel) rfl
theorem w_908 : (Jvm.Cond.instanceMethod ({ cls := "RoadOfDoors", name := "aboutPart", desc := "(I)I" } : Jvm.MethodName)) ∈ tW := tW_t (i := 908) (by decide +kernel) rfl
theorem w_920 : (Jvm.Cond.methodLink "RoadOfDoorsModel" (65 : Nat) ({ cls := "RoadOfDoorsModel", name := "copy", desc := "([I[I)V" } : Jvm.MethodName)) ∈ tW := tW_t (i := 920) (by decide +kernel) rfl
theorem w_921 : (Jvm.Cond.static ({ cls := "RoadOfDoorsModel", name := "copy", desc := "([I[I)V" } : Jvm.MethodName)) ∈ tW := tW_t (i := 921) (by decide +kernel) rfl
theorem w_923 : (Jvm.Cond.fieldLink "RoadOfDoorsModel" (7 : Nat) "RoadOfDoorsModel" "a" "[I") ∈ tW := tW_t (i := 923) (by decide +kernel) rfl
theorem w_924 : (Jvm.Cond.fieldLink "RoadOfDoorsModel" (13 : Nat) "RoadOfDoorsModel" "image" "[I") ∈ tW := tW_t (i := 924) (by decide +kernel) rfl
theorem w_925 : (Jvm.Cond.fieldLink "RoadOfDoorsModel" (62 : Nat) "RoadOfDoorsModel" "doors" "I") ∈ tW := tW_t (i := 925) (by decide +kernel) rfl
theorem w_926 : (Jvm.Cond.fieldLink "RoadOfDoorsModel" (16 : Nat) "RoadOfDoorsModel" "texts" "[I") ∈ tW := tW_t (i := 926) (by decide +kernel) rfl
theorem w_927 : (Jvm.Cond.fieldLink "RoadOfDoorsModel" (19 : Nat) "RoadOfDoorsModel" "tape" "[I") ∈ tW := tW_t (i := 927) (by decide +kernel) rfl
theorem w_928 : (Jvm.Cond.fieldLink "RoadOfDoorsModel" (80 : Nat) "RoadOfDoorsModel" "taped" "I") ∈ tW := tW_t (i := 928) (by decide +kernel) rfl
theorem w_929 : (Jvm.Cond.fieldLink "RoadOfDoorsModel" (22 : Nat) "RoadOfDoorsModel" "fault" "I") ∈ tW := tW_t (i := 929) (by decide +kernel) rfl
theorem w_930 : (Jvm.Cond.fieldLink "RoadOfDoorsModel" (26 : Nat) "RoadOfDoorsModel" "faultPlace" "I") ∈ tW := tW_t (i := 930) (by decide +kernel) rfl
theorem w_931 : (Jvm.Cond.fieldLink "RoadOfDoorsModel" (87 : Nat) "RoadOfDoorsModel" "at" "I") ∈ tW := tW_t (i := 931) (by decide +kernel) rfl
theorem w_932 : (Jvm.Cond.fieldLink "RoadOfDoorsModel" (94 : Nat) "RoadOfDoorsModel" "place" "I") ∈ tW := tW_t (i := 932) (by decide +kernel) rfl
theorem w_933 : (Jvm.Cond.fieldLink "RoadOfDoorsModel" (97 : Nat) "RoadOfDoorsModel" "token" "I") ∈ tW := tW_t (i := 933) (by decide +kernel) rfl
theorem w_934 : (Jvm.Cond.fieldLink "RoadOfDoorsModel" (103 : Nat) "RoadOfDoorsModel" "number" "I") ∈ tW := tW_t (i := 934) (by decide +kernel) rfl
theorem w_935 : (Jvm.Cond.fieldLink "RoadOfDoorsModel" (110 : Nat) "RoadOfDoorsModel" "word" "J") ∈ tW := tW_t (i := 935) (by decide +kernel) rfl
theorem w_936 : (Jvm.Cond.fieldLink "RoadOfDoorsModel" (122 : Nat) "RoadOfDoorsModel" "text0" "I") ∈ tW := tW_t (i := 936) (by decide +kernel) rfl
theorem w_937 : (Jvm.Cond.fieldLink "RoadOfDoorsModel" (125 : Nat) "RoadOfDoorsModel" "written" "I") ∈ tW := tW_t (i := 937) (by decide +kernel) rfl
theorem w_938 : (Jvm.Cond.fieldLink "RoadOfDoorsModel" (29 : Nat) "RoadOfDoorsModel" "pile" "[I") ∈ tW := tW_t (i := 938) (by decide +kernel) rfl
theorem w_939 : (Jvm.Cond.fieldLink "RoadOfDoorsModel" (128 : Nat) "RoadOfDoorsModel" "piled" "I") ∈ tW := tW_t (i := 939) (by decide +kernel) rfl
theorem w_940 : (Jvm.Cond.fieldLink "RoadOfDoorsModel" (135 : Nat) "RoadOfDoorsModel" "opens" "I") ∈ tW := tW_t (i := 940) (by decide +kernel) rfl
theorem w_941 : (Jvm.Cond.fieldLink "RoadOfDoorsModel" (131 : Nat) "RoadOfDoorsModel" "isWhole" "Z") ∈ tW := tW_t (i := 941) (by decide +kernel) rfl
theorem w_942 : (Jvm.Cond.fieldLink "RoadOfDoorsModel" (201 : Nat) "RoadOfDoorsModel" "once" "Z") ∈ tW := tW_t (i := 942) (by decide +kernel) rfl
theorem w_943 : (Jvm.Cond.fieldLink "RoadOfDoorsModel" (32 : Nat) "RoadOfDoorsModel" "named" "[I") ∈ tW := tW_t (i := 943) (by decide +kernel) rfl
theorem w_944 : (Jvm.Cond.fieldLink "RoadOfDoorsModel" (35 : Nat) "RoadOfDoorsModel" "values" "[J") ∈ tW := tW_t (i := 944) (by decide +kernel) rfl
theorem w_945 : (Jvm.Cond.fieldLink "RoadOfDoorsModel" (39 : Nat) "RoadOfDoorsModel" "truth" "[Z") ∈ tW := tW_t (i := 945) (by decide +kernel) rfl
theorem w_946 : (Jvm.Cond.fieldLink "RoadOfDoorsModel" (43 : Nat) "RoadOfDoorsModel" "goer" "[I") ∈ tW := tW_t (i := 946) (by decide +kernel) rfl
theorem w_947 : (Jvm.Cond.fieldLink "RoadOfDoorsModel" (46 : Nat) "RoadOfDoorsModel" "tried" "[I") ∈ tW := tW_t (i := 947) (by decide +kernel) rfl
theorem w_948 : (Jvm.Cond.fieldLink "RoadOfDoorsModel" (50 : Nat) "RoadOfDoorsModel" "leasts" "[I") ∈ tW := tW_t (i := 948) (by decide +kernel) rfl
theorem w_949 : (Jvm.Cond.fieldLink "RoadOfDoorsModel" (53 : Nat) "RoadOfDoorsModel" "left" "[I") ∈ tW := tW_t (i := 949) (by decide +kernel) rfl
theorem w_950 : (Jvm.Cond.fieldLink "RoadOfDoorsModel" (56 : Nat) "RoadOfDoorsModel" "done" "[I") ∈ tW := tW_t (i := 950) (by decide +kernel) rfl
theorem w_951 : (Jvm.Cond.fieldLink "RoadOfDoorsModel" (59 : Nat) "RoadOfDoorsModel" "doneAt" "[I") ∈ tW := tW_t (i := 951) (by decide +kernel) rfl
theorem w_952 : (Jvm.Cond.fieldLink "RoadOfDoorsModel" (285 : Nat) "RoadOfDoorsModel" "doneMany" "I") ∈ tW := tW_t (i := 952) (by decide +kernel) rfl
theorem w_1022 : (Jvm.Cond.methodLink "RoadOfDoorsModel" (73 : Nat) ({ cls := "RoadOfDoorsModel", name := "isHour", desc := "(I)Z" } : Jvm.MethodName)) ∈ tW := tW_t (i := 1022) (by decide +kernel) rfl
theorem w_1023 : (Jvm.Cond.static ({ cls := "RoadOfDoorsModel", name := "isHour", desc := "(I)Z" } : Jvm.MethodName)) ∈ tW := tW_t (i := 1023) (by decide +kernel) rfl
theorem w_1025 : (Jvm.Cond.methodLink "RoadOfDoorsModel" (69 : Nat) ({ cls := "RoadOfDoorsModel", name := "isIn", desc := "(III)Z" } : Jvm.MethodName)) ∈ tW := tW_t (i := 1025) (by decide +kernel) rfl
theorem w_1026 : (Jvm.Cond.static ({ cls := "RoadOfDoorsModel", name := "isIn", desc := "(III)Z" } : Jvm.MethodName)) ∈ tW := tW_t (i := 1026) (by decide +kernel) rfl
theorem w_1032 : (Jvm.Cond.methodLink "RoadOfDoorsModel" (77 : Nat) ({ cls := "RoadOfDoorsModel", name := "isDoor", desc := "(I)Z" } : Jvm.MethodName)) ∈ tW := tW_t (i := 1032) (by decide +kernel) rfl
theorem w_1034 : (Jvm.Cond.instanceMethod ({ cls := "RoadOfDoorsModel", name := "isDoor", desc := "(I)Z" } : Jvm.MethodName)) ∈ tW := tW_t (i := 1034) (by decide +kernel) rfl
theorem w_1048 : (Jvm.Cond.methodLink "RoadOfDoorsModel" (83 : Nat) ({ cls := "RoadOfDoorsModel", name := "four", desc := "(I)V" } : Jvm.MethodName)) ∈ tW := tW_t (i := 1048) (by decide +kernel) rfl
theorem w_1050 : (Jvm.Cond.instanceMethod ({ cls := "RoadOfDoorsModel", name := "four", desc := "(I)V" } : Jvm.MethodName)) ∈ tW := tW_t (i := 1050) (by decide +kernel) rfl
theorem w_1060 : (Jvm.Cond.methodLink "RoadOfDoorsModel" (213 : Nat) ({ cls := "RoadOfDoorsModel", name := "readText", desc := "()I" } : Jvm.MethodName)) ∈ tW := tW_t (i := 1060) (by decide +kernel) rfl
theorem w_1062 : (Jvm.Cond.instanceMethod ({ cls := "RoadOfDoorsModel", name := "readText", desc := "()I" } : Jvm.MethodName)) ∈ tW := tW_t (i := 1062) (by decide +kernel) rfl
theorem w_1064 : (Jvm.Cond.methodLink "RoadOfDoorsModel" (150 : Nat) ({ cls := "RoadOfDoorsModel", name := "nextToken", desc := "()V" } : Jvm.MethodName)) ∈ tW := tW_t (i := 1064) (by decide +kernel) rfl
theorem w_1066 : (Jvm.Cond.instanceMethod ({ cls := "RoadOfDoorsModel", name := "nextToken", desc := "()V" } : Jvm.MethodName)) ∈ tW := tW_t (i := 1066) (by decide +kernel) rfl
theorem w_1068 : (Jvm.Cond.methodLink "RoadOfDoorsModel" (90 : Nat) ({ cls := "RoadOfDoorsModel", name := "byteAt", desc := "(I)I" } : Jvm.MethodName)) ∈ tW := tW_t (i := 1068) (by decide +kernel) rfl
theorem w_1070 : (Jvm.Cond.instanceMethod ({ cls := "RoadOfDoorsModel", name := "byteAt", desc := "(I)I" } : Jvm.MethodName)) ∈ tW := tW_t (i := 1070) (by decide +kernel) rfl
theorem w_1072 : (Jvm.Cond.methodLink "RoadOfDoorsModel" (100 : Nat) ({ cls := "RoadOfDoorsModel", name := "isDigit", desc := "(I)Z" } : Jvm.MethodName)) ∈ tW := tW_t (i := 1072) (by decide +kernel) rfl
theorem w_1073 : (Jvm.Cond.static ({ cls := "RoadOfDoorsModel", name := "isDigit", desc := "(I)Z" } : Jvm.MethodName)) ∈ tW := tW_t (i := 1073) (by decide +kernel) rfl
theorem w_1075 : (Jvm.Cond.constant "RoadOfDoorsModel" (106 : Nat) (100000 : Int32)) ∈ tW := tW_t (i := 1075) (by decide +kernel) rfl
theorem w_1076 : (Jvm.Cond.methodLink "RoadOfDoorsModel" (107 : Nat) ({ cls := "RoadOfDoorsModel", name := "isLetter", desc := "(I)Z" } : Jvm.MethodName)) ∈ tW := tW_t (i := 1076) (by decide +kernel) rfl
theorem w_1077 : (Jvm.Cond.static ({ cls := "RoadOfDoorsModel", name := "isLetter", desc := "(I)Z" } : Jvm.MethodName)) ∈ tW := tW_t (i := 1077) (by decide +kernel) rfl
theorem w_1079 : (Jvm.Cond.methodLink "RoadOfDoorsModel" (210 : Nat) ({ cls := "RoadOfDoorsModel", name := "clause", desc := "()I" } : Jvm.MethodName)) ∈ tW := tW_t (i := 1079) (by decide +kernel) rfl
theorem w_1081 : (Jvm.Cond.instanceMethod ({ cls := "RoadOfDoorsModel", name := "clause", desc := "()I" } : Jvm.MethodName)) ∈ tW := tW_t (i := 1081) (by decide +kernel) rfl
theorem w_1083 : (Jvm.Cond.methodLink "RoadOfDoorsModel" (198 : Nat) ({ cls := "RoadOfDoorsModel", name := "sortOf", desc := "()I" } : Jvm.MethodName)) ∈ tW := tW_t (i := 1083) (by decide +kernel) rfl
theorem w_1085 : (Jvm.Cond.instanceMethod ({ cls := "RoadOfDoorsModel", name := "sortOf", desc := "()I" } : Jvm.MethodName)) ∈ tW := tW_t (i := 1085) (by decide +kernel) rfl
theorem w_1087 : (Jvm.Cond.methodLink "RoadOfDoorsModel" (118 : Nat) ({ cls := "RoadOfDoorsModel", name := "w5", desc := "(IIIII)J" } : Jvm.MethodName)) ∈ tW := tW_t (i := 1087) (by decide +kernel) rfl
theorem w_1088 : (Jvm.Cond.static ({ cls := "RoadOfDoorsModel", name := "w5", desc := "(IIIII)J" } : Jvm.MethodName)) ∈ tW := tW_t (i := 1088) (by decide +kernel) rfl
theorem w_1090 : (Jvm.Cond.methodLink "RoadOfDoorsModel" (114 : Nat) ({ cls := "RoadOfDoorsModel", name := "w3", desc := "(III)J" } : Jvm.MethodName)) ∈ tW := tW_t (i := 1090) (by decide +kernel) rfl
theorem w_1091 : (Jvm.Cond.static ({ cls := "RoadOfDoorsModel", name := "w3", desc := "(III)J" } : Jvm.MethodName)) ∈ tW := tW_t (i := 1091) (by decide +kernel) rfl
theorem w_1093 : (Jvm.Cond.methodLink "RoadOfDoorsModel" (179 : Nat) ({ cls := "RoadOfDoorsModel", name := "isWord", desc := "(J)Z" } : Jvm.MethodName)) ∈ tW := tW_t (i := 1093) (by decide +kernel) rfl
theorem w_1095 : (Jvm.Cond.instanceMethod ({ cls := "RoadOfDoorsModel", name := "isWord", desc := "(J)Z" } : Jvm.MethodName)) ∈ tW := tW_t (i := 1095) (by decide +kernel) rfl
theorem w_1097 : (Jvm.Cond.methodLink "RoadOfDoorsModel" (142 : Nat) ({ cls := "RoadOfDoorsModel", name := "w4", desc := "(IIII)J" } : Jvm.MethodName)) ∈ tW := tW_t (i := 1097) (by decide +kernel) rfl
theorem w_1098 : (Jvm.Cond.static ({ cls := "RoadOfDoorsModel", name := "w4", desc := "(IIII)J" } : Jvm.MethodName)) ∈ tW := tW_t (i := 1098) (by decide +kernel) rfl
theorem w_1100 : (Jvm.Cond.methodLink "RoadOfDoorsModel" (204 : Nat) ({ cls := "RoadOfDoorsModel", name := "either", desc := "()I" } : Jvm.MethodName)) ∈ tW := tW_t (i := 1100) (by decide +kernel) rfl
theorem w_1102 : (Jvm.Cond.instanceMethod ({ cls := "RoadOfDoorsModel", name := "either", desc := "()I" } : Jvm.MethodName)) ∈ tW := tW_t (i := 1102) (by decide +kernel) rfl
theorem w_1104 : (Jvm.Cond.methodLink "RoadOfDoorsModel" (189 : Nat) ({ cls := "RoadOfDoorsModel", name := "asks", desc := "()I" } : Jvm.MethodName)) ∈ tW := tW_t (i := 1104) (by decide +kernel) rfl
theorem w_1106 : (Jvm.Cond.instanceMethod ({ cls := "RoadOfDoorsModel", name := "asks", desc := "()I" } : Jvm.MethodName)) ∈ tW := tW_t (i := 1106) (by decide +kernel) rfl
theorem w_1108 : (Jvm.Cond.methodLink "RoadOfDoorsModel" (183 : Nat) ({ cls := "RoadOfDoorsModel", name := "summed", desc := "()I" } : Jvm.MethodName)) ∈ tW := tW_t (i := 1108) (by decide +kernel) rfl
theorem w_1110 : (Jvm.Cond.instanceMethod ({ cls := "RoadOfDoorsModel", name := "summed", desc := "()I" } : Jvm.MethodName)) ∈ tW := tW_t (i := 1110) (by decide +kernel) rfl
theorem w_1112 : (Jvm.Cond.methodLink "RoadOfDoorsModel" (170 : Nat) ({ cls := "RoadOfDoorsModel", name := "goesOn", desc := "()Z" } : Jvm.MethodName)) ∈ tW := tW_t (i := 1112) (by decide +kernel) rfl
theorem w_1114 : (Jvm.Cond.instanceMethod ({ cls := "RoadOfDoorsModel", name := "goesOn", desc := "()Z" } : Jvm.MethodName)) ∈ tW := tW_t (i := 1114) (by decide +kernel) rfl
theorem w_1116 : (Jvm.Cond.methodLink "RoadOfDoorsModel" (163 : Nat) ({ cls := "RoadOfDoorsModel", name := "hasParen", desc := "()Z" } : Jvm.MethodName)) ∈ tW := tW_t (i := 1116) (by decide +kernel) rfl
theorem w_1118 : (Jvm.Cond.instanceMethod ({ cls := "RoadOfDoorsModel", name := "hasParen", desc := "()Z" } : Jvm.MethodName)) ∈ tW := tW_t (i := 1118) (by decide +kernel) rfl
theorem w_1120 : (Jvm.Cond.methodLink "RoadOfDoorsModel" (173 : Nat) ({ cls := "RoadOfDoorsModel", name := "behindOne", desc := "()I" } : Jvm.MethodName)) ∈ tW := tW_t (i := 1120) (by decide +kernel) rfl
theorem w_1122 : (Jvm.Cond.instanceMethod ({ cls := "RoadOfDoorsModel", name := "behindOne", desc := "()I" } : Jvm.MethodName)) ∈ tW := tW_t (i := 1122) (by decide +kernel) rfl
theorem w_1124 : (Jvm.Cond.methodLink "RoadOfDoorsModel" (167 : Nat) ({ cls := "RoadOfDoorsModel", name := "settle", desc := "(I)V" } : Jvm.MethodName)) ∈ tW := tW_t (i := 1124) (by decide +kernel) rfl
theorem w_1126 : (Jvm.Cond.instanceMethod ({ cls := "RoadOfDoorsModel", name := "settle", desc := "(I)V" } : Jvm.MethodName)) ∈ tW := tW_t (i := 1126) (by decide +kernel) rfl
theorem w_1128 : (Jvm.Cond.methodLink "RoadOfDoorsModel" (138 : Nat) ({ cls := "RoadOfDoorsModel", name := "emit", desc := "(II)V" } : Jvm.MethodName)) ∈ tW := tW_t (i := 1128) (by decide +kernel) rfl
theorem w_1130 : (Jvm.Cond.instanceMethod ({ cls := "RoadOfDoorsModel", name := "emit", desc := "(II)V" } : Jvm.MethodName)) ∈ tW := tW_t (i := 1130) (by decide +kernel) rfl
theorem w_1132 : (Jvm.Cond.methodLink "RoadOfDoorsModel" (160 : Nat) ({ cls := "RoadOfDoorsModel", name := "push", desc := "(I)V" } : Jvm.MethodName)) ∈ tW := tW_t (i := 1132) (by decide +kernel) rfl
theorem w_1134 : (Jvm.Cond.instanceMethod ({ cls := "RoadOfDoorsModel", name := "push", desc := "(I)V" } : Jvm.MethodName)) ∈ tW := tW_t (i := 1134) (by decide +kernel) rfl
theorem w_1136 : (Jvm.Cond.methodLink "RoadOfDoorsModel" (153 : Nat) ({ cls := "RoadOfDoorsModel", name := "whole", desc := "()V" } : Jvm.MethodName)) ∈ tW := tW_t (i := 1136) (by decide +kernel) rfl
theorem w_1138 : (Jvm.Cond.instanceMethod ({ cls := "RoadOfDoorsModel", name := "whole", desc := "()V" } : Jvm.MethodName)) ∈ tW := tW_t (i := 1138) (by decide +kernel) rfl
theorem w_1140 : (Jvm.Cond.methodLink "RoadOfDoorsModel" (176 : Nat) ({ cls := "RoadOfDoorsModel", name := "beginOne", desc := "()I" } : Jvm.MethodName)) ∈ tW := tW_t (i := 1140) (by decide +kernel) rfl
theorem w_1142 : (Jvm.Cond.instanceMethod ({ cls := "RoadOfDoorsModel", name := "beginOne", desc := "()I" } : Jvm.MethodName)) ∈ tW := tW_t (i := 1142) (by decide +kernel) rfl
theorem w_1144 : (Jvm.Cond.methodLink "RoadOfDoorsModel" (156 : Nat) ({ cls := "RoadOfDoorsModel", name := "nameOf", desc := "()I" } : Jvm.MethodName)) ∈ tW := tW_t (i := 1144) (by decide +kernel) rfl
theorem w_1146 : (Jvm.Cond.instanceMethod ({ cls := "RoadOfDoorsModel", name := "nameOf", desc := "()I" } : Jvm.MethodName)) ∈ tW := tW_t (i := 1146) (by decide +kernel) rfl
theorem w_1148 : (Jvm.Cond.methodLink "RoadOfDoorsModel" (146 : Nat) ({ cls := "RoadOfDoorsModel", name := "w6", desc := "(IIIIII)J" } : Jvm.MethodName)) ∈ tW := tW_t (i := 1148) (by decide +kernel) rfl
theorem w_1149 : (Jvm.Cond.static ({ cls := "RoadOfDoorsModel", name := "w6", desc := "(IIIIII)J" } : Jvm.MethodName)) ∈ tW := tW_t (i := 1149) (by decide +kernel) rfl
theorem w_1151 : (Jvm.Cond.methodLink "RoadOfDoorsModel" (186 : Nat) ({ cls := "RoadOfDoorsModel", name := "compareOf", desc := "()I" } : Jvm.MethodName)) ∈ tW := tW_t (i := 1151) (by decide +kernel) rfl
theorem w_1153 : (Jvm.Cond.instanceMethod ({ cls := "RoadOfDoorsModel", name := "compareOf", desc := "()I" } : Jvm.MethodName)) ∈ tW := tW_t (i := 1153) (by decide +kernel) rfl
theorem w_1155 : (Jvm.Cond.constantLong "RoadOfDoorsModel" (192 : Nat) (28530 : Int64)) ∈ tW := tW_t (i := 1155) (by decide +kernel) rfl
theorem w_1156 : (Jvm.Cond.methodLink "RoadOfDoorsModel" (207 : Nat) ({ cls := "RoadOfDoorsModel", name := "knocked", desc := "(I)I" } : Jvm.MethodName)) ∈ tW := tW_t (i := 1156) (by decide +kernel) rfl
theorem w_1158 : (Jvm.Cond.instanceMethod ({ cls := "RoadOfDoorsModel", name := "knocked", desc := "(I)I" } : Jvm.MethodName)) ∈ tW := tW_t (i := 1158) (by decide +kernel) rfl
theorem w_1160 : (Jvm.Cond.methodLink "RoadOfDoorsModel" (194 : Nat) ({ cls := "RoadOfDoorsModel", name := "figure", desc := "(III)I" } : Jvm.MethodName)) ∈ tW := tW_t (i := 1160) (by decide +kernel) rfl
theorem w_1162 : (Jvm.Cond.instanceMethod ({ cls := "RoadOfDoorsModel", name := "figure", desc := "(III)I" } : Jvm.MethodName)) ∈ tW := tW_t (i := 1162) (by decide +kernel) rfl
theorem w_1172 : (Jvm.Cond.methodLink "RoadOfDoorsModel" (216 : Nat) ({ cls := "RoadOfDoorsModel", name := "isRule", desc := "(I)Z" } : Jvm.MethodName)) ∈ tW := tW_t (i := 1172) (by decide +kernel) rfl
theorem w_1174 : (Jvm.Cond.instanceMethod ({ cls := "RoadOfDoorsModel", name := "isRule", desc := "(I)Z" } : Jvm.MethodName)) ∈ tW := tW_t (i := 1174) (by decide +kernel) rfl
theorem w_1177 : (Jvm.Cond.instanceMethod ({ cls := "RoadOfDoorsModel", name := "opens", desc := "(IIIIII)Z" } : Jvm.MethodName)) ∈ tW := tW_t (i := 1177) (by decide +kernel) rfl
theorem w_1178 : (Jvm.Cond.selects "RoadOfDoorsModel" ({ cls := "RoadOfDoorsModel", name := "opens", desc := "(IIIIII)Z" } : Jvm.MethodName) ({ cls := "RoadOfDoorsModel", name := "opens", desc := "(IIIIII)Z" } : Jvm.MethodName)) ∈ tW := tW_t (i := 1178) (by decide +kernel) rfl
theorem w_1180 : (Jvm.Cond.methodLink "RoadOfDoorsModel" (238 : Nat) ({ cls := "RoadOfDoorsModel", name := "isKnock", desc := "(II)Z" } : Jvm.MethodName)) ∈ tW := tW_t (i := 1180) (by decide +kernel) rfl
theorem w_1181 : (Jvm.Cond.static ({ cls := "RoadOfDoorsModel", name := "isKnock", desc := "(II)Z" } : Jvm.MethodName)) ∈ tW := tW_t (i := 1181) (by decide +kernel) rfl
theorem w_1183 : (Jvm.Cond.methodLink "RoadOfDoorsModel" (242 : Nat) ({ cls := "RoadOfDoorsModel", name := "isOpen", desc := "(IIIIIII)Z" } : Jvm.MethodName)) ∈ tW := tW_t (i := 1183) (by decide +kernel) rfl
theorem w_1185 : (Jvm.Cond.instanceMethod ({ cls := "RoadOfDoorsModel", name := "isOpen", desc := "(IIIIIII)Z" } : Jvm.MethodName)) ∈ tW := tW_t (i := 1185) (by decide +kernel) rfl
theorem w_1187 : (Jvm.Cond.methodLink "RoadOfDoorsModel" (235 : Nat) ({ cls := "RoadOfDoorsModel", name := "work", desc := "(II)V" } : Jvm.MethodName)) ∈ tW := tW_t (i := 1187) (by decide +kernel) rfl
theorem w_1189 : (Jvm.Cond.instanceMethod ({ cls := "RoadOfDoorsModel", name := "work", desc := "(II)V" } : Jvm.MethodName)) ∈ tW := tW_t (i := 1189) (by decide +kernel) rfl
theorem w_1191 : (Jvm.Cond.methodLink "RoadOfDoorsModel" (227 : Nat) ({ cls := "RoadOfDoorsModel", name := "two", desc := "(IJJ)J" } : Jvm.MethodName)) ∈ tW := tW_t (i := 1191) (by decide +kernel) rfl
theorem w_1192 : (Jvm.Cond.static ({ cls := "RoadOfDoorsModel", name := "two", desc := "(IJJ)J" } : Jvm.MethodName)) ∈ tW := tW_t (i := 1192) (by decide +kernel) rfl
theorem w_1194 : (Jvm.Cond.methodLink "RoadOfDoorsModel" (223 : Nat) ({ cls := "RoadOfDoorsModel", name := "clip", desc := "(J)J" } : Jvm.MethodName)) ∈ tW := tW_t (i := 1194) (by decide +kernel) rfl
theorem w_1195 : (Jvm.Cond.static ({ cls := "RoadOfDoorsModel", name := "clip", desc := "(J)J" } : Jvm.MethodName)) ∈ tW := tW_t (i := 1195) (by decide +kernel) rfl
theorem w_1197 : (Jvm.Cond.constantLong "RoadOfDoorsModel" (219 : Nat) (1000000 : Int64)) ∈ tW := tW_t (i := 1197) (by decide +kernel) rfl
theorem w_1198 : (Jvm.Cond.constantLong "RoadOfDoorsModel" (221 : Nat) (-1000000 : Int64)) ∈ tW := tW_t (i := 1198) (by decide +kernel) rfl
theorem w_1199 : (Jvm.Cond.methodLink "RoadOfDoorsModel" (231 : Nat) ({ cls := "RoadOfDoorsModel", name := "isAsked", desc := "(IJJ)Z" } : Jvm.MethodName)) ∈ tW := tW_t (i := 1199) (by decide +kernel) rfl
theorem w_1200 : (Jvm.Cond.static ({ cls := "RoadOfDoorsModel", name := "isAsked", desc := "(IJJ)Z" } : Jvm.MethodName)) ∈ tW := tW_t (i := 1200) (by decide +kernel) rfl
theorem w_1206 : (Jvm.Cond.methodLink "RoadOfDoorsModel" (246 : Nat) ({ cls := "RoadOfDoorsModel", name := "isTraveller", desc := "(IIII)Z" } : Jvm.MethodName)) ∈ tW := tW_t (i := 1206) (by decide +kernel) rfl
theorem w_1208 : (Jvm.Cond.instanceMethod ({ cls := "RoadOfDoorsModel", name := "isTraveller", desc := "(IIII)Z" } : Jvm.MethodName)) ∈ tW := tW_t (i := 1208) (by decide +kernel) rfl
theorem w_1215 : (Jvm.Cond.instanceMethod ({ cls := "RoadOfDoorsModel", name := "knock", desc := "(II)I" } : Jvm.MethodName)) ∈ tW := tW_t (i := 1215) (by decide +kernel) rfl
theorem w_1216 : (Jvm.Cond.selects "RoadOfDoorsModel" ({ cls := "RoadOfDoorsModel", name := "knock", desc := "(II)I" } : Jvm.MethodName) ({ cls := "RoadOfDoorsModel", name := "knock", desc := "(II)I" } : Jvm.MethodName)) ∈ tW := tW_t (i := 1216) (by decide +kernel) rfl
theorem w_1218 : (Jvm.Cond.methodLink "RoadOfDoorsModel" (250 : Nat) ({ cls := "RoadOfDoorsModel", name := "keepStep", desc := "()V" } : Jvm.MethodName)) ∈ tW := tW_t (i := 1218) (by decide +kernel) rfl
theorem w_1220 : (Jvm.Cond.instanceMethod ({ cls := "RoadOfDoorsModel", name := "keepStep", desc := "()V" } : Jvm.MethodName)) ∈ tW := tW_t (i := 1220) (by decide +kernel) rfl
theorem w_1222 : (Jvm.Cond.methodLink "RoadOfDoorsModel" (253 : Nat) ({ cls := "RoadOfDoorsModel", name := "has", desc := "(II)Z" } : Jvm.MethodName)) ∈ tW := tW_t (i := 1222) (by decide +kernel) rfl
theorem w_1223 : (Jvm.Cond.static ({ cls := "RoadOfDoorsModel", name := "has", desc := "(II)Z" } : Jvm.MethodName)) ∈ tW := tW_t (i := 1223) (by decide +kernel) rfl
theorem w_1225 : (Jvm.Cond.methodLink "RoadOfDoorsModel" (256 : Nat) ({ cls := "RoadOfDoorsModel", name := "opens", desc := "(IIIIII)Z" } : Jvm.MethodName)) ∈ tW := tW_t (i := 1225) (by decide +kernel) rfl
theorem w_1226 : (Jvm.Cond.methodLink "RoadOfDoorsModel" (259 : Nat) ({ cls := "RoadOfDoorsModel", name := "hourBy", desc := "(Z)V" } : Jvm.MethodName)) ∈ tW := tW_t (i := 1226) (by decide +kernel) rfl
theorem w_1228 : (Jvm.Cond.instanceMethod ({ cls := "RoadOfDoorsModel", name := "hourBy", desc := "(Z)V" } : Jvm.MethodName)) ∈ tW := tW_t (i := 1228) (by decide +kernel) rfl
theorem w_1231 : (Jvm.Cond.instanceMethod ({ cls := "RoadOfDoorsModel", name := "later", desc := "(I)I" } : Jvm.MethodName)) ∈ tW := tW_t (i := 1231) (by decide +kernel) rfl
theorem w_1232 : (Jvm.Cond.selects "RoadOfDoorsModel" ({ cls := "RoadOfDoorsModel", name := "later", desc := "(I)I" } : Jvm.MethodName) ({ cls := "RoadOfDoorsModel", name := "later", desc := "(I)I" } : Jvm.MethodName)) ∈ tW := tW_t (i := 1232) (by decide +kernel) rfl
theorem w_1238 : (Jvm.Cond.methodLink "RoadOfDoorsModel" (270 : Nat) ({ cls := "RoadOfDoorsModel", name := "isPlayed", desc := "(I)Z" } : Jvm.MethodName)) ∈ tW := tW_t (i := 1238) (by decide +kernel) rfl
theorem w_1240 : (Jvm.Cond.instanceMethod ({ cls := "RoadOfDoorsModel", name := "isPlayed", desc := "(I)Z" } : Jvm.MethodName)) ∈ tW := tW_t (i := 1240) (by decide +kernel) rfl
theorem w_1242 : (Jvm.Cond.methodLink "RoadOfDoorsModel" (263 : Nat) ({ cls := "RoadOfDoorsModel", name := "knock", desc := "(II)I" } : Jvm.MethodName)) ∈ tW := tW_t (i := 1242) (by decide +kernel) rfl
theorem w_1243 : (Jvm.Cond.methodLink "RoadOfDoorsModel" (267 : Nat) ({ cls := "RoadOfDoorsModel", name := "later", desc := "(I)I" } : Jvm.MethodName)) ∈ tW := tW_t (i := 1243) (by decide +kernel) rfl
theorem w_1252 : (Jvm.Cond.methodLink "RoadOfDoorsModel" (295 : Nat) ({ cls := "RoadOfDoorsModel", name := "forgetLeasts", desc := "(II)V" } : Jvm.MethodName)) ∈ tW := tW_t (i := 1252) (by decide +kernel) rfl
theorem w_1254 : (Jvm.Cond.instanceMethod ({ cls := "RoadOfDoorsModel", name := "forgetLeasts", desc := "(II)V" } : Jvm.MethodName)) ∈ tW := tW_t (i := 1254) (by decide +kernel) rfl
theorem w_1256 : (Jvm.Cond.constant "RoadOfDoorsModel" (273 : Nat) (53760 : Int32)) ∈ tW := tW_t (i := 1256) (by decide +kernel) rfl
theorem w_1257 : (Jvm.Cond.methodLink "RoadOfDoorsModel" (298 : Nat) ({ cls := "RoadOfDoorsModel", name := "soonestOf", desc := "(II)I" } : Jvm.MethodName)) ∈ tW := tW_t (i := 1257) (by decide +kernel) rfl
theorem w_1259 : (Jvm.Cond.instanceMethod ({ cls := "RoadOfDoorsModel", name := "soonestOf", desc := "(II)I" } : Jvm.MethodName)) ∈ tW := tW_t (i := 1259) (by decide +kernel) rfl
theorem w_1261 : (Jvm.Cond.methodLink "RoadOfDoorsModel" (288 : Nat) ({ cls := "RoadOfDoorsModel", name := "reckon", desc := "(IIZ)I" } : Jvm.MethodName)) ∈ tW := tW_t (i := 1261) (by decide +kernel) rfl
theorem w_1263 : (Jvm.Cond.instanceMethod ({ cls := "RoadOfDoorsModel", name := "reckon", desc := "(IIZ)I" } : Jvm.MethodName)) ∈ tW := tW_t (i := 1263) (by decide +kernel) rfl
theorem w_1265 : (Jvm.Cond.constant "RoadOfDoorsModel" (281 : Nat) (1000000 : Int32)) ∈ tW := tW_t (i := 1265) (by decide +kernel) rfl
theorem w_1266 : (Jvm.Cond.methodLink "RoadOfDoorsModel" (282 : Nat) ({ cls := "RoadOfDoorsModel", name := "by", desc := "(IIIII)I" } : Jvm.MethodName)) ∈ tW := tW_t (i := 1266) (by decide +kernel) rfl
theorem w_1268 : (Jvm.Cond.instanceMethod ({ cls := "RoadOfDoorsModel", name := "by", desc := "(IIIII)I" } : Jvm.MethodName)) ∈ tW := tW_t (i := 1268) (by decide +kernel) rfl
theorem w_1270 : (Jvm.Cond.methodLink "RoadOfDoorsModel" (274 : Nat) ({ cls := "RoadOfDoorsModel", name := "leftAt", desc := "(III)I" } : Jvm.MethodName)) ∈ tW := tW_t (i := 1270) (by decide +kernel) rfl
theorem w_1271 : (Jvm.Cond.static ({ cls := "RoadOfDoorsModel", name := "leftAt", desc := "(III)I" } : Jvm.MethodName)) ∈ tW := tW_t (i := 1271) (by decide +kernel) rfl
theorem w_1273 : (Jvm.Cond.methodLink "RoadOfDoorsModel" (277 : Nat) ({ cls := "RoadOfDoorsModel", name := "leastGift", desc := "(IIIII)I" } : Jvm.MethodName)) ∈ tW := tW_t (i := 1273) (by decide +kernel) rfl
theorem w_1275 : (Jvm.Cond.instanceMethod ({ cls := "RoadOfDoorsModel", name := "leastGift", desc := "(IIIII)I" } : Jvm.MethodName)) ∈ tW := tW_t (i := 1275) (by decide +kernel) rfl
theorem w_1277 : (Jvm.Cond.methodLink "RoadOfDoorsModel" (292 : Nat) ({ cls := "RoadOfDoorsModel", name := "follow", desc := "(I)V" } : Jvm.MethodName)) ∈ tW := tW_t (i := 1277) (by decide +kernel) rfl
theorem w_1279 : (Jvm.Cond.instanceMethod ({ cls := "RoadOfDoorsModel", name := "follow", desc := "(I)V" } : Jvm.MethodName)) ∈ tW := tW_t (i := 1279) (by decide +kernel) rfl
theorem w_1281 : (Jvm.Cond.methodLink "RoadOfDoorsModel" (301 : Nat) ({ cls := "RoadOfDoorsModel", name := "cheapest", desc := "(II)I" } : Jvm.MethodName)) ∈ tW := tW_t (i := 1281) (by decide +kernel) rfl
theorem w_1283 : (Jvm.Cond.instanceMethod ({ cls := "RoadOfDoorsModel", name := "cheapest", desc := "(II)I" } : Jvm.MethodName)) ∈ tW := tW_t (i := 1283) (by decide +kernel) rfl
theorem w_1297 : (Jvm.Cond.methodLink "RoadOfDoorsModel" (304 : Nat) ({ cls := "RoadOfDoorsModel", name := "beginGuests", desc := "()V" } : Jvm.MethodName)) ∈ tW := tW_t (i := 1297) (by decide +kernel) rfl
theorem w_1299 : (Jvm.Cond.instanceMethod ({ cls := "RoadOfDoorsModel", name := "beginGuests", desc := "()V" } : Jvm.MethodName)) ∈ tW := tW_t (i := 1299) (by decide +kernel) rfl
theorem w_1301 : (Jvm.Cond.methodLink "RoadOfDoorsModel" (307 : Nat) ({ cls := "RoadOfDoorsModel", name := "earned", desc := "(I)I" } : Jvm.MethodName)) ∈ tW := tW_t (i := 1301) (by decide +kernel) rfl
theorem w_1303 : (Jvm.Cond.instanceMethod ({ cls := "RoadOfDoorsModel", name := "earned", desc := "(I)I" } : Jvm.MethodName)) ∈ tW := tW_t (i := 1303) (by decide +kernel) rfl
theorem w_1309 : (Jvm.Cond.methodLink "RoadOfDoorsModel" (310 : Nat) ({ cls := "RoadOfDoorsModel", name := "bestRule", desc := "(I)I" } : Jvm.MethodName)) ∈ tW := tW_t (i := 1309) (by decide +kernel) rfl
theorem w_1311 : (Jvm.Cond.instanceMethod ({ cls := "RoadOfDoorsModel", name := "bestRule", desc := "(I)I" } : Jvm.MethodName)) ∈ tW := tW_t (i := 1311) (by decide +kernel) rfl
theorem w_1325 : (Jvm.Cond.methodLink "RoadOfDoorsModel" (313 : Nat) ({ cls := "RoadOfDoorsModel", name := "canKeep", desc := "(III)Z" } : Jvm.MethodName)) ∈ tW := tW_t (i := 1325) (by decide +kernel) rfl
theorem w_1327 : (Jvm.Cond.instanceMethod ({ cls := "RoadOfDoorsModel", name := "canKeep", desc := "(III)Z" } : Jvm.MethodName)) ∈ tW := tW_t (i := 1327) (by decide +kernel) rfl
theorem kc_X8_within : Cond.code yX8_within cX8_within 3 (some .boolean) ∈ tW := tW_t (i := 379) (by decide +kernel) rfl
theorem kc_X3_forget : Cond.code yX3_forget cX3_forget 1 none ∈ tW := tW_t (i := 387) (by decide +kernel) rfl
theorem kc_X0_forget : Cond.code yX0_forget cX0_forget 1 none ∈ tW := tW_t (i := 391) (by decide +kernel) rfl
theorem kc_X8_isHour : Cond.code yX8_isHour cX8_isHour 1 (some .boolean) ∈ tW := tW_t (i := 376) (by decide +kernel) rfl
theorem kc_X8_outlookChanged : Cond.code yX8_outlookChanged cX8_outlookChanged 1 none ∈ tW := tW_t (i := 383) (by decide +kernel) rfl
theorem wp_0 : Cond.selects "RoadOfDoors" ({ cls := "RoadOfDoors", name := "outlookChanged", desc := "()V" } : Jvm.MethodName) ({ cls := "RoadOfDoors", name := "outlookChanged", desc := "()V" } : Jvm.MethodName) ∈ tW := tW_p (i := 0) (by decide +kernel) rfl
theorem kc_X8_isDoor : Cond.code yX8_isDoor cX8_isDoor 2 (some .boolean) ∈ tW := tW_t (i := 399) (by decide +kernel) rfl
theorem wp_1 : Cond.selects "RoadOfDoors" ({ cls := "RoadOfDoors", name := "isDoor", desc := "(I)Z" } : Jvm.MethodName) ({ cls := "RoadOfDoors", name := "isDoor", desc := "(I)Z" } : Jvm.MethodName) ∈ tW := tW_p (i := 1) (by decide +kernel) rfl
theorem kc_X4_add : Cond.code yX4_add cX4_add 3 none ∈ tW := tW_t (i := 415) (by decide +kernel) rfl
theorem kc_X4_spells : Cond.code yX4_spells cX4_spells 3 (some .boolean) ∈ tW := tW_t (i := 464) (by decide +kernel) rfl
theorem wp_5 : Cond.selects "RoadOfDoors$Tape" ({ cls := "RoadOfDoors$Tape", name := "spells", desc := "(Ljava/lang/String;)Z" } : Jvm.MethodName) ({ cls := "RoadOfDoors$Tape", name := "spells", desc := "(Ljava/lang/String;)Z" } : Jvm.MethodName) ∈ tW := tW_p (i := 5) (by decide +kernel) rfl
theorem kc_X4_byteAt : Cond.code yX4_byteAt cX4_byteAt 2 (some .int) ∈ tW := tW_t (i := 443) (by decide +kernel) rfl
theorem wp_2 : Cond.selects "RoadOfDoors$Tape" ({ cls := "RoadOfDoors$Tape", name := "byteAt", desc := "(I)I" } : Jvm.MethodName) ({ cls := "RoadOfDoors$Tape", name := "byteAt", desc := "(I)I" } : Jvm.MethodName) ∈ tW := tW_p (i := 2) (by decide +kernel) rfl
theorem kc_X4_isLetter : Cond.code yX4_isLetter cX4_isLetter 1 (some .boolean) ∈ tW := tW_t (i := 450) (by decide +kernel) rfl
theorem kc_X4_nameSpelt : Cond.code yX4_nameSpelt cX4_nameSpelt 1 (some .int) ∈ tW := tW_t (i := 459) (by decide +kernel) rfl
theorem wp_4 : Cond.selects "RoadOfDoors$Tape" ({ cls := "RoadOfDoors$Tape", name := "nameSpelt", desc := "()I" } : Jvm.MethodName) ({ cls := "RoadOfDoors$Tape", name := "nameSpelt", desc := "()I" } : Jvm.MethodName) ∈ tW := tW_p (i := 4) (by decide +kernel) rfl
theorem kc_X4_wordSpelt : Cond.code yX4_wordSpelt cX4_wordSpelt 1 (some .int) ∈ tW := tW_t (i := 523) (by decide +kernel) rfl
theorem wp_6 : Cond.selects "RoadOfDoors$Tape" ({ cls := "RoadOfDoors$Tape", name := "wordSpelt", desc := "()I" } : Jvm.MethodName) ({ cls := "RoadOfDoors$Tape", name := "wordSpelt", desc := "()I" } : Jvm.MethodName) ∈ tW := tW_p (i := 6) (by decide +kernel) rfl
theorem kc_X4_isDigit : Cond.code yX4_isDigit cX4_isDigit 1 (some .boolean) ∈ tW := tW_t (i := 533) (by decide +kernel) rfl
theorem kc_X4_isBlank : Cond.code yX4_isBlank cX4_isBlank 1 (some .boolean) ∈ tW := tW_t (i := 446) (by decide +kernel) rfl
theorem kc_X4_signAt : Cond.code yX4_signAt cX4_signAt 2 (some .int) ∈ tW := tW_t (i := 540) (by decide +kernel) rfl
theorem kc_X4_isTwoSigned : Cond.code yX4_isTwoSigned cX4_isTwoSigned 1 (some .boolean) ∈ tW := tW_t (i := 543) (by decide +kernel) rfl
theorem kc_X4_readNumber : Cond.code yX4_readNumber cX4_readNumber 3 none ∈ tW := tW_t (i := 537) (by decide +kernel) rfl
theorem wp_7 : Cond.selects "RoadOfDoors$Tape" ({ cls := "RoadOfDoors$Tape", name := "readNumber", desc := "()V" } : Jvm.MethodName) ({ cls := "RoadOfDoors$Tape", name := "readNumber", desc := "()V" } : Jvm.MethodName) ∈ tW := tW_p (i := 7) (by decide +kernel) rfl
theorem kc_X4_readWord : Cond.code yX4_readWord cX4_readWord 2 none ∈ tW := tW_t (i := 455) (by decide +kernel) rfl
theorem wp_3 : Cond.selects "RoadOfDoors$Tape" ({ cls := "RoadOfDoors$Tape", name := "readWord", desc := "()V" } : Jvm.MethodName) ({ cls := "RoadOfDoors$Tape", name := "readWord", desc := "()V" } : Jvm.MethodName) ∈ tW := tW_p (i := 3) (by decide +kernel) rfl
theorem kc_X5_addClause : Cond.code yX5_addClause cX5_addClause 2 none ∈ tW := tW_t (i := 559) (by decide +kernel) rfl
theorem kc_X1_refuse : Cond.code yX1_refuse cX1_refuse 2 none ∈ tW := tW_t (i := 555) (by decide +kernel) rfl
theorem wp_10 : Cond.selects "RoadOfDoors$Reader" ({ cls := "RoadOfDoors$Reader", name := "refuse", desc := "(I)V" } : Jvm.MethodName) ({ cls := "RoadOfDoors$Reader", name := "refuse", desc := "(I)V" } : Jvm.MethodName) ∈ tW := tW_p (i := 10) (by decide +kernel) rfl
theorem kc_X1_put : Cond.code yX1_put cX1_put 2 none ∈ tW := tW_t (i := 589) (by decide +kernel) rfl
theorem wp_15 : Cond.selects "RoadOfDoors$Reader" ({ cls := "RoadOfDoors$Reader", name := "put", desc := "(I)V" } : Jvm.MethodName) ({ cls := "RoadOfDoors$Reader", name := "put", desc := "(I)V" } : Jvm.MethodName) ∈ tW := tW_p (i := 15) (by decide +kernel) rfl
theorem kc_X1_pileAt : Cond.code yX1_pileAt cX1_pileAt 2 (some .int) ∈ tW := tW_t (i := 597) (by decide +kernel) rfl
theorem wp_17 : Cond.selects "RoadOfDoors$Reader" ({ cls := "RoadOfDoors$Reader", name := "pileAt", desc := "(I)I" } : Jvm.MethodName) ({ cls := "RoadOfDoors$Reader", name := "pileAt", desc := "(I)I" } : Jvm.MethodName) ∈ tW := tW_p (i := 17) (by decide +kernel) rfl
theorem kc_X5_addWord : Cond.code yX5_addWord cX5_addWord 2 none ∈ tW := tW_t (i := 605) (by decide +kernel) rfl
theorem kc_X1_levelOf : Cond.code yX1_levelOf cX1_levelOf 1 (some .int) ∈ tW := tW_t (i := 616) (by decide +kernel) rfl
theorem kc_X1_joinDownTo : Cond.code yX1_joinDownTo cX1_joinDownTo 4 none ∈ tW := tW_t (i := 613) (by decide +kernel) rfl
theorem wp_19 : Cond.selects "RoadOfDoors$Reader" ({ cls := "RoadOfDoors$Reader", name := "joinDownTo", desc := "(I)V" } : Jvm.MethodName) ({ cls := "RoadOfDoors$Reader", name := "joinDownTo", desc := "(I)V" } : Jvm.MethodName) ∈ tW := tW_p (i := 19) (by decide +kernel) rfl
theorem kc_X1_endOne : Cond.code yX1_endOne cX1_endOne 1 none ∈ tW := tW_t (i := 609) (by decide +kernel) rfl
theorem wp_18 : Cond.selects "RoadOfDoors$Reader" ({ cls := "RoadOfDoors$Reader", name := "endOne", desc := "()V" } : Jvm.MethodName) ({ cls := "RoadOfDoors$Reader", name := "endOne", desc := "()V" } : Jvm.MethodName) ∈ tW := tW_p (i := 18) (by decide +kernel) rfl
theorem kc_X5_addName : Cond.code yX5_addName cX5_addName 2 none ∈ tW := tW_t (i := 601) (by decide +kernel) rfl
theorem kc_X1_atAsk : Cond.code yX1_atAsk cX1_atAsk 2 (some .boolean) ∈ tW := tW_t (i := 593) (by decide +kernel) rfl
theorem wp_16 : Cond.selects "RoadOfDoors$Reader" ({ cls := "RoadOfDoors$Reader", name := "atAsk", desc := "()Z" } : Jvm.MethodName) ({ cls := "RoadOfDoors$Reader", name := "atAsk", desc := "()Z" } : Jvm.MethodName) ∈ tW := tW_p (i := 16) (by decide +kernel) rfl
theorem kc_X1_nest : Cond.code yX1_nest cX1_nest 2 none ∈ tW := tW_t (i := 585) (by decide +kernel) rfl
theorem wp_14 : Cond.selects "RoadOfDoors$Reader" ({ cls := "RoadOfDoors$Reader", name := "nest", desc := "(I)V" } : Jvm.MethodName) ({ cls := "RoadOfDoors$Reader", name := "nest", desc := "(I)V" } : Jvm.MethodName) ∈ tW := tW_p (i := 14) (by decide +kernel) rfl
theorem kc_X1_join : Cond.code yX1_join cX1_join 3 none ∈ tW := tW_t (i := 625) (by decide +kernel) rfl
theorem wp_21 : Cond.selects "RoadOfDoors$Reader" ({ cls := "RoadOfDoors$Reader", name := "join", desc := "(II)V" } : Jvm.MethodName) ({ cls := "RoadOfDoors$Reader", name := "join", desc := "(II)V" } : Jvm.MethodName) ∈ tW := tW_p (i := 21) (by decide +kernel) rfl
theorem kc_X1_close : Cond.code yX1_close cX1_close 1 none ∈ tW := tW_t (i := 629) (by decide +kernel) rfl
theorem wp_22 : Cond.selects "RoadOfDoors$Reader" ({ cls := "RoadOfDoors$Reader", name := "close", desc := "()V" } : Jvm.MethodName) ({ cls := "RoadOfDoors$Reader", name := "close", desc := "()V" } : Jvm.MethodName) ∈ tW := tW_p (i := 22) (by decide +kernel) rfl
theorem kc_X1_takeClause : Cond.code yX1_takeClause cX1_takeClause 2 none ∈ tW := tW_t (i := 551) (by decide +kernel) rfl
theorem wp_9 : Cond.selects "RoadOfDoors$Reader" ({ cls := "RoadOfDoors$Reader", name := "takeClause", desc := "(I)V" } : Jvm.MethodName) ({ cls := "RoadOfDoors$Reader", name := "takeClause", desc := "(I)V" } : Jvm.MethodName) ∈ tW := tW_p (i := 9) (by decide +kernel) rfl
theorem kc_X1_takeNumber : Cond.code yX1_takeNumber cX1_takeNumber 4 none ∈ tW := tW_t (i := 563) (by decide +kernel) rfl
theorem wp_11 : Cond.selects "RoadOfDoors$Reader" ({ cls := "RoadOfDoors$Reader", name := "takeNumber", desc := "(III)V" } : Jvm.MethodName) ({ cls := "RoadOfDoors$Reader", name := "takeNumber", desc := "(III)V" } : Jvm.MethodName) ∈ tW := tW_p (i := 11) (by decide +kernel) rfl
theorem kc_X5_setKnocks : Cond.code yX5_setKnocks cX5_setKnocks 2 none ∈ tW := tW_t (i := 568) (by decide +kernel) rfl
theorem kc_X1_takeSign : Cond.code yX1_takeSign cX1_takeSign 3 none ∈ tW := tW_t (i := 573) (by decide +kernel) rfl
theorem wp_12 : Cond.selects "RoadOfDoors$Reader" ({ cls := "RoadOfDoors$Reader", name := "takeSign", desc := "(II)V" } : Jvm.MethodName) ({ cls := "RoadOfDoors$Reader", name := "takeSign", desc := "(II)V" } : Jvm.MethodName) ∈ tW := tW_p (i := 12) (by decide +kernel) rfl
theorem kc_X5_setAmount : Cond.code yX5_setAmount cX5_setAmount 2 none ∈ tW := tW_t (i := 577) (by decide +kernel) rfl
theorem kc_X1_takeOne : Cond.code yX1_takeOne cX1_takeOne 2 none ∈ tW := tW_t (i := 581) (by decide +kernel) rfl
theorem wp_13 : Cond.selects "RoadOfDoors$Reader" ({ cls := "RoadOfDoors$Reader", name := "takeOne", desc := "(I)V" } : Jvm.MethodName) ({ cls := "RoadOfDoors$Reader", name := "takeOne", desc := "(I)V" } : Jvm.MethodName) ∈ tW := tW_p (i := 13) (by decide +kernel) rfl
theorem kc_X1_takeBehindOne : Cond.code yX1_takeBehindOne cX1_takeBehindOne 4 none ∈ tW := tW_t (i := 621) (by decide +kernel) rfl
theorem wp_20 : Cond.selects "RoadOfDoors$Reader" ({ cls := "RoadOfDoors$Reader", name := "takeBehindOne", desc := "(I)V" } : Jvm.MethodName) ({ cls := "RoadOfDoors$Reader", name := "takeBehindOne", desc := "(I)V" } : Jvm.MethodName) ∈ tW := tW_p (i := 20) (by decide +kernel) rfl
theorem kc_X5_empties : Cond.code yX5_empties cX5_empties 1 none ∈ tW := tW_t (i := 431) (by decide +kernel) rfl
theorem kc_X4_rewinds : Cond.code yX4_rewinds cX4_rewinds 1 none ∈ tW := tW_t (i := 435) (by decide +kernel) rfl
theorem kc_X4_nextToken : Cond.code yX4_nextToken cX4_nextToken 3 none ∈ tW := tW_t (i := 439) (by decide +kernel) rfl
theorem kc_X1_take : Cond.code yX1_take cX1_take 2 none ∈ tW := tW_t (i := 547) (by decide +kernel) rfl
theorem wp_8 : Cond.selects "RoadOfDoors$Reader" ({ cls := "RoadOfDoors$Reader", name := "take", desc := "(I)V" } : Jvm.MethodName) ({ cls := "RoadOfDoors$Reader", name := "take", desc := "(I)V" } : Jvm.MethodName) ∈ tW := tW_p (i := 8) (by decide +kernel) rfl
theorem kc_X1_read : Cond.code yX1_read cX1_read 4 (some .boolean) ∈ tW := tW_t (i := 427) (by decide +kernel) rfl
theorem kc_X3_joined : Cond.code yX3_joined cX3_joined 5 (some .int) ∈ tW := tW_t (i := 664) (by decide +kernel) rfl
theorem kc_X3_isOpening : Cond.code yX3_isOpening cX3_isOpening 2 (some .boolean) ∈ tW := tW_t (i := 653) (by decide +kernel) rfl
theorem kc_X3_face : Cond.code yX3_face cX3_face 4 none ∈ tW := tW_t (i := 657) (by decide +kernel) rfl
theorem wp_24 : Cond.selects "RoadOfDoors$Rules" ({ cls := "RoadOfDoors$Rules", name := "face", desc := "(III)V" } : Jvm.MethodName) ({ cls := "RoadOfDoors$Rules", name := "face", desc := "(III)V" } : Jvm.MethodName) ∈ tW := tW_p (i := 24) (by decide +kernel) rfl
theorem kc_X3_holds : Cond.code yX3_holds cX3_holds 6 (some .boolean) ∈ tW := tW_t (i := 661) (by decide +kernel) rfl
theorem wp_25 : Cond.selects "RoadOfDoors$Rules" ({ cls := "RoadOfDoors$Rules", name := "holds", desc := "(LRoadOfDoors$Text;)Z" } : Jvm.MethodName) ({ cls := "RoadOfDoors$Rules", name := "holds", desc := "(LRoadOfDoors$Text;)Z" } : Jvm.MethodName) ∈ tW := tW_p (i := 25) (by decide +kernel) rfl
theorem kc_X8_isKnock : Cond.code yX8_isKnock cX8_isKnock 6 (some .boolean) ∈ tW := tW_t (i := 645) (by decide +kernel) rfl
theorem wp_23 : Cond.selects "RoadOfDoors" ({ cls := "RoadOfDoors", name := "isKnock", desc := "(IIIII)Z" } : Jvm.MethodName) ({ cls := "RoadOfDoors", name := "isKnock", desc := "(IIIII)Z" } : Jvm.MethodName) ∈ tW := tW_p (i := 23) (by decide +kernel) rfl
theorem kc_X3_opensBy : Cond.code yX3_opensBy cX3_opensBy 8 (some .boolean) ∈ tW := tW_t (i := 649) (by decide +kernel) rfl
theorem kc_X8_isTraveller : Cond.code yX8_isTraveller cX8_isTraveller 5 (some .boolean) ∈ tW := tW_t (i := 676) (by decide +kernel) rfl
theorem wp_26 : Cond.selects "RoadOfDoors" ({ cls := "RoadOfDoors", name := "isTraveller", desc := "(IIII)Z" } : Jvm.MethodName) ({ cls := "RoadOfDoors", name := "isTraveller", desc := "(IIII)Z" } : Jvm.MethodName) ∈ tW := tW_p (i := 26) (by decide +kernel) rfl
theorem kc_X6_starts : Cond.code yX6_starts cX6_starts 5 none ∈ tW := tW_t (i := 680) (by decide +kernel) rfl
theorem kc_X6_keepsStep : Cond.code yX6_keepsStep cX6_keepsStep 1 none ∈ tW := tW_t (i := 699) (by decide +kernel) rfl
theorem kc_X6_hourGoes : Cond.code yX6_hourGoes cX6_hourGoes 1 none ∈ tW := tW_t (i := 706) (by decide +kernel) rfl
theorem kc_X6_stays : Cond.code yX6_stays cX6_stays 1 none ∈ tW := tW_t (i := 710) (by decide +kernel) rfl
theorem kc_X8_hasKey : Cond.code yX8_hasKey cX8_hasKey 2 (some .boolean) ∈ tW := tW_t (i := 695) (by decide +kernel) rfl
theorem kc_X8_canKnock : Cond.code yX8_canKnock cX8_canKnock 3 (some .boolean) ∈ tW := tW_t (i := 688) (by decide +kernel) rfl
theorem wp_27 : Cond.selects "RoadOfDoors" ({ cls := "RoadOfDoors", name := "canKnock", desc := "(II)Z" } : Jvm.MethodName) ({ cls := "RoadOfDoors", name := "canKnock", desc := "(II)Z" } : Jvm.MethodName) ∈ tW := tW_p (i := 27) (by decide +kernel) rfl
theorem kc_X8_knocked : Cond.code yX8_knocked cX8_knocked 6 (some .boolean) ∈ tW := tW_t (i := 692) (by decide +kernel) rfl
theorem wp_28 : Cond.selects "RoadOfDoors" ({ cls := "RoadOfDoors", name := "knocked", desc := "(II)Z" } : Jvm.MethodName) ({ cls := "RoadOfDoors", name := "knocked", desc := "(II)Z" } : Jvm.MethodName) ∈ tW := tW_p (i := 28) (by decide +kernel) rfl
theorem kc_X8_canWait : Cond.code yX8_canWait cX8_canWait 2 (some .boolean) ∈ tW := tW_t (i := 719) (by decide +kernel) rfl
theorem wp_29 : Cond.selects "RoadOfDoors" ({ cls := "RoadOfDoors", name := "canWait", desc := "(I)Z" } : Jvm.MethodName) ({ cls := "RoadOfDoors", name := "canWait", desc := "(I)Z" } : Jvm.MethodName) ∈ tW := tW_p (i := 29) (by decide +kernel) rfl
theorem kc_X8_waited : Cond.code yX8_waited cX8_waited 3 none ∈ tW := tW_t (i := 723) (by decide +kernel) rfl
theorem wp_30 : Cond.selects "RoadOfDoors" ({ cls := "RoadOfDoors", name := "waited", desc := "(I)V" } : Jvm.MethodName) ({ cls := "RoadOfDoors", name := "waited", desc := "(I)V" } : Jvm.MethodName) ∈ tW := tW_p (i := 30) (by decide +kernel) rfl
theorem kc_X8_clauseDone : Cond.code yX8_clauseDone cX8_clauseDone 4 (some .boolean) ∈ tW := tW_t (i := 731) (by decide +kernel) rfl
theorem wp_31 : Cond.selects "RoadOfDoors" ({ cls := "RoadOfDoors", name := "clauseDone", desc := "(II)Z" } : Jvm.MethodName) ({ cls := "RoadOfDoors", name := "clauseDone", desc := "(II)Z" } : Jvm.MethodName) ∈ tW := tW_p (i := 31) (by decide +kernel) rfl
theorem kc_X6_stepsBack : Cond.code yX6_stepsBack cX6_stepsBack 2 (some .boolean) ∈ tW := tW_t (i := 739) (by decide +kernel) rfl
theorem kc_X3_searched : Cond.code yX3_searched cX3_searched 11 (some .long) ∈ tW := tW_t (i := 763) (by decide +kernel) rfl
theorem wp_32 : Cond.selects "RoadOfDoors$Rules" ({ cls := "RoadOfDoors$Rules", name := "searched", desc := "(LRoadOfDoors$Text;)J" } : Jvm.MethodName) ({ cls := "RoadOfDoors$Rules", name := "searched", desc := "(LRoadOfDoors$Text;)J" } : Jvm.MethodName) ∈ tW := tW_p (i := 32) (by decide +kernel) rfl
theorem kc_X3_placeOf : Cond.code yX3_placeOf cX3_placeOf 7 (some .int) ∈ tW := tW_t (i := 759) (by decide +kernel) rfl
theorem kc_J7_fill_d0a16 : Cond.code yJ7_fill_d0a16 cJ7_fill_d0a16 5 none ∈ tW := tW_t (i := 755) (by decide +kernel) rfl
theorem kc_X3_looksAtWaited : Cond.code yX3_looksAtWaited cX3_looksAtWaited 2 (some .boolean) ∈ tW := tW_t (i := 782) (by decide +kernel) rfl
theorem kc_J7_rangeCheck_23922 : Cond.code yJ7_rangeCheck_23922 cJ7_rangeCheck_23922 3 none ∈ tW := tW_t (i := 793) (by decide +kernel) rfl
theorem kc_J7_fill_fda19 : Cond.code yJ7_fill_fda19 cJ7_fill_fda19 5 none ∈ tW := tW_t (i := 790) (by decide +kernel) rfl
theorem kc_X3_leastsAt : Cond.code yX3_leastsAt cX3_leastsAt 4 (some .long) ∈ tW := tW_t (i := 798) (by decide +kernel) rfl
theorem kc_X7_choose : Cond.code yX7_choose cX7_choose 14 none ∈ tW := tW_t (i := 802) (by decide +kernel) rfl
theorem wp_35 : Cond.selects "RoadOfDoors$Ways" ({ cls := "RoadOfDoors$Ways", name := "choose", desc := "(IIJ)V" } : Jvm.MethodName) ({ cls := "RoadOfDoors$Ways", name := "choose", desc := "(IIJ)V" } : Jvm.MethodName) ∈ tW := tW_p (i := 35) (by decide +kernel) rfl
theorem kc_J7_fill_53178 : Cond.code yJ7_fill_53178 cJ7_fill_53178 4 none ∈ tW := tW_t (i := 809) (by decide +kernel) rfl
theorem kc_X7_canPass : Cond.code yX7_canPass cX7_canPass 6 (some .boolean) ∈ tW := tW_t (i := 775) (by decide +kernel) rfl
theorem wp_33 : Cond.selects "RoadOfDoors$Ways" ({ cls := "RoadOfDoors$Ways", name := "canPass", desc := "([III)Z" } : Jvm.MethodName) ({ cls := "RoadOfDoors$Ways", name := "canPass", desc := "([III)Z" } : Jvm.MethodName) ∈ tW := tW_p (i := 33) (by decide +kernel) rfl
theorem kc_X7_cheapest : Cond.code yX7_cheapest cX7_cheapest 5 (some .int) ∈ tW := tW_t (i := 786) (by decide +kernel) rfl
theorem wp_34 : Cond.selects "RoadOfDoors$Ways" ({ cls := "RoadOfDoors$Ways", name := "cheapest", desc := "(I)I" } : Jvm.MethodName) ({ cls := "RoadOfDoors$Ways", name := "cheapest", desc := "(I)I" } : Jvm.MethodName) ∈ tW := tW_p (i := 34) (by decide +kernel) rfl
theorem kc_X7_walk : Cond.code yX7_walk cX7_walk 8 none ∈ tW := tW_t (i := 806) (by decide +kernel) rfl
theorem wp_36 : Cond.selects "RoadOfDoors$Ways" ({ cls := "RoadOfDoors$Ways", name := "walk", desc := "(I)V" } : Jvm.MethodName) ({ cls := "RoadOfDoors$Ways", name := "walk", desc := "(I)V" } : Jvm.MethodName) ∈ tW := tW_p (i := 36) (by decide +kernel) rfl
theorem kc_X7_findCheapest : Cond.code yX7_findCheapest cX7_findCheapest 9 (some .boolean) ∈ tW := tW_t (i := 771) (by decide +kernel) rfl
theorem kc_X3_learn : Cond.code yX3_learn cX3_learn 8 none ∈ tW := tW_t (i := 752) (by decide +kernel) rfl
theorem kc_X7_findSoonest : Cond.code yX7_findSoonest cX7_findSoonest 11 (some .boolean) ∈ tW := tW_t (i := 767) (by decide +kernel) rfl
theorem kc_X2_addGuest : Cond.code yX2_addGuest cX2_addGuest 6 none ∈ tW := tW_t (i := 818) (by decide +kernel) rfl
theorem kc_X0_startTrial : Cond.code yX0_startTrial cX0_startTrial 6 none ∈ tW := tW_t (i := 835) (by decide +kernel) rfl
theorem wp_37 : Cond.selects "RoadOfDoors$Earnings" ({ cls := "RoadOfDoors$Earnings", name := "startTrial", desc := "(Z)V" } : Jvm.MethodName) ({ cls := "RoadOfDoors$Earnings", name := "startTrial", desc := "(Z)V" } : Jvm.MethodName) ∈ tW := tW_p (i := 37) (by decide +kernel) rfl
theorem kc_X0_earned : Cond.code yX0_earned cX0_earned 7 (some .int) ∈ tW := tW_t (i := 842) (by decide +kernel) rfl
theorem wp_38 : Cond.selects "RoadOfDoors$Earnings" ({ cls := "RoadOfDoors$Earnings", name := "earned", desc := "(I)I" } : Jvm.MethodName) ({ cls := "RoadOfDoors$Earnings", name := "earned", desc := "(I)I" } : Jvm.MethodName) ∈ tW := tW_p (i := 38) (by decide +kernel) rfl
theorem kc_X0_earnedNow : Cond.code yX0_earnedNow cX0_earnedNow 2 (some .int) ∈ tW := tW_t (i := 831) (by decide +kernel) rfl
theorem kc_X0_bestRule : Cond.code yX0_bestRule cX0_bestRule 7 (some .int) ∈ tW := tW_t (i := 856) (by decide +kernel) rfl
theorem wp_39 : Cond.selects "RoadOfDoors$Earnings" ({ cls := "RoadOfDoors$Earnings", name := "bestRule", desc := "(I)I" } : Jvm.MethodName) ({ cls := "RoadOfDoors$Earnings", name := "bestRule", desc := "(I)I" } : Jvm.MethodName) ∈ tW := tW_p (i := 39) (by decide +kernel) rfl
theorem kc_X0_firstUneven : Cond.code yX0_firstUneven cX0_firstUneven 2 (some .int) ∈ tW := tW_t (i := 852) (by decide +kernel) rfl
theorem kc_X0_trialNumber : Cond.code yX0_trialNumber cX0_trialNumber 3 (some .int) ∈ tW := tW_t (i := 868) (by decide +kernel) rfl
theorem wp_40 : Cond.selects "RoadOfDoors$Earnings" ({ cls := "RoadOfDoors$Earnings", name := "trialNumber", desc := "()I" } : Jvm.MethodName) ({ cls := "RoadOfDoors$Earnings", name := "trialNumber", desc := "()I" } : Jvm.MethodName) ∈ tW := tW_p (i := 40) (by decide +kernel) rfl
theorem kc_X0_isPast : Cond.code yX0_isPast cX0_isPast 3 (some .boolean) ∈ tW := tW_t (i := 872) (by decide +kernel) rfl
theorem wp_41 : Cond.selects "RoadOfDoors$Earnings" ({ cls := "RoadOfDoors$Earnings", name := "isPast", desc := "(I)Z" } : Jvm.MethodName) ({ cls := "RoadOfDoors$Earnings", name := "isPast", desc := "(I)Z" } : Jvm.MethodName) ∈ tW := tW_p (i := 41) (by decide +kernel) rfl
theorem kc_X0_roundsChanged : Cond.code yX0_roundsChanged cX0_roundsChanged 5 (some .int) ∈ tW := tW_t (i := 864) (by decide +kernel) rfl
theorem kc_X8_agrees : Cond.code yX8_agrees cX8_agrees 8 (some .boolean) ∈ tW := tW_t (i := 884) (by decide +kernel) rfl
theorem wp_42 : Cond.selects "RoadOfDoors" ({ cls := "RoadOfDoors", name := "agrees", desc := "(III)Z" } : Jvm.MethodName) ({ cls := "RoadOfDoors", name := "agrees", desc := "(III)Z" } : Jvm.MethodName) ∈ tW := tW_p (i := 42) (by decide +kernel) rfl
theorem kc_X6_becomes : Cond.code yX6_becomes cX6_becomes 2 none ∈ tW := tW_t (i := 897) (by decide +kernel) rfl
theorem kc_X2_becomes : Cond.code yX2_becomes cX2_becomes 2 none ∈ tW := tW_t (i := 892) (by decide +kernel) rfl
theorem kc_X8_aboutPart : Cond.code yX8_aboutPart cX8_aboutPart 2 (some .int) ∈ tW := tW_t (i := 909) (by decide +kernel) rfl
theorem wp_43 : Cond.selects "RoadOfDoors" ({ cls := "RoadOfDoors", name := "aboutPart", desc := "(I)I" } : Jvm.MethodName) ({ cls := "RoadOfDoors", name := "aboutPart", desc := "(I)I" } : Jvm.MethodName) ∈ tW := tW_p (i := 43) (by decide +kernel) rfl
theorem kc_X9_isIn : Cond.code yX9_isIn cX9_isIn 3 (some .boolean) ∈ tW := tW_t (i := 1027) (by decide +kernel) rfl
theorem kc_X9_isHour : Cond.code yX9_isHour cX9_isHour 1 (some .boolean) ∈ tW := tW_t (i := 1024) (by decide +kernel) rfl
theorem kc_X9_isDoor : Cond.code yX9_isDoor cX9_isDoor 2 (some .boolean) ∈ tW := tW_t (i := 1035) (by decide +kernel) rfl
theorem wp_44 : Cond.selects "RoadOfDoorsModel" ({ cls := "RoadOfDoorsModel", name := "isDoor", desc := "(I)Z" } : Jvm.MethodName) ({ cls := "RoadOfDoorsModel", name := "isDoor", desc := "(I)Z" } : Jvm.MethodName) ∈ tW := tW_p (i := 44) (by decide +kernel) rfl
theorem kc_X9_four : Cond.code yX9_four cX9_four 3 none ∈ tW := tW_t (i := 1051) (by decide +kernel) rfl
theorem wp_45 : Cond.selects "RoadOfDoorsModel" ({ cls := "RoadOfDoorsModel", name := "four", desc := "(I)V" } : Jvm.MethodName) ({ cls := "RoadOfDoorsModel", name := "four", desc := "(I)V" } : Jvm.MethodName) ∈ tW := tW_p (i := 45) (by decide +kernel) rfl
theorem kc_X9_byteAt : Cond.code yX9_byteAt cX9_byteAt 2 (some .int) ∈ tW := tW_t (i := 1071) (by decide +kernel) rfl
theorem wp_48 : Cond.selects "RoadOfDoorsModel" ({ cls := "RoadOfDoorsModel", name := "byteAt", desc := "(I)I" } : Jvm.MethodName) ({ cls := "RoadOfDoorsModel", name := "byteAt", desc := "(I)I" } : Jvm.MethodName) ∈ tW := tW_p (i := 48) (by decide +kernel) rfl
theorem kc_X9_isDigit : Cond.code yX9_isDigit cX9_isDigit 1 (some .boolean) ∈ tW := tW_t (i := 1074) (by decide +kernel) rfl
theorem kc_X9_isLetter : Cond.code yX9_isLetter cX9_isLetter 1 (some .boolean) ∈ tW := tW_t (i := 1078) (by decide +kernel) rfl
theorem kc_X9_w3 : Cond.code yX9_w3 cX9_w3 3 (some .long) ∈ tW := tW_t (i := 1092) (by decide +kernel) rfl
theorem kc_X9_w5 : Cond.code yX9_w5 cX9_w5 5 (some .long) ∈ tW := tW_t (i := 1089) (by decide +kernel) rfl
theorem kc_X9_isWord : Cond.code yX9_isWord cX9_isWord 3 (some .boolean) ∈ tW := tW_t (i := 1096) (by decide +kernel) rfl
theorem wp_51 : Cond.selects "RoadOfDoorsModel" ({ cls := "RoadOfDoorsModel", name := "isWord", desc := "(J)Z" } : Jvm.MethodName) ({ cls := "RoadOfDoorsModel", name := "isWord", desc := "(J)Z" } : Jvm.MethodName) ∈ tW := tW_p (i := 51) (by decide +kernel) rfl
theorem kc_X9_w4 : Cond.code yX9_w4 cX9_w4 4 (some .long) ∈ tW := tW_t (i := 1099) (by decide +kernel) rfl
theorem kc_X9_hasParen : Cond.code yX9_hasParen cX9_hasParen 2 (some .boolean) ∈ tW := tW_t (i := 1119) (by decide +kernel) rfl
theorem wp_56 : Cond.selects "RoadOfDoorsModel" ({ cls := "RoadOfDoorsModel", name := "hasParen", desc := "()Z" } : Jvm.MethodName) ({ cls := "RoadOfDoorsModel", name := "hasParen", desc := "()Z" } : Jvm.MethodName) ∈ tW := tW_p (i := 56) (by decide +kernel) rfl
theorem kc_X9_emit : Cond.code yX9_emit cX9_emit 3 none ∈ tW := tW_t (i := 1131) (by decide +kernel) rfl
theorem wp_59 : Cond.selects "RoadOfDoorsModel" ({ cls := "RoadOfDoorsModel", name := "emit", desc := "(II)V" } : Jvm.MethodName) ({ cls := "RoadOfDoorsModel", name := "emit", desc := "(II)V" } : Jvm.MethodName) ∈ tW := tW_p (i := 59) (by decide +kernel) rfl
theorem kc_X9_settle : Cond.code yX9_settle cX9_settle 2 none ∈ tW := tW_t (i := 1127) (by decide +kernel) rfl
theorem wp_58 : Cond.selects "RoadOfDoorsModel" ({ cls := "RoadOfDoorsModel", name := "settle", desc := "(I)V" } : Jvm.MethodName) ({ cls := "RoadOfDoorsModel", name := "settle", desc := "(I)V" } : Jvm.MethodName) ∈ tW := tW_p (i := 58) (by decide +kernel) rfl
theorem kc_X9_push : Cond.code yX9_push cX9_push 2 none ∈ tW := tW_t (i := 1135) (by decide +kernel) rfl
theorem wp_60 : Cond.selects "RoadOfDoorsModel" ({ cls := "RoadOfDoorsModel", name := "push", desc := "(I)V" } : Jvm.MethodName) ({ cls := "RoadOfDoorsModel", name := "push", desc := "(I)V" } : Jvm.MethodName) ∈ tW := tW_p (i := 60) (by decide +kernel) rfl
theorem kc_X9_nextToken : Cond.code yX9_nextToken cX9_nextToken 3 none ∈ tW := tW_t (i := 1067) (by decide +kernel) rfl
theorem wp_47 : Cond.selects "RoadOfDoorsModel" ({ cls := "RoadOfDoorsModel", name := "nextToken", desc := "()V" } : Jvm.MethodName) ({ cls := "RoadOfDoorsModel", name := "nextToken", desc := "()V" } : Jvm.MethodName) ∈ tW := tW_p (i := 47) (by decide +kernel) rfl
theorem kc_X9_whole : Cond.code yX9_whole cX9_whole 1 none ∈ tW := tW_t (i := 1139) (by decide +kernel) rfl
theorem wp_61 : Cond.selects "RoadOfDoorsModel" ({ cls := "RoadOfDoorsModel", name := "whole", desc := "()V" } : Jvm.MethodName) ({ cls := "RoadOfDoorsModel", name := "whole", desc := "()V" } : Jvm.MethodName) ∈ tW := tW_p (i := 61) (by decide +kernel) rfl
theorem kc_X9_w6 : Cond.code yX9_w6 cX9_w6 6 (some .long) ∈ tW := tW_t (i := 1150) (by decide +kernel) rfl
theorem kc_X9_nameOf : Cond.code yX9_nameOf cX9_nameOf 1 (some .int) ∈ tW := tW_t (i := 1147) (by decide +kernel) rfl
theorem wp_63 : Cond.selects "RoadOfDoorsModel" ({ cls := "RoadOfDoorsModel", name := "nameOf", desc := "()I" } : Jvm.MethodName) ({ cls := "RoadOfDoorsModel", name := "nameOf", desc := "()I" } : Jvm.MethodName) ∈ tW := tW_p (i := 63) (by decide +kernel) rfl
theorem kc_X9_beginOne : Cond.code yX9_beginOne cX9_beginOne 2 (some .int) ∈ tW := tW_t (i := 1143) (by decide +kernel) rfl
theorem wp_62 : Cond.selects "RoadOfDoorsModel" ({ cls := "RoadOfDoorsModel", name := "beginOne", desc := "()I" } : Jvm.MethodName) ({ cls := "RoadOfDoorsModel", name := "beginOne", desc := "()I" } : Jvm.MethodName) ∈ tW := tW_p (i := 62) (by decide +kernel) rfl
theorem kc_X9_behindOne : Cond.code yX9_behindOne cX9_behindOne 2 (some .int) ∈ tW := tW_t (i := 1123) (by decide +kernel) rfl
theorem wp_57 : Cond.selects "RoadOfDoorsModel" ({ cls := "RoadOfDoorsModel", name := "behindOne", desc := "()I" } : Jvm.MethodName) ({ cls := "RoadOfDoorsModel", name := "behindOne", desc := "()I" } : Jvm.MethodName) ∈ tW := tW_p (i := 57) (by decide +kernel) rfl
theorem kc_X9_goesOn : Cond.code yX9_goesOn cX9_goesOn 1 (some .boolean) ∈ tW := tW_t (i := 1115) (by decide +kernel) rfl
theorem wp_55 : Cond.selects "RoadOfDoorsModel" ({ cls := "RoadOfDoorsModel", name := "goesOn", desc := "()Z" } : Jvm.MethodName) ({ cls := "RoadOfDoorsModel", name := "goesOn", desc := "()Z" } : Jvm.MethodName) ∈ tW := tW_p (i := 55) (by decide +kernel) rfl
theorem kc_X9_summed : Cond.code yX9_summed cX9_summed 2 (some .int) ∈ tW := tW_t (i := 1111) (by decide +kernel) rfl
theorem wp_54 : Cond.selects "RoadOfDoorsModel" ({ cls := "RoadOfDoorsModel", name := "summed", desc := "()I" } : Jvm.MethodName) ({ cls := "RoadOfDoorsModel", name := "summed", desc := "()I" } : Jvm.MethodName) ∈ tW := tW_p (i := 54) (by decide +kernel) rfl
theorem kc_X9_compareOf : Cond.code yX9_compareOf cX9_compareOf 1 (some .int) ∈ tW := tW_t (i := 1154) (by decide +kernel) rfl
theorem wp_64 : Cond.selects "RoadOfDoorsModel" ({ cls := "RoadOfDoorsModel", name := "compareOf", desc := "()I" } : Jvm.MethodName) ({ cls := "RoadOfDoorsModel", name := "compareOf", desc := "()I" } : Jvm.MethodName) ∈ tW := tW_p (i := 64) (by decide +kernel) rfl
theorem kc_X9_asks : Cond.code yX9_asks cX9_asks 5 (some .int) ∈ tW := tW_t (i := 1107) (by decide +kernel) rfl
theorem wp_53 : Cond.selects "RoadOfDoorsModel" ({ cls := "RoadOfDoorsModel", name := "asks", desc := "()I" } : Jvm.MethodName) ({ cls := "RoadOfDoorsModel", name := "asks", desc := "()I" } : Jvm.MethodName) ∈ tW := tW_p (i := 53) (by decide +kernel) rfl
theorem kc_X9_figure : Cond.code yX9_figure cX9_figure 4 (some .int) ∈ tW := tW_t (i := 1163) (by decide +kernel) rfl
theorem wp_66 : Cond.selects "RoadOfDoorsModel" ({ cls := "RoadOfDoorsModel", name := "figure", desc := "(III)I" } : Jvm.MethodName) ({ cls := "RoadOfDoorsModel", name := "figure", desc := "(III)I" } : Jvm.MethodName) ∈ tW := tW_p (i := 66) (by decide +kernel) rfl
theorem kc_X9_sortOf : Cond.code yX9_sortOf cX9_sortOf 1 (some .int) ∈ tW := tW_t (i := 1086) (by decide +kernel) rfl
theorem wp_50 : Cond.selects "RoadOfDoorsModel" ({ cls := "RoadOfDoorsModel", name := "sortOf", desc := "()I" } : Jvm.MethodName) ({ cls := "RoadOfDoorsModel", name := "sortOf", desc := "()I" } : Jvm.MethodName) ∈ tW := tW_p (i := 50) (by decide +kernel) rfl
theorem kc_X9_knocked : Cond.code yX9_knocked cX9_knocked 3 (some .int) ∈ tW := tW_t (i := 1159) (by decide +kernel) rfl
theorem wp_65 : Cond.selects "RoadOfDoorsModel" ({ cls := "RoadOfDoorsModel", name := "knocked", desc := "(I)I" } : Jvm.MethodName) ({ cls := "RoadOfDoorsModel", name := "knocked", desc := "(I)I" } : Jvm.MethodName) ∈ tW := tW_p (i := 65) (by decide +kernel) rfl
theorem kc_X9_either : Cond.code yX9_either cX9_either 6 (some .int) ∈ tW := tW_t (i := 1103) (by decide +kernel) rfl
theorem wp_52 : Cond.selects "RoadOfDoorsModel" ({ cls := "RoadOfDoorsModel", name := "either", desc := "()I" } : Jvm.MethodName) ({ cls := "RoadOfDoorsModel", name := "either", desc := "()I" } : Jvm.MethodName) ∈ tW := tW_p (i := 52) (by decide +kernel) rfl
theorem kc_X9_clause : Cond.code yX9_clause cX9_clause 6 (some .int) ∈ tW := tW_t (i := 1082) (by decide +kernel) rfl
theorem wp_49 : Cond.selects "RoadOfDoorsModel" ({ cls := "RoadOfDoorsModel", name := "clause", desc := "()I" } : Jvm.MethodName) ({ cls := "RoadOfDoorsModel", name := "clause", desc := "()I" } : Jvm.MethodName) ∈ tW := tW_p (i := 49) (by decide +kernel) rfl
theorem kc_X9_readText : Cond.code yX9_readText cX9_readText 2 (some .int) ∈ tW := tW_t (i := 1063) (by decide +kernel) rfl
theorem wp_46 : Cond.selects "RoadOfDoorsModel" ({ cls := "RoadOfDoorsModel", name := "readText", desc := "()I" } : Jvm.MethodName) ({ cls := "RoadOfDoorsModel", name := "readText", desc := "()I" } : Jvm.MethodName) ∈ tW := tW_p (i := 46) (by decide +kernel) rfl
theorem kc_X9_isRule : Cond.code yX9_isRule cX9_isRule 2 (some .boolean) ∈ tW := tW_t (i := 1175) (by decide +kernel) rfl
theorem wp_67 : Cond.selects "RoadOfDoorsModel" ({ cls := "RoadOfDoorsModel", name := "isRule", desc := "(I)Z" } : Jvm.MethodName) ({ cls := "RoadOfDoorsModel", name := "isRule", desc := "(I)Z" } : Jvm.MethodName) ∈ tW := tW_p (i := 67) (by decide +kernel) rfl
theorem kc_X9_clip : Cond.code yX9_clip cX9_clip 2 (some .long) ∈ tW := tW_t (i := 1196) (by decide +kernel) rfl
theorem kc_X9_isAsked : Cond.code yX9_isAsked cX9_isAsked 5 (some .boolean) ∈ tW := tW_t (i := 1201) (by decide +kernel) rfl
theorem kc_X9_two : Cond.code yX9_two cX9_two 5 (some .long) ∈ tW := tW_t (i := 1193) (by decide +kernel) rfl
theorem kc_X9_work : Cond.code yX9_work cX9_work 10 none ∈ tW := tW_t (i := 1190) (by decide +kernel) rfl
theorem wp_69 : Cond.selects "RoadOfDoorsModel" ({ cls := "RoadOfDoorsModel", name := "work", desc := "(II)V" } : Jvm.MethodName) ({ cls := "RoadOfDoorsModel", name := "work", desc := "(II)V" } : Jvm.MethodName) ∈ tW := tW_p (i := 69) (by decide +kernel) rfl
theorem kc_X9_isKnock : Cond.code yX9_isKnock cX9_isKnock 2 (some .boolean) ∈ tW := tW_t (i := 1182) (by decide +kernel) rfl
theorem kc_X9_isOpen : Cond.code yX9_isOpen cX9_isOpen 9 (some .boolean) ∈ tW := tW_t (i := 1186) (by decide +kernel) rfl
theorem wp_68 : Cond.selects "RoadOfDoorsModel" ({ cls := "RoadOfDoorsModel", name := "isOpen", desc := "(IIIIIII)Z" } : Jvm.MethodName) ({ cls := "RoadOfDoorsModel", name := "isOpen", desc := "(IIIIIII)Z" } : Jvm.MethodName) ∈ tW := tW_p (i := 68) (by decide +kernel) rfl
theorem kc_X9_isTraveller : Cond.code yX9_isTraveller cX9_isTraveller 5 (some .boolean) ∈ tW := tW_t (i := 1209) (by decide +kernel) rfl
theorem wp_70 : Cond.selects "RoadOfDoorsModel" ({ cls := "RoadOfDoorsModel", name := "isTraveller", desc := "(IIII)Z" } : Jvm.MethodName) ({ cls := "RoadOfDoorsModel", name := "isTraveller", desc := "(IIII)Z" } : Jvm.MethodName) ∈ tW := tW_p (i := 70) (by decide +kernel) rfl
theorem kc_X9_keepStep : Cond.code yX9_keepStep cX9_keepStep 2 none ∈ tW := tW_t (i := 1221) (by decide +kernel) rfl
theorem wp_71 : Cond.selects "RoadOfDoorsModel" ({ cls := "RoadOfDoorsModel", name := "keepStep", desc := "()V" } : Jvm.MethodName) ({ cls := "RoadOfDoorsModel", name := "keepStep", desc := "()V" } : Jvm.MethodName) ∈ tW := tW_p (i := 71) (by decide +kernel) rfl
theorem kc_X9_has : Cond.code yX9_has cX9_has 2 (some .boolean) ∈ tW := tW_t (i := 1224) (by decide +kernel) rfl
theorem kc_X9_hourBy : Cond.code yX9_hourBy cX9_hourBy 2 none ∈ tW := tW_t (i := 1229) (by decide +kernel) rfl
theorem wp_72 : Cond.selects "RoadOfDoorsModel" ({ cls := "RoadOfDoorsModel", name := "hourBy", desc := "(Z)V" } : Jvm.MethodName) ({ cls := "RoadOfDoorsModel", name := "hourBy", desc := "(Z)V" } : Jvm.MethodName) ∈ tW := tW_p (i := 72) (by decide +kernel) rfl
theorem kc_X9_opens : Cond.code yX9_opens cX9_opens 7 (some .boolean) ∈ tW := tW_t (i := 1179) (by decide +kernel) rfl
theorem kc_X9_later : Cond.code yX9_later cX9_later 3 (some .int) ∈ tW := tW_t (i := 1233) (by decide +kernel) rfl
theorem kc_X9_knock : Cond.code yX9_knock cX9_knock 5 (some .int) ∈ tW := tW_t (i := 1217) (by decide +kernel) rfl
theorem kc_X9_isPlayed : Cond.code yX9_isPlayed cX9_isPlayed 2 (some .boolean) ∈ tW := tW_t (i := 1241) (by decide +kernel) rfl
theorem wp_73 : Cond.selects "RoadOfDoorsModel" ({ cls := "RoadOfDoorsModel", name := "isPlayed", desc := "(I)Z" } : Jvm.MethodName) ({ cls := "RoadOfDoorsModel", name := "isPlayed", desc := "(I)Z" } : Jvm.MethodName) ∈ tW := tW_p (i := 73) (by decide +kernel) rfl
theorem kc_X9_leastGift : Cond.code yX9_leastGift cX9_leastGift 9 (some .int) ∈ tW := tW_t (i := 1276) (by decide +kernel) rfl
theorem wp_78 : Cond.selects "RoadOfDoorsModel" ({ cls := "RoadOfDoorsModel", name := "leastGift", desc := "(IIIII)I" } : Jvm.MethodName) ({ cls := "RoadOfDoorsModel", name := "leastGift", desc := "(IIIII)I" } : Jvm.MethodName) ∈ tW := tW_p (i := 78) (by decide +kernel) rfl
theorem kc_X9_leftAt : Cond.code yX9_leftAt cX9_leftAt 3 (some .int) ∈ tW := tW_t (i := 1272) (by decide +kernel) rfl
theorem kc_X9_by : Cond.code yX9_by cX9_by 7 (some .int) ∈ tW := tW_t (i := 1269) (by decide +kernel) rfl
theorem wp_77 : Cond.selects "RoadOfDoorsModel" ({ cls := "RoadOfDoorsModel", name := "by", desc := "(IIIII)I" } : Jvm.MethodName) ({ cls := "RoadOfDoorsModel", name := "by", desc := "(IIIII)I" } : Jvm.MethodName) ∈ tW := tW_p (i := 77) (by decide +kernel) rfl
theorem kc_X9_reckon : Cond.code yX9_reckon cX9_reckon 10 (some .int) ∈ tW := tW_t (i := 1264) (by decide +kernel) rfl
theorem wp_76 : Cond.selects "RoadOfDoorsModel" ({ cls := "RoadOfDoorsModel", name := "reckon", desc := "(IIZ)I" } : Jvm.MethodName) ({ cls := "RoadOfDoorsModel", name := "reckon", desc := "(IIZ)I" } : Jvm.MethodName) ∈ tW := tW_p (i := 76) (by decide +kernel) rfl
theorem kc_X9_follow : Cond.code yX9_follow cX9_follow 6 none ∈ tW := tW_t (i := 1280) (by decide +kernel) rfl
theorem wp_79 : Cond.selects "RoadOfDoorsModel" ({ cls := "RoadOfDoorsModel", name := "follow", desc := "(I)V" } : Jvm.MethodName) ({ cls := "RoadOfDoorsModel", name := "follow", desc := "(I)V" } : Jvm.MethodName) ∈ tW := tW_p (i := 79) (by decide +kernel) rfl
theorem kc_X9_forgetLeasts : Cond.code yX9_forgetLeasts cX9_forgetLeasts 4 none ∈ tW := tW_t (i := 1255) (by decide +kernel) rfl
theorem wp_74 : Cond.selects "RoadOfDoorsModel" ({ cls := "RoadOfDoorsModel", name := "forgetLeasts", desc := "(II)V" } : Jvm.MethodName) ({ cls := "RoadOfDoorsModel", name := "forgetLeasts", desc := "(II)V" } : Jvm.MethodName) ∈ tW := tW_p (i := 74) (by decide +kernel) rfl
theorem kc_X9_cheapest : Cond.code yX9_cheapest cX9_cheapest 4 (some .int) ∈ tW := tW_t (i := 1284) (by decide +kernel) rfl
theorem wp_80 : Cond.selects "RoadOfDoorsModel" ({ cls := "RoadOfDoorsModel", name := "cheapest", desc := "(II)I" } : Jvm.MethodName) ({ cls := "RoadOfDoorsModel", name := "cheapest", desc := "(II)I" } : Jvm.MethodName) ∈ tW := tW_p (i := 80) (by decide +kernel) rfl
theorem kc_X9_soonestOf : Cond.code yX9_soonestOf cX9_soonestOf 5 (some .int) ∈ tW := tW_t (i := 1260) (by decide +kernel) rfl
theorem wp_75 : Cond.selects "RoadOfDoorsModel" ({ cls := "RoadOfDoorsModel", name := "soonestOf", desc := "(II)I" } : Jvm.MethodName) ({ cls := "RoadOfDoorsModel", name := "soonestOf", desc := "(II)I" } : Jvm.MethodName) ∈ tW := tW_p (i := 75) (by decide +kernel) rfl
theorem kc_X9_beginGuests : Cond.code yX9_beginGuests cX9_beginGuests 2 none ∈ tW := tW_t (i := 1300) (by decide +kernel) rfl
theorem wp_81 : Cond.selects "RoadOfDoorsModel" ({ cls := "RoadOfDoorsModel", name := "beginGuests", desc := "()V" } : Jvm.MethodName) ({ cls := "RoadOfDoorsModel", name := "beginGuests", desc := "()V" } : Jvm.MethodName) ∈ tW := tW_p (i := 81) (by decide +kernel) rfl
theorem kc_X9_earned : Cond.code yX9_earned cX9_earned 5 (some .int) ∈ tW := tW_t (i := 1304) (by decide +kernel) rfl
theorem wp_82 : Cond.selects "RoadOfDoorsModel" ({ cls := "RoadOfDoorsModel", name := "earned", desc := "(I)I" } : Jvm.MethodName) ({ cls := "RoadOfDoorsModel", name := "earned", desc := "(I)I" } : Jvm.MethodName) ∈ tW := tW_p (i := 82) (by decide +kernel) rfl
theorem kc_X9_bestRule : Cond.code yX9_bestRule cX9_bestRule 7 (some .int) ∈ tW := tW_t (i := 1312) (by decide +kernel) rfl
theorem wp_83 : Cond.selects "RoadOfDoorsModel" ({ cls := "RoadOfDoorsModel", name := "bestRule", desc := "(I)I" } : Jvm.MethodName) ({ cls := "RoadOfDoorsModel", name := "bestRule", desc := "(I)I" } : Jvm.MethodName) ∈ tW := tW_p (i := 83) (by decide +kernel) rfl
theorem kc_X9_canKeep : Cond.code yX9_canKeep cX9_canKeep 6 (some .boolean) ∈ tW := tW_t (i := 1328) (by decide +kernel) rfl
theorem wp_84 : Cond.selects "RoadOfDoorsModel" ({ cls := "RoadOfDoorsModel", name := "canKeep", desc := "(III)Z" } : Jvm.MethodName) ({ cls := "RoadOfDoorsModel", name := "canKeep", desc := "(III)Z" } : Jvm.MethodName) ∈ tW := tW_p (i := 84) (by decide +kernel) rfl
theorem kc_X9_copy : Cond.code yX9_copy cX9_copy 3 none ∈ tW := tW_t (i := 922) (by decide +kernel) rfl
end
section
/-! The judgement of this proof: a predicate K over (new cells, new slots, world, pc, locals, stack) of one method's run; the kit's rows as rules over it. -/
abbrev jS : Type := (Nat → Nat → Int32) × (Nat → Nat → Int64)
abbrev jC : Type := (Nat → Nat) → Nat → (Nat → Int32) → (Nat → Int64) → va_E
/-- a world of N cells at the addresses ad, each told by its own row of the state -/
def jw (N : Nat) (cell : jC) (ad : Nat → Nat) (s : jS) : va_W := (List.range N).map (fun k => (ad k, cell ad k (s.1 k) (s.2 k)))
def upR (s : jS) (k : Nat) (f : Nat → Int32) : jS := (va_up s.1 k f, s.2)
def upI (s : jS) (k j : Nat) (x : Int32) : jS := (va_up s.1 k (upd (s.1 k) j x), s.2)
def upL (s : jS) (k j : Nat) (x : Int64) : jS := (s.1, va_up s.2 k (vp_updL (s.2 k) j x))
theorem jw_at {N : Nat} {cell : jC} {ad : Nat → Nat} {s : jS} {k : Nat} (h : k < N) : (jw N cell ad s)[k]? = some (ad k, cell ad k (s.1 k) (s.2 k)) := by
  simp [jw, h]
theorem jw_set {N : Nat} {cell : jC} {ad : Nat → Nat} {s s' : jS} {k : Nat} (h : k < N) (h1 : ∀ i : Nat, i ≠ k → s'.1 i = s.1 i) (h2 : ∀ i : Nat, i ≠ k → s'.2 i = s.2 i) : (jw N cell ad s).set k (ad k, cell ad k (s'.1 k) (s'.2 k)) = jw N cell ad s' := by
  apply List.ext_getElem?
  intro i
  by_cases hik : i = k
  · subst hik
    rw [List.getElem?_set_self (by simpa [jw] using h), jw_at h]
  · rw [List.getElem?_set_ne (Ne.symm hik)]
    by_cases hi : i < N
    · rw [jw_at hi, jw_at hi, h1 i hik, h2 i hik]
    · rw [List.getElem?_eq_none (by simpa [jw] using hi), List.getElem?_eq_none (by simpa [jw] using hi)]
theorem va_up_at {α : Type} (f : Nat → α) (k : Nat) (v : α) : va_up f k v k = v := by simp [va_up]
theorem va_up_off {α : Type} (f : Nat → α) {k i : Nat} (v : α) (h : i ≠ k) : va_up f k v i = f i := by simp [va_up, h]
abbrev jV : Type := ((Nat → Nat) × (Nat → Nat)) × (Nat × Nat × (Nat → Int32))
abbrev classes : List vw_C := [(RX0, TX0, 8), (RX1, TX1, 10), (RX2, TX2, 10), (RX3, TX3, 7), (RX4, TX4, 6), (RX5, TX5, 7), (RX6, TX6, 8), (RX7, TX7, 12), (RX8, TX8, 9), (RX9, TX9, 32)]
abbrev jtys (G : Nat → ClassId) : List (ClassId × FieldType) := [(G 0, .int), (G 1, .long), (G 2, .boolean), (G 3, .byte), (G 4, .object "RoadOfDoors$Text")]

def nestW : List Cond := [(Jvm.Cond.methodLinkNest "RoadOfDoors" (20 : Nat) ({ cls := "RoadOfDoors$Text", name := "<init>", desc := "()V" } : Jvm.MethodName) "RoadOfDoors"), (Jvm.Cond.methodLinkNest "RoadOfDoors$Road" (33 : Nat) ({ cls := "RoadOfDoors$Traveller", name := "<init>", desc := "()V" } : Jvm.MethodName) "RoadOfDoors"), (Jvm.Cond.methodLinkNest "RoadOfDoors" (26 : Nat) ({ cls := "RoadOfDoors$Tape", name := "<init>", desc := "()V" } : Jvm.MethodName) "RoadOfDoors"), (Jvm.Cond.methodLinkNest "RoadOfDoors$Tape" (61 : Nat) ({ cls := "RoadOfDoors", name := "within", desc := "(III)Z" } : Jvm.MethodName) "RoadOfDoors"), (Jvm.Cond.methodLinkNest "RoadOfDoors$Reader" (107 : Nat) ({ cls := "RoadOfDoors", name := "within", desc := "(III)Z" } : Jvm.MethodName) "RoadOfDoors"), (Jvm.Cond.methodLinkNest "RoadOfDoors$Text" (39 : Nat) ({ cls := "RoadOfDoors", name := "within", desc := "(III)Z" } : Jvm.MethodName) "RoadOfDoors"), (Jvm.Cond.methodLinkNest "RoadOfDoors$Traveller" (49 : Nat) ({ cls := "RoadOfDoors", name := "within", desc := "(III)Z" } : Jvm.MethodName) "RoadOfDoors"), (Jvm.Cond.methodLinkNest "RoadOfDoors$Ways" (68 : Nat) ({ cls := "RoadOfDoors", name := "hasKey", desc := "(II)Z" } : Jvm.MethodName) "RoadOfDoors"), (Jvm.Cond.methodLinkNest "RoadOfDoors$Road" (42 : Nat) ({ cls := "RoadOfDoors", name := "within", desc := "(III)Z" } : Jvm.MethodName) "RoadOfDoors"), (Jvm.Cond.methodLinkNest "RoadOfDoors$Earnings" (81 : Nat) ({ cls := "RoadOfDoors", name := "hasKey", desc := "(II)Z" } : Jvm.MethodName) "RoadOfDoors")]
def jidx : List Nat := [83, 89, 91, 93, 95, 97, 99, 101, 103, 105, 107, 109, 111, 113, 115]
def jtxt : List String := ["door", "hour", "rain", "mood", "gift", "knocks", "waited", "load", "opens", "knock", "with", "wait", "or", "and", "not"]
def jlen : List Nat := [4, 4, 4, 4, 4, 6, 6, 4, 5, 5, 4, 4, 2, 3, 3]
def jbyt : List (List Int32) := [[100, 111, 111, 114], [104, 111, 117, 114], [114, 97, 105, 110], [109, 111, 111, 100], [103, 105, 102, 116], [107, 110, 111, 99, 107, 115], [119, 97, 105, 116, 101, 100], [108, 111, 97, 100], [111, 112, 101, 110, 115], [107, 110, 111, 99, 107], [119, 105, 116, 104], [119, 97, 105, 116], [111, 114], [97, 110, 100], [110, 111, 116]]
/-- what lies around every method's world and stays: words of nest mates, String constants, a static of String -/
def jE (KV : jV) (A : Nat → Prop) (U : State) : Prop :=
  (∀ w ∈ nestW, va_Nw w U) ∧ vk_S 15 jlen jbyt KV.1.1 KV.1.2 A U U.heap ∧ (∀ i : Nat, i < 15 → vk_R "RoadOfDoors$Tape" (jidx.getD i 0) (jtxt.getD i "") (KV.1.1 i) U) ∧ va_Z "java/lang/String" "COMPACT_STRINGS" "Z" (.int 1) A U U.heap ∧ va_Zq "jdk/internal/util/Preconditions" "SIOOBE_FORMATTER" "Ljava/util/function/BiFunction;" A U U.heap ∧ va_X KV.2.1 KV.2.2.1 KV.2.2.2 U U.heap ∧ KV.2.1 < U.heap.size ∧ ¬ A KV.2.1 ∧ va_AO "RoadOfDoors$Text" U
theorem nest_warm {s U : State} (hW : s.WarmedH U.vm) (h : ∀ w ∈ nestW, va_Nw w s) : ∀ w ∈ nestW, va_Nw w U := by
  intro w hw
  have h1 := h w hw
  unfold nestW at hw
  simp only [List.mem_cons, List.not_mem_nil, or_false] at hw
  rcases hw with rfl | rfl | rfl | rfl | rfl | rfl | rfl | rfl | rfl | rfl <;> exact va_Nw.warmM hW h1
theorem jE.call {KV : jV} {A B : Nat → Prop} {s U : State} {H : Heap} {locs : List Loc} (h : jE KV A s) (hS : va_S A s.heap H locs) (hU : U.heap = H) (hW : s.WarmedH U.vm) (hAB : ∀ q, B q → A q) : jE KV B U := by
  obtain ⟨h1, h2, h3, h4, h5, h6, h7, h8, h9⟩ := h
  refine ⟨nest_warm hW h1, ?_, fun i hi => vk_R.warm hW (h3 i hi), ?_, ?_, ?_, by rw [hU]; exact Nat.lt_of_lt_of_le h7 hS.1, fun q => h8 (hAB _ q), h9.moved hW.alike⟩
  · rw [hU]; exact ((h2.kept hS.2.1).moved hW.alike).narrow hAB
  · rw [hU]; exact ((h4.kept hS.2.1).moved hW.alike).narrow hAB
  · rw [hU]; exact ((h5.kept hS.2.1).moved hW.alike).narrow hAB
  · rw [hU]; exact (h6.kept (hS.2.1 _ h7 h8)).moved hW.alike
theorem nest_same {U : State} {g : JFrame} {mk : MethodId} {a : Array Value} (h : ∀ w ∈ nestW, va_Nw w U) : ∀ w ∈ nestW, va_Nw w (U.calling g mk a) := by
  intro w hw
  have h1 := h w hw
  unfold nestW at hw
  simp only [List.mem_cons, List.not_mem_nil, or_false] at hw
  rcases hw with rfl | rfl | rfl | rfl | rfl | rfl | rfl | rfl | rfl | rfl <;> exact va_Nw.same (u := U) (U := U.calling g mk a) rfl rfl h1
theorem jE.calling {KV : jV} {A : Nat → Prop} {U : State} {g : JFrame} {mk : MethodId} {a : Array Value} (h : jE KV A U) : jE KV A (U.calling g mk a) := by
  obtain ⟨h1, h2, h3, h4, h5, h6, h7, h8, h9⟩ := h
  exact ⟨nest_same h1, h2.moved (u := U) (U := U.calling g mk a) (Vm.Alike.refl U.vm), fun i hi => vk_R.same (u := U) (U := U.calling g mk a) rfl (h3 i hi), h4.moved (u := U) (U := U.calling g mk a) (Vm.Alike.refl U.vm), h5.moved (u := U) (U := U.calling g mk a) (Vm.Alike.refl U.vm), h6.moved (u := U) (U := U.calling g mk a) (Vm.Alike.refl U.vm), h7, h8, h9.moved (U := U.calling g mk a) (Vm.Alike.refl U.vm)⟩
/-- K is the judgement of a run of a method -/
def jK (l : Launch) (D : va_G) (G : Nat → ClassId) (KV : jV) (own : String) (cc : ByteArray) (nL : Nat) (ret : Option FieldType) (R : Room) (mc ms : Nat) (nm : String) (PP : Option Value → va_W → Prop) (K : Nat → Nat → va_W → Nat → List (Nat × Value) → List Value → Prop) : Prop :=
  ∃ (p : Program) (e : Env) (s : State) (m : MethodId) (args : Array Value) (below : List Frame) (meth : Method) (c : Code) (A : Nat → Prop) (Qc : Array Value → State → Outcome → State → Prop),
    p.tables.exec = Jvm.exec ∧ c.code = cc ∧ c.maxLocals = nL ∧ s.vm.findClass own = some m.cls ∧ (∀ w ∈ tW, w.before args s = true) ∧ meth.sig.returnType = ret ∧ meth.locks = false ∧ meth.name = nm ∧ va_K D classes (jtys G) s ∧ jE KV A s ∧ (∀ q, s.heap.size ≤ q → A q) ∧
    (∀ (v : Option Value) (ws : va_W) (H : Heap) (locs : List Loc) (t : State), va_P D classes ws H → va_D A ws → va_S A s.heap H locs → PP v ws → t.heap = H → s.WarmedH t.vm → Qc args s (.returned v) t) ∧
    K = (fun cells slots ws pc L st => ∀ (H : Heap) (locs : List Loc) (ls : Array Slot), va_P D classes ws H → va_D A ws → va_S A s.heap H locs → lv_has ls nL L → W p l e R s m args below meth c H locs cells slots (MQ below Qc args s mc ms A) (F0 m pc ls st))
def jws (y : MethodName) (b : ByteArray) (nL : Nat) (ret : Option FieldType) : List Cond := Cond.code y b nL ret :: tW
def jQ (D : va_G) (G : Nat → ClassId) (PP : Option Value → va_W → Prop) (A : Nat → Prop) : Array Value → State → Outcome → State → Prop := fun _ st oc t =>
  (∃ (v : Option Value) (u : va_W), oc = .returned v ∧ PP v u ∧ va_P D classes u t.heap ∧ va_K D classes (jtys G) t ∧ va_D A u) ∧ va_F A st t
/-- a method's contract: from the world ws with the arguments av it ends with an answer and a world of PP -/
def jM (l : Launch) (D : va_G) (G : Nat → ClassId) (KV : jV) (y : MethodName) (b : ByteArray) (nL : Nat) (ret : Option FieldType) (rm : Room) (av : List Value) (ws : va_W) (mc ms : Nat) (PP : Option Value → va_W → Prop) : Prop :=
  ∀ sz : Nat, Met l y (jws y b nL ret) rm (va_Pc av (fun U => U.heap.size = sz ∧ va_P D classes ws U.heap ∧ va_K D classes (jtys G) U ∧ va_D (fun _ => True) ws ∧ jE KV (va_A ws sz) U)) (jQ D G PP (va_A ws sz)) mc ms (va_A ws sz)
theorem jM.of {l : Launch} {D : va_G} {G : Nat → ClassId} {KV : jV} {y : MethodName} {b : ByteArray} {nL : Nat} {ret : Option FieldType} {rm : Room} {av : List Value} {ws : va_W} {mc ms : Nat} {PP : Option Value → va_W → Prop}
    (hy : plainName y.cls = true) (hent : (lg_sl av).length ≤ nL)
    (body : ∀ K, jK l D G KV y.cls b nL ret rm mc ms y.name PP K → K 0 0 ws 0 (lv_args 0 av) []) : jM l D G KV y b nL ret rm av ws mc ms PP := by
  intro sz
  refine Met.ofW (cc := b) (maxL := nL) (ret := ret) hy rfl ?_
  intro p e s m args below meth c s₁ B hml hv
  obtain ⟨rfl, hsz, hP, hK, hD0, hE⟩ := hv
  have hts0 := atoms_spec (ws := jws y b nL ret) B.pre
  have hts : ∀ w ∈ tW, w.before av.toArray s = true := fun w hw => hts0 w (List.mem_cons_of_mem _ hw)
  subst hsz
  have hD := hD0.self (sz := s.heap.size)
  have h := body _ ⟨p, e, s, m, av.toArray, below, meth, c, va_A ws s.heap.size, jQ D G PP (va_A ws s.heap.size), B.exec, B.bytes, hml, findClass_of_methodNamed B.named, hts, B.returns, B.notSynchronized, (name_of_methodNamed B.named B.method).1, hK, hE, fun q h => Or.inr h,
    fun v u H locs t hP hD hS hpp ht hW => ⟨⟨v, u, rfl, hpp, by rw [ht]; exact hP, va_K.moved hW.alike hK, hD⟩, hS.F ht⟩, rfl⟩
  rw [lg_entry_eq]
  exact h s.heap [] _ hP hD va_S.rf (lv_entry av hent)
theorem tW_goodIn {y : MethodName} {b : ByteArray} {nL : Nat} {ret : Option FieldType} (h : Cond.code y b nL ret ∈ tW) : GoodIn tW (jws y b nL ret) := by
  intro w hw
  have hw2 : w ∈ tW := by
    rcases List.mem_cons.mp hw with e | h2
    · rw [e]; exact h
    · exact h2
  exact ⟨hw2, tW_good hw2⟩
section JR
variable {l : Launch} {D : va_G} {G : Nat → ClassId} {KV : jV} {own : String} {cc : ByteArray} {nL : Nat} {ret : Option FieldType} {R : Room} {mc ms : Nat} {nm : String} {PP : Option Value → va_W → Prop} {K : Nat → Nat → va_W → Nat → List (Nat × Value) → List Value → Prop}
variable {cs sl pc : Nat} {ws : va_W} {L : List (Nat × Value)} {rest : List Value}
theorem j_iconst (C : jK l D G KV own cc nL ret R mc ms nm PP K) {n : Int} {v : Int32} (hdg : decode cc pc = .ok (.iconst n, 1)) (hv : Int32.ofInt n = v) (k : K cs sl ws (pc + 1) L (.int v :: rest)) : K cs sl ws pc L (rest) := by
  obtain ⟨p, e, s, m, args, below, meth, c, A, Qc, hx, hb, hml, hown, hts, hr, hlk, hnm, hK, hE, hA, hend, rfl⟩ := C
  exact fun H locs ls hP hD hS hL => lv_iconst hx hb hdg hv (k H locs ls hP hD hS hL)
theorem j_bipush (C : jK l D G KV own cc nL ret R mc ms nm PP K) {n : Int} {v : Int32} (hdg : decode cc pc = .ok (.bipush n, 2)) (hv : (Int8.ofInt n).toInt32 = v) (k : K cs sl ws (pc + 2) L (.int v :: rest)) : K cs sl ws pc L (rest) := by
  obtain ⟨p, e, s, m, args, below, meth, c, A, Qc, hx, hb, hml, hown, hts, hr, hlk, hnm, hK, hE, hA, hend, rfl⟩ := C
  exact fun H locs ls hP hD hS hL => lv_bipush hx hb hdg hv (k H locs ls hP hD hS hL)
theorem j_sipush (C : jK l D G KV own cc nL ret R mc ms nm PP K) {n : Int} {v : Int32} (hdg : decode cc pc = .ok (.sipush n, 3)) (hv : (Int16.ofInt n).toInt32 = v) (k : K cs sl ws (pc + 3) L (.int v :: rest)) : K cs sl ws pc L (rest) := by
  obtain ⟨p, e, s, m, args, below, meth, c, A, Qc, hx, hb, hml, hown, hts, hr, hlk, hnm, hK, hE, hA, hend, rfl⟩ := C
  exact fun H locs ls hP hD hS hL => lv_sipush hx hb hdg hv (k H locs ls hP hD hS hL)
theorem j_lconst (C : jK l D G KV own cc nL ret R mc ms nm PP K) {n : Fin 2} {v : Int64} (hdg : decode cc pc = .ok (.lconst n, 1)) (hv : Int64.ofNat (n : Nat) = v) (k : K cs sl ws (pc + 1) L (.long v :: rest)) : K cs sl ws pc L (rest) := by
  obtain ⟨p, e, s, m, args, below, meth, c, A, Qc, hx, hb, hml, hown, hts, hr, hlk, hnm, hK, hE, hA, hend, rfl⟩ := C
  exact fun H locs ls hP hD hS hL => lv_lconst hx hb hdg hv (k H locs ls hP hD hS hL)
theorem j_iload_n (C : jK l D G KV own cc nL ret R mc ms nm PP K) {k0 : Fin 4} {x : Int32} (hdg : decode cc pc = .ok (.iload_n k0, 1)) (q : Nat) (hl : L[q]? = some ((k0 : Nat), .int x)) (k : K cs sl ws (pc + 1) L (.int x :: rest)) : K cs sl ws pc L (rest) := by
  obtain ⟨p, e, s, m, args, below, meth, c, A, Qc, hx, hb, hml, hown, hts, hr, hlk, hnm, hK, hE, hA, hend, rfl⟩ := C
  exact fun H locs ls hP hD hS hL => lv_iload_n hx hb hdg rfl (lv_at hL q hl) (k H locs ls hP hD hS hL)
theorem j_iload (C : jK l D G KV own cc nL ret R mc ms nm PP K) {i : Nat} {x : Int32} (hdg : decode cc pc = .ok (.iload i, 2)) (q : Nat) (hl : L[q]? = some (i, .int x)) (k : K cs sl ws (pc + 2) L (.int x :: rest)) : K cs sl ws pc L (rest) := by
  obtain ⟨p, e, s, m, args, below, meth, c, A, Qc, hx, hb, hml, hown, hts, hr, hlk, hnm, hK, hE, hA, hend, rfl⟩ := C
  exact fun H locs ls hP hD hS hL => lv_iload hx hb hdg (lv_at hL q hl) (k H locs ls hP hD hS hL)
theorem j_lload_n (C : jK l D G KV own cc nL ret R mc ms nm PP K) {k0 : Fin 4} {x : Int64} (hdg : decode cc pc = .ok (.lload_n k0, 1)) (q : Nat) (hl : L[q]? = some ((k0 : Nat), .long x)) (k : K cs sl ws (pc + 1) L (.long x :: rest)) : K cs sl ws pc L (rest) := by
  obtain ⟨p, e, s, m, args, below, meth, c, A, Qc, hx, hb, hml, hown, hts, hr, hlk, hnm, hK, hE, hA, hend, rfl⟩ := C
  exact fun H locs ls hP hD hS hL => lv_lload_n hx hb hdg rfl (lv_at hL q hl) (k H locs ls hP hD hS hL)
theorem j_lload (C : jK l D G KV own cc nL ret R mc ms nm PP K) {i : Nat} {x : Int64} (hdg : decode cc pc = .ok (.lload i, 2)) (q : Nat) (hl : L[q]? = some (i, .long x)) (k : K cs sl ws (pc + 2) L (.long x :: rest)) : K cs sl ws pc L (rest) := by
  obtain ⟨p, e, s, m, args, below, meth, c, A, Qc, hx, hb, hml, hown, hts, hr, hlk, hnm, hK, hE, hA, hend, rfl⟩ := C
  exact fun H locs ls hP hD hS hL => lv_lload hx hb hdg (lv_at hL q hl) (k H locs ls hP hD hS hL)
theorem j_aload_n (C : jK l D G KV own cc nL ret R mc ms nm PP K) {k0 : Fin 4} {x : Nat} (hdg : decode cc pc = .ok (.aload_n k0, 1)) (q : Nat) (hl : L[q]? = some ((k0 : Nat), .ref x)) (k : K cs sl ws (pc + 1) L (.ref x :: rest)) : K cs sl ws pc L (rest) := by
  obtain ⟨p, e, s, m, args, below, meth, c, A, Qc, hx, hb, hml, hown, hts, hr, hlk, hnm, hK, hE, hA, hend, rfl⟩ := C
  exact fun H locs ls hP hD hS hL => lv_aload_n hx hb hdg rfl (lv_at hL q hl) (k H locs ls hP hD hS hL)
theorem j_aload (C : jK l D G KV own cc nL ret R mc ms nm PP K) {i : Nat} {x : Nat} (hdg : decode cc pc = .ok (.aload i, 2)) (q : Nat) (hl : L[q]? = some (i, .ref x)) (k : K cs sl ws (pc + 2) L (.ref x :: rest)) : K cs sl ws pc L (rest) := by
  obtain ⟨p, e, s, m, args, below, meth, c, A, Qc, hx, hb, hml, hown, hts, hr, hlk, hnm, hK, hE, hA, hend, rfl⟩ := C
  exact fun H locs ls hP hD hS hL => lv_aload hx hb hdg (lv_at hL q hl) (k H locs ls hP hD hS hL)
theorem j_istore_n (C : jK l D G KV own cc nL ret R mc ms nm PP K) {k0 : Fin 4} {x : Int32} {L' : List (Nat × Value)} (hdg : decode cc pc = .ok (.istore_n k0, 1)) (hn : (k0 : Nat) < nL) (hl : ((k0 : Nat), Value.int x) :: L.filter (fun q => !(q.1 == (k0 : Nat)) && !(q.1 + 1 == (k0 : Nat) && q.2.category == 2)) = L') (k : K cs sl ws (pc + 1) L' rest) : K cs sl ws pc L (.int x :: rest) := by
  obtain ⟨p, e, s, m, args, below, meth, c, A, Qc, hx, hb, hml, hown, hts, hr, hlk, hnm, hK, hE, hA, hend, rfl⟩ := C
  exact fun H locs ls hP hD hS hL => lv_istore_n hx hb hdg rfl hL hn hl (fun ls' hl' => k H locs ls' hP hD hS hl')
theorem j_istore (C : jK l D G KV own cc nL ret R mc ms nm PP K) {i : Nat} {x : Int32} {L' : List (Nat × Value)} (hdg : decode cc pc = .ok (.istore i, 2)) (hn : i < nL) (hl : (i, Value.int x) :: L.filter (fun q => !(q.1 == i) && !(q.1 + 1 == i && q.2.category == 2)) = L') (k : K cs sl ws (pc + 2) L' rest) : K cs sl ws pc L (.int x :: rest) := by
  obtain ⟨p, e, s, m, args, below, meth, c, A, Qc, hx, hb, hml, hown, hts, hr, hlk, hnm, hK, hE, hA, hend, rfl⟩ := C
  exact fun H locs ls hP hD hS hL => lv_istore hx hb hdg hL hn hl (fun ls' hl' => k H locs ls' hP hD hS hl')
theorem j_lstore_n (C : jK l D G KV own cc nL ret R mc ms nm PP K) {k0 : Fin 4} {x : Int64} {L' : List (Nat × Value)} (hdg : decode cc pc = .ok (.lstore_n k0, 1)) (hn : (k0 : Nat) + 1 < nL) (hl : ((k0 : Nat), Value.long x) :: L.filter (fun q => !(q.1 == (k0 : Nat)) && (!(q.1 == (k0 : Nat) + 1) && !(q.1 + 1 == (k0 : Nat) && q.2.category == 2))) = L') (k : K cs sl ws (pc + 1) L' rest) : K cs sl ws pc L (.long x :: rest) := by
  obtain ⟨p, e, s, m, args, below, meth, c, A, Qc, hx, hb, hml, hown, hts, hr, hlk, hnm, hK, hE, hA, hend, rfl⟩ := C
  exact fun H locs ls hP hD hS hL => lv_lstore_n hx hb hdg rfl hL hn hl (fun ls' hl' => k H locs ls' hP hD hS hl')
theorem j_lstore (C : jK l D G KV own cc nL ret R mc ms nm PP K) {i : Nat} {x : Int64} {L' : List (Nat × Value)} (hdg : decode cc pc = .ok (.lstore i, 2)) (hn : i + 1 < nL) (hl : (i, Value.long x) :: L.filter (fun q => !(q.1 == i) && (!(q.1 == i + 1) && !(q.1 + 1 == i && q.2.category == 2))) = L') (k : K cs sl ws (pc + 2) L' rest) : K cs sl ws pc L (.long x :: rest) := by
  obtain ⟨p, e, s, m, args, below, meth, c, A, Qc, hx, hb, hml, hown, hts, hr, hlk, hnm, hK, hE, hA, hend, rfl⟩ := C
  exact fun H locs ls hP hD hS hL => lv_lstore hx hb hdg hL hn hl (fun ls' hl' => k H locs ls' hP hD hS hl')
theorem j_astore_n (C : jK l D G KV own cc nL ret R mc ms nm PP K) {k0 : Fin 4} {x : Nat} {L' : List (Nat × Value)} (hdg : decode cc pc = .ok (.astore_n k0, 1)) (hn : (k0 : Nat) < nL) (hl : ((k0 : Nat), Value.ref x) :: L.filter (fun q => !(q.1 == (k0 : Nat)) && !(q.1 + 1 == (k0 : Nat) && q.2.category == 2)) = L') (k : K cs sl ws (pc + 1) L' rest) : K cs sl ws pc L (.ref x :: rest) := by
  obtain ⟨p, e, s, m, args, below, meth, c, A, Qc, hx, hb, hml, hown, hts, hr, hlk, hnm, hK, hE, hA, hend, rfl⟩ := C
  exact fun H locs ls hP hD hS hL => lv_astore_n hx hb hdg rfl hL hn hl (fun ls' hl' => k H locs ls' hP hD hS hl')
theorem j_astore (C : jK l D G KV own cc nL ret R mc ms nm PP K) {i : Nat} {x : Nat} {L' : List (Nat × Value)} (hdg : decode cc pc = .ok (.astore i, 2)) (hn : i < nL) (hl : (i, Value.ref x) :: L.filter (fun q => !(q.1 == i) && !(q.1 + 1 == i && q.2.category == 2)) = L') (k : K cs sl ws (pc + 2) L' rest) : K cs sl ws pc L (.ref x :: rest) := by
  obtain ⟨p, e, s, m, args, below, meth, c, A, Qc, hx, hb, hml, hown, hts, hr, hlk, hnm, hK, hE, hA, hend, rfl⟩ := C
  exact fun H locs ls hP hD hS hL => lv_astore hx hb hdg hL hn hl (fun ls' hl' => k H locs ls' hP hD hS hl')
theorem j_iinc (C : jK l D G KV own cc nL ret R mc ms nm PP K) {i : Nat} {n : Int} {x v : Int32} {L' : List (Nat × Value)} (hdg : decode cc pc = .ok (.iinc i n, 3)) (q : Nat) (hk : L[q]? = some (i, .int x)) (hv : x + Int32.ofInt n = v) (hn : i < nL) (hl : (i, Value.int v) :: L.filter (fun q => !(q.1 == i) && !(q.1 + 1 == i && q.2.category == 2)) = L') (k : K cs sl ws (pc + 3) L' rest) : K cs sl ws pc L rest := by
  obtain ⟨p, e, s, m, args, below, meth, c, A, Qc, hx, hb, hml, hown, hts, hr, hlk, hnm, hK, hE, hA, hend, rfl⟩ := C
  exact fun H locs ls hP hD hS hL => lv_iinc hx hb hdg hL hk hv hn hl (fun ls' hl' => k H locs ls' hP hD hS hl')
theorem j_iadd (C : jK l D G KV own cc nL ret R mc ms nm PP K) {x y : Int32} (hdg : decode cc pc = .ok (.iadd, 1))  (k : K cs sl ws (pc + 1) L (.int (x + y) :: rest)) : K cs sl ws pc L (.int y :: .int x :: rest) := by
  obtain ⟨p, e, s, m, args, below, meth, c, A, Qc, hx, hb, hml, hown, hts, hr, hlk, hnm, hK, hE, hA, hend, rfl⟩ := C
  exact fun H locs ls hP hD hS hL => lv_iadd hx hb hdg (k H locs ls hP hD hS hL)
theorem j_isub (C : jK l D G KV own cc nL ret R mc ms nm PP K) {x y : Int32} (hdg : decode cc pc = .ok (.isub, 1))  (k : K cs sl ws (pc + 1) L (.int (x - y) :: rest)) : K cs sl ws pc L (.int y :: .int x :: rest) := by
  obtain ⟨p, e, s, m, args, below, meth, c, A, Qc, hx, hb, hml, hown, hts, hr, hlk, hnm, hK, hE, hA, hend, rfl⟩ := C
  exact fun H locs ls hP hD hS hL => lv_isub hx hb hdg (k H locs ls hP hD hS hL)
theorem j_imul (C : jK l D G KV own cc nL ret R mc ms nm PP K) {x y : Int32} (hdg : decode cc pc = .ok (.imul, 1))  (k : K cs sl ws (pc + 1) L (.int (x * y) :: rest)) : K cs sl ws pc L (.int y :: .int x :: rest) := by
  obtain ⟨p, e, s, m, args, below, meth, c, A, Qc, hx, hb, hml, hown, hts, hr, hlk, hnm, hK, hE, hA, hend, rfl⟩ := C
  exact fun H locs ls hP hD hS hL => lv_imul hx hb hdg (k H locs ls hP hD hS hL)
theorem j_iand (C : jK l D G KV own cc nL ret R mc ms nm PP K) {x y : Int32} (hdg : decode cc pc = .ok (.iand, 1))  (k : K cs sl ws (pc + 1) L (.int (x &&& y) :: rest)) : K cs sl ws pc L (.int y :: .int x :: rest) := by
  obtain ⟨p, e, s, m, args, below, meth, c, A, Qc, hx, hb, hml, hown, hts, hr, hlk, hnm, hK, hE, hA, hend, rfl⟩ := C
  exact fun H locs ls hP hD hS hL => lv_iand hx hb hdg (k H locs ls hP hD hS hL)
theorem j_ior (C : jK l D G KV own cc nL ret R mc ms nm PP K) {x y : Int32} (hdg : decode cc pc = .ok (.ior, 1))  (k : K cs sl ws (pc + 1) L (.int (x ||| y) :: rest)) : K cs sl ws pc L (.int y :: .int x :: rest) := by
  obtain ⟨p, e, s, m, args, below, meth, c, A, Qc, hx, hb, hml, hown, hts, hr, hlk, hnm, hK, hE, hA, hend, rfl⟩ := C
  exact fun H locs ls hP hD hS hL => lv_ior hx hb hdg (k H locs ls hP hD hS hL)
theorem j_ixor (C : jK l D G KV own cc nL ret R mc ms nm PP K) {x y : Int32} (hdg : decode cc pc = .ok (.ixor, 1))  (k : K cs sl ws (pc + 1) L (.int (x ^^^ y) :: rest)) : K cs sl ws pc L (.int y :: .int x :: rest) := by
  obtain ⟨p, e, s, m, args, below, meth, c, A, Qc, hx, hb, hml, hown, hts, hr, hlk, hnm, hK, hE, hA, hend, rfl⟩ := C
  exact fun H locs ls hP hD hS hL => lv_ixor hx hb hdg (k H locs ls hP hD hS hL)
theorem j_ishl (C : jK l D G KV own cc nL ret R mc ms nm PP K) {x y : Int32} (hdg : decode cc pc = .ok (.ishl, 1))  (k : K cs sl ws (pc + 1) L (.int (x <<< (y &&& 31)) :: rest)) : K cs sl ws pc L (.int y :: .int x :: rest) := by
  obtain ⟨p, e, s, m, args, below, meth, c, A, Qc, hx, hb, hml, hown, hts, hr, hlk, hnm, hK, hE, hA, hend, rfl⟩ := C
  exact fun H locs ls hP hD hS hL => lv_ishl hx hb hdg (k H locs ls hP hD hS hL)
theorem j_ishr (C : jK l D G KV own cc nL ret R mc ms nm PP K) {x y : Int32} (hdg : decode cc pc = .ok (.ishr, 1))  (k : K cs sl ws (pc + 1) L (.int (x >>> (y &&& 31)) :: rest)) : K cs sl ws pc L (.int y :: .int x :: rest) := by
  obtain ⟨p, e, s, m, args, below, meth, c, A, Qc, hx, hb, hml, hown, hts, hr, hlk, hnm, hK, hE, hA, hend, rfl⟩ := C
  exact fun H locs ls hP hD hS hL => lv_ishr hx hb hdg (k H locs ls hP hD hS hL)
theorem j_idiv (C : jK l D G KV own cc nL ret R mc ms nm PP K) {x y : Int32} (hdg : decode cc pc = .ok (.idiv, 1)) (hne : ¬ y = 0) (k : K cs sl ws (pc + 1) L (.int (x / y) :: rest)) : K cs sl ws pc L (.int y :: .int x :: rest) := by
  obtain ⟨p, e, s, m, args, below, meth, c, A, Qc, hx, hb, hml, hown, hts, hr, hlk, hnm, hK, hE, hA, hend, rfl⟩ := C
  exact fun H locs ls hP hD hS hL => lv_idiv hx hb hdg hne (k H locs ls hP hD hS hL)
theorem j_irem (C : jK l D G KV own cc nL ret R mc ms nm PP K) {x y : Int32} (hdg : decode cc pc = .ok (.irem, 1)) (hne : ¬ y = 0) (k : K cs sl ws (pc + 1) L (.int (x - x / y * y) :: rest)) : K cs sl ws pc L (.int y :: .int x :: rest) := by
  obtain ⟨p, e, s, m, args, below, meth, c, A, Qc, hx, hb, hml, hown, hts, hr, hlk, hnm, hK, hE, hA, hend, rfl⟩ := C
  exact fun H locs ls hP hD hS hL => lv_irem hx hb hdg hne (k H locs ls hP hD hS hL)
theorem j_ineg (C : jK l D G KV own cc nL ret R mc ms nm PP K) {x : Int32} (hdg : decode cc pc = .ok (.ineg, 1))  (k : K cs sl ws (pc + 1) L (.int (-x) :: rest)) : K cs sl ws pc L (.int x :: rest) := by
  obtain ⟨p, e, s, m, args, below, meth, c, A, Qc, hx, hb, hml, hown, hts, hr, hlk, hnm, hK, hE, hA, hend, rfl⟩ := C
  exact fun H locs ls hP hD hS hL => lv_ineg hx hb hdg (k H locs ls hP hD hS hL)
theorem j_iushr (C : jK l D G KV own cc nL ret R mc ms nm PP K) {x y : Int32} (hdg : decode cc pc = .ok (.iushr, 1))  (k : K cs sl ws (pc + 1) L (.int ((x.toUInt32 >>> (y.toUInt32 &&& Int32.toUInt32 31)).toInt32) :: rest)) : K cs sl ws pc L (.int y :: .int x :: rest) := by
  obtain ⟨p, e, s, m, args, below, meth, c, A, Qc, hx, hb, hml, hown, hts, hr, hlk, hnm, hK, hE, hA, hend, rfl⟩ := C
  exact fun H locs ls hP hD hS hL => lv_iushr hx hb hdg rfl (k H locs ls hP hD hS hL)
theorem j_ladd (C : jK l D G KV own cc nL ret R mc ms nm PP K) {x y : Int64} (hdg : decode cc pc = .ok (.ladd, 1))  (k : K cs sl ws (pc + 1) L (.long (x + y) :: rest)) : K cs sl ws pc L (.long y :: .long x :: rest) := by
  obtain ⟨p, e, s, m, args, below, meth, c, A, Qc, hx, hb, hml, hown, hts, hr, hlk, hnm, hK, hE, hA, hend, rfl⟩ := C
  exact fun H locs ls hP hD hS hL => lv_ladd hx hb hdg (k H locs ls hP hD hS hL)
theorem j_lsub (C : jK l D G KV own cc nL ret R mc ms nm PP K) {x y : Int64} (hdg : decode cc pc = .ok (.lsub, 1))  (k : K cs sl ws (pc + 1) L (.long (x - y) :: rest)) : K cs sl ws pc L (.long y :: .long x :: rest) := by
  obtain ⟨p, e, s, m, args, below, meth, c, A, Qc, hx, hb, hml, hown, hts, hr, hlk, hnm, hK, hE, hA, hend, rfl⟩ := C
  exact fun H locs ls hP hD hS hL => lv_lsub hx hb hdg (k H locs ls hP hD hS hL)
theorem j_lmul (C : jK l D G KV own cc nL ret R mc ms nm PP K) {x y : Int64} (hdg : decode cc pc = .ok (.lmul, 1))  (k : K cs sl ws (pc + 1) L (.long (x * y) :: rest)) : K cs sl ws pc L (.long y :: .long x :: rest) := by
  obtain ⟨p, e, s, m, args, below, meth, c, A, Qc, hx, hb, hml, hown, hts, hr, hlk, hnm, hK, hE, hA, hend, rfl⟩ := C
  exact fun H locs ls hP hD hS hL => lv_lmul hx hb hdg (k H locs ls hP hD hS hL)
theorem j_land (C : jK l D G KV own cc nL ret R mc ms nm PP K) {x y : Int64} (hdg : decode cc pc = .ok (.land, 1))  (k : K cs sl ws (pc + 1) L (.long (x &&& y) :: rest)) : K cs sl ws pc L (.long y :: .long x :: rest) := by
  obtain ⟨p, e, s, m, args, below, meth, c, A, Qc, hx, hb, hml, hown, hts, hr, hlk, hnm, hK, hE, hA, hend, rfl⟩ := C
  exact fun H locs ls hP hD hS hL => lv_land hx hb hdg (k H locs ls hP hD hS hL)
theorem j_lor (C : jK l D G KV own cc nL ret R mc ms nm PP K) {x y : Int64} (hdg : decode cc pc = .ok (.lor, 1))  (k : K cs sl ws (pc + 1) L (.long (x ||| y) :: rest)) : K cs sl ws pc L (.long y :: .long x :: rest) := by
  obtain ⟨p, e, s, m, args, below, meth, c, A, Qc, hx, hb, hml, hown, hts, hr, hlk, hnm, hK, hE, hA, hend, rfl⟩ := C
  exact fun H locs ls hP hD hS hL => lv_lor hx hb hdg (k H locs ls hP hD hS hL)
theorem j_ldiv (C : jK l D G KV own cc nL ret R mc ms nm PP K) {x y : Int64} (hdg : decode cc pc = .ok (.ldiv, 1)) (hne : ¬ y = 0) (k : K cs sl ws (pc + 1) L (.long (x / y) :: rest)) : K cs sl ws pc L (.long y :: .long x :: rest) := by
  obtain ⟨p, e, s, m, args, below, meth, c, A, Qc, hx, hb, hml, hown, hts, hr, hlk, hnm, hK, hE, hA, hend, rfl⟩ := C
  exact fun H locs ls hP hD hS hL => lv_ldiv hx hb hdg hne (k H locs ls hP hD hS hL)
theorem j_lneg (C : jK l D G KV own cc nL ret R mc ms nm PP K) {x : Int64} (hdg : decode cc pc = .ok (.lneg, 1))  (k : K cs sl ws (pc + 1) L (.long (-x) :: rest)) : K cs sl ws pc L (.long x :: rest) := by
  obtain ⟨p, e, s, m, args, below, meth, c, A, Qc, hx, hb, hml, hown, hts, hr, hlk, hnm, hK, hE, hA, hend, rfl⟩ := C
  exact fun H locs ls hP hD hS hL => lv_lneg hx hb hdg (k H locs ls hP hD hS hL)
theorem j_lcmp (C : jK l D G KV own cc nL ret R mc ms nm PP K) {x y : Int64} (hdg : decode cc pc = .ok (.lcmp, 1))  (k : K cs sl ws (pc + 1) L (.int (lg_cmp x y) :: rest)) : K cs sl ws pc L (.long y :: .long x :: rest) := by
  obtain ⟨p, e, s, m, args, below, meth, c, A, Qc, hx, hb, hml, hown, hts, hr, hlk, hnm, hK, hE, hA, hend, rfl⟩ := C
  exact fun H locs ls hP hD hS hL => W.lcmp hx hb hdg (k H locs ls hP hD hS hL)
theorem j_lshl (C : jK l D G KV own cc nL ret R mc ms nm PP K) {x : Int64} {y : Int32} (hdg : decode cc pc = .ok (.lshl, 1))  (k : K cs sl ws (pc + 1) L (.long (x <<< (y.toInt64 &&& 63)) :: rest)) : K cs sl ws pc L (.int y :: .long x :: rest) := by
  obtain ⟨p, e, s, m, args, below, meth, c, A, Qc, hx, hb, hml, hown, hts, hr, hlk, hnm, hK, hE, hA, hend, rfl⟩ := C
  exact fun H locs ls hP hD hS hL => lv_lshl hx hb hdg rfl (k H locs ls hP hD hS hL)
theorem j_lshr (C : jK l D G KV own cc nL ret R mc ms nm PP K) {x : Int64} {y : Int32} (hdg : decode cc pc = .ok (.lshr, 1))  (k : K cs sl ws (pc + 1) L (.long (x >>> (y.toInt64 &&& 63)) :: rest)) : K cs sl ws pc L (.int y :: .long x :: rest) := by
  obtain ⟨p, e, s, m, args, below, meth, c, A, Qc, hx, hb, hml, hown, hts, hr, hlk, hnm, hK, hE, hA, hend, rfl⟩ := C
  exact fun H locs ls hP hD hS hL => lv_lshr hx hb hdg rfl (k H locs ls hP hD hS hL)
theorem j_i2l (C : jK l D G KV own cc nL ret R mc ms nm PP K) {x : Int32} (hdg : decode cc pc = .ok (.i2l, 1))  (k : K cs sl ws (pc + 1) L (.long x.toInt64 :: rest)) : K cs sl ws pc L (.int x :: rest) := by
  obtain ⟨p, e, s, m, args, below, meth, c, A, Qc, hx, hb, hml, hown, hts, hr, hlk, hnm, hK, hE, hA, hend, rfl⟩ := C
  exact fun H locs ls hP hD hS hL => lv_i2l hx hb hdg rfl (k H locs ls hP hD hS hL)
theorem j_l2i (C : jK l D G KV own cc nL ret R mc ms nm PP K) {x : Int64} (hdg : decode cc pc = .ok (.l2i, 1))  (k : K cs sl ws (pc + 1) L (.int x.toInt32 :: rest)) : K cs sl ws pc L (.long x :: rest) := by
  obtain ⟨p, e, s, m, args, below, meth, c, A, Qc, hx, hb, hml, hown, hts, hr, hlk, hnm, hK, hE, hA, hend, rfl⟩ := C
  exact fun H locs ls hP hD hS hL => lv_l2i hx hb hdg rfl (k H locs ls hP hD hS hL)
theorem j_i2b (C : jK l D G KV own cc nL ret R mc ms nm PP K) {x : Int32} (hdg : decode cc pc = .ok (.i2b, 1))  (k : K cs sl ws (pc + 1) L (.int x.toInt8.toInt32 :: rest)) : K cs sl ws pc L (.int x :: rest) := by
  obtain ⟨p, e, s, m, args, below, meth, c, A, Qc, hx, hb, hml, hown, hts, hr, hlk, hnm, hK, hE, hA, hend, rfl⟩ := C
  exact fun H locs ls hP hD hS hL => lv_i2b hx hb hdg rfl (k H locs ls hP hD hS hL)
theorem j_i2c (C : jK l D G KV own cc nL ret R mc ms nm PP K) {x : Int32} (hdg : decode cc pc = .ok (.i2c, 1))  (k : K cs sl ws (pc + 1) L (.int (x.toUInt32 % 65536).toInt32 :: rest)) : K cs sl ws pc L (.int x :: rest) := by
  obtain ⟨p, e, s, m, args, below, meth, c, A, Qc, hx, hb, hml, hown, hts, hr, hlk, hnm, hK, hE, hA, hend, rfl⟩ := C
  exact fun H locs ls hP hD hS hL => lv_i2c hx hb hdg rfl (k H locs ls hP hD hS hL)
theorem j_dup (C : jK l D G KV own cc nL ret R mc ms nm PP K) {va : Value} (hdg : decode cc pc = .ok (.dup, 1)) (hva : va.category = 1) (k : K cs sl ws (pc + 1) L (va :: va :: rest)) : K cs sl ws pc L (va :: rest) := by
  obtain ⟨p, e, s, m, args, below, meth, c, A, Qc, hx, hb, hml, hown, hts, hr, hlk, hnm, hK, hE, hA, hend, rfl⟩ := C
  exact fun H locs ls hP hD hS hL => lv_dup hx hb hdg hva (k H locs ls hP hD hS hL)
theorem j_pop (C : jK l D G KV own cc nL ret R mc ms nm PP K) {va : Value} (hdg : decode cc pc = .ok (.pop, 1)) (hva : va.category = 1) (k : K cs sl ws (pc + 1) L (rest)) : K cs sl ws pc L (va :: rest) := by
  obtain ⟨p, e, s, m, args, below, meth, c, A, Qc, hx, hb, hml, hown, hts, hr, hlk, hnm, hK, hE, hA, hend, rfl⟩ := C
  exact fun H locs ls hP hD hS hL => lv_pop hx hb hdg hva (k H locs ls hP hD hS hL)
theorem j_dup2 (C : jK l D G KV own cc nL ret R mc ms nm PP K) {va vb : Value} (hdg : decode cc pc = .ok (.dup2, 1)) (hva : va.category = 1) (hvb : vb.category = 1) (k : K cs sl ws (pc + 1) L (va :: vb :: va :: vb :: rest)) : K cs sl ws pc L (va :: vb :: rest) := by
  obtain ⟨p, e, s, m, args, below, meth, c, A, Qc, hx, hb, hml, hown, hts, hr, hlk, hnm, hK, hE, hA, hend, rfl⟩ := C
  exact fun H locs ls hP hD hS hL => lv_dup2_11 hx hb hdg hva hvb (k H locs ls hP hD hS hL)
theorem j_ldc (C : jK l D G KV own cc nL ret R mc ms nm PP K) {idx : Nat} {v : Int32} (hdg : decode cc pc = .ok (.ldc idx, 2)) (hc : Cond.constant own idx v ∈ tW) (k : K cs sl ws (pc + 2) L (.int v :: rest)) : K cs sl ws pc L (rest) := by
  obtain ⟨p, e, s, m, args, below, meth, c, A, Qc, hx, hb, hml, hown, hts, hr, hlk, hnm, hK, hE, hA, hend, rfl⟩ := C
  exact fun H locs ls hP hD hS hL => lv_ldc hx hb hown (hts _ hc) hdg (k H locs ls hP hD hS hL)
theorem j_ldcw (C : jK l D G KV own cc nL ret R mc ms nm PP K) {idx : Nat} {v : Int32} (hdg : decode cc pc = .ok (.ldc_w idx, 3)) (hc : Cond.constant own idx v ∈ tW) (k : K cs sl ws (pc + 3) L (.int v :: rest)) : K cs sl ws pc L (rest) := by
  obtain ⟨p, e, s, m, args, below, meth, c, A, Qc, hx, hb, hml, hown, hts, hr, hlk, hnm, hK, hE, hA, hend, rfl⟩ := C
  exact fun H locs ls hP hD hS hL => lv_ldcw hx hb hown (hts _ hc) hdg (k H locs ls hP hD hS hL)
theorem j_ldc2 (C : jK l D G KV own cc nL ret R mc ms nm PP K) {idx : Nat} {v : Int64} (hdg : decode cc pc = .ok (.ldc2_w idx, 3)) (hc : Cond.constantLong own idx v ∈ tW) (k : K cs sl ws (pc + 3) L (.long v :: rest)) : K cs sl ws pc L (rest) := by
  obtain ⟨p, e, s, m, args, below, meth, c, A, Qc, hx, hb, hml, hown, hts, hr, hlk, hnm, hK, hE, hA, hend, rfl⟩ := C
  exact fun H locs ls hP hD hS hL => lv_ldc2 hx hb hown (hts _ hc) hdg (k H locs ls hP hD hS hL)
theorem j_goto (C : jK l D G KV own cc nL ret R mc ms nm PP K) {off : Int} {tgt : Nat} (hdg : decode cc pc = .ok (.goto off, 3)) (ht : (pc : Int) + off = (tgt : Int)) (k : K cs sl ws tgt L rest) : K cs sl ws pc L rest := by
  obtain ⟨p, e, s, m, args, below, meth, c, A, Qc, hx, hb, hml, hown, hts, hr, hlk, hnm, hK, hE, hA, hend, rfl⟩ := C
  exact fun H locs ls hP hD hS hL => lv_goto hx hb hdg ht (k H locs ls hP hD hS hL)
theorem j_if_eq (C : jK l D G KV own cc nL ret R mc ms nm PP K) {x : Int32} {off : Int} {tgt : Nat} (hdg : decode cc pc = .ok (.ifCond .eq off, 3)) (ht : (pc : Int) + off = (tgt : Int)) (kt : x = 0 → K cs sl ws tgt L rest) (kf : ¬ (x = 0) → K cs sl ws (pc + 3) L rest) : K cs sl ws pc L (.int x :: rest) := by
  obtain ⟨p, e, s, m, args, below, meth, c, A, Qc, hx, hb, hml, hown, hts, hr, hlk, hnm, hK, hE, hA, hend, rfl⟩ := C
  exact fun H locs ls hP hD hS hL => lv_if_eq hx hb hdg ht (fun h => kt h H locs ls hP hD hS hL) (fun h => kf h H locs ls hP hD hS hL)
theorem j_if_ne (C : jK l D G KV own cc nL ret R mc ms nm PP K) {x : Int32} {off : Int} {tgt : Nat} (hdg : decode cc pc = .ok (.ifCond .ne off, 3)) (ht : (pc : Int) + off = (tgt : Int)) (kt : ¬ x = 0 → K cs sl ws tgt L rest) (kf : x = 0 → K cs sl ws (pc + 3) L rest) : K cs sl ws pc L (.int x :: rest) := by
  obtain ⟨p, e, s, m, args, below, meth, c, A, Qc, hx, hb, hml, hown, hts, hr, hlk, hnm, hK, hE, hA, hend, rfl⟩ := C
  exact fun H locs ls hP hD hS hL => lv_if_ne hx hb hdg ht (fun h => kt h H locs ls hP hD hS hL) (fun h => kf h H locs ls hP hD hS hL)
theorem j_if_lt (C : jK l D G KV own cc nL ret R mc ms nm PP K) {x : Int32} {off : Int} {tgt : Nat} (hdg : decode cc pc = .ok (.ifCond .lt off, 3)) (ht : (pc : Int) + off = (tgt : Int)) (kt : x < 0 → K cs sl ws tgt L rest) (kf : ¬ (x < 0) → K cs sl ws (pc + 3) L rest) : K cs sl ws pc L (.int x :: rest) := by
  obtain ⟨p, e, s, m, args, below, meth, c, A, Qc, hx, hb, hml, hown, hts, hr, hlk, hnm, hK, hE, hA, hend, rfl⟩ := C
  exact fun H locs ls hP hD hS hL => lv_if_lt hx hb hdg ht (fun h => kt h H locs ls hP hD hS hL) (fun h => kf h H locs ls hP hD hS hL)
theorem j_if_ge (C : jK l D G KV own cc nL ret R mc ms nm PP K) {x : Int32} {off : Int} {tgt : Nat} (hdg : decode cc pc = .ok (.ifCond .ge off, 3)) (ht : (pc : Int) + off = (tgt : Int)) (kt : 0 ≤ x → K cs sl ws tgt L rest) (kf : ¬ (0 ≤ x) → K cs sl ws (pc + 3) L rest) : K cs sl ws pc L (.int x :: rest) := by
  obtain ⟨p, e, s, m, args, below, meth, c, A, Qc, hx, hb, hml, hown, hts, hr, hlk, hnm, hK, hE, hA, hend, rfl⟩ := C
  exact fun H locs ls hP hD hS hL => lv_if_ge hx hb hdg ht (fun h => kt h H locs ls hP hD hS hL) (fun h => kf h H locs ls hP hD hS hL)
theorem j_if_gt (C : jK l D G KV own cc nL ret R mc ms nm PP K) {x : Int32} {off : Int} {tgt : Nat} (hdg : decode cc pc = .ok (.ifCond .gt off, 3)) (ht : (pc : Int) + off = (tgt : Int)) (kt : 0 < x → K cs sl ws tgt L rest) (kf : ¬ (0 < x) → K cs sl ws (pc + 3) L rest) : K cs sl ws pc L (.int x :: rest) := by
  obtain ⟨p, e, s, m, args, below, meth, c, A, Qc, hx, hb, hml, hown, hts, hr, hlk, hnm, hK, hE, hA, hend, rfl⟩ := C
  exact fun H locs ls hP hD hS hL => lv_if_gt hx hb hdg ht (fun h => kt h H locs ls hP hD hS hL) (fun h => kf h H locs ls hP hD hS hL)
theorem j_if_le (C : jK l D G KV own cc nL ret R mc ms nm PP K) {x : Int32} {off : Int} {tgt : Nat} (hdg : decode cc pc = .ok (.ifCond .le off, 3)) (ht : (pc : Int) + off = (tgt : Int)) (kt : x ≤ 0 → K cs sl ws tgt L rest) (kf : ¬ (x ≤ 0) → K cs sl ws (pc + 3) L rest) : K cs sl ws pc L (.int x :: rest) := by
  obtain ⟨p, e, s, m, args, below, meth, c, A, Qc, hx, hb, hml, hown, hts, hr, hlk, hnm, hK, hE, hA, hend, rfl⟩ := C
  exact fun H locs ls hP hD hS hL => lv_if_le hx hb hdg ht (fun h => kt h H locs ls hP hD hS hL) (fun h => kf h H locs ls hP hD hS hL)
theorem j_icmp_eq (C : jK l D G KV own cc nL ret R mc ms nm PP K) {x y : Int32} {off : Int} {tgt : Nat} (hdg : decode cc pc = .ok (.if_icmp .eq off, 3)) (ht : (pc : Int) + off = (tgt : Int)) (kt : x = y → K cs sl ws tgt L rest) (kf : ¬ (x = y) → K cs sl ws (pc + 3) L rest) : K cs sl ws pc L (.int y :: .int x :: rest) := by
  obtain ⟨p, e, s, m, args, below, meth, c, A, Qc, hx, hb, hml, hown, hts, hr, hlk, hnm, hK, hE, hA, hend, rfl⟩ := C
  exact fun H locs ls hP hD hS hL => lv_icmp_eq hx hb hdg ht (fun h => kt h H locs ls hP hD hS hL) (fun h => kf h H locs ls hP hD hS hL)
theorem j_icmp_ne (C : jK l D G KV own cc nL ret R mc ms nm PP K) {x y : Int32} {off : Int} {tgt : Nat} (hdg : decode cc pc = .ok (.if_icmp .ne off, 3)) (ht : (pc : Int) + off = (tgt : Int)) (kt : ¬ x = y → K cs sl ws tgt L rest) (kf : x = y → K cs sl ws (pc + 3) L rest) : K cs sl ws pc L (.int y :: .int x :: rest) := by
  obtain ⟨p, e, s, m, args, below, meth, c, A, Qc, hx, hb, hml, hown, hts, hr, hlk, hnm, hK, hE, hA, hend, rfl⟩ := C
  exact fun H locs ls hP hD hS hL => lv_icmp_ne hx hb hdg ht (fun h => kt h H locs ls hP hD hS hL) (fun h => kf h H locs ls hP hD hS hL)
theorem j_icmp_lt (C : jK l D G KV own cc nL ret R mc ms nm PP K) {x y : Int32} {off : Int} {tgt : Nat} (hdg : decode cc pc = .ok (.if_icmp .lt off, 3)) (ht : (pc : Int) + off = (tgt : Int)) (kt : x < y → K cs sl ws tgt L rest) (kf : ¬ (x < y) → K cs sl ws (pc + 3) L rest) : K cs sl ws pc L (.int y :: .int x :: rest) := by
  obtain ⟨p, e, s, m, args, below, meth, c, A, Qc, hx, hb, hml, hown, hts, hr, hlk, hnm, hK, hE, hA, hend, rfl⟩ := C
  exact fun H locs ls hP hD hS hL => lv_icmp_lt hx hb hdg ht (fun h => kt h H locs ls hP hD hS hL) (fun h => kf h H locs ls hP hD hS hL)
theorem j_icmp_ge (C : jK l D G KV own cc nL ret R mc ms nm PP K) {x y : Int32} {off : Int} {tgt : Nat} (hdg : decode cc pc = .ok (.if_icmp .ge off, 3)) (ht : (pc : Int) + off = (tgt : Int)) (kt : y ≤ x → K cs sl ws tgt L rest) (kf : ¬ (y ≤ x) → K cs sl ws (pc + 3) L rest) : K cs sl ws pc L (.int y :: .int x :: rest) := by
  obtain ⟨p, e, s, m, args, below, meth, c, A, Qc, hx, hb, hml, hown, hts, hr, hlk, hnm, hK, hE, hA, hend, rfl⟩ := C
  exact fun H locs ls hP hD hS hL => lv_icmp_ge hx hb hdg ht (fun h => kt h H locs ls hP hD hS hL) (fun h => kf h H locs ls hP hD hS hL)
theorem j_icmp_gt (C : jK l D G KV own cc nL ret R mc ms nm PP K) {x y : Int32} {off : Int} {tgt : Nat} (hdg : decode cc pc = .ok (.if_icmp .gt off, 3)) (ht : (pc : Int) + off = (tgt : Int)) (kt : y < x → K cs sl ws tgt L rest) (kf : ¬ (y < x) → K cs sl ws (pc + 3) L rest) : K cs sl ws pc L (.int y :: .int x :: rest) := by
  obtain ⟨p, e, s, m, args, below, meth, c, A, Qc, hx, hb, hml, hown, hts, hr, hlk, hnm, hK, hE, hA, hend, rfl⟩ := C
  exact fun H locs ls hP hD hS hL => lv_icmp_gt hx hb hdg ht (fun h => kt h H locs ls hP hD hS hL) (fun h => kf h H locs ls hP hD hS hL)
theorem j_icmp_le (C : jK l D G KV own cc nL ret R mc ms nm PP K) {x y : Int32} {off : Int} {tgt : Nat} (hdg : decode cc pc = .ok (.if_icmp .le off, 3)) (ht : (pc : Int) + off = (tgt : Int)) (kt : x ≤ y → K cs sl ws tgt L rest) (kf : ¬ (x ≤ y) → K cs sl ws (pc + 3) L rest) : K cs sl ws pc L (.int y :: .int x :: rest) := by
  obtain ⟨p, e, s, m, args, below, meth, c, A, Qc, hx, hb, hml, hown, hts, hr, hlk, hnm, hK, hE, hA, hend, rfl⟩ := C
  exact fun H locs ls hP hD hS hL => lv_icmp_le hx hb hdg ht (fun h => kt h H locs ls hP hD hS hL) (fun h => kf h H locs ls hP hD hS hL)
theorem j_tin (C : jK l D G KV own cc nL ret R mc ms nm PP K) {dflt lo hi : Int} {offs : Array Int} {len : Nat} {x : Int32} {off : Int} {tgt : Nat} (hdg : decode cc pc = .ok (.tableswitch dflt lo hi offs, len)) (h1 : ¬ x.toInt < lo) (h2 : ¬ hi < x.toInt) (ho : offs[(x.toInt - lo).toNat]? = some off) (ht : (pc : Int) + off = (tgt : Int)) (k : K cs sl ws tgt L rest) : K cs sl ws pc L (.int x :: rest) := by
  obtain ⟨p, e, s, m, args, below, meth, c, A, Qc, hx, hb, hml, hown, hts, hr, hlk, hnm, hK, hE, hA, hend, rfl⟩ := C
  exact fun H locs ls hP hD hS hL => lv_tableIn hx hb hdg h1 h2 ho ht (k H locs ls hP hD hS hL)
theorem j_tout (C : jK l D G KV own cc nL ret R mc ms nm PP K) {dflt lo hi : Int} {offs : Array Int} {len : Nat} {x : Int32} {tgt : Nat} (hdg : decode cc pc = .ok (.tableswitch dflt lo hi offs, len)) (h : x.toInt < lo ∨ hi < x.toInt) (ht : (pc : Int) + dflt = (tgt : Int)) (k : K cs sl ws tgt L rest) : K cs sl ws pc L (.int x :: rest) := by
  obtain ⟨p, e, s, m, args, below, meth, c, A, Qc, hx, hb, hml, hown, hts, hr, hlk, hnm, hK, hE, hA, hend, rfl⟩ := C
  exact fun H locs ls hP hD hS hL => lv_tableOut hx hb hdg h ht (k H locs ls hP hD hS hL)
theorem j_loc (C : jK l D G KV own cc nL ret R mc ms nm PP K) {L' : List (Nat × Value)} (qs : List Nat) (hl : lv_pick L qs = L') (k : K cs sl ws pc L' rest) : K cs sl ws pc L rest := by
  obtain ⟨p, e, s, m, args, below, meth, c, A, Qc, hx, hb, hml, hown, hts, hr, hlk, hnm, hK, hE, hA, hend, rfl⟩ := C
  exact fun H locs ls hP hD hS hL => k H locs ls hP hD hS (lv_sub hL qs hl)
theorem j_get (C : jK l D G KV own cc nL ret R mc ms nm PP K) {ref Cn : String} {T : u_T} {N ci idx a : Nat} (hdg : decode cc pc = .ok (.getfield idx, 3)) (hin : ∀ w ∈ u_ws Cn T N, w ∈ tW) (hc : classes[ci]? = some (Cn, T, N)) (q0 : Nat) {fs : List Value} (he : ws[q0]? = some (a, .inr (ci, fs))) (j : Nat) (hj : j < N) (hlink : Cond.fieldLink own idx ref (T j).2.1 (T j).2.2.1 ∈ tW) (hsame : (T j).1 = ref) {v : Value} (hv : fs[j]? = some v) (k : K cs sl ws (pc + 3) L (v :: rest)) : K cs sl ws pc L (.ref a :: rest) := by
  obtain ⟨p, e, s, m, args, below, meth, c, A, Qc, hx, hb, hml, hown, hts, hr, hlk, hnm, hK, hE, hA, hend, rfl⟩ := C
  exact fun H locs ls hP hD hS hL => va_get (D := D) (ci := ci) (C := Cn) (T := T) (N := N) hx hb hts hin hown hK hP q0 he hc j hj (hts _ hlink) (fun _ h => by rw [← hsame]; exact h) hv hdg (k H locs ls hP hD hS hL)
theorem j_put (C : jK l D G KV own cc nL ret R mc ms nm PP K) {ref Cn : String} {T : u_T} {N ci idx a : Nat} (hdg : decode cc pc = .ok (.putfield idx, 3)) (hin : ∀ w ∈ u_ws Cn T N, w ∈ tW) (ty0 : Nat → FieldType) (hty : ∀ k, k < N → parseFieldDescriptor (T k).2.2.1 = some (ty0 k)) (hnm0 : ∀ a, a < N → ∀ b, b < N → a ≠ b → (T a).2.1 ≠ (T b).2.1) (hc : classes[ci]? = some (Cn, T, N)) (q0 : Nat) {fs : List Value} (he : ws[q0]? = some (a, .inr (ci, fs))) (j : Nat) (hj : j < N) (hlink : Cond.fieldLink own idx ref (T j).2.1 (T j).2.2.1 ∈ tW) (hsame : (T j).1 = ref) (hfin : (T j).2.2.2 = false) {v : Value} (hn : narrow (ty0 j) v = v) (hfit : fits (ty0 j) v = true) (hlen : j < fs.length) (k : K cs sl (ws.set q0 (a, .inr (ci, fs.set j v))) (pc + 3) L rest) : K cs sl ws pc L (v :: .ref a :: rest) := by
  obtain ⟨p, e, s, m, args, below, meth, c, A, Qc, hx, hb, hml, hown, hts, hr, hlk, hnm, hK, hE, hA, hend, rfl⟩ := C
  exact fun H locs ls hP hD hS hL => va_put (D := D) (ci := ci) (C := Cn) (T := T) (N := N) hx hb hts hin ty0 hty hnm0 hown hK hP hD hS q0 he hc j hj (hts _ hlink) (fun _ h => by rw [← hsame]; exact h) hfin (hty j hj) hn hfit hlen hdg (fun H1 locs1 hP hD hS => k H1 locs1 ls hP hD hS hL)
theorem j_putF (C : jK l D G KV own cc nL ret R mc ms nm PP K) {ref Cn : String} {T : u_T} {N ci idx a : Nat} (hdg : decode cc pc = .ok (.putfield idx, 3)) (hin : ∀ w ∈ u_ws Cn T N, w ∈ tW) (ty0 : Nat → FieldType) (hty : ∀ k, k < N → parseFieldDescriptor (T k).2.2.1 = some (ty0 k)) (hnm0 : ∀ a, a < N → ∀ b, b < N → a ≠ b → (T a).2.1 ≠ (T b).2.1) (hc : classes[ci]? = some (Cn, T, N)) (q0 : Nat) {fs : List Value} (he : ws[q0]? = some (a, .inr (ci, fs))) (j : Nat) (hj : j < N) (hlink : Cond.fieldLink own idx ref (T j).2.1 (T j).2.2.1 ∈ tW) (hsame : (T j).1 = ref) (hfin : (T j).2.2.2 = true) (hini : nm = "<init>") (hdecl : (T j).1 = own) {v : Value} (hn : narrow (ty0 j) v = v) (hfit : fits (ty0 j) v = true) (hlen : j < fs.length) (k : K cs sl (ws.set q0 (a, .inr (ci, fs.set j v))) (pc + 3) L rest) : K cs sl ws pc L (v :: .ref a :: rest) := by
  obtain ⟨p, e, s, m, args, below, meth, c, A, Qc, hx, hb, hml, hown, hts, hr, hlk, hnm, hK, hE, hA, hend, rfl⟩ := C
  exact fun H locs ls hP hD hS hL => va_putF (D := D) (ci := ci) (C := Cn) (T := T) (N := N) hx hb hts hin ty0 hty hnm0 hown hK hP hD hS q0 he hc j hj (hts _ hlink) (fun _ h => by rw [← hsame]; exact h) hfin (hnm.trans hini) hdecl (hty j hj) hn hfit hlen hdg (fun H1 locs1 hP hD hS => k H1 locs1 ls hP hD hS hL)
theorem j_putI (C : jK l D G KV own cc nL ret R mc ms nm PP K) {ref Cn : String} {T : u_T} {N ci idx : Nat} {Nw : Nat} {cell : jC} {ad : Nat → Nat} {s0 : jS} {q0 : Nat} (hdg : decode cc pc = .ok (.putfield idx, 3)) (hin : ∀ w ∈ u_ws Cn T N, w ∈ tW) (ty0 : Nat → FieldType) (hty : ∀ k, k < N → parseFieldDescriptor (T k).2.2.1 = some (ty0 k)) (hnm : ∀ a, a < N → ∀ b, b < N → a ≠ b → (T a).2.1 ≠ (T b).2.1) (hc : classes[ci]? = some (Cn, T, N)) (hq : q0 < Nw) {fs : List Value} (j : Nat) {x : Int32} (he : cell ad q0 (s0.1 q0) (s0.2 q0) = .inr (ci, fs)) (he2 : cell ad q0 (upd (s0.1 q0) j x) (s0.2 q0) = .inr (ci, fs.set j (.int x))) (hj : j < N) (hlink : Cond.fieldLink own idx ref (T j).2.1 (T j).2.2.1 ∈ tW) (hsame : (T j).1 = ref) (hfin : (T j).2.2.2 = false) (hn : narrow (ty0 j) (.int x) = .int x) (hfit : fits (ty0 j) (.int x) = true) (hlen : j < fs.length) (k : ∀ z : jS, z = upI s0 q0 j x → K cs sl (jw Nw cell ad z) (pc + 3) L rest) : K cs sl (jw Nw cell ad s0) pc L (.int x :: .ref (ad q0) :: rest) := by
  refine j_put C hdg hin ty0 hty hnm hc q0 (by rw [jw_at hq, he]) j hj hlink hsame hfin hn hfit hlen ?_
  have h := jw_set (cell := cell) (ad := ad) (s := s0) (s' := upI s0 q0 j x) hq (fun i hi => va_up_off _ _ hi) (fun _ _ => rfl)
  rw [show (upI s0 q0 j x).1 q0 = upd (s0.1 q0) j x from va_up_at _ _ _, show (upI s0 q0 j x).2 q0 = s0.2 q0 from rfl, he2] at h
  rw [h]
  exact k _ rfl
theorem j_putL (C : jK l D G KV own cc nL ret R mc ms nm PP K) {ref Cn : String} {T : u_T} {N ci idx : Nat} {Nw : Nat} {cell : jC} {ad : Nat → Nat} {s0 : jS} {q0 : Nat} (hdg : decode cc pc = .ok (.putfield idx, 3)) (hin : ∀ w ∈ u_ws Cn T N, w ∈ tW) (ty0 : Nat → FieldType) (hty : ∀ k, k < N → parseFieldDescriptor (T k).2.2.1 = some (ty0 k)) (hnm : ∀ a, a < N → ∀ b, b < N → a ≠ b → (T a).2.1 ≠ (T b).2.1) (hc : classes[ci]? = some (Cn, T, N)) (hq : q0 < Nw) {fs : List Value} (j : Nat) {x : Int64} (he : cell ad q0 (s0.1 q0) (s0.2 q0) = .inr (ci, fs)) (he2 : cell ad q0 (s0.1 q0) (vp_updL (s0.2 q0) j x) = .inr (ci, fs.set j (.long x))) (hj : j < N) (hlink : Cond.fieldLink own idx ref (T j).2.1 (T j).2.2.1 ∈ tW) (hsame : (T j).1 = ref) (hfin : (T j).2.2.2 = false) (hn : narrow (ty0 j) (.long x) = .long x) (hfit : fits (ty0 j) (.long x) = true) (hlen : j < fs.length) (k : ∀ z : jS, z = upL s0 q0 j x → K cs sl (jw Nw cell ad z) (pc + 3) L rest) : K cs sl (jw Nw cell ad s0) pc L (.long x :: .ref (ad q0) :: rest) := by
  refine j_put C hdg hin ty0 hty hnm hc q0 (by rw [jw_at hq, he]) j hj hlink hsame hfin hn hfit hlen ?_
  have h := jw_set (cell := cell) (ad := ad) (s := s0) (s' := upL s0 q0 j x) hq (fun _ _ => rfl) (fun i hi => va_up_off _ _ hi)
  rw [show (upL s0 q0 j x).1 q0 = s0.1 q0 from rfl, show (upL s0 q0 j x).2 q0 = vp_updL (s0.2 q0) j x from va_up_at _ _ _, he2] at h
  rw [h]
  exact k _ rfl
theorem j_iald (C : jK l D G KV own cc nL ret R mc ms nm PP K) {a n : Nat} {f : Nat → Int32} {i : Int32} (hdg : decode cc pc = .ok (.iaload, 1)) (q0 : Nat) (he : ws[q0]? = some (a, .inl (G 0, n, .inl f))) (hi : vp_in i n) (k : K cs sl ws (pc + 1) L (.int (f i.toNatClampNeg) :: rest)) : K cs sl ws pc L (.int i :: .ref a :: rest) := by
  obtain ⟨p, e, s, m, args, below, meth, c, A, Qc, hx, hb, hml, hown, hts, hr, hlk, hnm, hK, hE, hA, hend, rfl⟩ := C
  exact fun H locs ls hP hD hS hL => va_iald hx hb hK hP q0 0 he rfl hi hdg (k H locs ls hP hD hS hL)
theorem j_bald (C : jK l D G KV own cc nL ret R mc ms nm PP K) {a n : Nat} {f : Nat → Int32} {i : Int32} (hdg : decode cc pc = .ok (.baload, 1)) (q0 : Nat) (he : ws[q0]? = some (a, .inl (G 3, n, .inl f))) (hi : vp_in i n) (k : K cs sl ws (pc + 1) L (.int (f i.toNatClampNeg) :: rest)) : K cs sl ws pc L (.int i :: .ref a :: rest) := by
  obtain ⟨p, e, s, m, args, below, meth, c, A, Qc, hx, hb, hml, hown, hts, hr, hlk, hnm, hK, hE, hA, hend, rfl⟩ := C
  exact fun H locs ls hP hD hS hL => va_bald hx hb hK hP q0 3 he rfl hi hdg (k H locs ls hP hD hS hL)
theorem j_zald (C : jK l D G KV own cc nL ret R mc ms nm PP K) {a n : Nat} {f : Nat → Int32} {i : Int32} (hdg : decode cc pc = .ok (.baload, 1)) (q0 : Nat) (he : ws[q0]? = some (a, .inl (G 2, n, .inl f))) (hi : vp_in i n) (k : K cs sl ws (pc + 1) L (.int (f i.toNatClampNeg) :: rest)) : K cs sl ws pc L (.int i :: .ref a :: rest) := by
  obtain ⟨p, e, s, m, args, below, meth, c, A, Qc, hx, hb, hml, hown, hts, hr, hlk, hnm, hK, hE, hA, hend, rfl⟩ := C
  exact fun H locs ls hP hD hS hL => va_zald hx hb hK hP q0 2 he rfl hi hdg (k H locs ls hP hD hS hL)
theorem j_lald (C : jK l D G KV own cc nL ret R mc ms nm PP K) {a n : Nat} {f : Nat → Int64} {i : Int32} (hdg : decode cc pc = .ok (.laload, 1)) (q0 : Nat) (he : ws[q0]? = some (a, .inl (G 1, n, .inr (.inl f)))) (hi : vp_in i n) (k : K cs sl ws (pc + 1) L (.long (f i.toNatClampNeg) :: rest)) : K cs sl ws pc L (.int i :: .ref a :: rest) := by
  obtain ⟨p, e, s, m, args, below, meth, c, A, Qc, hx, hb, hml, hown, hts, hr, hlk, hnm, hK, hE, hA, hend, rfl⟩ := C
  exact fun H locs ls hP hD hS hL => va_lald hx hb hK hP q0 1 he rfl hi hdg (k H locs ls hP hD hS hL)
theorem j_aald (C : jK l D G KV own cc nL ret R mc ms nm PP K) {a n : Nat} {f : Nat → Option Nat} {i : Int32} (hdg : decode cc pc = .ok (.aaload, 1)) (q0 : Nat) (he : ws[q0]? = some (a, .inl (G 4, n, .inr (.inr (.inr (.inr f)))))) (hi : vp_in i n) (k : K cs sl ws (pc + 1) L (va_rf (f i.toNatClampNeg) :: rest)) : K cs sl ws pc L (.int i :: .ref a :: rest) := by
  obtain ⟨p, e, s, m, args, below, meth, c, A, Qc, hx, hb, hml, hown, hts, hr, hlk, hnm, hK, hE, hA, hend, rfl⟩ := C
  exact fun H locs ls hP hD hS hL => va_aldq hx hb hK hP q0 4 he rfl hi hdg (k H locs ls hP hD hS hL)
theorem j_iast (C : jK l D G KV own cc nL ret R mc ms nm PP K) {a n : Nat} {f : Nat → Int32} {i : Int32} {x : Int32} (hdg : decode cc pc = .ok (.iastore, 1)) (q0 : Nat) (he : ws[q0]? = some (a, .inl (G 0, n, .inl  f))) (hi : vp_in i n) (k : K cs sl (ws.set q0 (a, .inl (G 0, n, .inl  (upd f i.toNatClampNeg x)))) (pc + 1) L rest) : K cs sl ws pc L (.int x :: .int i :: .ref a :: rest) := by
  obtain ⟨p, e, s, m, args, below, meth, c, A, Qc, hx, hb, hml, hown, hts, hr, hlk, hnm, hK, hE, hA, hend, rfl⟩ := C
  exact fun H locs ls hP hD hS hL => va_iast hx hb hK hP hD hS q0 0 he rfl hi hdg (fun H1 locs1 hP hD hS => k H1 locs1 ls hP hD hS hL)
theorem j_iastW (C : jK l D G KV own cc nL ret R mc ms nm PP K) {n Nw : Nat} {cell : jC} {ad : Nat → Nat} {s0 : jS} {q0 : Nat} {i : Int32} {x : Int32} (hdg : decode cc pc = .ok (.iastore, 1)) (hq : q0 < Nw) (he : ∀ r : Nat → Int32, cell ad q0 r (s0.2 q0) = .inl (G 0, n, .inl r)) (hi : vp_in i n) (k : ∀ z : jS, z = upI s0 q0 i.toNatClampNeg x → K cs sl (jw Nw cell ad z) (pc + 1) L rest) : K cs sl (jw Nw cell ad s0) pc L (.int x :: .int i :: .ref (ad q0) :: rest) := by
  refine j_iast C hdg q0 (by rw [jw_at hq, he]) hi ?_
  have h := jw_set (cell := cell) (ad := ad) (s := s0) (s' := upI s0 q0 i.toNatClampNeg x) hq (fun i hi => va_up_off _ _ hi) (fun _ _ => rfl)
  rw [show (upI s0 q0 i.toNatClampNeg x).1 q0 = upd (s0.1 q0) i.toNatClampNeg x from va_up_at _ _ _, show (upI s0 q0 i.toNatClampNeg x).2 q0 = s0.2 q0 from rfl, he] at h
  rw [h]
  exact k _ rfl
theorem j_bast (C : jK l D G KV own cc nL ret R mc ms nm PP K) {a n : Nat} {f : Nat → Int32} {i : Int32} {x : Int32} (hdg : decode cc pc = .ok (.bastore, 1)) (q0 : Nat) (he : ws[q0]? = some (a, .inl (G 3, n, .inl  f))) (hi : vp_in i n) (k : K cs sl (ws.set q0 (a, .inl (G 3, n, .inl  (upd f i.toNatClampNeg (vp_nar .byte x))))) (pc + 1) L rest) : K cs sl ws pc L (.int x :: .int i :: .ref a :: rest) := by
  obtain ⟨p, e, s, m, args, below, meth, c, A, Qc, hx, hb, hml, hown, hts, hr, hlk, hnm, hK, hE, hA, hend, rfl⟩ := C
  exact fun H locs ls hP hD hS hL => va_bast hx hb hK hP hD hS q0 3 he rfl hi hdg (fun H1 locs1 hP hD hS => k H1 locs1 ls hP hD hS hL)
theorem j_bastW (C : jK l D G KV own cc nL ret R mc ms nm PP K) {n Nw : Nat} {cell : jC} {ad : Nat → Nat} {s0 : jS} {q0 : Nat} {i : Int32} {x : Int32} (hdg : decode cc pc = .ok (.bastore, 1)) (hq : q0 < Nw) (he : ∀ r : Nat → Int32, cell ad q0 r (s0.2 q0) = .inl (G 3, n, .inl r)) (hi : vp_in i n) (k : ∀ z : jS, z = upI s0 q0 i.toNatClampNeg (vp_nar .byte x) → K cs sl (jw Nw cell ad z) (pc + 1) L rest) : K cs sl (jw Nw cell ad s0) pc L (.int x :: .int i :: .ref (ad q0) :: rest) := by
  refine j_bast C hdg q0 (by rw [jw_at hq, he]) hi ?_
  have h := jw_set (cell := cell) (ad := ad) (s := s0) (s' := upI s0 q0 i.toNatClampNeg (vp_nar .byte x)) hq (fun i hi => va_up_off _ _ hi) (fun _ _ => rfl)
  rw [show (upI s0 q0 i.toNatClampNeg (vp_nar .byte x)).1 q0 = upd (s0.1 q0) i.toNatClampNeg (vp_nar .byte x) from va_up_at _ _ _, show (upI s0 q0 i.toNatClampNeg (vp_nar .byte x)).2 q0 = s0.2 q0 from rfl, he] at h
  rw [h]
  exact k _ rfl
theorem j_zast (C : jK l D G KV own cc nL ret R mc ms nm PP K) {a n : Nat} {f : Nat → Int32} {i : Int32} {x : Int32} (hdg : decode cc pc = .ok (.bastore, 1)) (q0 : Nat) (he : ws[q0]? = some (a, .inl (G 2, n, .inl  f))) (hi : vp_in i n) (k : K cs sl (ws.set q0 (a, .inl (G 2, n, .inl  (upd f i.toNatClampNeg (vp_nar .boolean x))))) (pc + 1) L rest) : K cs sl ws pc L (.int x :: .int i :: .ref a :: rest) := by
  obtain ⟨p, e, s, m, args, below, meth, c, A, Qc, hx, hb, hml, hown, hts, hr, hlk, hnm, hK, hE, hA, hend, rfl⟩ := C
  exact fun H locs ls hP hD hS hL => va_zast hx hb hK hP hD hS q0 2 he rfl hi hdg (fun H1 locs1 hP hD hS => k H1 locs1 ls hP hD hS hL)
theorem j_zastW (C : jK l D G KV own cc nL ret R mc ms nm PP K) {n Nw : Nat} {cell : jC} {ad : Nat → Nat} {s0 : jS} {q0 : Nat} {i : Int32} {x : Int32} (hdg : decode cc pc = .ok (.bastore, 1)) (hq : q0 < Nw) (he : ∀ r : Nat → Int32, cell ad q0 r (s0.2 q0) = .inl (G 2, n, .inl r)) (hi : vp_in i n) (k : ∀ z : jS, z = upI s0 q0 i.toNatClampNeg (vp_nar .boolean x) → K cs sl (jw Nw cell ad z) (pc + 1) L rest) : K cs sl (jw Nw cell ad s0) pc L (.int x :: .int i :: .ref (ad q0) :: rest) := by
  refine j_zast C hdg q0 (by rw [jw_at hq, he]) hi ?_
  have h := jw_set (cell := cell) (ad := ad) (s := s0) (s' := upI s0 q0 i.toNatClampNeg (vp_nar .boolean x)) hq (fun i hi => va_up_off _ _ hi) (fun _ _ => rfl)
  rw [show (upI s0 q0 i.toNatClampNeg (vp_nar .boolean x)).1 q0 = upd (s0.1 q0) i.toNatClampNeg (vp_nar .boolean x) from va_up_at _ _ _, show (upI s0 q0 i.toNatClampNeg (vp_nar .boolean x)).2 q0 = s0.2 q0 from rfl, he] at h
  rw [h]
  exact k _ rfl
theorem j_last (C : jK l D G KV own cc nL ret R mc ms nm PP K) {a n : Nat} {f : Nat → Int64} {i : Int32} {x : Int64} (hdg : decode cc pc = .ok (.lastore, 1)) (q0 : Nat) (he : ws[q0]? = some (a, .inl (G 1, n, .inr (.inl f)))) (hi : vp_in i n) (k : K cs sl (ws.set q0 (a, .inl (G 1, n, .inr (.inl (vp_updL f i.toNatClampNeg x))))) (pc + 1) L rest) : K cs sl ws pc L (.long x :: .int i :: .ref a :: rest) := by
  obtain ⟨p, e, s, m, args, below, meth, c, A, Qc, hx, hb, hml, hown, hts, hr, hlk, hnm, hK, hE, hA, hend, rfl⟩ := C
  exact fun H locs ls hP hD hS hL => va_last hx hb hK hP hD hS q0 1 he rfl hi hdg (fun H1 locs1 hP hD hS => k H1 locs1 ls hP hD hS hL)
theorem j_lastW (C : jK l D G KV own cc nL ret R mc ms nm PP K) {n Nw : Nat} {cell : jC} {ad : Nat → Nat} {s0 : jS} {q0 : Nat} {i : Int32} {x : Int64} (hdg : decode cc pc = .ok (.lastore, 1)) (hq : q0 < Nw) (he : ∀ r : Nat → Int64, cell ad q0 (s0.1 q0) r = .inl (G 1, n, .inr (.inl r))) (hi : vp_in i n) (k : ∀ z : jS, z = upL s0 q0 i.toNatClampNeg x → K cs sl (jw Nw cell ad z) (pc + 1) L rest) : K cs sl (jw Nw cell ad s0) pc L (.long x :: .int i :: .ref (ad q0) :: rest) := by
  refine j_last C hdg q0 (by rw [jw_at hq, he]) hi ?_
  have h := jw_set (cell := cell) (ad := ad) (s := s0) (s' := upL s0 q0 i.toNatClampNeg x) hq (fun _ _ => rfl) (fun i hi => va_up_off _ _ hi)
  rw [show (upL s0 q0 i.toNatClampNeg x).1 q0 = s0.1 q0 from rfl, show (upL s0 q0 i.toNatClampNeg x).2 q0 = vp_updL (s0.2 q0) i.toNatClampNeg x from va_up_at _ _ _, he] at h
  rw [h]
  exact k _ rfl
theorem j_alen (C : jK l D G KV own cc nL ret R mc ms nm PP K) {a t : Nat} {ar : vp_A} (hdg : decode cc pc = .ok (.arraylength, 1)) (q0 : Nat) (he : ws[q0]? = some (a, .inl (G t, ar))) (ht : t < 5) {v : Int32} (hv : Int32.ofNat ar.1 = v) (k : K cs sl ws (pc + 1) L (.int v :: rest)) : K cs sl ws pc L (.ref a :: rest) := by
  obtain ⟨p, e, s, m, args, below, meth, c, A, Qc, hx, hb, hml, hown, hts, hr, hlk, hnm, hK, hE, hA, hend, rfl⟩ := C
  intro H locs ls hP hD hS hL
  have h : ∃ ty, (jtys G)[t]? = some (G t, ty) := by
    match t, ht with
    | 0, _ => exact ⟨_, rfl⟩
    | 1, _ => exact ⟨_, rfl⟩
    | 2, _ => exact ⟨_, rfl⟩
    | 3, _ => exact ⟨_, rfl⟩
    | 4, _ => exact ⟨_, rfl⟩
  obtain ⟨ty, ht2⟩ := h
  exact va_alen hx hb hK hP q0 t he ht2 hv hdg (k H locs ls hP hD hS hL)
theorem j_iret (C : jK l D G KV own cc nL ret R mc ms nm PP K) {v : Int32} (hdg : decode cc pc = .ok (.ireturn, 1)) {ty : FieldType} (hret : ret = some ty) (hn : narrow ty (.int v) = .int v) (h1 : cs ≤ mc) (h2 : sl ≤ ms) (hp : PP (some (.int v)) ws) : K cs sl ws pc L [.int v] := by
  obtain ⟨p, e, s, m, args, below, meth, c, A, Qc, hx, hb, hml, hown, hts, hr, hlk, hnm, hK, hE, hA, hend, rfl⟩ := C
  exact fun H locs ls hP hD hS hL => W.widen h1 h2 (W.zret hx hb (hr.trans hret) hn (fun t ht hW => hend _ ws H locs t hP hD hS hp ht hW) hS.2.2 hdg hlk)
theorem j_lret (C : jK l D G KV own cc nL ret R mc ms nm PP K) {v : Int64} (hdg : decode cc pc = .ok (.lreturn, 1)) (hret : ret = some .long) (h1 : cs ≤ mc) (h2 : sl ≤ ms) (hp : PP (some (.long v)) ws) : K cs sl ws pc L [.long v] := by
  obtain ⟨p, e, s, m, args, below, meth, c, A, Qc, hx, hb, hml, hown, hts, hr, hlk, hnm, hK, hE, hA, hend, rfl⟩ := C
  exact fun H locs ls hP hD hS hL => W.widen h1 h2 (W.lret hx hb (hr.trans hret) (fun t ht hW => hend _ ws H locs t hP hD hS hp ht hW) hS.2.2 hdg hlk)
theorem j_vret (C : jK l D G KV own cc nL ret R mc ms nm PP K) (hdg : decode cc pc = .ok (.return_, 1)) (hret : ret = none) (h1 : cs ≤ mc) (h2 : sl ≤ ms) (hp : PP none ws) : K cs sl ws pc L [] := by
  obtain ⟨p, e, s, m, args, below, meth, c, A, Qc, hx, hb, hml, hown, hts, hr, hlk, hnm, hK, hE, hA, hend, rfl⟩ := C
  exact fun H locs ls hP hD hS hL => W.widen h1 h2 (W.vret hx hb (hr.trans hret) (fun t ht hW => hend _ ws H locs t hP hD hS hp ht hW) hS.2.2 hdg hlk)
theorem jr_call {p : Program} {e : Env} {s : State} {m : MethodId} {args : Array Value} {below : List Frame} {meth : Method} {c : Code} {A : Nat → Prop} {Q : State → Prop} {H : Heap} {locs : List Loc} {mc' ms' sz : Nat} {PP' : Option Value → va_W → Prop} {st0 : List Value} {ls : Array Slot} {av : Array Value}
    (hsz : sz = H.size) (hr : va_Run p l e R s m args below meth c H locs cs sl mc' ms' (F0 m pc ls st0) rest (jQ D G PP' (va_A ws sz) av) (va_A ws sz)) (hS : va_S A s.heap H locs) (hA : ∀ q, va_A ws sz q → A q)
    (kk : ∀ (v : Option Value) (u : va_W) (H1 : Heap) (locs1 : List Loc), PP' v u → va_P D classes u H1 → va_D A u → va_S A s.heap H1 locs1 → W p l e R s m args below meth c H1 locs1 (cs + mc') (sl + ms') Q (F0 m (pc + 3) ls (v.toList ++ rest))) : W p l e R s m args below meth c H locs cs sl Q (F0 m pc ls st0) := by
  intro T hT X
  obtain ⟨v, st₀, t, T', L, h0, X', hL, e1, e2, ⟨⟨v2, u, hv, hp, hb1, hb2, hb3⟩, hz, hk⟩, st⟩ := hr T hT X
  cases hv
  rw [h0] at hz hk
  obtain ⟨t2, a1, b1⟩ := kk v u T'.heap (locs ++ L) hp (by rw [e1]; exact hb1) (hb3.weaken (fun _ q _ h => hA q.1 h))
    ⟨Nat.le_trans hS.1 (by rw [e1]; exact hz), fun q h1 h2 => by rw [e1, hk q (Nat.lt_of_lt_of_le h1 hS.1) (fun z => h2 (hA q z))]; exact hS.2.1 q h1 h2, fun q hq => by
      rcases List.mem_append.mp hq with h | h
      · exact hS.2.2 q h
      · exact hA _ (hL q h)⟩ T' rfl X'
  exact ⟨t2, st t2 a1, b1⟩
theorem jr_A {A : Nat → Prop} {s : State} {H : Heap} {locs : List Loc} (hD : va_D A ws) (hS : va_S A s.heap H locs) (hA : ∀ q, s.heap.size ≤ q → A q) : ∀ q, va_A ws H.size q → A q := by
  intro q h
  rcases h with ⟨k, e, h⟩ | h
  · exact hD.2 k (q, e) h
  · exact hA q (Nat.le_trans hS.1 h)
theorem jr_blind {av : List Value} {sz : Nat} {A : Nat → Prop} : FrameBlind (va_Pc av (fun U => U.heap.size = sz ∧ va_P D classes ws U.heap ∧ va_K D classes (jtys G) U ∧ va_D (fun _ => True) ws ∧ jE KV A U)) := by
  intro a U g mk q
  obtain ⟨q0, q1, qP, qK, qD, qE⟩ := q
  exact ⟨q0, q1, qP, va_K.moved (u := U) (U := U.calling g mk a) (Vm.Alike.refl U.vm) qK, qD, qE.calling⟩
theorem jr_pre {av : List Value} {s U : State} {A : Nat → Prop} {H : Heap} {locs : List Loc} (hK : va_K D classes (jtys G) s) (hE : jE KV A s) (hA : ∀ q, s.heap.size ≤ q → A q) (hP : va_P D classes ws H) (hD : va_D A ws) (hS : va_S A s.heap H locs) (hU : U.heap = H) (hW : s.WarmedH U.vm) :
    va_Pc av (fun U => U.heap.size = H.size ∧ va_P D classes ws U.heap ∧ va_K D classes (jtys G) U ∧ va_D (fun _ => True) ws ∧ jE KV (va_A ws H.size) U) av.toArray U :=
  ⟨rfl, by rw [hU], by rw [hU]; exact hP, va_K.moved hW.alike hK, hD.weaken (fun _ _ _ _ => trivial), hE.call hS hU hW (jr_A hD hS hA)⟩
/-- what a call's word and room must be: the callee's frames, locals and new cells fit -/
abbrev jfit (R rm : Room) (nL' mc' ms' cs sl : Nat) : Prop := (rm.frames + 1 ≤ R.frames ∧ 8 + (nL' + 11) + rm.locals ≤ R.locals) ∧ (rm.cells = mc' ∧ rm.slots = ms') ∧ (cs + mc' ≤ R.cells ∧ sl + ms' ≤ R.slots)
abbrev jyes (y : MethodName) (n : Nat) : Prop := y.cls ≠ "java/lang/invoke/MethodHandle" ∧ y.cls ≠ "java/lang/invoke/VarHandle" ∧ (parseMethodDescriptor y.desc).map (fun d => d.parameters.length) = some n
theorem j_callS (C : jK l D G KV own cc nL ret R mc ms nm PP K) {y : MethodName} {b : ByteArray} {nL' : Nat} {ret' : Option FieldType} {rm : Room} {av st : List Value} {mc' ms' idx : Nat} {PP' : Option Value → va_W → Prop} (hdg : decode cc pc = .ok (.invokestatic idx, 3)) (hM : jM l D G KV y b nL' ret' rm av ws mc' ms' PP') (hcode : Cond.code y b nL' ret' ∈ tW) (hlink : Cond.methodLink own idx y ∈ tW) (hst : Cond.static y ∈ tW) (hini : Cond.initialized y.cls ∈ tW) (hy : jyes y av.length) (hf : jfit R rm nL' mc' ms' cs sl) (hw : (rest.map fun v => v.category).sum ≤ 8) (hs : st = av.reverse ++ rest)
    (k : ∀ (v : Option Value) (u : va_W), PP' v u → K (cs + mc') (sl + ms') u (pc + 3) L (v.toList ++ rest)) : K cs sl ws pc L st := by
  obtain ⟨p, e, s, m, args, below, meth, c, A, Qc, hx, hb, hml, hown, hts, hr, hlk, hnm, hK, hE, hA, hend, rfl⟩ := C
  intro H locs ls hP hD hS hL
  refine jr_call (sz := H.size) (ws := ws) (av := av.toArray) rfl (va_runS (As := av) (rest := rest) (n := av.length) ⟨hx, hb, hml, hown, hts⟩ (hM H.size) ⟨callB_of av.length hts (tW_goodIn hcode) rfl hf.2.1.1 hf.2.1.2 (hts _ hini) (hts _ hlink) hy hf.1, hts _ hst⟩ ⟨jr_blind, fun U hU hW => jr_pre hK hE hA hP hD hS hU hW⟩ rfl rfl hL.1 hs (lv_room hw) hdg hf.2.2) hS (jr_A hD hS hA) (fun v u H1 locs1 hp hP hD hS => k v u hp H1 locs1 ls hP hD hS hL)
theorem j_callSN (C : jK l D G KV own cc nL ret R mc ms nm PP K) {y : MethodName} {b : ByteArray} {nL' : Nat} {ret' : Option FieldType} {rm : Room} {av st : List Value} {mc' ms' idx : Nat} {PP' : Option Value → va_W → Prop} {host : String} (hdg : decode cc pc = .ok (.invokestatic idx, 3)) (hM : jM l D G KV y b nL' ret' rm av ws mc' ms' PP') (hcode : Cond.code y b nL' ret' ∈ tW) (hlink : Cond.methodLinkNest own idx y host ∈ nestW) (hst : Cond.static y ∈ tW) (hini : Cond.initialized y.cls ∈ tW) (hy : jyes y av.length) (hf : jfit R rm nL' mc' ms' cs sl) (hw : (rest.map fun v => v.category).sum ≤ 8) (hs : st = av.reverse ++ rest)
    (k : ∀ (v : Option Value) (u : va_W), PP' v u → K (cs + mc') (sl + ms') u (pc + 3) L (v.toList ++ rest)) : K cs sl ws pc L st := by
  obtain ⟨p, e, s, m, args, below, meth, c, A, Qc, hx, hb, hml, hown, hts, hr, hlk, hnm, hK, hE, hA, hend, rfl⟩ := C
  intro H locs ls hP hD hS hL
  refine jr_call (sz := H.size) (ws := ws) (av := av.toArray) rfl (va_runSN (As := av) (rest := rest) (n := av.length) (host := host) ⟨hx, hb, hml, hown, hts⟩ (hM H.size) ⟨va_cnB av.length hts (tW_goodIn hcode) rfl hf.2.1.1 hf.2.1.2 (hE.1 _ hlink) (hts _ hini) hy hf.1, hts _ hst, trivial⟩ ⟨jr_blind, fun U hU hW => jr_pre hK hE hA hP hD hS hU hW⟩ rfl rfl hL.1 hs (lv_room hw) hdg hf.2.2) hS (jr_A hD hS hA) (fun v u H1 locs1 hp hP hD hS => k v u hp H1 locs1 ls hP hD hS hL)
theorem j_callV (C : jK l D G KV own cc nL ret R mc ms nm PP K) {y : MethodName} {b : ByteArray} {nL' : Nat} {ret' : Option FieldType} {rm : Room} {av st : List Value} {mc' ms' idx a q0 ci : Nat} {fs : List Value} {r : vw_C} {PP' : Option Value → va_W → Prop} (hdg : decode cc pc = .ok (.invokevirtual idx, 3)) (hM : jM l D G KV y b nL' ret' rm (.ref a :: av) ws mc' ms' PP') (hcode : Cond.code y b nL' ret' ∈ tW) (hlink : Cond.methodLink own idx y ∈ tW) (hin : Cond.instanceMethod y ∈ tW) (hsel : Cond.selects y.cls y y ∈ tW) (hini : Cond.initialized y.cls ∈ tW) (hy : jyes y av.length) (hf : jfit R rm nL' mc' ms' cs sl) (hw : (rest.map fun v => v.category).sum ≤ 8) (he : ws[q0]? = some (a, .inr (ci, fs))) (hc : classes[ci]? = some r) (hrc : r.1 = y.cls) (hs : st = av.reverse ++ .ref a :: rest)
    (k : ∀ (v : Option Value) (u : va_W), PP' v u → K (cs + mc') (sl + ms') u (pc + 3) L (v.toList ++ rest)) : K cs sl ws pc L st := by
  obtain ⟨p, e, s, m, args, below, meth, c, A, Qc, hx, hb, hml, hown, hts, hr, hlk, hnm, hK, hE, hA, hend, rfl⟩ := C
  intro H locs ls hP hD hS hL
  have hrecv := va_recv hK hP hc he
  rw [hrc] at hrecv
  refine jr_call (sz := H.size) (ws := ws) (av := (Value.ref a :: av).toArray) rfl (va_runV (As := av) (b := a) (C := y.cls) (rest := rest) (n := av.length) ⟨hx, hb, hml, hown, hts⟩ (hM H.size) ⟨callB_of av.length hts (tW_goodIn hcode) rfl hf.2.1.1 hf.2.1.2 (hts _ hini) (hts _ hlink) hy hf.1, hts _ hin, hts _ hsel⟩ ⟨jr_blind, hrecv, fun U hU hW => jr_pre hK hE hA hP hD hS hU hW⟩ rfl rfl hL.1 hs (lv_room hw) hdg hf.2.2) hS (jr_A hD hS hA) (fun v u H1 locs1 hp hP hD hS => k v u hp H1 locs1 ls hP hD hS hL)
theorem j_callI (C : jK l D G KV own cc nL ret R mc ms nm PP K) {y : MethodName} {b : ByteArray} {nL' : Nat} {rm : Room} {av st : List Value} {mc' ms' idx a : Nat} {PP' : Option Value → va_W → Prop} (hdg : decode cc pc = .ok (.invokespecial idx, 3)) (hM : jM l D G KV y b nL' none rm (.ref a :: av) ws mc' ms' PP') (hcode : Cond.code y b nL' none ∈ tW) (hlink : Cond.methodLink own idx y ∈ tW) (hin : Cond.instanceMethod y ∈ tW) (hini : Cond.initialized y.cls ∈ tW) (hyn : y.name = "<init>") (hy : jyes y av.length) (hf : jfit R rm nL' mc' ms' cs sl) (hw : (rest.map fun v => v.category).sum ≤ 8) (hs : st = av.reverse ++ .ref a :: rest)
    (k : ∀ (v : Option Value) (u : va_W), PP' v u → K (cs + mc') (sl + ms') u (pc + 3) L (v.toList ++ rest)) : K cs sl ws pc L st := by
  obtain ⟨p, e, s, m, args, below, meth, c, A, Qc, hx, hb, hml, hown, hts, hr, hlk, hnm, hK, hE, hA, hend, rfl⟩ := C
  intro H locs ls hP hD hS hL
  refine jr_call (sz := H.size) (ws := ws) (av := (Value.ref a :: av).toArray) rfl (va_runI (As := av) (b := a) (rest := rest) (n := av.length) ⟨hx, hb, hml, hown, hts⟩ (hM H.size) ⟨callB_of av.length hts (tW_goodIn hcode) rfl hf.2.1.1 hf.2.1.2 (hts _ hini) (hts _ hlink) hy hf.1, hyn, hts _ hin⟩ ⟨jr_blind, fun U hU hW => jr_pre hK hE hA hP hD hS hU hW⟩ rfl rfl hL.1 hs (lv_room hw) hdg hf.2.2) hS (jr_A hD hS hA) (fun v u H1 locs1 hp hP hD hS => k v u hp H1 locs1 ls hP hD hS hL)
theorem j_callIN (C : jK l D G KV own cc nL ret R mc ms nm PP K) {y : MethodName} {b : ByteArray} {nL' : Nat} {rm : Room} {av st : List Value} {mc' ms' idx a : Nat} {PP' : Option Value → va_W → Prop} {host : String} (hdg : decode cc pc = .ok (.invokespecial idx, 3)) (hM : jM l D G KV y b nL' none rm (.ref a :: av) ws mc' ms' PP') (hcode : Cond.code y b nL' none ∈ tW) (hlink : Cond.methodLinkNest own idx y host ∈ nestW) (hin : Cond.instanceMethod y ∈ tW) (hini : Cond.initialized y.cls ∈ tW) (hyn : y.name = "<init>") (hy : jyes y av.length) (hf : jfit R rm nL' mc' ms' cs sl) (hw : (rest.map fun v => v.category).sum ≤ 8) (hs : st = av.reverse ++ .ref a :: rest)
    (k : ∀ (v : Option Value) (u : va_W), PP' v u → K (cs + mc') (sl + ms') u (pc + 3) L (v.toList ++ rest)) : K cs sl ws pc L st := by
  obtain ⟨p, e, s, m, args, below, meth, c, A, Qc, hx, hb, hml, hown, hts, hr, hlk, hnm, hK, hE, hA, hend, rfl⟩ := C
  intro H locs ls hP hD hS hL
  refine jr_call (sz := H.size) (ws := ws) (av := (Value.ref a :: av).toArray) rfl (va_runIN (As := av) (b := a) (rest := rest) (n := av.length) (host := host) ⟨hx, hb, hml, hown, hts⟩ (hM H.size) ⟨va_cnB av.length hts (tW_goodIn hcode) rfl hf.2.1.1 hf.2.1.2 (hE.1 _ hlink) (hts _ hini) hy hf.1, hyn, hts _ hin⟩ ⟨jr_blind, fun U hU hW => jr_pre hK hE hA hP hD hS hU hW⟩ rfl rfl hL.1 hs (lv_room hw) hdg hf.2.2) hS (jr_A hD hS hA) (fun v u H1 locs1 hp hP hD hS => k v u hp H1 locs1 ls hP hD hS hL)
theorem j_objInit (C : jK l D G KV own cc nL ret R mc ms nm PP K) {idx a : Nat} (hdg : decode cc pc = .ok (.invokespecial idx, 3)) (hlink : Cond.methodLink own idx objectInit ∈ tW) (hin : Cond.instanceMethod objectInit ∈ tW) (hcode : Cond.code objectInit ⟨#[0xb1]⟩ 1 none ∈ tW) (hR : 1 ≤ R.frames) (hlo : (rest.map fun v => v.category).sum + 12 ≤ R.locals) (k : K cs sl ws (pc + 3) L rest) : K cs sl ws pc L (.ref a :: rest) := by
  obtain ⟨p, e, s, m, args, below, meth, c, A, Qc, hx, hb, hml, hown, hts, hr, hlk, hnm, hK, hE, hA, hend, rfl⟩ := C
  intro H locs ls hP hD hS hL
  refine W.objInit hx hb hown (hts _ hlink) (hts _ hin) (hts _ hcode) rfl (by rw [hml]; exact hL.1) rfl hdg hR (by show 2 * 0 + _ + 12 ≤ _; omega) ?_
  exact k H locs ls hP hD hS hL
theorem j_mmax (C : jK l D G KV own cc nL ret R mc ms nm PP K) {idx : Nat} {x y : Int32} (hdg : decode cc pc = .ok (.invokestatic idx, 3)) (hlink : Cond.methodLink own idx Lib.Math.max.name ∈ tW) (hst : Cond.static Lib.Math.max.name ∈ tW) (hini : Cond.initialized "java/lang/Math" ∈ tW) (hcode : Cond.code Lib.Math.max.name Lib.Math.max.code 2 (some .int) ∈ tW) (hR : 1 ≤ R.frames) (hlo : (rest.map fun v => v.category).sum + 13 ≤ R.locals) (hc : cs ≤ R.cells) (hs : sl ≤ R.slots) (k : K cs sl ws (pc + 3) L (.int (if x < y then y else x) :: rest)) : K cs sl ws pc L (.int y :: .int x :: rest) := by
  obtain ⟨p, e, s, m, args, below, meth, c, A, Qc, hx, hb, hml, hown, hts, hr, hlk, hnm, hK, hE, hA, hend, rfl⟩ := C
  exact fun H locs ls hP hD hS hL => va_mmax hx hb (by rw [hml]; exact hL.1.symm) hown (hts _ hlink) (hts _ hst) (hts _ hini) (hts _ hcode) hR hlo hc hs hdg (k H locs ls hP hD hS hL)
theorem j_mmin (C : jK l D G KV own cc nL ret R mc ms nm PP K) {idx : Nat} {x y : Int32} (hdg : decode cc pc = .ok (.invokestatic idx, 3)) (hlink : Cond.methodLink own idx Lib.Math.min.name ∈ tW) (hst : Cond.static Lib.Math.min.name ∈ tW) (hini : Cond.initialized "java/lang/Math" ∈ tW) (hcode : Cond.code Lib.Math.min.name Lib.Math.min.code 2 (some .int) ∈ tW) (hR : 1 ≤ R.frames) (hlo : (rest.map fun v => v.category).sum + 13 ≤ R.locals) (hc : cs ≤ R.cells) (hs : sl ≤ R.slots) (k : K cs sl ws (pc + 3) L (.int (if y < x then y else x) :: rest)) : K cs sl ws pc L (.int y :: .int x :: rest) := by
  obtain ⟨p, e, s, m, args, below, meth, c, A, Qc, hx, hb, hml, hown, hts, hr, hlk, hnm, hK, hE, hA, hend, rfl⟩ := C
  exact fun H locs ls hP hD hS hL => va_mmin hx hb (by rw [hml]; exact hL.1.symm) hown (hts _ hlink) (hts _ hst) (hts _ hini) (hts _ hcode) hR hlo hc hs hdg (k H locs ls hP hD hS hL)
theorem j_copy (C : jK l D G KV own cc nL ret R mc ms nm PP K) {idx q0 q1 n0 n1 t : Nat} {Nw : Nat} {cell : jC} {ad : Nat → Nat} {s0 : jS} {ty : FieldType} (hdg : decode cc pc = .ok (.invokestatic idx, 3)) (hlink : Cond.methodLink own idx arraycopyName ∈ tW) (hnat : Cond.native arraycopyName ∈ tW) (hst : Cond.static arraycopyName ∈ tW) (hini : Cond.initialized "java/lang/System" ∈ tW) (hq0 : q0 < Nw) (hq1 : q1 < Nw) (he0 : cell ad q0 (s0.1 q0) (s0.2 q0) = .inl (G t, n0, .inl (s0.1 q0))) (he1 : ∀ r : Nat → Int32, cell ad q1 r (s0.2 q1) = .inl (G t, n1, .inl r)) (ht : (jtys G)[t]? = some (G t, ty)) (hprim : refKind ty = false) {sp dp n : Int32} (h1 : ¬ sp < 0) (h2 : ¬ dp < 0) (h3 : ¬ n < 0) (h4 : sp.toNatClampNeg + n.toNatClampNeg ≤ n0) (h5 : dp.toNatClampNeg + n.toNatClampNeg ≤ n1) (hfit : ∀ i, i < n.toNatClampNeg → fits ty (.int (s0.1 q0 (sp.toNatClampNeg + i))) = true) (hR : 1 ≤ R.frames) (hlo : (rest.map fun v => v.category).sum + 18 ≤ R.locals)
    (k : K cs sl (jw Nw cell ad (upR s0 q1 (va_cpy (s0.1 q0) (s0.1 q1) sp.toNatClampNeg dp.toNatClampNeg n.toNatClampNeg))) (pc + 3) L rest) : K cs sl (jw Nw cell ad s0) pc L (.int n :: .int dp :: .ref (ad q1) :: .int sp :: .ref (ad q0) :: rest) := by
  obtain ⟨p, e, s, m, args, below, meth, c, A, Qc, hx, hb, hml, hown, hts, hr, hlk, hnm, hK, hE, hA, hend, rfl⟩ := C
  intro H locs ls hP hD hS hL
  refine va_copyi hx hb (by rw [hml]; exact hL.1.symm) hown (hts _ hlink) (hts _ hnat) (hts _ hst) (hts _ hini) hK hP hD hS q0 q1 t t (by rw [jw_at hq0, he0]) (by rw [jw_at hq1, he1]) ht ht hprim h1 h2 h3 h4 h5 hfit hR hlo hdg (fun H1 locs1 hP hD hS => ?_)
  have h := jw_set (cell := cell) (ad := ad) (s := s0) (s' := upR s0 q1 (va_cpy (s0.1 q0) (s0.1 q1) sp.toNatClampNeg dp.toNatClampNeg n.toNatClampNeg)) hq1 (fun i hi => va_up_off _ _ hi) (fun _ _ => rfl)
  rw [show (upR s0 q1 (va_cpy (s0.1 q0) (s0.1 q1) sp.toNatClampNeg dp.toNatClampNeg n.toNatClampNeg)).1 q1 = _ from va_up_at _ _ _, show (upR s0 q1 (va_cpy (s0.1 q0) (s0.1 q1) sp.toNatClampNeg dp.toNatClampNeg n.toNatClampNeg)).2 q1 = s0.2 q1 from rfl, he1] at h
  rw [h] at hP hD
  exact k H1 locs1 ls hP hD hS hL
end JR
end
section
def jb (b : Bool) : Int32 := match b with | true => 1 | false => 0
def jz (x : Int32) : Bool := decide (¬ x = 0)
def jtx (ad : Nat → Nat) : Nat → Option Nat := fun j => if j < 4 then some (ad (2 + 4 * j)) else none
def jin (i : Int32) (n : Nat) : Bool := decide (0 ≤ i.toInt ∧ i.toInt < (n : Int))
theorem jz_jb (b : Bool) : jz (jb b) = b := by cases b <;> decide
theorem jin_iff {i : Int32} {n : Nat} : jin i n = true ↔ 0 ≤ i.toInt ∧ i.toInt < (n : Int) := by simp [jin]
theorem jin_vp {i : Int32} {n : Nat} (c : jin i n = true) : vp_in i n := vp_in_iff.mpr (jin_iff.mp c)
theorem jin_lt {i : Int32} {n : Nat} (c : jin i n = true) : i.toNatClampNeg < n := by
  have h := jin_iff.mp c
  show i.toInt.toNat < n
  omega
theorem jb_nar (b : Bool) : narrow .boolean (.int (jb b)) = .int (jb b) := by cases b <;> rfl
theorem jb_vp (b : Bool) : vp_nar .boolean (jb b) = jb b := by cases b <;> rfl
theorem jb_fit (b : Bool) : fits .boolean (.int (jb b)) = true := by cases b <;> rfl
theorem jb_t {b : Bool} (h : ¬ jb b = 0) : b = true := by
  cases b
  · exact absurd rfl h
  · rfl
theorem jb_f {b : Bool} (h : jb b = 0) : ¬ b = true := by
  cases b
  · exact Bool.false_ne_true
  · exact absurd h (by decide)
theorem jb_or (a b : Bool) : jb a ||| jb b = jb (a || b) := by cases a <;> cases b <;> decide
theorem jb_and (a b : Bool) : jb a &&& jb b = jb (a && b) := by cases a <;> cases b <;> decide
theorem jite_t {α : Sort _} {c : Prop} [Decidable c] {A B r : α} (h : (if c then A else B) = r) (hc : c) : A = r := by rw [if_pos hc] at h; exact h
theorem jite_f {α : Sort _} {c : Prop} [Decidable c] {A B r : α} (h : (if c then A else B) = r) (hc : ¬ c) : B = r := by rw [if_neg hc] at h; exact h
theorem jchk {α : Type _} {c : Prop} [Decidable c] {A : Option α} {r : α} (h : (if c then A else none) = some r) : c ∧ A = some r := by
  by_cases hc : c
  · rw [if_pos hc] at h; exact ⟨hc, h⟩
  · rw [if_neg hc] at h; cases h
theorem jbind {α β : Type _} {x : Option α} {f : α → Option β} {r : β} (h : x.bind f = some r) : ∃ a, x = some a ∧ f a = some r := by
  cases x with
  | none => cases h
  | some a => exact ⟨a, rfl, h⟩
/-- a value with a name -/
def jl {α : Type _} {β : Type _} (a : α) (f : α → β) : β := f a
theorem jlet {α : Type _} {β : Type _} {a z : α} {f : α → β} {r : β} (h : jl a f = r) (hz : z = a) : f z = r := by subst hz; exact h
/-- a loop: k rounds at most -/
def lp {V E : Type} (body : V → Option (V ⊕ E)) : Nat → V → Option E
  | 0, _ => none
  | k + 1, v => (body v).bind (fun o => Sum.elim (fun v' => lp body k v') (fun e => some e) o)
theorem jlp {V E : Type} {body : V → Option (V ⊕ E)} {KH : V → Prop} {KE : E → Prop} (hb : ∀ (v : V) (o : V ⊕ E), body v = some o → (∀ v', o = .inl v' → KH v') → (∀ e, o = .inr e → KE e) → KH v) : ∀ (k : Nat) (v : V) (e : E), lp body k v = some e → KE e → KH v := by
  intro k
  induction k with
  | zero => intro v e h; cases h
  | succ k ih =>
    intro v e h hE
    obtain ⟨o, ho, h⟩ := jbind h
    refine hb v o ho (fun v' e' => ?_) (fun e2 e' => ?_)
    · subst e'; exact ih v' e h hE
    · subst e'; cases h; exact hE
theorem jinl {V E : Type} {v : V} {o : V ⊕ E} (h : some (Sum.inl v) = some o) : o = .inl v := (Option.some.inj h).symm
theorem jinr {V E : Type} {v : E} {o : V ⊕ E} (h : some (Sum.inr v) = some o) : o = .inr v := (Option.some.inj h).symm
theorem jretL {V X Y : Type} {PK : X → Prop} {r p : Y} {o : V ⊕ (X ⊕ Y)} (hb : some (Sum.inr (Sum.inr r)) = some o) (hout : ∀ e, o = .inr e → Sum.elim PK (fun r => some r = some p) e) : some r = some p := hout _ (jinr hb)
section JRET
variable {Nw : Nat} {cell : jC} {ad : Nat → Nat} {s s' : jS}
theorem jretWI {a : Int32} {p : Int32 × jS} (h : some (a, s) = some p) : some (Value.int a) = some (.int p.1) ∧ jw Nw cell ad s = jw Nw cell ad p.2 := by cases h; exact ⟨rfl, rfl⟩
theorem jretWB {a : Bool} {p : Bool × jS} (h : some (a, s) = some p) : some (Value.int (jb a)) = some (.int (jb p.1)) ∧ jw Nw cell ad s = jw Nw cell ad p.2 := by cases h; exact ⟨rfl, rfl⟩
theorem jretWL {a : Int64} {p : Int64 × jS} (h : some (a, s) = some p) : some (Value.long a) = some (.long p.1) ∧ jw Nw cell ad s = jw Nw cell ad p.2 := by cases h; exact ⟨rfl, rfl⟩
theorem jretWV {p : jS} (h : some s = some p) : (none : Option Value) = none ∧ jw Nw cell ad s = jw Nw cell ad p := by cases h; exact ⟨rfl, rfl⟩
theorem jretPI {a p : Int32} (h : some a = some p) : some (Value.int a) = some (.int p) ∧ jw Nw cell ad s = jw Nw cell ad s := by cases h; exact ⟨rfl, rfl⟩
theorem jretPB {a p : Bool} (h : some a = some p) : some (Value.int (jb a)) = some (.int (jb p)) ∧ jw Nw cell ad s = jw Nw cell ad s := by cases h; exact ⟨rfl, rfl⟩
theorem jretPL {a p : Int64} (h : some a = some p) : some (Value.long a) = some (.long p) ∧ jw Nw cell ad s = jw Nw cell ad s := by cases h; exact ⟨rfl, rfl⟩
theorem jretTI {a p : Int32} (h : a = p) : some (Value.int a) = some (.int p) ∧ jw Nw cell ad s = jw Nw cell ad s := by cases h; exact ⟨rfl, rfl⟩
theorem jretTB {a p : Bool} (h : a = p) : some (Value.int (jb a)) = some (.int (jb p)) ∧ jw Nw cell ad s = jw Nw cell ad s := by cases h; exact ⟨rfl, rfl⟩
theorem jretTL {a p : Int64} (h : a = p) : some (Value.long a) = some (.long p) ∧ jw Nw cell ad s = jw Nw cell ad s := by cases h; exact ⟨rfl, rfl⟩
end JRET
def cellC (G : Nat → ClassId) (nd : Nat) : jC := fun ad k r1 r2 => match k with
  | 0 => .inr (8, [.int (r1 0), .ref (ad 18), .ref (ad 40), .ref (ad 1), .ref (ad 27), .ref (ad 49), .ref (ad 29), .ref (ad 33), .ref (ad 51)])
  | 1 => .inl (G 4, 4, .inr (.inr (.inr (.inr (jtx ad)))))
  | 2 => .inr (5, [.ref (ad 3), .ref (ad 4), .ref (ad 5), .int (r1 3), .int (r1 4), .int (r1 5), .int (jb (jz (r1 6)))])
  | 3 => .inl (G 0, 300, .inl r1)
  | 4 => .inl (G 0, 24, .inl r1)
  | 5 => .inl (G 0, 24, .inl r1)
  | 6 => .inr (5, [.ref (ad 7), .ref (ad 8), .ref (ad 9), .int (r1 3), .int (r1 4), .int (r1 5), .int (jb (jz (r1 6)))])
  | 7 => .inl (G 0, 300, .inl r1)
  | 8 => .inl (G 0, 24, .inl r1)
  | 9 => .inl (G 0, 24, .inl r1)
  | 10 => .inr (5, [.ref (ad 11), .ref (ad 12), .ref (ad 13), .int (r1 3), .int (r1 4), .int (r1 5), .int (jb (jz (r1 6)))])
  | 11 => .inl (G 0, 300, .inl r1)
  | 12 => .inl (G 0, 24, .inl r1)
  | 13 => .inl (G 0, 24, .inl r1)
  | 14 => .inr (5, [.ref (ad 15), .ref (ad 16), .ref (ad 17), .int (r1 3), .int (r1 4), .int (r1 5), .int (jb (jz (r1 6)))])
  | 15 => .inl (G 0, 300, .inl r1)
  | 16 => .inl (G 0, 24, .inl r1)
  | 17 => .inl (G 0, 24, .inl r1)
  | 18 => .inr (2, [.ref (ad 19), .ref (ad 20), .ref (ad 21), .ref (ad 22), .ref (ad 23), .ref (ad 24), .ref (ad 25), .int (r1 7), .int (r1 8), .int (r1 9)])
  | 19 => .inl (G 0, 24, .inl r1)
  | 20 => .inl (G 0, 8, .inl r1)
  | 21 => .inl (G 0, 8, .inl r1)
  | 22 => .inl (G 2, 8, .inl (fun j => jb (jz (r1 j))))
  | 23 => .inl (G 0, 24, .inl r1)
  | 24 => .inl (G 0, 120, .inl r1)
  | 25 => .inr (6, [.int (r1 0), .int (r1 1), .int (r1 2), .int (r1 3), .int (r1 4), .int (r1 5), .int (r1 6), .ref (ad 26)])
  | 26 => .inl (G 0, 30, .inl r1)
  | 27 => .inr (4, [.ref (ad 28), .int (r1 1), .int (r1 2), .int (r1 3), .int (r1 4), .int (r1 5)])
  | 28 => .inl (G 3, 300, .inl r1)
  | 29 => .inr (3, [.int (r1 0), .ref (ad 18), .ref (ad 1), .ref (ad 30), .ref (ad 31), .ref (ad 32), .int (jb (jz (r1 6)))])
  | 30 => .inl (G 0, 8, .inl r1)
  | 31 => .inl (G 0, 64, .inl r1)
  | 32 => .inl (G 1, (960 * nd), .inr (.inl r2))
  | 33 => .inr (7, [.int (r1 0), .int (r1 1), .ref (ad 34), .ref (ad 35), .int (r1 4), .ref (ad 18), .ref (ad 29), .ref (ad 36), .ref (ad 37), .ref (ad 38), .ref (ad 39), .int (r1 11)])
  | 34 => .inl (G 0, 48, .inl r1)
  | 35 => .inl (G 0, 8, .inl r1)
  | 36 => .inl (G 0, 180, .inl r1)
  | 37 => .inl (G 0, 384, .inl r1)
  | 38 => .inl (G 0, 8, .inl r1)
  | 39 => .inl (G 0, 8, .inl r1)
  | 40 => .inr (2, [.ref (ad 41), .ref (ad 42), .ref (ad 43), .ref (ad 44), .ref (ad 45), .ref (ad 46), .ref (ad 47), .int (r1 7), .int (r1 8), .int (r1 9)])
  | 41 => .inl (G 0, 24, .inl r1)
  | 42 => .inl (G 0, 8, .inl r1)
  | 43 => .inl (G 0, 8, .inl r1)
  | 44 => .inl (G 2, 8, .inl (fun j => jb (jz (r1 j))))
  | 45 => .inl (G 0, 24, .inl r1)
  | 46 => .inl (G 0, 120, .inl r1)
  | 47 => .inr (6, [.int (r1 0), .int (r1 1), .int (r1 2), .int (r1 3), .int (r1 4), .int (r1 5), .int (r1 6), .ref (ad 48)])
  | 48 => .inl (G 0, 30, .inl r1)
  | 49 => .inr (1, [.int (r1 0), .int (r1 1), .ref (ad 27), .ref (ad 50), .ref (ad (2 + 4 * (r1 4).toNatClampNeg)), .int (r1 5), .int (r1 6), .int (r1 7), .int (r1 8), .int (jb (jz (r1 9)))])
  | 50 => .inl (G 0, 64, .inl r1)
  | 51 => .inr (0, [.ref (ad 52), .int (r1 1), .ref (ad 18), .ref (ad 29), .ref (ad 33), .ref (ad 53), .int (r1 6), .int (jb (jz (r1 7)))])
  | 52 => .inl (G 0, 8, .inl r1)
  | _ => .inl (G 0, 21, .inl r1)
def cellM (G : Nat → ClassId) : jC := fun ad k r1 r2 => match k with
  | 0 => .inr (9, [.ref (ad 1), .ref (ad 2), .int (r1 2), .ref (ad 3), .ref (ad 4), .int (r1 5), .int (r1 6), .int (r1 7), .int (r1 8), .int (r1 9), .int (r1 10), .int (r1 11), .long (r2 12), .int (r1 13), .int (r1 14), .int (r1 15), .int (r1 16), .ref (ad 5), .int (r1 18), .int (r1 19), .int (jb (jz (r1 20))), .int (jb (jz (r1 21))), .ref (ad 6), .ref (ad 7), .ref (ad 8), .ref (ad 9), .ref (ad 10), .ref (ad 11), .ref (ad 12), .ref (ad 13), .ref (ad 14), .int (r1 31)])
  | 1 => .inl (G 0, 324, .inl r1)
  | 2 => .inl (G 0, 324, .inl r1)
  | 3 => .inl (G 0, 2720, .inl r1)
  | 4 => .inl (G 0, 300, .inl r1)
  | 5 => .inl (G 0, 160, .inl r1)
  | 6 => .inl (G 0, 8, .inl r1)
  | 7 => .inl (G 1, 330, .inr (.inl r2))
  | 8 => .inl (G 2, 330, .inl (fun j => jb (jz (r1 j))))
  | 9 => .inl (G 0, 28, .inl r1)
  | 10 => .inl (G 0, 8, .inl r1)
  | 11 => .inl (G 0, 376320, .inl r1)
  | 12 => .inl (G 0, 4410, .inl r1)
  | 13 => .inl (G 0, 48, .inl r1)
  | _ => .inl (G 0, 48, .inl r1)
theorem cT0 {G : Nat → ClassId} {nd : Nat} {ad : Nat → Nat} {t : Nat} {r1 : Nat → Int32} {r2 : Nat → Int64} (ht : t < 4) : cellC G nd ad (2 + 4 * t) r1 r2 = .inr (5, [.ref (ad (2 + 4 * t + 1)), .ref (ad (2 + 4 * t + 2)), .ref (ad (2 + 4 * t + 3)), .int (r1 3), .int (r1 4), .int (r1 5), .int (jb (jz (r1 6)))]) := by
  match t, ht with
  | 0, _ => rfl
  | 1, _ => rfl
  | 2, _ => rfl
  | 3, _ => rfl
theorem cT1 {G : Nat → ClassId} {nd : Nat} {ad : Nat → Nat} {t : Nat} {r1 : Nat → Int32} {r2 : Nat → Int64} (ht : t < 4) : cellC G nd ad (2 + 4 * t + 1) r1 r2 = .inl (G 0, 300, .inl r1) := by
  match t, ht with
  | 0, _ => rfl
  | 1, _ => rfl
  | 2, _ => rfl
  | 3, _ => rfl
theorem cT2 {G : Nat → ClassId} {nd : Nat} {ad : Nat → Nat} {t : Nat} {r1 : Nat → Int32} {r2 : Nat → Int64} (ht : t < 4) : cellC G nd ad (2 + 4 * t + 2) r1 r2 = .inl (G 0, 24, .inl r1) := by
  match t, ht with
  | 0, _ => rfl
  | 1, _ => rfl
  | 2, _ => rfl
  | 3, _ => rfl
theorem cT3 {G : Nat → ClassId} {nd : Nat} {ad : Nat → Nat} {t : Nat} {r1 : Nat → Int32} {r2 : Nat → Int64} (ht : t < 4) : cellC G nd ad (2 + 4 * t + 3) r1 r2 = .inl (G 0, 24, .inl r1) := by
  match t, ht with
  | 0, _ => rfl
  | 1, _ => rfl
  | 2, _ => rfl
  | 3, _ => rfl
theorem cTq0 {t : Nat} (ht : t < 4) : 2 + 4 * t < 54 := by omega
theorem cTq1 {t : Nat} (ht : t < 4) : 2 + 4 * t + 1 < 54 := by omega
theorem cTq2 {t : Nat} (ht : t < 4) : 2 + 4 * t + 2 < 54 := by omega
theorem cTq3 {t : Nat} (ht : t < 4) : 2 + 4 * t + 3 < 54 := by omega
theorem inX0 : ∀ w ∈ u_ws RX0 TX0 8, w ∈ tW := by decide +kernel
theorem inX1 : ∀ w ∈ u_ws RX1 TX1 10, w ∈ tW := by decide +kernel
theorem inX2 : ∀ w ∈ u_ws RX2 TX2 10, w ∈ tW := by decide +kernel
theorem inX3 : ∀ w ∈ u_ws RX3 TX3 7, w ∈ tW := by decide +kernel
theorem inX4 : ∀ w ∈ u_ws RX4 TX4 6, w ∈ tW := by decide +kernel
theorem inX5 : ∀ w ∈ u_ws RX5 TX5 7, w ∈ tW := by decide +kernel
theorem inX6 : ∀ w ∈ u_ws RX6 TX6 8, w ∈ tW := by decide +kernel
theorem inX7 : ∀ w ∈ u_ws RX7 TX7 12, w ∈ tW := by decide +kernel
theorem inX8 : ∀ w ∈ u_ws RX8 TX8 9, w ∈ tW := by decide +kernel
theorem inX9 : ∀ w ∈ u_ws RX9 TX9 32, w ∈ tW := by decide +kernel
theorem jtsw {x : Int32} {lo hi : Int} (hlo : -2147483648 ≤ lo) (hhi : hi < 2147483648) (h : ∀ z : Int, lo ≤ z → z ≤ hi → ¬ x = Int32.ofInt z) : x.toInt < lo ∨ hi < x.toInt := by
  rcases Int.lt_or_le x.toInt lo with q | q
  · exact Or.inl q
  · rcases Int.lt_or_le hi x.toInt with q2 | q2
    · exact Or.inr q2
    · exact absurd (Int32.ofInt_toInt x).symm (h x.toInt q q2)
section JR2
variable {l : Launch} {D : va_G} {G : Nat → ClassId} {KV : jV} {own : String} {cc : ByteArray} {nL : Nat} {ret : Option FieldType} {R : Room} {mc ms : Nat} {nm : String} {PP : Option Value → va_W → Prop} {K : Nat → Nat → va_W → Nat → List (Nat × Value) → List Value → Prop}
variable {cs sl pc : Nat} {ws : va_W} {L : List (Nat × Value)} {rest : List Value} {Nw : Nat} {cell : jC} {ad : Nat → Nat} {s0 : jS} {q0 : Nat}
theorem j_getW (C : jK l D G KV own cc nL ret R mc ms nm PP K) {ref Cn : String} {T : u_T} {N ci idx : Nat} (hdg : decode cc pc = .ok (.getfield idx, 3)) (hin : ∀ w ∈ u_ws Cn T N, w ∈ tW) (hc : classes[ci]? = some (Cn, T, N)) (hq : q0 < Nw) {fs : List Value} (he : cell ad q0 (s0.1 q0) (s0.2 q0) = .inr (ci, fs)) (j : Nat) (hj : j < N) (hlink : Cond.fieldLink own idx ref (T j).2.1 (T j).2.2.1 ∈ tW) (hsame : (T j).1 = ref) {v : Value} (hv : fs[j]? = some v) (k : K cs sl (jw Nw cell ad s0) (pc + 3) L (v :: rest)) : K cs sl (jw Nw cell ad s0) pc L (.ref (ad q0) :: rest) :=
  j_get C hdg hin hc q0 (by rw [jw_at hq, he]) j hj hlink hsame hv k
theorem j_ialdW (C : jK l D G KV own cc nL ret R mc ms nm PP K) {n : Nat} {f : Nat → Int32} {i : Int32} (hdg : decode cc pc = .ok (.iaload, 1)) (hq : q0 < Nw) (he : cell ad q0 (s0.1 q0) (s0.2 q0) = .inl (G 0, n, .inl f)) (hi : vp_in i n) (k : K cs sl (jw Nw cell ad s0) (pc + 1) L (.int (f i.toNatClampNeg) :: rest)) : K cs sl (jw Nw cell ad s0) pc L (.int i :: .ref (ad q0) :: rest) := j_iald C hdg q0 (by rw [jw_at hq, he]) hi k
theorem j_baldW (C : jK l D G KV own cc nL ret R mc ms nm PP K) {n : Nat} {f : Nat → Int32} {i : Int32} (hdg : decode cc pc = .ok (.baload, 1)) (hq : q0 < Nw) (he : cell ad q0 (s0.1 q0) (s0.2 q0) = .inl (G 3, n, .inl f)) (hi : vp_in i n) (k : K cs sl (jw Nw cell ad s0) (pc + 1) L (.int (f i.toNatClampNeg) :: rest)) : K cs sl (jw Nw cell ad s0) pc L (.int i :: .ref (ad q0) :: rest) := j_bald C hdg q0 (by rw [jw_at hq, he]) hi k
theorem j_zaldW (C : jK l D G KV own cc nL ret R mc ms nm PP K) {n : Nat} {f : Nat → Int32} {i : Int32} (hdg : decode cc pc = .ok (.baload, 1)) (hq : q0 < Nw) (he : cell ad q0 (s0.1 q0) (s0.2 q0) = .inl (G 2, n, .inl f)) (hi : vp_in i n) (k : K cs sl (jw Nw cell ad s0) (pc + 1) L (.int (f i.toNatClampNeg) :: rest)) : K cs sl (jw Nw cell ad s0) pc L (.int i :: .ref (ad q0) :: rest) := j_zald C hdg q0 (by rw [jw_at hq, he]) hi k
theorem j_laldW (C : jK l D G KV own cc nL ret R mc ms nm PP K) {n : Nat} {f : Nat → Int64} {i : Int32} (hdg : decode cc pc = .ok (.laload, 1)) (hq : q0 < Nw) (he : cell ad q0 (s0.1 q0) (s0.2 q0) = .inl (G 1, n, .inr (.inl f))) (hi : vp_in i n) (k : K cs sl (jw Nw cell ad s0) (pc + 1) L (.long (f i.toNatClampNeg) :: rest)) : K cs sl (jw Nw cell ad s0) pc L (.int i :: .ref (ad q0) :: rest) := j_lald C hdg q0 (by rw [jw_at hq, he]) hi k
theorem j_aaldT (C : jK l D G KV own cc nL ret R mc ms nm PP K) {i : Int32} (hdg : decode cc pc = .ok (.aaload, 1)) (hq : q0 < Nw) (he : cell ad q0 (s0.1 q0) (s0.2 q0) = .inl (G 4, 4, .inr (.inr (.inr (.inr (jtx ad)))))) (hi : jin i 4 = true) (k : K cs sl (jw Nw cell ad s0) (pc + 1) L (.ref (ad (2 + 4 * i.toNatClampNeg)) :: rest)) : K cs sl (jw Nw cell ad s0) pc L (.int i :: .ref (ad q0) :: rest) := by
  refine j_aald C hdg q0 (by rw [jw_at hq, he]) (jin_vp hi) ?_
  have h : jtx ad i.toNatClampNeg = some (ad (2 + 4 * i.toNatClampNeg)) := if_pos (jin_lt hi)
  rw [h]
  exact k
theorem j_alenW (C : jK l D G KV own cc nL ret R mc ms nm PP K) {tt : Nat} {ar : vp_A} (hdg : decode cc pc = .ok (.arraylength, 1)) (hq : q0 < Nw) (he : cell ad q0 (s0.1 q0) (s0.2 q0) = .inl (G tt, ar)) (ht : tt < 5) {v : Int32} (hv : Int32.ofNat ar.1 = v) (k : K cs sl (jw Nw cell ad s0) (pc + 1) L (.int v :: rest)) : K cs sl (jw Nw cell ad s0) pc L (.ref (ad q0) :: rest) := j_alen C hdg q0 (by rw [jw_at hq, he]) ht hv k
theorem j_zastB (C : jK l D G KV own cc nL ret R mc ms nm PP K) {n : Nat} {i : Int32} {b : Bool} (hdg : decode cc pc = .ok (.bastore, 1)) (hq : q0 < Nw) (he : ∀ r : Nat → Int32, cell ad q0 r (s0.2 q0) = .inl (G 2, n, .inl (fun j => jb (jz (r j))))) (hi : vp_in i n) (k : ∀ z : jS, z = upI s0 q0 i.toNatClampNeg (jb b) → K cs sl (jw Nw cell ad z) (pc + 1) L rest) : K cs sl (jw Nw cell ad s0) pc L (.int (jb b) :: .int i :: .ref (ad q0) :: rest) := by
  refine j_zast C hdg q0 (by rw [jw_at hq, he]) hi ?_
  have h := jw_set (cell := cell) (ad := ad) (s := s0) (s' := upI s0 q0 i.toNatClampNeg (jb b)) hq (fun i hi => va_up_off _ _ hi) (fun _ _ => rfl)
  rw [show (upI s0 q0 i.toNatClampNeg (jb b)).1 q0 = upd (s0.1 q0) i.toNatClampNeg (jb b) from va_up_at _ _ _, show (upI s0 q0 i.toNatClampNeg (jb b)).2 q0 = s0.2 q0 from rfl, he] at h
  have e1 : (fun j => jb (jz (upd (s0.1 q0) i.toNatClampNeg (jb b) j))) = upd (fun j => jb (jz (s0.1 q0 j))) i.toNatClampNeg (vp_nar .boolean (jb b)) := by
    funext j
    unfold upd
    by_cases hj : j = i.toNatClampNeg
    · rw [if_pos hj, if_pos hj, jz_jb, jb_vp]
    · rw [if_neg hj, if_neg hj]
  rw [e1] at h
  rw [h]
  exact k _ rfl
theorem j_copyI (C : jK l D G KV own cc nL ret R mc ms nm PP K) {idx q1 n0 n1 : Nat} (hdg : decode cc pc = .ok (.invokestatic idx, 3)) (hlink : Cond.methodLink own idx arraycopyName ∈ tW) (hnat : Cond.native arraycopyName ∈ tW) (hst : Cond.static arraycopyName ∈ tW) (hini : Cond.initialized "java/lang/System" ∈ tW) (hq0 : q0 < Nw) (hq1 : q1 < Nw) (he0 : ∀ r : Nat → Int32, cell ad q0 r (s0.2 q0) = .inl (G 0, n0, .inl r)) (he1 : ∀ r : Nat → Int32, cell ad q1 r (s0.2 q1) = .inl (G 0, n1, .inl r)) {sp dp n : Int32} (h1 : ¬ sp < 0) (h2 : ¬ dp < 0) (h3 : ¬ n < 0) (h4 : sp.toNatClampNeg + n.toNatClampNeg ≤ n0) (h5 : dp.toNatClampNeg + n.toNatClampNeg ≤ n1) (hR : 1 ≤ R.frames) (hlo : (rest.map fun v => v.category).sum + 18 ≤ R.locals)
    (k : ∀ z : jS, z = upR s0 q1 (va_cpy (s0.1 q0) (s0.1 q1) sp.toNatClampNeg dp.toNatClampNeg n.toNatClampNeg) → K cs sl (jw Nw cell ad z) (pc + 3) L rest) : K cs sl (jw Nw cell ad s0) pc L (.int n :: .int dp :: .ref (ad q1) :: .int sp :: .ref (ad q0) :: rest) :=
  j_copy C (t := 0) hdg hlink hnat hst hini hq0 hq1 (he0 _) he1 rfl rfl h1 h2 h3 h4 h5 (fun _ _ => rfl) hR hlo (k _ rfl)
theorem j_copyZ (C : jK l D G KV own cc nL ret R mc ms nm PP K) {idx q1 n0 n1 : Nat} (hdg : decode cc pc = .ok (.invokestatic idx, 3)) (hlink : Cond.methodLink own idx arraycopyName ∈ tW) (hnat : Cond.native arraycopyName ∈ tW) (hst : Cond.static arraycopyName ∈ tW) (hini : Cond.initialized "java/lang/System" ∈ tW) (hq0 : q0 < Nw) (hq1 : q1 < Nw) (he0 : ∀ r : Nat → Int32, cell ad q0 r (s0.2 q0) = .inl (G 2, n0, .inl (fun j => jb (jz (r j))))) (he1 : ∀ r : Nat → Int32, cell ad q1 r (s0.2 q1) = .inl (G 2, n1, .inl (fun j => jb (jz (r j))))) {sp dp n : Int32} (h1 : ¬ sp < 0) (h2 : ¬ dp < 0) (h3 : ¬ n < 0) (h4 : sp.toNatClampNeg + n.toNatClampNeg ≤ n0) (h5 : dp.toNatClampNeg + n.toNatClampNeg ≤ n1) (hR : 1 ≤ R.frames) (hlo : (rest.map fun v => v.category).sum + 18 ≤ R.locals)
    (k : ∀ z : jS, z = upR s0 q1 (va_cpy (s0.1 q0) (s0.1 q1) sp.toNatClampNeg dp.toNatClampNeg n.toNatClampNeg) → K cs sl (jw Nw cell ad z) (pc + 3) L rest) : K cs sl (jw Nw cell ad s0) pc L (.int n :: .int dp :: .ref (ad q1) :: .int sp :: .ref (ad q0) :: rest) := by
  obtain ⟨p, e, s, m, args, below, meth, c, A, Qc, hx, hb, hml, hown, hts, hr, hlk, hnm, hK, hE, hA, hend, rfl⟩ := C
  intro H locs ls hP hD hS hL
  refine va_copyi hx hb (by rw [hml]; exact hL.1.symm) hown (hts _ hlink) (hts _ hnat) (hts _ hst) (hts _ hini) hK hP hD hS q0 q1 2 2 (f := fun j => jb (jz (s0.1 q0 j))) (g := fun j => jb (jz (s0.1 q1 j))) (by rw [jw_at hq0, he0]) (by rw [jw_at hq1, he1]) rfl rfl rfl h1 h2 h3 h4 h5 (fun _ _ => jb_fit _) hR hlo hdg (fun H1 locs1 hP hD hS => ?_)
  have h := jw_set (cell := cell) (ad := ad) (s := s0) (s' := upR s0 q1 (va_cpy (s0.1 q0) (s0.1 q1) sp.toNatClampNeg dp.toNatClampNeg n.toNatClampNeg)) hq1 (fun i hi => va_up_off _ _ hi) (fun _ _ => rfl)
  rw [show (upR s0 q1 (va_cpy (s0.1 q0) (s0.1 q1) sp.toNatClampNeg dp.toNatClampNeg n.toNatClampNeg)).1 q1 = _ from va_up_at _ _ _, show (upR s0 q1 (va_cpy (s0.1 q0) (s0.1 q1) sp.toNatClampNeg dp.toNatClampNeg n.toNatClampNeg)).2 q1 = s0.2 q1 from rfl, he1] at h
  have e1 : (fun j => jb (jz (va_cpy (s0.1 q0) (s0.1 q1) sp.toNatClampNeg dp.toNatClampNeg n.toNatClampNeg j))) = va_cpy (fun j => jb (jz (s0.1 q0 j))) (fun j => jb (jz (s0.1 q1 j))) sp.toNatClampNeg dp.toNatClampNeg n.toNatClampNeg := by
    funext j
    unfold va_cpy
    split <;> rfl
  rw [e1] at h
  rw [h] at hP hD
  exact k _ rfl H1 locs1 ls hP hD hS hL
theorem j_putT (C : jK l D G KV own cc nL ret R mc ms nm PP K) {nd idx t : Nat} (hdg : decode cc pc = .ok (.putfield idx, 3)) (hlink : Cond.fieldLink own idx "RoadOfDoors$Reader" "text" "LRoadOfDoors$Text;" ∈ tW) (ht : t < 4) (k : ∀ z : jS, z = upI s0 49 4 (Int32.ofNat t) → K cs sl (jw 54 (cellC G nd) ad z) (pc + 3) L rest) : K cs sl (jw 54 (cellC G nd) ad s0) pc L (.ref (ad (2 + 4 * t)) :: .ref (ad 49) :: rest) := by
  refine j_put C hdg inX1 tyX1 tyX1_ok nmX1 rfl 49 (jw_at (by decide)) 4 (by decide) hlink rfl rfl rfl rfl (Nat.le_of_ble_eq_true rfl) ?_
  have h := jw_set (cell := cellC G nd) (ad := ad) (s := s0) (s' := upI s0 49 4 (Int32.ofNat t)) (show 49 < 54 by decide) (fun i hi => va_up_off _ _ hi) (fun _ _ => rfl)
  have e2 : (upd (s0.1 49) 4 (Int32.ofNat t) 4).toNatClampNeg = t := by
    show (Int32.ofNat t).toNatClampNeg = t
    exact nI_clamp (by omega)
  have e3 : cellC G nd ad 49 ((upI s0 49 4 (Int32.ofNat t)).1 49) ((upI s0 49 4 (Int32.ofNat t)).2 49) = .inr (1, [.int (s0.1 49 0), .int (s0.1 49 1), .ref (ad 27), .ref (ad 50), .ref (ad (2 + 4 * t)), .int (s0.1 49 5), .int (s0.1 49 6), .int (s0.1 49 7), .int (s0.1 49 8), .int (jb (jz (s0.1 49 9)))]) := by
    rw [show (upI s0 49 4 (Int32.ofNat t)).1 49 = upd (s0.1 49) 4 (Int32.ofNat t) from va_up_at s0.1 49 (upd (s0.1 49) 4 (Int32.ofNat t))]
    show (.inr (1, [.int (s0.1 49 0), .int (s0.1 49 1), .ref (ad 27), .ref (ad 50), .ref (ad (2 + 4 * (upd (s0.1 49) 4 (Int32.ofNat t) 4).toNatClampNeg)), .int (s0.1 49 5), .int (s0.1 49 6), .int (s0.1 49 7), .int (s0.1 49 8), .int (jb (jz (s0.1 49 9)))]) : va_E) = _
    rw [e2]
  rw [e3] at h
  show K cs sl ((jw 54 (cellC G nd) ad s0).set 49 (ad 49, .inr (1, [.int (s0.1 49 0), .int (s0.1 49 1), .ref (ad 27), .ref (ad 50), .ref (ad (2 + 4 * t)), .int (s0.1 49 5), .int (s0.1 49 6), .int (s0.1 49 7), .int (s0.1 49 8), .int (jb (jz (s0.1 49 9)))]))) (pc + 3) L rest
  rw [h]
  exact k _ rfl
theorem j_tinE (C : jK l D G KV own cc nL ret R mc ms nm PP K) {dflt lo hi : Int} {offs : Array Int} {len : Nat} {x z : Int32} {off : Int} {tgt : Nat} (hdg : decode cc pc = .ok (.tableswitch dflt lo hi offs, len)) (hxz : x = z) (h1 : ¬ z.toInt < lo) (h2 : ¬ hi < z.toInt) (ho : offs[(z.toInt - lo).toNat]? = some off) (ht : (pc : Int) + off = (tgt : Int)) (k : K cs sl ws tgt L rest) : K cs sl ws pc L (.int x :: rest) := by
  subst hxz
  exact j_tin C hdg h1 h2 ho ht k
theorem j_ldcS (C : jK l D G KV own cc nL ret R mc ms nm PP K) {idx i : Nat} (hdg : decode cc pc = .ok (.ldc idx, 2)) (hi : i < 15) (hix : jidx.getD i 0 = idx) (ho : own = "RoadOfDoors$Tape") (k : K cs sl ws (pc + 2) L (.ref (KV.1.1 i) :: rest)) : K cs sl ws pc L rest := by
  obtain ⟨p, e, s, m, args, below, meth, c, A, Qc, hx, hb, hml, hown, hts, hr, hlk, hnm, hK, hE, hA, hend, rfl⟩ := C
  subst ho
  subst hix
  exact fun H locs ls hP hD hS hL => va_ldcS hx hb hown (hE.2.2.1 i hi) hdg (k H locs ls hP hD hS hL)
theorem j_cS0 (C : jK l D G KV own cc nL ret R mc ms nm PP K) {y : MethodName} {b : ByteArray} {nL' : Nat} {ret' : Option FieldType} {rm : Room} {av st : List Value} {idx : Nat} {w' : va_W} {PP' : Option Value → va_W → Prop} (hdg : decode cc pc = .ok (.invokestatic idx, 3)) (hM : jM l D G KV y b nL' ret' rm av ws 0 0 PP') (hcode : Cond.code y b nL' ret' ∈ tW) (hlink : Cond.methodLink own idx y ∈ tW) (hst : Cond.static y ∈ tW) (hini : Cond.initialized y.cls ∈ tW) (hy : jyes y av.length) (hf : jfit R rm nL' 0 0 cs sl) (hw : (rest.map fun v => v.category).sum ≤ 8) (hs : st = av.reverse ++ rest) (hP : ∀ v u, PP' v u → v = none ∧ u = w') (k : K cs sl w' (pc + 3) L rest) : K cs sl ws pc L st :=
  j_callS C hdg hM hcode hlink hst hini hy hf hw hs (fun v u h => by obtain ⟨rfl, rfl⟩ := hP v u h; exact k)
theorem j_cS1 (C : jK l D G KV own cc nL ret R mc ms nm PP K) {y : MethodName} {b : ByteArray} {nL' : Nat} {ret' : Option FieldType} {rm : Room} {av st : List Value} {idx : Nat} {x : Value} {w' : va_W} {PP' : Option Value → va_W → Prop} (hdg : decode cc pc = .ok (.invokestatic idx, 3)) (hM : jM l D G KV y b nL' ret' rm av ws 0 0 PP') (hcode : Cond.code y b nL' ret' ∈ tW) (hlink : Cond.methodLink own idx y ∈ tW) (hst : Cond.static y ∈ tW) (hini : Cond.initialized y.cls ∈ tW) (hy : jyes y av.length) (hf : jfit R rm nL' 0 0 cs sl) (hw : (rest.map fun v => v.category).sum ≤ 8) (hs : st = av.reverse ++ rest) (hP : ∀ v u, PP' v u → v = some x ∧ u = w') (k : K cs sl w' (pc + 3) L (x :: rest)) : K cs sl ws pc L st :=
  j_callS C hdg hM hcode hlink hst hini hy hf hw hs (fun v u h => by obtain ⟨rfl, rfl⟩ := hP v u h; exact k)
theorem j_cSN0 (C : jK l D G KV own cc nL ret R mc ms nm PP K) {y : MethodName} {b : ByteArray} {nL' : Nat} {ret' : Option FieldType} {rm : Room} {av st : List Value} {idx : Nat} {host : String} {w' : va_W} {PP' : Option Value → va_W → Prop} (hdg : decode cc pc = .ok (.invokestatic idx, 3)) (hM : jM l D G KV y b nL' ret' rm av ws 0 0 PP') (hcode : Cond.code y b nL' ret' ∈ tW) (hlink : Cond.methodLinkNest own idx y host ∈ nestW) (hst : Cond.static y ∈ tW) (hini : Cond.initialized y.cls ∈ tW) (hy : jyes y av.length) (hf : jfit R rm nL' 0 0 cs sl) (hw : (rest.map fun v => v.category).sum ≤ 8) (hs : st = av.reverse ++ rest) (hP : ∀ v u, PP' v u → v = none ∧ u = w') (k : K cs sl w' (pc + 3) L rest) : K cs sl ws pc L st :=
  j_callSN C hdg hM hcode hlink hst hini hy hf hw hs (fun v u h => by obtain ⟨rfl, rfl⟩ := hP v u h; exact k)
theorem j_cSN1 (C : jK l D G KV own cc nL ret R mc ms nm PP K) {y : MethodName} {b : ByteArray} {nL' : Nat} {ret' : Option FieldType} {rm : Room} {av st : List Value} {idx : Nat} {host : String} {x : Value} {w' : va_W} {PP' : Option Value → va_W → Prop} (hdg : decode cc pc = .ok (.invokestatic idx, 3)) (hM : jM l D G KV y b nL' ret' rm av ws 0 0 PP') (hcode : Cond.code y b nL' ret' ∈ tW) (hlink : Cond.methodLinkNest own idx y host ∈ nestW) (hst : Cond.static y ∈ tW) (hini : Cond.initialized y.cls ∈ tW) (hy : jyes y av.length) (hf : jfit R rm nL' 0 0 cs sl) (hw : (rest.map fun v => v.category).sum ≤ 8) (hs : st = av.reverse ++ rest) (hP : ∀ v u, PP' v u → v = some x ∧ u = w') (k : K cs sl w' (pc + 3) L (x :: rest)) : K cs sl ws pc L st :=
  j_callSN C hdg hM hcode hlink hst hini hy hf hw hs (fun v u h => by obtain ⟨rfl, rfl⟩ := hP v u h; exact k)
theorem j_cV0 (C : jK l D G KV own cc nL ret R mc ms nm PP K) {y : MethodName} {b : ByteArray} {nL' : Nat} {ret' : Option FieldType} {rm : Room} {av st : List Value} {idx ci : Nat} {fs : List Value} {r : vw_C} {w' : va_W} {PP' : Option Value → va_W → Prop} (hdg : decode cc pc = .ok (.invokevirtual idx, 3)) (hM : jM l D G KV y b nL' ret' rm (.ref (ad q0) :: av) (jw Nw cell ad s0) 0 0 PP') (hcode : Cond.code y b nL' ret' ∈ tW) (hlink : Cond.methodLink own idx y ∈ tW) (hin : Cond.instanceMethod y ∈ tW) (hsel : Cond.selects y.cls y y ∈ tW) (hini : Cond.initialized y.cls ∈ tW) (hy : jyes y av.length) (hf : jfit R rm nL' 0 0 cs sl) (hw : (rest.map fun v => v.category).sum ≤ 8) (hq : q0 < Nw) (he : cell ad q0 (s0.1 q0) (s0.2 q0) = .inr (ci, fs)) (hc : classes[ci]? = some r) (hrc : r.1 = y.cls) (hs : st = av.reverse ++ .ref (ad q0) :: rest) (hP : ∀ v u, PP' v u → v = none ∧ u = w') (k : K cs sl w' (pc + 3) L rest) : K cs sl (jw Nw cell ad s0) pc L st :=
  j_callV C (q0 := q0) (ci := ci) (fs := fs) hdg hM hcode hlink hin hsel hini hy hf hw (by rw [jw_at hq, he]) hc hrc hs (fun v u h => by obtain ⟨rfl, rfl⟩ := hP v u h; exact k)
theorem j_cV1 (C : jK l D G KV own cc nL ret R mc ms nm PP K) {y : MethodName} {b : ByteArray} {nL' : Nat} {ret' : Option FieldType} {rm : Room} {av st : List Value} {idx ci : Nat} {fs : List Value} {r : vw_C} {x : Value} {w' : va_W} {PP' : Option Value → va_W → Prop} (hdg : decode cc pc = .ok (.invokevirtual idx, 3)) (hM : jM l D G KV y b nL' ret' rm (.ref (ad q0) :: av) (jw Nw cell ad s0) 0 0 PP') (hcode : Cond.code y b nL' ret' ∈ tW) (hlink : Cond.methodLink own idx y ∈ tW) (hin : Cond.instanceMethod y ∈ tW) (hsel : Cond.selects y.cls y y ∈ tW) (hini : Cond.initialized y.cls ∈ tW) (hy : jyes y av.length) (hf : jfit R rm nL' 0 0 cs sl) (hw : (rest.map fun v => v.category).sum ≤ 8) (hq : q0 < Nw) (he : cell ad q0 (s0.1 q0) (s0.2 q0) = .inr (ci, fs)) (hc : classes[ci]? = some r) (hrc : r.1 = y.cls) (hs : st = av.reverse ++ .ref (ad q0) :: rest) (hP : ∀ v u, PP' v u → v = some x ∧ u = w') (k : K cs sl w' (pc + 3) L (x :: rest)) : K cs sl (jw Nw cell ad s0) pc L st :=
  j_callV C (q0 := q0) (ci := ci) (fs := fs) hdg hM hcode hlink hin hsel hini hy hf hw (by rw [jw_at hq, he]) hc hrc hs (fun v u h => by obtain ⟨rfl, rfl⟩ := hP v u h; exact k)
theorem j_sld (C : jK l D G KV own cc nL ret R mc ms nm PP K) {i : Int32} (hdg : decode cc pc = .ok (.iaload, 1)) (hi : vp_in i KV.2.2.1) (k : K cs sl ws (pc + 1) L (.int (KV.2.2.2 i.toNatClampNeg) :: rest)) : K cs sl ws pc L (.int i :: .ref KV.2.1 :: rest) := by
  obtain ⟨p, e, s, m, args, below, meth, c, A, Qc, hx, hb, hml, hown, hts, hr, hlk, hnm, hK, hE, hA, hend, rfl⟩ := C
  obtain ⟨-, -, -, -, -, h6, h7, h8, -⟩ := hE
  exact fun H locs ls hP hD hS hL => va_sld hx hb h6 h7 h8 hS hi hdg (k H locs ls hP hD hS hL)
theorem j_slen (C : jK l D G KV own cc nL ret R mc ms nm PP K) (hdg : decode cc pc = .ok (.arraylength, 1)) (k : K cs sl ws (pc + 1) L (.int (Int32.ofNat KV.2.2.1) :: rest)) : K cs sl ws pc L (.ref KV.2.1 :: rest) := by
  obtain ⟨p, e, s, m, args, below, meth, c, A, Qc, hx, hb, hml, hown, hts, hr, hlk, hnm, hK, hE, hA, hend, rfl⟩ := C
  obtain ⟨-, -, -, -, -, h6, h7, h8, -⟩ := hE
  exact fun H locs ls hP hD hS hL => va_slen hx hb h6 h7 h8 hS hdg (k H locs ls hP hD hS hL)
end JR2
end
section
theorem jy_J7_fill_53178 : jyes yJ7_fill_53178 2 := by unfold jyes; decide +kernel
theorem jy_J7_fill_d0a16 : jyes yJ7_fill_d0a16 2 := by unfold jyes; decide +kernel
theorem jy_J7_fill_fda19 : jyes yJ7_fill_fda19 4 := by unfold jyes; decide +kernel
theorem jy_J7_rangeCheck_23922 : jyes yJ7_rangeCheck_23922 3 := by unfold jyes; decide +kernel
theorem jy_X0_bestRule : jyes yX0_bestRule 1 := by unfold jyes; decide +kernel
theorem jy_X0_earned : jyes yX0_earned 1 := by unfold jyes; decide +kernel
theorem jy_X0_earnedNow : jyes yX0_earnedNow 1 := by unfold jyes; decide +kernel
theorem jy_X0_firstUneven : jyes yX0_firstUneven 0 := by unfold jyes; decide +kernel
theorem jy_X0_forget : jyes yX0_forget 0 := by unfold jyes; decide +kernel
theorem jy_X0_isPast : jyes yX0_isPast 1 := by unfold jyes; decide +kernel
theorem jy_X0_roundsChanged : jyes yX0_roundsChanged 0 := by unfold jyes; decide +kernel
theorem jy_X0_startTrial : jyes yX0_startTrial 1 := by unfold jyes; decide +kernel
theorem jy_X0_trialNumber : jyes yX0_trialNumber 0 := by unfold jyes; decide +kernel
theorem jy_X1_atAsk : jyes yX1_atAsk 0 := by unfold jyes; decide +kernel
theorem jy_X1_close : jyes yX1_close 0 := by unfold jyes; decide +kernel
theorem jy_X1_endOne : jyes yX1_endOne 0 := by unfold jyes; decide +kernel
theorem jy_X1_join : jyes yX1_join 2 := by unfold jyes; decide +kernel
theorem jy_X1_joinDownTo : jyes yX1_joinDownTo 1 := by unfold jyes; decide +kernel
theorem jy_X1_levelOf : jyes yX1_levelOf 1 := by unfold jyes; decide +kernel
theorem jy_X1_nest : jyes yX1_nest 1 := by unfold jyes; decide +kernel
theorem jy_X1_pileAt : jyes yX1_pileAt 1 := by unfold jyes; decide +kernel
theorem jy_X1_put : jyes yX1_put 1 := by unfold jyes; decide +kernel
theorem jy_X1_read : jyes yX1_read 1 := by unfold jyes; decide +kernel
theorem jy_X1_refuse : jyes yX1_refuse 1 := by unfold jyes; decide +kernel
theorem jy_X1_take : jyes yX1_take 1 := by unfold jyes; decide +kernel
theorem jy_X1_takeBehindOne : jyes yX1_takeBehindOne 1 := by unfold jyes; decide +kernel
theorem jy_X1_takeClause : jyes yX1_takeClause 1 := by unfold jyes; decide +kernel
theorem jy_X1_takeNumber : jyes yX1_takeNumber 3 := by unfold jyes; decide +kernel
theorem jy_X1_takeOne : jyes yX1_takeOne 1 := by unfold jyes; decide +kernel
theorem jy_X1_takeSign : jyes yX1_takeSign 2 := by unfold jyes; decide +kernel
theorem jy_X2_addGuest : jyes yX2_addGuest 4 := by unfold jyes; decide +kernel
theorem jy_X2_becomes : jyes yX2_becomes 1 := by unfold jyes; decide +kernel
theorem jy_X3_face : jyes yX3_face 3 := by unfold jyes; decide +kernel
theorem jy_X3_forget : jyes yX3_forget 0 := by unfold jyes; decide +kernel
theorem jy_X3_holds : jyes yX3_holds 1 := by unfold jyes; decide +kernel
theorem jy_X3_isOpening : jyes yX3_isOpening 1 := by unfold jyes; decide +kernel
theorem jy_X3_joined : jyes yX3_joined 3 := by unfold jyes; decide +kernel
theorem jy_X3_learn : jyes yX3_learn 3 := by unfold jyes; decide +kernel
theorem jy_X3_leastsAt : jyes yX3_leastsAt 2 := by unfold jyes; decide +kernel
theorem jy_X3_looksAtWaited : jyes yX3_looksAtWaited 1 := by unfold jyes; decide +kernel
theorem jy_X3_opensBy : jyes yX3_opensBy 7 := by unfold jyes; decide +kernel
theorem jy_X3_placeOf : jyes yX3_placeOf 3 := by unfold jyes; decide +kernel
theorem jy_X3_searched : jyes yX3_searched 1 := by unfold jyes; decide +kernel
theorem jy_X4_add : jyes yX4_add 1 := by unfold jyes; decide +kernel
theorem jy_X4_byteAt : jyes yX4_byteAt 1 := by unfold jyes; decide +kernel
theorem jy_X4_isBlank : jyes yX4_isBlank 1 := by unfold jyes; decide +kernel
theorem jy_X4_isDigit : jyes yX4_isDigit 1 := by unfold jyes; decide +kernel
theorem jy_X4_isLetter : jyes yX4_isLetter 1 := by unfold jyes; decide +kernel
theorem jy_X4_isTwoSigned : jyes yX4_isTwoSigned 1 := by unfold jyes; decide +kernel
theorem jy_X4_nameSpelt : jyes yX4_nameSpelt 0 := by unfold jyes; decide +kernel
theorem jy_X4_nextToken : jyes yX4_nextToken 0 := by unfold jyes; decide +kernel
theorem jy_X4_readNumber : jyes yX4_readNumber 0 := by unfold jyes; decide +kernel
theorem jy_X4_readWord : jyes yX4_readWord 0 := by unfold jyes; decide +kernel
theorem jy_X4_rewinds : jyes yX4_rewinds 0 := by unfold jyes; decide +kernel
theorem jy_X4_signAt : jyes yX4_signAt 2 := by unfold jyes; decide +kernel
theorem jy_X4_spells : jyes yX4_spells 1 := by unfold jyes; decide +kernel
theorem jy_X4_wordSpelt : jyes yX4_wordSpelt 0 := by unfold jyes; decide +kernel
theorem jy_X5_addClause : jyes yX5_addClause 1 := by unfold jyes; decide +kernel
theorem jy_X5_addName : jyes yX5_addName 1 := by unfold jyes; decide +kernel
theorem jy_X5_addWord : jyes yX5_addWord 1 := by unfold jyes; decide +kernel
theorem jy_X5_empties : jyes yX5_empties 0 := by unfold jyes; decide +kernel
theorem jy_X5_setAmount : jyes yX5_setAmount 1 := by unfold jyes; decide +kernel
theorem jy_X5_setKnocks : jyes yX5_setKnocks 1 := by unfold jyes; decide +kernel
theorem jy_X6_becomes : jyes yX6_becomes 1 := by unfold jyes; decide +kernel
theorem jy_X6_hourGoes : jyes yX6_hourGoes 0 := by unfold jyes; decide +kernel
theorem jy_X6_keepsStep : jyes yX6_keepsStep 0 := by unfold jyes; decide +kernel
theorem jy_X6_starts : jyes yX6_starts 4 := by unfold jyes; decide +kernel
theorem jy_X6_stays : jyes yX6_stays 0 := by unfold jyes; decide +kernel
theorem jy_X6_stepsBack : jyes yX6_stepsBack 0 := by unfold jyes; decide +kernel
theorem jy_X7_canPass : jyes yX7_canPass 3 := by unfold jyes; decide +kernel
theorem jy_X7_cheapest : jyes yX7_cheapest 1 := by unfold jyes; decide +kernel
theorem jy_X7_choose : jyes yX7_choose 3 := by unfold jyes; decide +kernel
theorem jy_X7_findCheapest : jyes yX7_findCheapest 6 := by unfold jyes; decide +kernel
theorem jy_X7_findSoonest : jyes yX7_findSoonest 6 := by unfold jyes; decide +kernel
theorem jy_X7_walk : jyes yX7_walk 1 := by unfold jyes; decide +kernel
theorem jy_X8_aboutPart : jyes yX8_aboutPart 1 := by unfold jyes; decide +kernel
theorem jy_X8_agrees : jyes yX8_agrees 3 := by unfold jyes; decide +kernel
theorem jy_X8_canKnock : jyes yX8_canKnock 2 := by unfold jyes; decide +kernel
theorem jy_X8_canWait : jyes yX8_canWait 1 := by unfold jyes; decide +kernel
theorem jy_X8_clauseDone : jyes yX8_clauseDone 2 := by unfold jyes; decide +kernel
theorem jy_X8_hasKey : jyes yX8_hasKey 2 := by unfold jyes; decide +kernel
theorem jy_X8_isDoor : jyes yX8_isDoor 1 := by unfold jyes; decide +kernel
theorem jy_X8_isHour : jyes yX8_isHour 1 := by unfold jyes; decide +kernel
theorem jy_X8_isKnock : jyes yX8_isKnock 5 := by unfold jyes; decide +kernel
theorem jy_X8_isTraveller : jyes yX8_isTraveller 4 := by unfold jyes; decide +kernel
theorem jy_X8_knocked : jyes yX8_knocked 2 := by unfold jyes; decide +kernel
theorem jy_X8_outlookChanged : jyes yX8_outlookChanged 0 := by unfold jyes; decide +kernel
theorem jy_X8_waited : jyes yX8_waited 1 := by unfold jyes; decide +kernel
theorem jy_X8_within : jyes yX8_within 3 := by unfold jyes; decide +kernel
theorem jy_X9_asks : jyes yX9_asks 0 := by unfold jyes; decide +kernel
theorem jy_X9_beginGuests : jyes yX9_beginGuests 0 := by unfold jyes; decide +kernel
theorem jy_X9_beginOne : jyes yX9_beginOne 0 := by unfold jyes; decide +kernel
theorem jy_X9_behindOne : jyes yX9_behindOne 0 := by unfold jyes; decide +kernel
theorem jy_X9_bestRule : jyes yX9_bestRule 1 := by unfold jyes; decide +kernel
theorem jy_X9_by : jyes yX9_by 5 := by unfold jyes; decide +kernel
theorem jy_X9_byteAt : jyes yX9_byteAt 1 := by unfold jyes; decide +kernel
theorem jy_X9_canKeep : jyes yX9_canKeep 3 := by unfold jyes; decide +kernel
theorem jy_X9_cheapest : jyes yX9_cheapest 2 := by unfold jyes; decide +kernel
theorem jy_X9_clause : jyes yX9_clause 0 := by unfold jyes; decide +kernel
theorem jy_X9_clip : jyes yX9_clip 1 := by unfold jyes; decide +kernel
theorem jy_X9_compareOf : jyes yX9_compareOf 0 := by unfold jyes; decide +kernel
theorem jy_X9_copy : jyes yX9_copy 2 := by unfold jyes; decide +kernel
theorem jy_X9_earned : jyes yX9_earned 1 := by unfold jyes; decide +kernel
theorem jy_X9_either : jyes yX9_either 0 := by unfold jyes; decide +kernel
theorem jy_X9_emit : jyes yX9_emit 2 := by unfold jyes; decide +kernel
theorem jy_X9_figure : jyes yX9_figure 3 := by unfold jyes; decide +kernel
theorem jy_X9_follow : jyes yX9_follow 1 := by unfold jyes; decide +kernel
theorem jy_X9_forgetLeasts : jyes yX9_forgetLeasts 2 := by unfold jyes; decide +kernel
theorem jy_X9_four : jyes yX9_four 1 := by unfold jyes; decide +kernel
theorem jy_X9_goesOn : jyes yX9_goesOn 0 := by unfold jyes; decide +kernel
theorem jy_X9_has : jyes yX9_has 2 := by unfold jyes; decide +kernel
theorem jy_X9_hasParen : jyes yX9_hasParen 0 := by unfold jyes; decide +kernel
theorem jy_X9_hourBy : jyes yX9_hourBy 1 := by unfold jyes; decide +kernel
theorem jy_X9_isAsked : jyes yX9_isAsked 3 := by unfold jyes; decide +kernel
theorem jy_X9_isDigit : jyes yX9_isDigit 1 := by unfold jyes; decide +kernel
theorem jy_X9_isDoor : jyes yX9_isDoor 1 := by unfold jyes; decide +kernel
theorem jy_X9_isHour : jyes yX9_isHour 1 := by unfold jyes; decide +kernel
theorem jy_X9_isIn : jyes yX9_isIn 3 := by unfold jyes; decide +kernel
theorem jy_X9_isKnock : jyes yX9_isKnock 2 := by unfold jyes; decide +kernel
theorem jy_X9_isLetter : jyes yX9_isLetter 1 := by unfold jyes; decide +kernel
theorem jy_X9_isOpen : jyes yX9_isOpen 7 := by unfold jyes; decide +kernel
theorem jy_X9_isPlayed : jyes yX9_isPlayed 1 := by unfold jyes; decide +kernel
theorem jy_X9_isRule : jyes yX9_isRule 1 := by unfold jyes; decide +kernel
theorem jy_X9_isTraveller : jyes yX9_isTraveller 4 := by unfold jyes; decide +kernel
theorem jy_X9_isWord : jyes yX9_isWord 1 := by unfold jyes; decide +kernel
theorem jy_X9_keepStep : jyes yX9_keepStep 0 := by unfold jyes; decide +kernel
theorem jy_X9_knock : jyes yX9_knock 2 := by unfold jyes; decide +kernel
theorem jy_X9_knocked : jyes yX9_knocked 1 := by unfold jyes; decide +kernel
theorem jy_X9_later : jyes yX9_later 1 := by unfold jyes; decide +kernel
theorem jy_X9_leastGift : jyes yX9_leastGift 5 := by unfold jyes; decide +kernel
theorem jy_X9_leftAt : jyes yX9_leftAt 3 := by unfold jyes; decide +kernel
theorem jy_X9_nameOf : jyes yX9_nameOf 0 := by unfold jyes; decide +kernel
theorem jy_X9_nextToken : jyes yX9_nextToken 0 := by unfold jyes; decide +kernel
theorem jy_X9_opens : jyes yX9_opens 6 := by unfold jyes; decide +kernel
theorem jy_X9_push : jyes yX9_push 1 := by unfold jyes; decide +kernel
theorem jy_X9_readText : jyes yX9_readText 0 := by unfold jyes; decide +kernel
theorem jy_X9_reckon : jyes yX9_reckon 3 := by unfold jyes; decide +kernel
theorem jy_X9_settle : jyes yX9_settle 1 := by unfold jyes; decide +kernel
theorem jy_X9_soonestOf : jyes yX9_soonestOf 2 := by unfold jyes; decide +kernel
theorem jy_X9_sortOf : jyes yX9_sortOf 0 := by unfold jyes; decide +kernel
theorem jy_X9_summed : jyes yX9_summed 0 := by unfold jyes; decide +kernel
theorem jy_X9_two : jyes yX9_two 3 := by unfold jyes; decide +kernel
theorem jy_X9_w3 : jyes yX9_w3 3 := by unfold jyes; decide +kernel
theorem jy_X9_w4 : jyes yX9_w4 4 := by unfold jyes; decide +kernel
theorem jy_X9_w5 : jyes yX9_w5 5 := by unfold jyes; decide +kernel
theorem jy_X9_w6 : jyes yX9_w6 6 := by unfold jyes; decide +kernel
theorem jy_X9_whole : jyes yX9_whole 0 := by unfold jyes; decide +kernel
theorem jy_X9_work : jyes yX9_work 2 := by unfold jyes; decide +kernel
end
section
section JA
variable {l : Launch} {D : va_G} {G : Nat → ClassId} {KV : jV} {own : String} {cc : ByteArray} {nL : Nat} {ret : Option FieldType} {R : Room} {mc ms : Nat} {nm : String} {PP : Option Value → va_W → Prop} {K : Nat → Nat → va_W → Nat → List (Nat × Value) → List Value → Prop}
variable {cs sl pc : Nat} {ws w1 w2 : va_W} {L : List (Nat × Value)} {rest : List Value}
theorem j_new (C : jK l D G KV own cc nL ret R mc ms nm PP K) {Cn : String} {T : u_T} {N ci idx : Nat} (hdg : decode cc pc = .ok (.new idx, 3)) (hin : ∀ w ∈ u_ws Cn T N, w ∈ tW) (ty0 : Nat → FieldType) (hty : ∀ k, k < N → parseFieldDescriptor (T k).2.2.1 = some (ty0 k)) (hcl : Cond.classLink own idx Cn ∈ tW) (hinst : Cond.instantiable Cn N ∈ tW) (hini : Cond.initialized Cn ∈ tW) (hc : classes[ci]? = some (Cn, T, N)) {fs : List Value} (hfs : ∀ j, j < N → defaultValue (ty0 j) = vp_V fs j) (hcells : cs + 1 ≤ R.cells) (hslots : sl + N ≤ R.slots) (k : ∀ q, K (cs + 1) (sl + N) (ws ++ [(q, .inr (ci, fs))]) (pc + 3) L (.ref q :: rest)) : K cs sl ws pc L rest := by
  obtain ⟨p, e, s, m, args, below, meth, c, A, Qc, hx, hb, hml, hown, hts, hr, hlk, hnm, hK, hE, hA, hend, rfl⟩ := C
  exact fun H locs ls hP hD hS hL => va_new hx hb hts hin ty0 hty hown (hts _ hcl) (hts _ hinst) (hts _ hini) hK hP hD hS hA hc hfs hcells hslots hdg (fun q H1 hP hD hS => k q H1 locs ls hP hD hS hL)
theorem j_newa (C : jK l D G KV own cc nL ret R mc ms nm PP K) {atype : ArrayType} {t : Nat} {ty : FieldType} (hdg : decode cc pc = .ok (.newarray atype, 2)) (hty : newarray.typeOf atype = ty) (ht : (jtys G)[t]? = some (G t, ty)) (hprim : ∀ (U : State) (c : ClassId), va_RA U c ty → U.vm.findClass ("[" ++ ty.toString) = some c) (harr : Cond.arrayClass ty ∈ tW) {n : Int32} {N' : Nat} {a0 : vp_A} (ha : ∀ cA : ClassId, vp_cell cA a0 = arrV cA N' (fun _ => defaultValue ty)) (hn : ¬ n < 0) (hN : n.toNatClampNeg = N') (hbytes : N' * componentBytes ty ≤ 536870912) (hcells : cs + 1 ≤ R.cells) (hslots : sl + N' ≤ R.slots) (k : ∀ q, K (cs + 1) (sl + N') (ws ++ [(q, .inl (G t, a0))]) (pc + 2) L (.ref q :: rest)) : K cs sl ws pc L (.int n :: rest) := by
  obtain ⟨p, e, s, m, args, below, meth, c, A, Qc, hx, hb, hml, hown, hts, hr, hlk, hnm, hK, hE, hA, hend, rfl⟩ := C
  intro H locs ls hP hD hS hL
  refine va_newa hx hb (by rw [hty]; exact hts _ harr) hty hK hP hD hS hA ha hn hN hbytes hcells hslots hdg (fun q cA H1 hK2 hP hD hS => ?_)
  have h1 := hprim _ _ (hK2.2 5 (cA, ty) rfl).2
  have h2 := hprim _ _ (hK.2 t (G t, ty) ht).2
  have e : cA = G t := Option.some.inj (h1.symm.trans h2)
  subst e
  exact k q H1 locs ls hP hD hS hL
theorem j_newq (C : jK l D G KV own cc nL ret R mc ms nm PP K) {idx : Nat} (hdg : decode cc pc = .ok (.anewarray idx, 3)) (hcl : Cond.classLink own idx "RoadOfDoors$Text" ∈ tW) {n : Int32} {N' : Nat} (hn : ¬ n < 0) (hN : n.toNatClampNeg = N') (hbytes : N' * 4 ≤ 536870912) (hcells : cs + 1 ≤ R.cells) (hslots : sl + N' ≤ R.slots) (k : ∀ q, K (cs + 1) (sl + N') (ws ++ [(q, .inl (G 4, N', .inr (.inr (.inr (.inr (fun _ => none))))))]) (pc + 3) L (.ref q :: rest)) : K cs sl ws pc L (.int n :: rest) := by
  obtain ⟨p, e, s, m, args, below, meth, c, A, Qc, hx, hb, hml, hown, hts, hr, hlk, hnm, hK, hE, hA, hend, rfl⟩ := C
  intro H locs ls hP hD hS hL
  refine va_newq hx hb hown (hts _ hcl) hE.2.2.2.2.2.2.2.2 hK hP hD hS hA hn hN hbytes hcells hslots hdg (fun q cA H1 hK2 hP hD hS => ?_)
  obtain ⟨kA, comp, -, -, -, h1⟩ := (hK2.2 5 (cA, .object "RoadOfDoors$Text") rfl).2
  obtain ⟨kA2, comp2, -, -, -, h2⟩ := (hK.2 4 (G 4, .object "RoadOfDoors$Text") rfl).2
  have e : cA = G 4 := Option.some.inj (h1.symm.trans h2)
  subst e
  exact k q H1 locs ls hP hD hS hL
theorem j_aast (C : jK l D G KV own cc nL ret R mc ms nm PP K) {a n v : Nat} {vs : List Value} {f : Nat → Option Nat} {i : Int32} (hdg : decode cc pc = .ok (.aastore, 1)) (q0 qk : Nat) (he : ws[q0]? = some (a, .inl (G 4, n, .inr (.inr (.inr (.inr f)))))) (hv : ws[qk]? = some (v, .inr (5, vs))) (hi : vp_in i n) (k : K cs sl (ws.set q0 (a, .inl (G 4, n, .inr (.inr (.inr (.inr (va_up f i.toNatClampNeg (some v)))))))) (pc + 1) L rest) : K cs sl ws pc L (.ref v :: .int i :: .ref a :: rest) := by
  obtain ⟨p, e, s, m, args, below, meth, c, A, Qc, hx, hb, hml, hown, hts, hr, hlk, hnm, hK, hE, hA, hend, rfl⟩ := C
  exact fun H locs ls hP hD hS hL => va_astq hx hb hK hP hD hS q0 4 qk 5 (r := (RX5, TX5, 7)) he rfl hv rfl hi hdg (fun H1 locs1 hP hD hS => k H1 locs1 ls hP hD hS hL)
/-- behind a call over a part of the world: the other part is as it was -/
theorem jr_part {A : Nat → Prop} {wa wc u : va_W} {H H1 : Heap} (hPa : va_P D classes wa H) (hPc : va_P D classes wc H) (hDa : va_D A wa) (hap : ∀ (i j : Nat) (p q : Nat × va_E), wa[i]? = some p → wc[j]? = some q → p.1 ≠ q.1) (hk : ∀ q : Nat, q < H.size → ¬ va_A wc H.size q → H1[q]? = H[q]?) (hu : va_P D classes u H1) (hDu : va_D (va_A wc H.size) u) (hF : ∀ q, va_A wc H.size q → A q) :
    va_P D classes wa H1 ∧ va_D A u ∧ ∀ (i j : Nat) (p q : Nat × va_E), wa[i]? = some p → u[j]? = some q → p.1 ≠ q.1 := by
  have out : ∀ (i : Nat) (p : Nat × va_E), wa[i]? = some p → p.1 < H.size ∧ ¬ va_A wc H.size p.1 := by
    intro i p hp
    have hl := (hPa i p hp).lt
    refine ⟨hl, fun h => ?_⟩
    rcases h with ⟨j, e, h⟩ | h
    · exact hap i j p (p.1, e) hp h rfl
    · omega
  refine ⟨fun i p hp => (hPa i p hp).kept (hk p.1 (out i p hp).1 (out i p hp).2), hDu.weaken (fun _ q _ h => hF q.1 h), fun i j p q hp hq hpq => ?_⟩
  exact (out i p hp).2 (by rw [hpq]; exact hDu.2 j q hq)
theorem jr_split1 {A : Nat → Prop} {H : Heap} (hP : va_P D classes (w1 ++ w2) H) (hD : va_D A (w1 ++ w2)) : va_P D classes w1 H ∧ va_P D classes w2 H ∧ va_D A w1 ∧ va_D A w2 ∧ ∀ (i j : Nat) (p q : Nat × va_E), w1[i]? = some p → w2[j]? = some q → p.1 ≠ q.1 := by
  have l1 : ∀ (i : Nat) (p : Nat × va_E), w1[i]? = some p → (w1 ++ w2)[i]? = some p := fun i p h => by
    rw [List.getElem?_append_left (List.getElem?_eq_some_iff.mp h).1]; exact h
  have l2 : ∀ (i : Nat) (p : Nat × va_E), w2[i]? = some p → (w1 ++ w2)[w1.length + i]? = some p := fun i p h => by
    rw [List.getElem?_append_right (by omega), Nat.add_sub_cancel_left]; exact h
  refine ⟨fun i p h => hP i p (l1 i p h), fun i p h => hP _ p (l2 i p h), ⟨fun i j p q hp hq e => hD.1 i j p q (l1 i p hp) (l1 j q hq) e, fun i p h => hD.2 i p (l1 i p h)⟩, ⟨fun i j p q hp hq e => ?_, fun i p h => hD.2 _ p (l2 i p h)⟩, fun i j p q hp hq e => ?_⟩
  · have := hD.1 _ _ p q (l2 i p hp) (l2 j q hq) e
    omega
  · have h1 := hD.1 _ _ p q (l1 i p hp) (l2 j q hq) e
    have h2 := (List.getElem?_eq_some_iff.mp hp).1
    omega
/-- the run of a call over a part of the world -/
theorem jr_callF {p : Program} {e : Env} {s : State} {m : MethodId} {args : Array Value} {below : List Frame} {meth : Method} {c : Code} {A : Nat → Prop} {Q : State → Prop} {H : Heap} {locs : List Loc} {mc' ms' sz : Nat} {PP' : Option Value → va_W → Prop} {st0 : List Value} {ls : Array Slot} {av : Array Value} {wa wc : va_W}
    (hsz : sz = H.size) (hr : va_Run p l e R s m args below meth c H locs cs sl mc' ms' (F0 m pc ls st0) rest (jQ D G PP' (va_A wc sz) av) (va_A wc sz)) (hS : va_S A s.heap H locs) (hA : ∀ q, va_A wc sz q → A q)
    (hPa : va_P D classes wa H) (hPc : va_P D classes wc H) (hDa : va_D A wa) (hap : ∀ (i j : Nat) (p q : Nat × va_E), wa[i]? = some p → wc[j]? = some q → p.1 ≠ q.1)
    (kk : ∀ (v : Option Value) (u : va_W) (H1 : Heap) (locs1 : List Loc), PP' v u → va_P D classes wa H1 → va_P D classes u H1 → va_D A u → (∀ (i j : Nat) (p q : Nat × va_E), wa[i]? = some p → u[j]? = some q → p.1 ≠ q.1) → va_S A s.heap H1 locs1 → W p l e R s m args below meth c H1 locs1 (cs + mc') (sl + ms') Q (F0 m (pc + 3) ls (v.toList ++ rest))) : W p l e R s m args below meth c H locs cs sl Q (F0 m pc ls st0) := by
  intro T hT X
  subst hsz
  obtain ⟨v, st₀, t, T', L, h0, X', hL, e1, e2, ⟨⟨v2, u, hv, hp, hb1, hb2, hb3⟩, hz, hk⟩, st⟩ := hr T hT X
  cases hv
  rw [h0] at hz hk
  obtain ⟨g1, g2, g3⟩ := jr_part hPa hPc hDa hap hk hb1 hb3 hA
  obtain ⟨t2, a1, b1⟩ := kk v u T'.heap (locs ++ L) hp (by rw [e1]; exact g1) (by rw [e1]; exact hb1) g2 g3
    ⟨Nat.le_trans hS.1 (by rw [e1]; exact hz), fun q h1 h2 => by rw [e1, hk q (Nat.lt_of_lt_of_le h1 hS.1) (fun z => h2 (hA q z))]; exact hS.2.1 q h1 h2, fun q hq => by
      rcases List.mem_append.mp hq with h | h
      · exact hS.2.2 q h
      · exact hA _ (hL q h)⟩ T' rfl X'
  exact ⟨t2, st t2 a1, b1⟩
theorem j_fV1 (C : jK l D G KV own cc nL ret R mc ms nm PP K) {y : MethodName} {b : ByteArray} {nL' : Nat} {ret' : Option FieldType} {rm : Room} {av st : List Value} {mc' ms' idx a : Nat} {PP' : Option Value → va_W → Prop} {q0 ci : Nat} {fs : List Value} {r : vw_C} (hdg : decode cc pc = .ok (.invokevirtual idx, 3)) (hM : jM l D G KV y b nL' ret' rm (.ref a :: av) w1 mc' ms' PP') (hcode : Cond.code y b nL' ret' ∈ tW) (hlink : Cond.methodLink own idx y ∈ tW) (hin : Cond.instanceMethod y ∈ tW) (hini : Cond.initialized y.cls ∈ tW) (hsel : Cond.selects y.cls y y ∈ tW) (he : w1[q0]? = some (a, .inr (ci, fs))) (hc : classes[ci]? = some r) (hrc : r.1 = y.cls) (hy : jyes y av.length) (hf : jfit R rm nL' mc' ms' cs sl) (hw : (rest.map fun v => v.category).sum ≤ 8) (hs : st = av.reverse ++ .ref a :: rest)
    (k : ∀ (v : Option Value) (u : va_W), PP' v u → K (cs + mc') (sl + ms') (u ++ w2) (pc + 3) L (v.toList ++ rest)) : K cs sl (w1 ++ w2) pc L st := by
  obtain ⟨p, e, s, m, args, below, meth, c, A, Qc, hx, hb, hml, hown, hts, hr, hlk, hnm, hK, hE, hA, hend, rfl⟩ := C
  intro H locs ls hP hD hS hL
  obtain ⟨hP1, hP2, hD1, hD2, hap⟩ := jr_split1 hP hD
  have hrecv := va_recv hK hP1 hc he
  rw [hrc] at hrecv
  refine jr_callF (sz := H.size) (wa := w2) (wc := w1) (av := (Value.ref a :: av).toArray) rfl (va_runV (As := av) (b := a) (C := y.cls) (rest := rest) (n := av.length) ⟨hx, hb, hml, hown, hts⟩ (hM H.size) ⟨callB_of av.length hts (tW_goodIn hcode) rfl hf.2.1.1 hf.2.1.2 (hts _ hini) (hts _ hlink) hy hf.1, hts _ hin, hts _ hsel⟩ ⟨jr_blind, hrecv, fun U hU hW => jr_pre hK hE hA hP1 hD1 hS hU hW⟩ rfl rfl hL.1 hs (lv_room hw) hdg hf.2.2) hS (jr_A hD1 hS hA) hP2 hP1 hD2 (fun i j p q h1 h2 e => hap j i q p h2 h1 e.symm) (fun v u H1 locs1 hp hPa hPu hDu ha2 hS => k v u hp H1 locs1 ls (hPu.app hPa) (va_D.app hDu hD2 (fun i j p q h1 h2 e => ha2 j i q p h2 h1 e.symm)) hS hL)
theorem j_fV2 (C : jK l D G KV own cc nL ret R mc ms nm PP K) {y : MethodName} {b : ByteArray} {nL' : Nat} {ret' : Option FieldType} {rm : Room} {av st : List Value} {mc' ms' idx a : Nat} {PP' : Option Value → va_W → Prop} {q0 ci : Nat} {fs : List Value} {r : vw_C} (hdg : decode cc pc = .ok (.invokevirtual idx, 3)) (hM : jM l D G KV y b nL' ret' rm (.ref a :: av) w2 mc' ms' PP') (hcode : Cond.code y b nL' ret' ∈ tW) (hlink : Cond.methodLink own idx y ∈ tW) (hin : Cond.instanceMethod y ∈ tW) (hini : Cond.initialized y.cls ∈ tW) (hsel : Cond.selects y.cls y y ∈ tW) (he : w2[q0]? = some (a, .inr (ci, fs))) (hc : classes[ci]? = some r) (hrc : r.1 = y.cls) (hy : jyes y av.length) (hf : jfit R rm nL' mc' ms' cs sl) (hw : (rest.map fun v => v.category).sum ≤ 8) (hs : st = av.reverse ++ .ref a :: rest)
    (k : ∀ (v : Option Value) (u : va_W), PP' v u → K (cs + mc') (sl + ms') (w1 ++ u) (pc + 3) L (v.toList ++ rest)) : K cs sl (w1 ++ w2) pc L st := by
  obtain ⟨p, e, s, m, args, below, meth, c, A, Qc, hx, hb, hml, hown, hts, hr, hlk, hnm, hK, hE, hA, hend, rfl⟩ := C
  intro H locs ls hP hD hS hL
  obtain ⟨hP1, hP2, hD1, hD2, hap⟩ := jr_split1 hP hD
  have hrecv := va_recv hK hP2 hc he
  rw [hrc] at hrecv
  refine jr_callF (sz := H.size) (wa := w1) (wc := w2) (av := (Value.ref a :: av).toArray) rfl (va_runV (As := av) (b := a) (C := y.cls) (rest := rest) (n := av.length) ⟨hx, hb, hml, hown, hts⟩ (hM H.size) ⟨callB_of av.length hts (tW_goodIn hcode) rfl hf.2.1.1 hf.2.1.2 (hts _ hini) (hts _ hlink) hy hf.1, hts _ hin, hts _ hsel⟩ ⟨jr_blind, hrecv, fun U hU hW => jr_pre hK hE hA hP2 hD2 hS hU hW⟩ rfl rfl hL.1 hs (lv_room hw) hdg hf.2.2) hS (jr_A hD2 hS hA) hP1 hP2 hD1 hap (fun v u H1 locs1 hp hPa hPu hDu ha2 hS => k v u hp H1 locs1 ls (hPa.app hPu) (va_D.app hD1 hDu ha2) hS hL)
theorem j_fI2 (C : jK l D G KV own cc nL ret R mc ms nm PP K) {y : MethodName} {b : ByteArray} {nL' : Nat} {rm : Room} {av st : List Value} {mc' ms' idx a : Nat} {PP' : Option Value → va_W → Prop} (hdg : decode cc pc = .ok (.invokespecial idx, 3)) (hM : jM l D G KV y b nL' none rm (.ref a :: av) w2 mc' ms' PP') (hcode : Cond.code y b nL' none ∈ tW) (hlink : Cond.methodLink own idx y ∈ tW) (hin : Cond.instanceMethod y ∈ tW) (hini : Cond.initialized y.cls ∈ tW) (hyn : y.name = "<init>") (hy : jyes y av.length) (hf : jfit R rm nL' mc' ms' cs sl) (hw : (rest.map fun v => v.category).sum ≤ 8) (hs : st = av.reverse ++ .ref a :: rest)
    (k : ∀ (v : Option Value) (u : va_W), PP' v u → K (cs + mc') (sl + ms') (w1 ++ u) (pc + 3) L (v.toList ++ rest)) : K cs sl (w1 ++ w2) pc L st := by
  obtain ⟨p, e, s, m, args, below, meth, c, A, Qc, hx, hb, hml, hown, hts, hr, hlk, hnm, hK, hE, hA, hend, rfl⟩ := C
  intro H locs ls hP hD hS hL
  obtain ⟨hP1, hP2, hD1, hD2, hap⟩ := jr_split1 hP hD
  refine jr_callF (sz := H.size) (wa := w1) (wc := w2) (av := (Value.ref a :: av).toArray) rfl (va_runI (As := av) (b := a) (rest := rest) (n := av.length) ⟨hx, hb, hml, hown, hts⟩ (hM H.size) ⟨callB_of av.length hts (tW_goodIn hcode) rfl hf.2.1.1 hf.2.1.2 (hts _ hini) (hts _ hlink) hy hf.1, hyn, hts _ hin⟩ ⟨jr_blind, fun U hU hW => jr_pre hK hE hA hP2 hD2 hS hU hW⟩ rfl rfl hL.1 hs (lv_room hw) hdg hf.2.2) hS (jr_A hD2 hS hA) hP1 hP2 hD1 hap (fun v u H1 locs1 hp hPa hPu hDu ha2 hS => k v u hp H1 locs1 ls (hPa.app hPu) (va_D.app hD1 hDu ha2) hS hL)
theorem j_fIN2 (C : jK l D G KV own cc nL ret R mc ms nm PP K) {y : MethodName} {b : ByteArray} {nL' : Nat} {rm : Room} {av st : List Value} {mc' ms' idx a : Nat} {host : String} {PP' : Option Value → va_W → Prop} (hdg : decode cc pc = .ok (.invokespecial idx, 3)) (hM : jM l D G KV y b nL' none rm (.ref a :: av) w2 mc' ms' PP') (hcode : Cond.code y b nL' none ∈ tW) (hlink : Cond.methodLinkNest own idx y host ∈ nestW) (hin : Cond.instanceMethod y ∈ tW) (hini : Cond.initialized y.cls ∈ tW) (hyn : y.name = "<init>") (hy : jyes y av.length) (hf : jfit R rm nL' mc' ms' cs sl) (hw : (rest.map fun v => v.category).sum ≤ 8) (hs : st = av.reverse ++ .ref a :: rest)
    (k : ∀ (v : Option Value) (u : va_W), PP' v u → K (cs + mc') (sl + ms') (w1 ++ u) (pc + 3) L (v.toList ++ rest)) : K cs sl (w1 ++ w2) pc L st := by
  obtain ⟨p, e, s, m, args, below, meth, c, A, Qc, hx, hb, hml, hown, hts, hr, hlk, hnm, hK, hE, hA, hend, rfl⟩ := C
  intro H locs ls hP hD hS hL
  obtain ⟨hP1, hP2, hD1, hD2, hap⟩ := jr_split1 hP hD
  refine jr_callF (sz := H.size) (wa := w1) (wc := w2) (av := (Value.ref a :: av).toArray) rfl (va_runIN (As := av) (b := a) (rest := rest) (n := av.length) (host := host) ⟨hx, hb, hml, hown, hts⟩ (hM H.size) ⟨va_cnB av.length hts (tW_goodIn hcode) rfl hf.2.1.1 hf.2.1.2 (hE.1 _ hlink) (hts _ hini) hy hf.1, hyn, hts _ hin⟩ ⟨jr_blind, fun U hU hW => jr_pre hK hE hA hP2 hD2 hS hU hW⟩ rfl rfl hL.1 hs (lv_room hw) hdg hf.2.2) hS (jr_A hD2 hS hA) hP1 hP2 hD1 hap (fun v u H1 locs1 hp hPa hPu hDu ha2 hS => k v u hp H1 locs1 ls (hPa.app hPu) (va_D.app hD1 hDu ha2) hS hL)
end JA
end
