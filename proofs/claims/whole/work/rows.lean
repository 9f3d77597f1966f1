section
-- ===== PART A: goes FIRST, ahead of the names: the tables' words, and 'selects' of the private methods out of them =====
/-- a private method of a class that the tables say can be made, by its rows of tables_1 -/
def lw_okq (q : MethodName × Nat) : Prop := (q.1.cls ≠ "java/lang/invoke/MethodHandle" ∧ q.1.cls ≠ "java/lang/invoke/VarHandle") ∧ Cond.instantiable q.1.cls q.2 ∈ tables_1 ∧ Cond.privateMethod q.1 ∈ tables_1 ∧ Cond.instanceMethod q.1 ∈ tables_1
theorem lw_p0 : lw_okq (⟨"RoadOfDoors", "outlookChanged", "()V"⟩, 9) := ⟨⟨by decide +kernel, by decide +kernel⟩, List.mem_of_getElem? (i := 19) (by decide +kernel), List.mem_of_getElem? (i := 381) (by decide +kernel), List.mem_of_getElem? (i := 382) (by decide +kernel)⟩
theorem lw_p1 : lw_okq (⟨"RoadOfDoors", "isDoor", "(I)Z"⟩, 9) := ⟨⟨by decide +kernel, by decide +kernel⟩, List.mem_of_getElem? (i := 19) (by decide +kernel), List.mem_of_getElem? (i := 397) (by decide +kernel), List.mem_of_getElem? (i := 398) (by decide +kernel)⟩
theorem lw_p2 : lw_okq (⟨"RoadOfDoors$Tape", "byteAt", "(I)I"⟩, 6) := ⟨⟨by decide +kernel, by decide +kernel⟩, List.mem_of_getElem? (i := 166) (by decide +kernel), List.mem_of_getElem? (i := 441) (by decide +kernel), List.mem_of_getElem? (i := 442) (by decide +kernel)⟩
theorem lw_p3 : lw_okq (⟨"RoadOfDoors$Tape", "readWord", "()V"⟩, 6) := ⟨⟨by decide +kernel, by decide +kernel⟩, List.mem_of_getElem? (i := 166) (by decide +kernel), List.mem_of_getElem? (i := 453) (by decide +kernel), List.mem_of_getElem? (i := 454) (by decide +kernel)⟩
theorem lw_p4 : lw_okq (⟨"RoadOfDoors$Tape", "nameSpelt", "()I"⟩, 6) := ⟨⟨by decide +kernel, by decide +kernel⟩, List.mem_of_getElem? (i := 166) (by decide +kernel), List.mem_of_getElem? (i := 457) (by decide +kernel), List.mem_of_getElem? (i := 458) (by decide +kernel)⟩
theorem lw_p5 : lw_okq (⟨"RoadOfDoors$Tape", "spells", "(Ljava/lang/String;)Z"⟩, 6) := ⟨⟨by decide +kernel, by decide +kernel⟩, List.mem_of_getElem? (i := 166) (by decide +kernel), List.mem_of_getElem? (i := 462) (by decide +kernel), List.mem_of_getElem? (i := 463) (by decide +kernel)⟩
theorem lw_p6 : lw_okq (⟨"RoadOfDoors$Tape", "wordSpelt", "()I"⟩, 6) := ⟨⟨by decide +kernel, by decide +kernel⟩, List.mem_of_getElem? (i := 166) (by decide +kernel), List.mem_of_getElem? (i := 521) (by decide +kernel), List.mem_of_getElem? (i := 522) (by decide +kernel)⟩
theorem lw_p7 : lw_okq (⟨"RoadOfDoors$Tape", "readNumber", "()V"⟩, 6) := ⟨⟨by decide +kernel, by decide +kernel⟩, List.mem_of_getElem? (i := 166) (by decide +kernel), List.mem_of_getElem? (i := 535) (by decide +kernel), List.mem_of_getElem? (i := 536) (by decide +kernel)⟩
theorem lw_p8 : lw_okq (⟨"RoadOfDoors$Reader", "take", "(I)V"⟩, 10) := ⟨⟨by decide +kernel, by decide +kernel⟩, List.mem_of_getElem? (i := 272) (by decide +kernel), List.mem_of_getElem? (i := 545) (by decide +kernel), List.mem_of_getElem? (i := 546) (by decide +kernel)⟩
theorem lw_p9 : lw_okq (⟨"RoadOfDoors$Reader", "takeClause", "(I)V"⟩, 10) := ⟨⟨by decide +kernel, by decide +kernel⟩, List.mem_of_getElem? (i := 272) (by decide +kernel), List.mem_of_getElem? (i := 549) (by decide +kernel), List.mem_of_getElem? (i := 550) (by decide +kernel)⟩
theorem lw_p10 : lw_okq (⟨"RoadOfDoors$Reader", "refuse", "(I)V"⟩, 10) := ⟨⟨by decide +kernel, by decide +kernel⟩, List.mem_of_getElem? (i := 272) (by decide +kernel), List.mem_of_getElem? (i := 553) (by decide +kernel), List.mem_of_getElem? (i := 554) (by decide +kernel)⟩
theorem lw_p11 : lw_okq (⟨"RoadOfDoors$Reader", "takeNumber", "(III)V"⟩, 10) := ⟨⟨by decide +kernel, by decide +kernel⟩, List.mem_of_getElem? (i := 272) (by decide +kernel), List.mem_of_getElem? (i := 561) (by decide +kernel), List.mem_of_getElem? (i := 562) (by decide +kernel)⟩
theorem lw_p12 : lw_okq (⟨"RoadOfDoors$Reader", "takeSign", "(II)V"⟩, 10) := ⟨⟨by decide +kernel, by decide +kernel⟩, List.mem_of_getElem? (i := 272) (by decide +kernel), List.mem_of_getElem? (i := 571) (by decide +kernel), List.mem_of_getElem? (i := 572) (by decide +kernel)⟩
theorem lw_p13 : lw_okq (⟨"RoadOfDoors$Reader", "takeOne", "(I)V"⟩, 10) := ⟨⟨by decide +kernel, by decide +kernel⟩, List.mem_of_getElem? (i := 272) (by decide +kernel), List.mem_of_getElem? (i := 579) (by decide +kernel), List.mem_of_getElem? (i := 580) (by decide +kernel)⟩
theorem lw_p14 : lw_okq (⟨"RoadOfDoors$Reader", "nest", "(I)V"⟩, 10) := ⟨⟨by decide +kernel, by decide +kernel⟩, List.mem_of_getElem? (i := 272) (by decide +kernel), List.mem_of_getElem? (i := 583) (by decide +kernel), List.mem_of_getElem? (i := 584) (by decide +kernel)⟩
theorem lw_p15 : lw_okq (⟨"RoadOfDoors$Reader", "put", "(I)V"⟩, 10) := ⟨⟨by decide +kernel, by decide +kernel⟩, List.mem_of_getElem? (i := 272) (by decide +kernel), List.mem_of_getElem? (i := 587) (by decide +kernel), List.mem_of_getElem? (i := 588) (by decide +kernel)⟩
def lw_privs_1 : List (MethodName × Nat) := [(⟨"RoadOfDoors", "outlookChanged", "()V"⟩, 9), (⟨"RoadOfDoors", "isDoor", "(I)Z"⟩, 9), (⟨"RoadOfDoors$Tape", "byteAt", "(I)I"⟩, 6), (⟨"RoadOfDoors$Tape", "readWord", "()V"⟩, 6), (⟨"RoadOfDoors$Tape", "nameSpelt", "()I"⟩, 6), (⟨"RoadOfDoors$Tape", "spells", "(Ljava/lang/String;)Z"⟩, 6), (⟨"RoadOfDoors$Tape", "wordSpelt", "()I"⟩, 6), (⟨"RoadOfDoors$Tape", "readNumber", "()V"⟩, 6), (⟨"RoadOfDoors$Reader", "take", "(I)V"⟩, 10), (⟨"RoadOfDoors$Reader", "takeClause", "(I)V"⟩, 10), (⟨"RoadOfDoors$Reader", "refuse", "(I)V"⟩, 10), (⟨"RoadOfDoors$Reader", "takeNumber", "(III)V"⟩, 10), (⟨"RoadOfDoors$Reader", "takeSign", "(II)V"⟩, 10), (⟨"RoadOfDoors$Reader", "takeOne", "(I)V"⟩, 10), (⟨"RoadOfDoors$Reader", "nest", "(I)V"⟩, 10), (⟨"RoadOfDoors$Reader", "put", "(I)V"⟩, 10)]
theorem lw_r1 : ∀ q ∈ lw_privs_1, lw_okq q := List.forall_mem_cons.mpr ⟨lw_p0, List.forall_mem_cons.mpr ⟨lw_p1, List.forall_mem_cons.mpr ⟨lw_p2, List.forall_mem_cons.mpr ⟨lw_p3, List.forall_mem_cons.mpr ⟨lw_p4, List.forall_mem_cons.mpr ⟨lw_p5, List.forall_mem_cons.mpr ⟨lw_p6, List.forall_mem_cons.mpr ⟨lw_p7, List.forall_mem_cons.mpr ⟨lw_p8, List.forall_mem_cons.mpr ⟨lw_p9, List.forall_mem_cons.mpr ⟨lw_p10, List.forall_mem_cons.mpr ⟨lw_p11, List.forall_mem_cons.mpr ⟨lw_p12, List.forall_mem_cons.mpr ⟨lw_p13, List.forall_mem_cons.mpr ⟨lw_p14, List.forall_mem_cons.mpr ⟨lw_p15, fun _ h => absurd h List.not_mem_nil⟩⟩⟩⟩⟩⟩⟩⟩⟩⟩⟩⟩⟩⟩⟩⟩
theorem lw_p16 : lw_okq (⟨"RoadOfDoors$Reader", "atAsk", "()Z"⟩, 10) := ⟨⟨by decide +kernel, by decide +kernel⟩, List.mem_of_getElem? (i := 272) (by decide +kernel), List.mem_of_getElem? (i := 591) (by decide +kernel), List.mem_of_getElem? (i := 592) (by decide +kernel)⟩
theorem lw_p17 : lw_okq (⟨"RoadOfDoors$Reader", "pileAt", "(I)I"⟩, 10) := ⟨⟨by decide +kernel, by decide +kernel⟩, List.mem_of_getElem? (i := 272) (by decide +kernel), List.mem_of_getElem? (i := 595) (by decide +kernel), List.mem_of_getElem? (i := 596) (by decide +kernel)⟩
theorem lw_p18 : lw_okq (⟨"RoadOfDoors$Reader", "endOne", "()V"⟩, 10) := ⟨⟨by decide +kernel, by decide +kernel⟩, List.mem_of_getElem? (i := 272) (by decide +kernel), List.mem_of_getElem? (i := 607) (by decide +kernel), List.mem_of_getElem? (i := 608) (by decide +kernel)⟩
theorem lw_p19 : lw_okq (⟨"RoadOfDoors$Reader", "joinDownTo", "(I)V"⟩, 10) := ⟨⟨by decide +kernel, by decide +kernel⟩, List.mem_of_getElem? (i := 272) (by decide +kernel), List.mem_of_getElem? (i := 611) (by decide +kernel), List.mem_of_getElem? (i := 612) (by decide +kernel)⟩
theorem lw_p20 : lw_okq (⟨"RoadOfDoors$Reader", "takeBehindOne", "(I)V"⟩, 10) := ⟨⟨by decide +kernel, by decide +kernel⟩, List.mem_of_getElem? (i := 272) (by decide +kernel), List.mem_of_getElem? (i := 619) (by decide +kernel), List.mem_of_getElem? (i := 620) (by decide +kernel)⟩
theorem lw_p21 : lw_okq (⟨"RoadOfDoors$Reader", "join", "(II)V"⟩, 10) := ⟨⟨by decide +kernel, by decide +kernel⟩, List.mem_of_getElem? (i := 272) (by decide +kernel), List.mem_of_getElem? (i := 623) (by decide +kernel), List.mem_of_getElem? (i := 624) (by decide +kernel)⟩
theorem lw_p22 : lw_okq (⟨"RoadOfDoors$Reader", "close", "()V"⟩, 10) := ⟨⟨by decide +kernel, by decide +kernel⟩, List.mem_of_getElem? (i := 272) (by decide +kernel), List.mem_of_getElem? (i := 627) (by decide +kernel), List.mem_of_getElem? (i := 628) (by decide +kernel)⟩
theorem lw_p23 : lw_okq (⟨"RoadOfDoors", "isKnock", "(IIIII)Z"⟩, 9) := ⟨⟨by decide +kernel, by decide +kernel⟩, List.mem_of_getElem? (i := 19) (by decide +kernel), List.mem_of_getElem? (i := 643) (by decide +kernel), List.mem_of_getElem? (i := 644) (by decide +kernel)⟩
theorem lw_p24 : lw_okq (⟨"RoadOfDoors$Rules", "face", "(III)V"⟩, 7) := ⟨⟨by decide +kernel, by decide +kernel⟩, List.mem_of_getElem? (i := 196) (by decide +kernel), List.mem_of_getElem? (i := 655) (by decide +kernel), List.mem_of_getElem? (i := 656) (by decide +kernel)⟩
theorem lw_p25 : lw_okq (⟨"RoadOfDoors$Rules", "holds", "(LRoadOfDoors$Text;)Z"⟩, 7) := ⟨⟨by decide +kernel, by decide +kernel⟩, List.mem_of_getElem? (i := 196) (by decide +kernel), List.mem_of_getElem? (i := 659) (by decide +kernel), List.mem_of_getElem? (i := 660) (by decide +kernel)⟩
theorem lw_p26 : lw_okq (⟨"RoadOfDoors", "isTraveller", "(IIII)Z"⟩, 9) := ⟨⟨by decide +kernel, by decide +kernel⟩, List.mem_of_getElem? (i := 19) (by decide +kernel), List.mem_of_getElem? (i := 674) (by decide +kernel), List.mem_of_getElem? (i := 675) (by decide +kernel)⟩
theorem lw_p27 : lw_okq (⟨"RoadOfDoors", "canKnock", "(II)Z"⟩, 9) := ⟨⟨by decide +kernel, by decide +kernel⟩, List.mem_of_getElem? (i := 19) (by decide +kernel), List.mem_of_getElem? (i := 686) (by decide +kernel), List.mem_of_getElem? (i := 687) (by decide +kernel)⟩
theorem lw_p28 : lw_okq (⟨"RoadOfDoors", "knocked", "(II)Z"⟩, 9) := ⟨⟨by decide +kernel, by decide +kernel⟩, List.mem_of_getElem? (i := 19) (by decide +kernel), List.mem_of_getElem? (i := 690) (by decide +kernel), List.mem_of_getElem? (i := 691) (by decide +kernel)⟩
theorem lw_p29 : lw_okq (⟨"RoadOfDoors", "canWait", "(I)Z"⟩, 9) := ⟨⟨by decide +kernel, by decide +kernel⟩, List.mem_of_getElem? (i := 19) (by decide +kernel), List.mem_of_getElem? (i := 717) (by decide +kernel), List.mem_of_getElem? (i := 718) (by decide +kernel)⟩
theorem lw_p30 : lw_okq (⟨"RoadOfDoors", "waited", "(I)V"⟩, 9) := ⟨⟨by decide +kernel, by decide +kernel⟩, List.mem_of_getElem? (i := 19) (by decide +kernel), List.mem_of_getElem? (i := 721) (by decide +kernel), List.mem_of_getElem? (i := 722) (by decide +kernel)⟩
theorem lw_p31 : lw_okq (⟨"RoadOfDoors", "clauseDone", "(II)Z"⟩, 9) := ⟨⟨by decide +kernel, by decide +kernel⟩, List.mem_of_getElem? (i := 19) (by decide +kernel), List.mem_of_getElem? (i := 729) (by decide +kernel), List.mem_of_getElem? (i := 730) (by decide +kernel)⟩
def lw_privs_2 : List (MethodName × Nat) := [(⟨"RoadOfDoors$Reader", "atAsk", "()Z"⟩, 10), (⟨"RoadOfDoors$Reader", "pileAt", "(I)I"⟩, 10), (⟨"RoadOfDoors$Reader", "endOne", "()V"⟩, 10), (⟨"RoadOfDoors$Reader", "joinDownTo", "(I)V"⟩, 10), (⟨"RoadOfDoors$Reader", "takeBehindOne", "(I)V"⟩, 10), (⟨"RoadOfDoors$Reader", "join", "(II)V"⟩, 10), (⟨"RoadOfDoors$Reader", "close", "()V"⟩, 10), (⟨"RoadOfDoors", "isKnock", "(IIIII)Z"⟩, 9), (⟨"RoadOfDoors$Rules", "face", "(III)V"⟩, 7), (⟨"RoadOfDoors$Rules", "holds", "(LRoadOfDoors$Text;)Z"⟩, 7), (⟨"RoadOfDoors", "isTraveller", "(IIII)Z"⟩, 9), (⟨"RoadOfDoors", "canKnock", "(II)Z"⟩, 9), (⟨"RoadOfDoors", "knocked", "(II)Z"⟩, 9), (⟨"RoadOfDoors", "canWait", "(I)Z"⟩, 9), (⟨"RoadOfDoors", "waited", "(I)V"⟩, 9), (⟨"RoadOfDoors", "clauseDone", "(II)Z"⟩, 9)]
theorem lw_r2 : ∀ q ∈ lw_privs_2, lw_okq q := List.forall_mem_cons.mpr ⟨lw_p16, List.forall_mem_cons.mpr ⟨lw_p17, List.forall_mem_cons.mpr ⟨lw_p18, List.forall_mem_cons.mpr ⟨lw_p19, List.forall_mem_cons.mpr ⟨lw_p20, List.forall_mem_cons.mpr ⟨lw_p21, List.forall_mem_cons.mpr ⟨lw_p22, List.forall_mem_cons.mpr ⟨lw_p23, List.forall_mem_cons.mpr ⟨lw_p24, List.forall_mem_cons.mpr ⟨lw_p25, List.forall_mem_cons.mpr ⟨lw_p26, List.forall_mem_cons.mpr ⟨lw_p27, List.forall_mem_cons.mpr ⟨lw_p28, List.forall_mem_cons.mpr ⟨lw_p29, List.forall_mem_cons.mpr ⟨lw_p30, List.forall_mem_cons.mpr ⟨lw_p31, fun _ h => absurd h List.not_mem_nil⟩⟩⟩⟩⟩⟩⟩⟩⟩⟩⟩⟩⟩⟩⟩⟩
theorem lw_p32 : lw_okq (⟨"RoadOfDoors$Rules", "searched", "(LRoadOfDoors$Text;)J"⟩, 7) := ⟨⟨by decide +kernel, by decide +kernel⟩, List.mem_of_getElem? (i := 196) (by decide +kernel), List.mem_of_getElem? (i := 761) (by decide +kernel), List.mem_of_getElem? (i := 762) (by decide +kernel)⟩
theorem lw_p33 : lw_okq (⟨"RoadOfDoors$Ways", "canPass", "([III)Z"⟩, 12) := ⟨⟨by decide +kernel, by decide +kernel⟩, List.mem_of_getElem? (i := 225) (by decide +kernel), List.mem_of_getElem? (i := 773) (by decide +kernel), List.mem_of_getElem? (i := 774) (by decide +kernel)⟩
theorem lw_p34 : lw_okq (⟨"RoadOfDoors$Ways", "cheapest", "(I)I"⟩, 12) := ⟨⟨by decide +kernel, by decide +kernel⟩, List.mem_of_getElem? (i := 225) (by decide +kernel), List.mem_of_getElem? (i := 784) (by decide +kernel), List.mem_of_getElem? (i := 785) (by decide +kernel)⟩
theorem lw_p35 : lw_okq (⟨"RoadOfDoors$Ways", "choose", "(IIJ)V"⟩, 12) := ⟨⟨by decide +kernel, by decide +kernel⟩, List.mem_of_getElem? (i := 225) (by decide +kernel), List.mem_of_getElem? (i := 800) (by decide +kernel), List.mem_of_getElem? (i := 801) (by decide +kernel)⟩
theorem lw_p36 : lw_okq (⟨"RoadOfDoors$Ways", "walk", "(I)V"⟩, 12) := ⟨⟨by decide +kernel, by decide +kernel⟩, List.mem_of_getElem? (i := 225) (by decide +kernel), List.mem_of_getElem? (i := 804) (by decide +kernel), List.mem_of_getElem? (i := 805) (by decide +kernel)⟩
theorem lw_p37 : lw_okq (⟨"RoadOfDoors$Earnings", "startTrial", "(Z)V"⟩, 8) := ⟨⟨by decide +kernel, by decide +kernel⟩, List.mem_of_getElem? (i := 311) (by decide +kernel), List.mem_of_getElem? (i := 833) (by decide +kernel), List.mem_of_getElem? (i := 834) (by decide +kernel)⟩
theorem lw_p38 : lw_okq (⟨"RoadOfDoors$Earnings", "earned", "(I)I"⟩, 8) := ⟨⟨by decide +kernel, by decide +kernel⟩, List.mem_of_getElem? (i := 311) (by decide +kernel), List.mem_of_getElem? (i := 840) (by decide +kernel), List.mem_of_getElem? (i := 841) (by decide +kernel)⟩
theorem lw_p39 : lw_okq (⟨"RoadOfDoors$Earnings", "bestRule", "(I)I"⟩, 8) := ⟨⟨by decide +kernel, by decide +kernel⟩, List.mem_of_getElem? (i := 311) (by decide +kernel), List.mem_of_getElem? (i := 854) (by decide +kernel), List.mem_of_getElem? (i := 855) (by decide +kernel)⟩
theorem lw_p40 : lw_okq (⟨"RoadOfDoors$Earnings", "trialNumber", "()I"⟩, 8) := ⟨⟨by decide +kernel, by decide +kernel⟩, List.mem_of_getElem? (i := 311) (by decide +kernel), List.mem_of_getElem? (i := 866) (by decide +kernel), List.mem_of_getElem? (i := 867) (by decide +kernel)⟩
theorem lw_p41 : lw_okq (⟨"RoadOfDoors$Earnings", "isPast", "(I)Z"⟩, 8) := ⟨⟨by decide +kernel, by decide +kernel⟩, List.mem_of_getElem? (i := 311) (by decide +kernel), List.mem_of_getElem? (i := 870) (by decide +kernel), List.mem_of_getElem? (i := 871) (by decide +kernel)⟩
theorem lw_p42 : lw_okq (⟨"RoadOfDoors", "agrees", "(III)Z"⟩, 9) := ⟨⟨by decide +kernel, by decide +kernel⟩, List.mem_of_getElem? (i := 19) (by decide +kernel), List.mem_of_getElem? (i := 882) (by decide +kernel), List.mem_of_getElem? (i := 883) (by decide +kernel)⟩
theorem lw_p43 : lw_okq (⟨"RoadOfDoors", "aboutPart", "(I)I"⟩, 9) := ⟨⟨by decide +kernel, by decide +kernel⟩, List.mem_of_getElem? (i := 19) (by decide +kernel), List.mem_of_getElem? (i := 907) (by decide +kernel), List.mem_of_getElem? (i := 908) (by decide +kernel)⟩
theorem lw_p44 : lw_okq (⟨"RoadOfDoorsModel", "isDoor", "(I)Z"⟩, 32) := ⟨⟨by decide +kernel, by decide +kernel⟩, List.mem_of_getElem? (i := 914) (by decide +kernel), List.mem_of_getElem? (i := 1033) (by decide +kernel), List.mem_of_getElem? (i := 1034) (by decide +kernel)⟩
theorem lw_p45 : lw_okq (⟨"RoadOfDoorsModel", "four", "(I)V"⟩, 32) := ⟨⟨by decide +kernel, by decide +kernel⟩, List.mem_of_getElem? (i := 914) (by decide +kernel), List.mem_of_getElem? (i := 1049) (by decide +kernel), List.mem_of_getElem? (i := 1050) (by decide +kernel)⟩
theorem lw_p46 : lw_okq (⟨"RoadOfDoorsModel", "readText", "()I"⟩, 32) := ⟨⟨by decide +kernel, by decide +kernel⟩, List.mem_of_getElem? (i := 914) (by decide +kernel), List.mem_of_getElem? (i := 1061) (by decide +kernel), List.mem_of_getElem? (i := 1062) (by decide +kernel)⟩
theorem lw_p47 : lw_okq (⟨"RoadOfDoorsModel", "nextToken", "()V"⟩, 32) := ⟨⟨by decide +kernel, by decide +kernel⟩, List.mem_of_getElem? (i := 914) (by decide +kernel), List.mem_of_getElem? (i := 1065) (by decide +kernel), List.mem_of_getElem? (i := 1066) (by decide +kernel)⟩
def lw_privs_3 : List (MethodName × Nat) := [(⟨"RoadOfDoors$Rules", "searched", "(LRoadOfDoors$Text;)J"⟩, 7), (⟨"RoadOfDoors$Ways", "canPass", "([III)Z"⟩, 12), (⟨"RoadOfDoors$Ways", "cheapest", "(I)I"⟩, 12), (⟨"RoadOfDoors$Ways", "choose", "(IIJ)V"⟩, 12), (⟨"RoadOfDoors$Ways", "walk", "(I)V"⟩, 12), (⟨"RoadOfDoors$Earnings", "startTrial", "(Z)V"⟩, 8), (⟨"RoadOfDoors$Earnings", "earned", "(I)I"⟩, 8), (⟨"RoadOfDoors$Earnings", "bestRule", "(I)I"⟩, 8), (⟨"RoadOfDoors$Earnings", "trialNumber", "()I"⟩, 8), (⟨"RoadOfDoors$Earnings", "isPast", "(I)Z"⟩, 8), (⟨"RoadOfDoors", "agrees", "(III)Z"⟩, 9), (⟨"RoadOfDoors", "aboutPart", "(I)I"⟩, 9), (⟨"RoadOfDoorsModel", "isDoor", "(I)Z"⟩, 32), (⟨"RoadOfDoorsModel", "four", "(I)V"⟩, 32), (⟨"RoadOfDoorsModel", "readText", "()I"⟩, 32), (⟨"RoadOfDoorsModel", "nextToken", "()V"⟩, 32)]
theorem lw_r3 : ∀ q ∈ lw_privs_3, lw_okq q := List.forall_mem_cons.mpr ⟨lw_p32, List.forall_mem_cons.mpr ⟨lw_p33, List.forall_mem_cons.mpr ⟨lw_p34, List.forall_mem_cons.mpr ⟨lw_p35, List.forall_mem_cons.mpr ⟨lw_p36, List.forall_mem_cons.mpr ⟨lw_p37, List.forall_mem_cons.mpr ⟨lw_p38, List.forall_mem_cons.mpr ⟨lw_p39, List.forall_mem_cons.mpr ⟨lw_p40, List.forall_mem_cons.mpr ⟨lw_p41, List.forall_mem_cons.mpr ⟨lw_p42, List.forall_mem_cons.mpr ⟨lw_p43, List.forall_mem_cons.mpr ⟨lw_p44, List.forall_mem_cons.mpr ⟨lw_p45, List.forall_mem_cons.mpr ⟨lw_p46, List.forall_mem_cons.mpr ⟨lw_p47, fun _ h => absurd h List.not_mem_nil⟩⟩⟩⟩⟩⟩⟩⟩⟩⟩⟩⟩⟩⟩⟩⟩
theorem lw_p48 : lw_okq (⟨"RoadOfDoorsModel", "byteAt", "(I)I"⟩, 32) := ⟨⟨by decide +kernel, by decide +kernel⟩, List.mem_of_getElem? (i := 914) (by decide +kernel), List.mem_of_getElem? (i := 1069) (by decide +kernel), List.mem_of_getElem? (i := 1070) (by decide +kernel)⟩
theorem lw_p49 : lw_okq (⟨"RoadOfDoorsModel", "clause", "()I"⟩, 32) := ⟨⟨by decide +kernel, by decide +kernel⟩, List.mem_of_getElem? (i := 914) (by decide +kernel), List.mem_of_getElem? (i := 1080) (by decide +kernel), List.mem_of_getElem? (i := 1081) (by decide +kernel)⟩
theorem lw_p50 : lw_okq (⟨"RoadOfDoorsModel", "sortOf", "()I"⟩, 32) := ⟨⟨by decide +kernel, by decide +kernel⟩, List.mem_of_getElem? (i := 914) (by decide +kernel), List.mem_of_getElem? (i := 1084) (by decide +kernel), List.mem_of_getElem? (i := 1085) (by decide +kernel)⟩
theorem lw_p51 : lw_okq (⟨"RoadOfDoorsModel", "isWord", "(J)Z"⟩, 32) := ⟨⟨by decide +kernel, by decide +kernel⟩, List.mem_of_getElem? (i := 914) (by decide +kernel), List.mem_of_getElem? (i := 1094) (by decide +kernel), List.mem_of_getElem? (i := 1095) (by decide +kernel)⟩
theorem lw_p52 : lw_okq (⟨"RoadOfDoorsModel", "either", "()I"⟩, 32) := ⟨⟨by decide +kernel, by decide +kernel⟩, List.mem_of_getElem? (i := 914) (by decide +kernel), List.mem_of_getElem? (i := 1101) (by decide +kernel), List.mem_of_getElem? (i := 1102) (by decide +kernel)⟩
theorem lw_p53 : lw_okq (⟨"RoadOfDoorsModel", "asks", "()I"⟩, 32) := ⟨⟨by decide +kernel, by decide +kernel⟩, List.mem_of_getElem? (i := 914) (by decide +kernel), List.mem_of_getElem? (i := 1105) (by decide +kernel), List.mem_of_getElem? (i := 1106) (by decide +kernel)⟩
theorem lw_p54 : lw_okq (⟨"RoadOfDoorsModel", "summed", "()I"⟩, 32) := ⟨⟨by decide +kernel, by decide +kernel⟩, List.mem_of_getElem? (i := 914) (by decide +kernel), List.mem_of_getElem? (i := 1109) (by decide +kernel), List.mem_of_getElem? (i := 1110) (by decide +kernel)⟩
theorem lw_p55 : lw_okq (⟨"RoadOfDoorsModel", "goesOn", "()Z"⟩, 32) := ⟨⟨by decide +kernel, by decide +kernel⟩, List.mem_of_getElem? (i := 914) (by decide +kernel), List.mem_of_getElem? (i := 1113) (by decide +kernel), List.mem_of_getElem? (i := 1114) (by decide +kernel)⟩
theorem lw_p56 : lw_okq (⟨"RoadOfDoorsModel", "hasParen", "()Z"⟩, 32) := ⟨⟨by decide +kernel, by decide +kernel⟩, List.mem_of_getElem? (i := 914) (by decide +kernel), List.mem_of_getElem? (i := 1117) (by decide +kernel), List.mem_of_getElem? (i := 1118) (by decide +kernel)⟩
theorem lw_p57 : lw_okq (⟨"RoadOfDoorsModel", "behindOne", "()I"⟩, 32) := ⟨⟨by decide +kernel, by decide +kernel⟩, List.mem_of_getElem? (i := 914) (by decide +kernel), List.mem_of_getElem? (i := 1121) (by decide +kernel), List.mem_of_getElem? (i := 1122) (by decide +kernel)⟩
theorem lw_p58 : lw_okq (⟨"RoadOfDoorsModel", "settle", "(I)V"⟩, 32) := ⟨⟨by decide +kernel, by decide +kernel⟩, List.mem_of_getElem? (i := 914) (by decide +kernel), List.mem_of_getElem? (i := 1125) (by decide +kernel), List.mem_of_getElem? (i := 1126) (by decide +kernel)⟩
theorem lw_p59 : lw_okq (⟨"RoadOfDoorsModel", "emit", "(II)V"⟩, 32) := ⟨⟨by decide +kernel, by decide +kernel⟩, List.mem_of_getElem? (i := 914) (by decide +kernel), List.mem_of_getElem? (i := 1129) (by decide +kernel), List.mem_of_getElem? (i := 1130) (by decide +kernel)⟩
theorem lw_p60 : lw_okq (⟨"RoadOfDoorsModel", "push", "(I)V"⟩, 32) := ⟨⟨by decide +kernel, by decide +kernel⟩, List.mem_of_getElem? (i := 914) (by decide +kernel), List.mem_of_getElem? (i := 1133) (by decide +kernel), List.mem_of_getElem? (i := 1134) (by decide +kernel)⟩
theorem lw_p61 : lw_okq (⟨"RoadOfDoorsModel", "whole", "()V"⟩, 32) := ⟨⟨by decide +kernel, by decide +kernel⟩, List.mem_of_getElem? (i := 914) (by decide +kernel), List.mem_of_getElem? (i := 1137) (by decide +kernel), List.mem_of_getElem? (i := 1138) (by decide +kernel)⟩
theorem lw_p62 : lw_okq (⟨"RoadOfDoorsModel", "beginOne", "()I"⟩, 32) := ⟨⟨by decide +kernel, by decide +kernel⟩, List.mem_of_getElem? (i := 914) (by decide +kernel), List.mem_of_getElem? (i := 1141) (by decide +kernel), List.mem_of_getElem? (i := 1142) (by decide +kernel)⟩
theorem lw_p63 : lw_okq (⟨"RoadOfDoorsModel", "nameOf", "()I"⟩, 32) := ⟨⟨by decide +kernel, by decide +kernel⟩, List.mem_of_getElem? (i := 914) (by decide +kernel), List.mem_of_getElem? (i := 1145) (by decide +kernel), List.mem_of_getElem? (i := 1146) (by decide +kernel)⟩
def lw_privs_4 : List (MethodName × Nat) := [(⟨"RoadOfDoorsModel", "byteAt", "(I)I"⟩, 32), (⟨"RoadOfDoorsModel", "clause", "()I"⟩, 32), (⟨"RoadOfDoorsModel", "sortOf", "()I"⟩, 32), (⟨"RoadOfDoorsModel", "isWord", "(J)Z"⟩, 32), (⟨"RoadOfDoorsModel", "either", "()I"⟩, 32), (⟨"RoadOfDoorsModel", "asks", "()I"⟩, 32), (⟨"RoadOfDoorsModel", "summed", "()I"⟩, 32), (⟨"RoadOfDoorsModel", "goesOn", "()Z"⟩, 32), (⟨"RoadOfDoorsModel", "hasParen", "()Z"⟩, 32), (⟨"RoadOfDoorsModel", "behindOne", "()I"⟩, 32), (⟨"RoadOfDoorsModel", "settle", "(I)V"⟩, 32), (⟨"RoadOfDoorsModel", "emit", "(II)V"⟩, 32), (⟨"RoadOfDoorsModel", "push", "(I)V"⟩, 32), (⟨"RoadOfDoorsModel", "whole", "()V"⟩, 32), (⟨"RoadOfDoorsModel", "beginOne", "()I"⟩, 32), (⟨"RoadOfDoorsModel", "nameOf", "()I"⟩, 32)]
theorem lw_r4 : ∀ q ∈ lw_privs_4, lw_okq q := List.forall_mem_cons.mpr ⟨lw_p48, List.forall_mem_cons.mpr ⟨lw_p49, List.forall_mem_cons.mpr ⟨lw_p50, List.forall_mem_cons.mpr ⟨lw_p51, List.forall_mem_cons.mpr ⟨lw_p52, List.forall_mem_cons.mpr ⟨lw_p53, List.forall_mem_cons.mpr ⟨lw_p54, List.forall_mem_cons.mpr ⟨lw_p55, List.forall_mem_cons.mpr ⟨lw_p56, List.forall_mem_cons.mpr ⟨lw_p57, List.forall_mem_cons.mpr ⟨lw_p58, List.forall_mem_cons.mpr ⟨lw_p59, List.forall_mem_cons.mpr ⟨lw_p60, List.forall_mem_cons.mpr ⟨lw_p61, List.forall_mem_cons.mpr ⟨lw_p62, List.forall_mem_cons.mpr ⟨lw_p63, fun _ h => absurd h List.not_mem_nil⟩⟩⟩⟩⟩⟩⟩⟩⟩⟩⟩⟩⟩⟩⟩⟩
theorem lw_p64 : lw_okq (⟨"RoadOfDoorsModel", "compareOf", "()I"⟩, 32) := ⟨⟨by decide +kernel, by decide +kernel⟩, List.mem_of_getElem? (i := 914) (by decide +kernel), List.mem_of_getElem? (i := 1152) (by decide +kernel), List.mem_of_getElem? (i := 1153) (by decide +kernel)⟩
theorem lw_p65 : lw_okq (⟨"RoadOfDoorsModel", "knocked", "(I)I"⟩, 32) := ⟨⟨by decide +kernel, by decide +kernel⟩, List.mem_of_getElem? (i := 914) (by decide +kernel), List.mem_of_getElem? (i := 1157) (by decide +kernel), List.mem_of_getElem? (i := 1158) (by decide +kernel)⟩
theorem lw_p66 : lw_okq (⟨"RoadOfDoorsModel", "figure", "(III)I"⟩, 32) := ⟨⟨by decide +kernel, by decide +kernel⟩, List.mem_of_getElem? (i := 914) (by decide +kernel), List.mem_of_getElem? (i := 1161) (by decide +kernel), List.mem_of_getElem? (i := 1162) (by decide +kernel)⟩
theorem lw_p67 : lw_okq (⟨"RoadOfDoorsModel", "isRule", "(I)Z"⟩, 32) := ⟨⟨by decide +kernel, by decide +kernel⟩, List.mem_of_getElem? (i := 914) (by decide +kernel), List.mem_of_getElem? (i := 1173) (by decide +kernel), List.mem_of_getElem? (i := 1174) (by decide +kernel)⟩
theorem lw_p68 : lw_okq (⟨"RoadOfDoorsModel", "isOpen", "(IIIIIII)Z"⟩, 32) := ⟨⟨by decide +kernel, by decide +kernel⟩, List.mem_of_getElem? (i := 914) (by decide +kernel), List.mem_of_getElem? (i := 1184) (by decide +kernel), List.mem_of_getElem? (i := 1185) (by decide +kernel)⟩
theorem lw_p69 : lw_okq (⟨"RoadOfDoorsModel", "work", "(II)V"⟩, 32) := ⟨⟨by decide +kernel, by decide +kernel⟩, List.mem_of_getElem? (i := 914) (by decide +kernel), List.mem_of_getElem? (i := 1188) (by decide +kernel), List.mem_of_getElem? (i := 1189) (by decide +kernel)⟩
theorem lw_p70 : lw_okq (⟨"RoadOfDoorsModel", "isTraveller", "(IIII)Z"⟩, 32) := ⟨⟨by decide +kernel, by decide +kernel⟩, List.mem_of_getElem? (i := 914) (by decide +kernel), List.mem_of_getElem? (i := 1207) (by decide +kernel), List.mem_of_getElem? (i := 1208) (by decide +kernel)⟩
theorem lw_p71 : lw_okq (⟨"RoadOfDoorsModel", "keepStep", "()V"⟩, 32) := ⟨⟨by decide +kernel, by decide +kernel⟩, List.mem_of_getElem? (i := 914) (by decide +kernel), List.mem_of_getElem? (i := 1219) (by decide +kernel), List.mem_of_getElem? (i := 1220) (by decide +kernel)⟩
theorem lw_p72 : lw_okq (⟨"RoadOfDoorsModel", "hourBy", "(Z)V"⟩, 32) := ⟨⟨by decide +kernel, by decide +kernel⟩, List.mem_of_getElem? (i := 914) (by decide +kernel), List.mem_of_getElem? (i := 1227) (by decide +kernel), List.mem_of_getElem? (i := 1228) (by decide +kernel)⟩
theorem lw_p73 : lw_okq (⟨"RoadOfDoorsModel", "isPlayed", "(I)Z"⟩, 32) := ⟨⟨by decide +kernel, by decide +kernel⟩, List.mem_of_getElem? (i := 914) (by decide +kernel), List.mem_of_getElem? (i := 1239) (by decide +kernel), List.mem_of_getElem? (i := 1240) (by decide +kernel)⟩
theorem lw_p74 : lw_okq (⟨"RoadOfDoorsModel", "forgetLeasts", "(II)V"⟩, 32) := ⟨⟨by decide +kernel, by decide +kernel⟩, List.mem_of_getElem? (i := 914) (by decide +kernel), List.mem_of_getElem? (i := 1253) (by decide +kernel), List.mem_of_getElem? (i := 1254) (by decide +kernel)⟩
theorem lw_p75 : lw_okq (⟨"RoadOfDoorsModel", "soonestOf", "(II)I"⟩, 32) := ⟨⟨by decide +kernel, by decide +kernel⟩, List.mem_of_getElem? (i := 914) (by decide +kernel), List.mem_of_getElem? (i := 1258) (by decide +kernel), List.mem_of_getElem? (i := 1259) (by decide +kernel)⟩
theorem lw_p76 : lw_okq (⟨"RoadOfDoorsModel", "reckon", "(IIZ)I"⟩, 32) := ⟨⟨by decide +kernel, by decide +kernel⟩, List.mem_of_getElem? (i := 914) (by decide +kernel), List.mem_of_getElem? (i := 1262) (by decide +kernel), List.mem_of_getElem? (i := 1263) (by decide +kernel)⟩
theorem lw_p77 : lw_okq (⟨"RoadOfDoorsModel", "by", "(IIIII)I"⟩, 32) := ⟨⟨by decide +kernel, by decide +kernel⟩, List.mem_of_getElem? (i := 914) (by decide +kernel), List.mem_of_getElem? (i := 1267) (by decide +kernel), List.mem_of_getElem? (i := 1268) (by decide +kernel)⟩
theorem lw_p78 : lw_okq (⟨"RoadOfDoorsModel", "leastGift", "(IIIII)I"⟩, 32) := ⟨⟨by decide +kernel, by decide +kernel⟩, List.mem_of_getElem? (i := 914) (by decide +kernel), List.mem_of_getElem? (i := 1274) (by decide +kernel), List.mem_of_getElem? (i := 1275) (by decide +kernel)⟩
theorem lw_p79 : lw_okq (⟨"RoadOfDoorsModel", "follow", "(I)V"⟩, 32) := ⟨⟨by decide +kernel, by decide +kernel⟩, List.mem_of_getElem? (i := 914) (by decide +kernel), List.mem_of_getElem? (i := 1278) (by decide +kernel), List.mem_of_getElem? (i := 1279) (by decide +kernel)⟩
def lw_privs_5 : List (MethodName × Nat) := [(⟨"RoadOfDoorsModel", "compareOf", "()I"⟩, 32), (⟨"RoadOfDoorsModel", "knocked", "(I)I"⟩, 32), (⟨"RoadOfDoorsModel", "figure", "(III)I"⟩, 32), (⟨"RoadOfDoorsModel", "isRule", "(I)Z"⟩, 32), (⟨"RoadOfDoorsModel", "isOpen", "(IIIIIII)Z"⟩, 32), (⟨"RoadOfDoorsModel", "work", "(II)V"⟩, 32), (⟨"RoadOfDoorsModel", "isTraveller", "(IIII)Z"⟩, 32), (⟨"RoadOfDoorsModel", "keepStep", "()V"⟩, 32), (⟨"RoadOfDoorsModel", "hourBy", "(Z)V"⟩, 32), (⟨"RoadOfDoorsModel", "isPlayed", "(I)Z"⟩, 32), (⟨"RoadOfDoorsModel", "forgetLeasts", "(II)V"⟩, 32), (⟨"RoadOfDoorsModel", "soonestOf", "(II)I"⟩, 32), (⟨"RoadOfDoorsModel", "reckon", "(IIZ)I"⟩, 32), (⟨"RoadOfDoorsModel", "by", "(IIIII)I"⟩, 32), (⟨"RoadOfDoorsModel", "leastGift", "(IIIII)I"⟩, 32), (⟨"RoadOfDoorsModel", "follow", "(I)V"⟩, 32)]
theorem lw_r5 : ∀ q ∈ lw_privs_5, lw_okq q := List.forall_mem_cons.mpr ⟨lw_p64, List.forall_mem_cons.mpr ⟨lw_p65, List.forall_mem_cons.mpr ⟨lw_p66, List.forall_mem_cons.mpr ⟨lw_p67, List.forall_mem_cons.mpr ⟨lw_p68, List.forall_mem_cons.mpr ⟨lw_p69, List.forall_mem_cons.mpr ⟨lw_p70, List.forall_mem_cons.mpr ⟨lw_p71, List.forall_mem_cons.mpr ⟨lw_p72, List.forall_mem_cons.mpr ⟨lw_p73, List.forall_mem_cons.mpr ⟨lw_p74, List.forall_mem_cons.mpr ⟨lw_p75, List.forall_mem_cons.mpr ⟨lw_p76, List.forall_mem_cons.mpr ⟨lw_p77, List.forall_mem_cons.mpr ⟨lw_p78, List.forall_mem_cons.mpr ⟨lw_p79, fun _ h => absurd h List.not_mem_nil⟩⟩⟩⟩⟩⟩⟩⟩⟩⟩⟩⟩⟩⟩⟩⟩
theorem lw_p80 : lw_okq (⟨"RoadOfDoorsModel", "cheapest", "(II)I"⟩, 32) := ⟨⟨by decide +kernel, by decide +kernel⟩, List.mem_of_getElem? (i := 914) (by decide +kernel), List.mem_of_getElem? (i := 1282) (by decide +kernel), List.mem_of_getElem? (i := 1283) (by decide +kernel)⟩
theorem lw_p81 : lw_okq (⟨"RoadOfDoorsModel", "beginGuests", "()V"⟩, 32) := ⟨⟨by decide +kernel, by decide +kernel⟩, List.mem_of_getElem? (i := 914) (by decide +kernel), List.mem_of_getElem? (i := 1298) (by decide +kernel), List.mem_of_getElem? (i := 1299) (by decide +kernel)⟩
theorem lw_p82 : lw_okq (⟨"RoadOfDoorsModel", "earned", "(I)I"⟩, 32) := ⟨⟨by decide +kernel, by decide +kernel⟩, List.mem_of_getElem? (i := 914) (by decide +kernel), List.mem_of_getElem? (i := 1302) (by decide +kernel), List.mem_of_getElem? (i := 1303) (by decide +kernel)⟩
theorem lw_p83 : lw_okq (⟨"RoadOfDoorsModel", "bestRule", "(I)I"⟩, 32) := ⟨⟨by decide +kernel, by decide +kernel⟩, List.mem_of_getElem? (i := 914) (by decide +kernel), List.mem_of_getElem? (i := 1310) (by decide +kernel), List.mem_of_getElem? (i := 1311) (by decide +kernel)⟩
theorem lw_p84 : lw_okq (⟨"RoadOfDoorsModel", "canKeep", "(III)Z"⟩, 32) := ⟨⟨by decide +kernel, by decide +kernel⟩, List.mem_of_getElem? (i := 914) (by decide +kernel), List.mem_of_getElem? (i := 1326) (by decide +kernel), List.mem_of_getElem? (i := 1327) (by decide +kernel)⟩
def lw_privs_6 : List (MethodName × Nat) := [(⟨"RoadOfDoorsModel", "cheapest", "(II)I"⟩, 32), (⟨"RoadOfDoorsModel", "beginGuests", "()V"⟩, 32), (⟨"RoadOfDoorsModel", "earned", "(I)I"⟩, 32), (⟨"RoadOfDoorsModel", "bestRule", "(I)I"⟩, 32), (⟨"RoadOfDoorsModel", "canKeep", "(III)Z"⟩, 32)]
theorem lw_r6 : ∀ q ∈ lw_privs_6, lw_okq q := List.forall_mem_cons.mpr ⟨lw_p80, List.forall_mem_cons.mpr ⟨lw_p81, List.forall_mem_cons.mpr ⟨lw_p82, List.forall_mem_cons.mpr ⟨lw_p83, List.forall_mem_cons.mpr ⟨lw_p84, fun _ h => absurd h List.not_mem_nil⟩⟩⟩⟩⟩
def lw_privs : List (MethodName × Nat) := lw_privs_1 ++ (lw_privs_2 ++ (lw_privs_3 ++ (lw_privs_4 ++ (lw_privs_5 ++ (lw_privs_6)))))
def lw_tbl : List Cond := k2_sels lw_privs ++ tables_1
theorem lw_privs_ok : ∀ q ∈ lw_privs, lw_okq q := by
  show ∀ q ∈ lw_privs_1 ++ (lw_privs_2 ++ (lw_privs_3 ++ (lw_privs_4 ++ (lw_privs_5 ++ (lw_privs_6))))), lw_okq q
  exact List.forall_mem_append.mpr ⟨lw_r1, List.forall_mem_append.mpr ⟨lw_r2, List.forall_mem_append.mpr ⟨lw_r3, List.forall_mem_append.mpr ⟨lw_r4, List.forall_mem_append.mpr ⟨lw_r5, lw_r6⟩⟩⟩⟩⟩

/-- the words of the tables that stay -/
def tW : List Cond := lw_tbl.filter goodWord
theorem tW_in {w : Cond} (h : w ∈ lw_tbl) (g : goodWord w = true) : w ∈ tW := List.mem_filter.mpr ⟨h, g⟩
theorem tW_t {w : Cond} {i : Nat} (h : tables_1[i]? = some w) (g : goodWord w = true) : w ∈ tW := tW_in (List.mem_append_right _ (List.mem_of_getElem? h)) g
theorem tW_p {w : Cond} {i : Nat} (h : (k2_sels lw_privs)[i]? = some w) (g : goodWord w = true) : w ∈ tW := tW_in (List.mem_append_left _ (List.mem_of_getElem? h)) g
theorem tW_good {w : Cond} (h : w ∈ tW) : (w.onTables && w.keeps) = true ∨ ∃ ty, w = .arrayClass ty := good_of_word (List.mem_filter.mp h).2
theorem tW_hts {args : Array Value} {s : State} (h : ∀ w ∈ lw_tbl, w.before args s = true) : ∀ w ∈ tW, w.before args s = true := fun w hw => h w (List.mem_filter.mp hw).1
end
section
def RX0 : String := "RoadOfDoors$Earnings"
def TX0 : u_T := fun k => match k with
  | 0 => ("RoadOfDoors$Earnings", "trial", "[I", true)
  | 1 => ("RoadOfDoors$Earnings", "doors", "I", true)
  | 2 => ("RoadOfDoors$Earnings", "road", "LRoadOfDoors$Road;", true)
  | 3 => ("RoadOfDoors$Earnings", "rules", "LRoadOfDoors$Rules;", true)
  | 4 => ("RoadOfDoors$Earnings", "ways", "LRoadOfDoors$Ways;", true)
  | 5 => ("RoadOfDoors$Earnings", "past", "[I", true)
  | 6 => ("RoadOfDoors$Earnings", "changed", "I", false)
  | _ => ("RoadOfDoors$Earnings", "settled", "Z", false)
def tyX0 : Nat → FieldType := fun k => match k with
  | 0 => .array .int
  | 1 => .int
  | 2 => .object "RoadOfDoors$Road"
  | 3 => .object "RoadOfDoors$Rules"
  | 4 => .object "RoadOfDoors$Ways"
  | 5 => .array .int
  | 6 => .int
  | _ => .boolean
theorem nmX0 : ∀ a, a < 8 → ∀ b, b < 8 → a ≠ b → (TX0 a).2.1 ≠ (TX0 b).2.1 := by decide +kernel
theorem tyX0_ok : ∀ k, k < 8 → parseFieldDescriptor (TX0 k).2.2.1 = some (tyX0 k) := by decide +kernel
abbrev cX0_init : ByteArray := prog_2_method_1_code
def yX0_init : MethodName := ⟨RX0, "<init>", "(ILRoadOfDoors$Road;LRoadOfDoors$Rules;LRoadOfDoors$Ways;)V"⟩
abbrev cX0_forget : ByteArray := prog_2_method_2_code
def yX0_forget : MethodName := ⟨RX0, "forget", "()V"⟩
abbrev cX0_earnedNow : ByteArray := prog_2_method_3_code
def yX0_earnedNow : MethodName := ⟨RX0, "earnedNow", "(I)I"⟩
abbrev cX0_firstUneven : ByteArray := prog_2_method_4_code
def yX0_firstUneven : MethodName := ⟨RX0, "firstUneven", "()I"⟩
abbrev cX0_roundsChanged : ByteArray := prog_2_method_5_code
def yX0_roundsChanged : MethodName := ⟨RX0, "roundsChanged", "()I"⟩
abbrev cX0_startTrial : ByteArray := prog_2_method_6_code
def yX0_startTrial : MethodName := ⟨RX0, "startTrial", "(Z)V"⟩
abbrev cX0_trialNumber : ByteArray := prog_2_method_7_code
def yX0_trialNumber : MethodName := ⟨RX0, "trialNumber", "()I"⟩
abbrev cX0_isPast : ByteArray := prog_2_method_8_code
def yX0_isPast : MethodName := ⟨RX0, "isPast", "(I)Z"⟩
abbrev cX0_bestRule : ByteArray := prog_2_method_9_code
def yX0_bestRule : MethodName := ⟨RX0, "bestRule", "(I)I"⟩
abbrev cX0_earned : ByteArray := prog_2_method_10_code
def yX0_earned : MethodName := ⟨RX0, "earned", "(I)I"⟩
def RX1 : String := "RoadOfDoors$Reader"
def TX1 : u_T := fun k => match k with
  | 0 => ("RoadOfDoors$Reader", "fault", "I", false)
  | 1 => ("RoadOfDoors$Reader", "place", "I", false)
  | 2 => ("RoadOfDoors$Reader", "tape", "LRoadOfDoors$Tape;", true)
  | 3 => ("RoadOfDoors$Reader", "pile", "[I", true)
  | 4 => ("RoadOfDoors$Reader", "text", "LRoadOfDoors$Text;", false)
  | 5 => ("RoadOfDoors$Reader", "state", "I", false)
  | 6 => ("RoadOfDoors$Reader", "height", "I", false)
  | 7 => ("RoadOfDoors$Reader", "nested", "I", false)
  | 8 => ("RoadOfDoors$Reader", "unclosed", "I", false)
  | _ => ("RoadOfDoors$Reader", "compared", "Z", false)
def tyX1 : Nat → FieldType := fun k => match k with
  | 0 => .int
  | 1 => .int
  | 2 => .object "RoadOfDoors$Tape"
  | 3 => .array .int
  | 4 => .object "RoadOfDoors$Text"
  | 5 => .int
  | 6 => .int
  | 7 => .int
  | 8 => .int
  | _ => .boolean
theorem nmX1 : ∀ a, a < 10 → ∀ b, b < 10 → a ≠ b → (TX1 a).2.1 ≠ (TX1 b).2.1 := by decide +kernel
theorem tyX1_ok : ∀ k, k < 10 → parseFieldDescriptor (TX1 k).2.2.1 = some (tyX1 k) := by decide +kernel
abbrev cX1_init : ByteArray := prog_3_method_1_code
def yX1_init : MethodName := ⟨RX1, "<init>", "(LRoadOfDoors$Tape;LRoadOfDoors$Text;)V"⟩
abbrev cX1_read : ByteArray := prog_3_method_2_code
def yX1_read : MethodName := ⟨RX1, "read", "(LRoadOfDoors$Text;)Z"⟩
abbrev cX1_refuse : ByteArray := prog_3_method_3_code
def yX1_refuse : MethodName := ⟨RX1, "refuse", "(I)V"⟩
abbrev cX1_take : ByteArray := prog_3_method_4_code
def yX1_take : MethodName := ⟨RX1, "take", "(I)V"⟩
abbrev cX1_takeClause : ByteArray := prog_3_method_5_code
def yX1_takeClause : MethodName := ⟨RX1, "takeClause", "(I)V"⟩
abbrev cX1_takeNumber : ByteArray := prog_3_method_6_code
def yX1_takeNumber : MethodName := ⟨RX1, "takeNumber", "(III)V"⟩
abbrev cX1_takeSign : ByteArray := prog_3_method_7_code
def yX1_takeSign : MethodName := ⟨RX1, "takeSign", "(II)V"⟩
abbrev cX1_takeOne : ByteArray := prog_3_method_8_code
def yX1_takeOne : MethodName := ⟨RX1, "takeOne", "(I)V"⟩
abbrev cX1_atAsk : ByteArray := prog_3_method_9_code
def yX1_atAsk : MethodName := ⟨RX1, "atAsk", "()Z"⟩
abbrev cX1_nest : ByteArray := prog_3_method_10_code
def yX1_nest : MethodName := ⟨RX1, "nest", "(I)V"⟩
abbrev cX1_endOne : ByteArray := prog_3_method_11_code
def yX1_endOne : MethodName := ⟨RX1, "endOne", "()V"⟩
abbrev cX1_takeBehindOne : ByteArray := prog_3_method_12_code
def yX1_takeBehindOne : MethodName := ⟨RX1, "takeBehindOne", "(I)V"⟩
abbrev cX1_join : ByteArray := prog_3_method_13_code
def yX1_join : MethodName := ⟨RX1, "join", "(II)V"⟩
abbrev cX1_close : ByteArray := prog_3_method_14_code
def yX1_close : MethodName := ⟨RX1, "close", "()V"⟩
abbrev cX1_put : ByteArray := prog_3_method_15_code
def yX1_put : MethodName := ⟨RX1, "put", "(I)V"⟩
abbrev cX1_pileAt : ByteArray := prog_3_method_16_code
def yX1_pileAt : MethodName := ⟨RX1, "pileAt", "(I)I"⟩
abbrev cX1_joinDownTo : ByteArray := prog_3_method_17_code
def yX1_joinDownTo : MethodName := ⟨RX1, "joinDownTo", "(I)V"⟩
abbrev cX1_levelOf : ByteArray := prog_3_method_18_code
def yX1_levelOf : MethodName := ⟨RX1, "levelOf", "(I)I"⟩
def RX2 : String := "RoadOfDoors$Road"
def TX2 : u_T := fun k => match k with
  | 0 => ("RoadOfDoors$Road", "rain", "[I", true)
  | 1 => ("RoadOfDoors$Road", "mood", "[I", true)
  | 2 => ("RoadOfDoors$Road", "rule", "[I", true)
  | 3 => ("RoadOfDoors$Road", "unhinged", "[Z", true)
  | 4 => ("RoadOfDoors$Road", "guests", "[I", true)
  | 5 => ("RoadOfDoors$Road", "seen", "[I", true)
  | 6 => ("RoadOfDoors$Road", "traveller", "LRoadOfDoors$Traveller;", true)
  | 7 => ("RoadOfDoors$Road", "told", "I", false)
  | 8 => ("RoadOfDoors$Road", "guestCount", "I", false)
  | _ => ("RoadOfDoors$Road", "seenCount", "I", false)
def tyX2 : Nat → FieldType := fun k => match k with
  | 0 => .array .int
  | 1 => .array .int
  | 2 => .array .int
  | 3 => .array .boolean
  | 4 => .array .int
  | 5 => .array .int
  | 6 => .object "RoadOfDoors$Traveller"
  | 7 => .int
  | 8 => .int
  | _ => .int
theorem nmX2 : ∀ a, a < 10 → ∀ b, b < 10 → a ≠ b → (TX2 a).2.1 ≠ (TX2 b).2.1 := by decide +kernel
theorem tyX2_ok : ∀ k, k < 10 → parseFieldDescriptor (TX2 k).2.2.1 = some (tyX2 k) := by decide +kernel
abbrev cX2_init : ByteArray := prog_4_method_1_code
def yX2_init : MethodName := ⟨RX2, "<init>", "()V"⟩
abbrev cX2_addGuest : ByteArray := prog_4_method_2_code
def yX2_addGuest : MethodName := ⟨RX2, "addGuest", "(IIII)V"⟩
abbrev cX2_becomes : ByteArray := prog_4_method_3_code
def yX2_becomes : MethodName := ⟨RX2, "becomes", "(LRoadOfDoors$Road;)V"⟩
def RX3 : String := "RoadOfDoors$Rules"
def TX3 : u_T := fun k => match k with
  | 0 => ("RoadOfDoors$Rules", "doors", "I", true)
  | 1 => ("RoadOfDoors$Rules", "road", "LRoadOfDoors$Road;", true)
  | 2 => ("RoadOfDoors$Rules", "texts", "[LRoadOfDoors$Text;", true)
  | 3 => ("RoadOfDoors$Rules", "names", "[I", true)
  | 4 => ("RoadOfDoors$Rules", "values", "[I", true)
  | 5 => ("RoadOfDoors$Rules", "leasts", "[J", true)
  | _ => ("RoadOfDoors$Rules", "stale", "Z", false)
def tyX3 : Nat → FieldType := fun k => match k with
  | 0 => .int
  | 1 => .object "RoadOfDoors$Road"
  | 2 => .array (.object "RoadOfDoors$Text")
  | 3 => .array .int
  | 4 => .array .int
  | 5 => .array .long
  | _ => .boolean
theorem nmX3 : ∀ a, a < 7 → ∀ b, b < 7 → a ≠ b → (TX3 a).2.1 ≠ (TX3 b).2.1 := by decide +kernel
theorem tyX3_ok : ∀ k, k < 7 → parseFieldDescriptor (TX3 k).2.2.1 = some (tyX3 k) := by decide +kernel
abbrev cX3_init : ByteArray := prog_5_method_1_code
def yX3_init : MethodName := ⟨RX3, "<init>", "(ILRoadOfDoors$Road;[LRoadOfDoors$Text;)V"⟩
abbrev cX3_forget : ByteArray := prog_5_method_2_code
def yX3_forget : MethodName := ⟨RX3, "forget", "()V"⟩
abbrev cX3_isOpening : ByteArray := prog_5_method_3_code
def yX3_isOpening : MethodName := ⟨RX3, "isOpening", "(I)Z"⟩
abbrev cX3_looksAtWaited : ByteArray := prog_5_method_4_code
def yX3_looksAtWaited : MethodName := ⟨RX3, "looksAtWaited", "(I)Z"⟩
abbrev cX3_opensBy : ByteArray := prog_5_method_5_code
def yX3_opensBy : MethodName := ⟨RX3, "opensBy", "(IIIIIII)Z"⟩
abbrev cX3_placeOf : ByteArray := prog_5_method_6_code
def yX3_placeOf : MethodName := ⟨RX3, "placeOf", "(III)I"⟩
abbrev cX3_leastsAt : ByteArray := prog_5_method_7_code
def yX3_leastsAt : MethodName := ⟨RX3, "leastsAt", "(II)J"⟩
abbrev cX3_learn : ByteArray := prog_5_method_8_code
def yX3_learn : MethodName := ⟨RX3, "learn", "(III)V"⟩
abbrev cX3_searched : ByteArray := prog_5_method_9_code
def yX3_searched : MethodName := ⟨RX3, "searched", "(LRoadOfDoors$Text;)J"⟩
abbrev cX3_face : ByteArray := prog_5_method_10_code
def yX3_face : MethodName := ⟨RX3, "face", "(III)V"⟩
abbrev cX3_holds : ByteArray := prog_5_method_11_code
def yX3_holds : MethodName := ⟨RX3, "holds", "(LRoadOfDoors$Text;)Z"⟩
abbrev cX3_joined : ByteArray := prog_5_method_12_code
def yX3_joined : MethodName := ⟨RX3, "joined", "(III)I"⟩
def RX4 : String := "RoadOfDoors$Tape"
def TX4 : u_T := fun k => match k with
  | 0 => ("RoadOfDoors$Tape", "bytes", "[B", true)
  | 1 => ("RoadOfDoors$Tape", "length", "I", false)
  | 2 => ("RoadOfDoors$Tape", "kind", "I", false)
  | 3 => ("RoadOfDoors$Tape", "number", "I", false)
  | 4 => ("RoadOfDoors$Tape", "start", "I", false)
  | _ => ("RoadOfDoors$Tape", "after", "I", false)
def tyX4 : Nat → FieldType := fun k => match k with
  | 0 => .array .byte
  | 1 => .int
  | 2 => .int
  | 3 => .int
  | 4 => .int
  | _ => .int
theorem nmX4 : ∀ a, a < 6 → ∀ b, b < 6 → a ≠ b → (TX4 a).2.1 ≠ (TX4 b).2.1 := by decide +kernel
theorem tyX4_ok : ∀ k, k < 6 → parseFieldDescriptor (TX4 k).2.2.1 = some (tyX4 k) := by decide +kernel
abbrev cX4_init : ByteArray := prog_6_method_1_code
def yX4_init : MethodName := ⟨RX4, "<init>", "()V"⟩
abbrev cX4_add : ByteArray := prog_6_method_2_code
def yX4_add : MethodName := ⟨RX4, "add", "(I)V"⟩
abbrev cX4_rewinds : ByteArray := prog_6_method_3_code
def yX4_rewinds : MethodName := ⟨RX4, "rewinds", "()V"⟩
abbrev cX4_nextToken : ByteArray := prog_6_method_4_code
def yX4_nextToken : MethodName := ⟨RX4, "nextToken", "()V"⟩
abbrev cX4_byteAt : ByteArray := prog_6_method_5_code
def yX4_byteAt : MethodName := ⟨RX4, "byteAt", "(I)I"⟩
abbrev cX4_isBlank : ByteArray := prog_6_method_6_code
def yX4_isBlank : MethodName := ⟨RX4, "isBlank", "(I)Z"⟩
abbrev cX4_isLetter : ByteArray := prog_6_method_7_code
def yX4_isLetter : MethodName := ⟨RX4, "isLetter", "(I)Z"⟩
abbrev cX4_isDigit : ByteArray := prog_6_method_8_code
def yX4_isDigit : MethodName := ⟨RX4, "isDigit", "(I)Z"⟩
abbrev cX4_isTwoSigned : ByteArray := prog_6_method_9_code
def yX4_isTwoSigned : MethodName := ⟨RX4, "isTwoSigned", "(I)Z"⟩
abbrev cX4_signAt : ByteArray := prog_6_method_10_code
def yX4_signAt : MethodName := ⟨RX4, "signAt", "(IZ)I"⟩
abbrev cX4_readNumber : ByteArray := prog_6_method_11_code
def yX4_readNumber : MethodName := ⟨RX4, "readNumber", "()V"⟩
abbrev cX4_readWord : ByteArray := prog_6_method_12_code
def yX4_readWord : MethodName := ⟨RX4, "readWord", "()V"⟩
abbrev cX4_spells : ByteArray := prog_6_method_13_code
def yX4_spells : MethodName := ⟨RX4, "spells", "(Ljava/lang/String;)Z"⟩
abbrev cX4_nameSpelt : ByteArray := prog_6_method_14_code
def yX4_nameSpelt : MethodName := ⟨RX4, "nameSpelt", "()I"⟩
abbrev cX4_wordSpelt : ByteArray := prog_6_method_15_code
def yX4_wordSpelt : MethodName := ⟨RX4, "wordSpelt", "()I"⟩
def RX5 : String := "RoadOfDoors$Text"
def TX5 : u_T := fun k => match k with
  | 0 => ("RoadOfDoors$Text", "words", "[I", true)
  | 1 => ("RoadOfDoors$Text", "knocks", "[I", true)
  | 2 => ("RoadOfDoors$Text", "amounts", "[I", true)
  | 3 => ("RoadOfDoors$Text", "length", "I", false)
  | 4 => ("RoadOfDoors$Text", "clauses", "I", false)
  | 5 => ("RoadOfDoors$Text", "looksAt", "I", false)
  | _ => ("RoadOfDoors$Text", "canOpen", "Z", false)
def tyX5 : Nat → FieldType := fun k => match k with
  | 0 => .array .int
  | 1 => .array .int
  | 2 => .array .int
  | 3 => .int
  | 4 => .int
  | 5 => .int
  | _ => .boolean
theorem nmX5 : ∀ a, a < 7 → ∀ b, b < 7 → a ≠ b → (TX5 a).2.1 ≠ (TX5 b).2.1 := by decide +kernel
theorem tyX5_ok : ∀ k, k < 7 → parseFieldDescriptor (TX5 k).2.2.1 = some (tyX5 k) := by decide +kernel
abbrev cX5_init : ByteArray := prog_7_method_1_code
def yX5_init : MethodName := ⟨RX5, "<init>", "()V"⟩
abbrev cX5_empties : ByteArray := prog_7_method_2_code
def yX5_empties : MethodName := ⟨RX5, "empties", "()V"⟩
abbrev cX5_addWord : ByteArray := prog_7_method_3_code
def yX5_addWord : MethodName := ⟨RX5, "addWord", "(I)V"⟩
abbrev cX5_addName : ByteArray := prog_7_method_4_code
def yX5_addName : MethodName := ⟨RX5, "addName", "(I)V"⟩
abbrev cX5_addClause : ByteArray := prog_7_method_5_code
def yX5_addClause : MethodName := ⟨RX5, "addClause", "(I)V"⟩
abbrev cX5_setKnocks : ByteArray := prog_7_method_6_code
def yX5_setKnocks : MethodName := ⟨RX5, "setKnocks", "(I)V"⟩
abbrev cX5_setAmount : ByteArray := prog_7_method_7_code
def yX5_setAmount : MethodName := ⟨RX5, "setAmount", "(I)V"⟩
def RX6 : String := "RoadOfDoors$Traveller"
def TX6 : u_T := fun k => match k with
  | 0 => ("RoadOfDoors$Traveller", "load", "I", false)
  | 1 => ("RoadOfDoors$Traveller", "keys", "I", false)
  | 2 => ("RoadOfDoors$Traveller", "purse", "I", false)
  | 3 => ("RoadOfDoors$Traveller", "hour", "I", false)
  | 4 => ("RoadOfDoors$Traveller", "waited", "I", false)
  | 5 => ("RoadOfDoors$Traveller", "door", "I", false)
  | 6 => ("RoadOfDoors$Traveller", "steps", "I", false)
  | _ => ("RoadOfDoors$Traveller", "before", "[I", true)
def tyX6 : Nat → FieldType := fun k => match k with
  | 0 => .int
  | 1 => .int
  | 2 => .int
  | 3 => .int
  | 4 => .int
  | 5 => .int
  | 6 => .int
  | _ => .array .int
theorem nmX6 : ∀ a, a < 8 → ∀ b, b < 8 → a ≠ b → (TX6 a).2.1 ≠ (TX6 b).2.1 := by decide +kernel
theorem tyX6_ok : ∀ k, k < 8 → parseFieldDescriptor (TX6 k).2.2.1 = some (tyX6 k) := by decide +kernel
abbrev cX6_init : ByteArray := prog_8_method_1_code
def yX6_init : MethodName := ⟨RX6, "<init>", "()V"⟩
abbrev cX6_starts : ByteArray := prog_8_method_2_code
def yX6_starts : MethodName := ⟨RX6, "starts", "(IIII)V"⟩
abbrev cX6_hourGoes : ByteArray := prog_8_method_3_code
def yX6_hourGoes : MethodName := ⟨RX6, "hourGoes", "()V"⟩
abbrev cX6_stays : ByteArray := prog_8_method_4_code
def yX6_stays : MethodName := ⟨RX6, "stays", "()V"⟩
abbrev cX6_keepsStep : ByteArray := prog_8_method_5_code
def yX6_keepsStep : MethodName := ⟨RX6, "keepsStep", "()V"⟩
abbrev cX6_stepsBack : ByteArray := prog_8_method_6_code
def yX6_stepsBack : MethodName := ⟨RX6, "stepsBack", "()Z"⟩
abbrev cX6_becomes : ByteArray := prog_8_method_7_code
def yX6_becomes : MethodName := ⟨RX6, "becomes", "(LRoadOfDoors$Traveller;)V"⟩
def RX7 : String := "RoadOfDoors$Ways"
def TX7 : u_T := fun k => match k with
  | 0 => ("RoadOfDoors$Ways", "gifts", "I", false)
  | 1 => ("RoadOfDoors$Ways", "hours", "I", false)
  | 2 => ("RoadOfDoors$Ways", "acts", "[I", true)
  | 3 => ("RoadOfDoors$Ways", "given", "[I", true)
  | 4 => ("RoadOfDoors$Ways", "doors", "I", true)
  | 5 => ("RoadOfDoors$Ways", "road", "LRoadOfDoors$Road;", true)
  | 6 => ("RoadOfDoors$Ways", "rules", "LRoadOfDoors$Rules;", true)
  | 7 => ("RoadOfDoors$Ways", "costs", "[I", true)
  | 8 => ("RoadOfDoors$Ways", "goes", "[I", true)
  | 9 => ("RoadOfDoors$Ways", "places", "[I", true)
  | 10 => ("RoadOfDoors$Ways", "mostWaited", "[I", true)
  | _ => ("RoadOfDoors$Ways", "firstHour", "I", false)
def tyX7 : Nat → FieldType := fun k => match k with
  | 0 => .int
  | 1 => .int
  | 2 => .array .int
  | 3 => .array .int
  | 4 => .int
  | 5 => .object "RoadOfDoors$Road"
  | 6 => .object "RoadOfDoors$Rules"
  | 7 => .array .int
  | 8 => .array .int
  | 9 => .array .int
  | 10 => .array .int
  | _ => .int
theorem nmX7 : ∀ a, a < 12 → ∀ b, b < 12 → a ≠ b → (TX7 a).2.1 ≠ (TX7 b).2.1 := by decide +kernel
theorem tyX7_ok : ∀ k, k < 12 → parseFieldDescriptor (TX7 k).2.2.1 = some (tyX7 k) := by decide +kernel
abbrev cX7_init : ByteArray := prog_9_method_1_code
def yX7_init : MethodName := ⟨RX7, "<init>", "(ILRoadOfDoors$Road;LRoadOfDoors$Rules;)V"⟩
abbrev cX7_findCheapest : ByteArray := prog_9_method_2_code
def yX7_findCheapest : MethodName := ⟨RX7, "findCheapest", "([IIIIII)Z"⟩
abbrev cX7_findSoonest : ByteArray := prog_9_method_3_code
def yX7_findSoonest : MethodName := ⟨RX7, "findSoonest", "([IIIIII)Z"⟩
abbrev cX7_canPass : ByteArray := prog_9_method_4_code
def yX7_canPass : MethodName := ⟨RX7, "canPass", "([III)Z"⟩
abbrev cX7_cheapest : ByteArray := prog_9_method_5_code
def yX7_cheapest : MethodName := ⟨RX7, "cheapest", "(I)I"⟩
abbrev cX7_choose : ByteArray := prog_9_method_6_code
def yX7_choose : MethodName := ⟨RX7, "choose", "(IIJ)V"⟩
abbrev cX7_walk : ByteArray := prog_9_method_7_code
def yX7_walk : MethodName := ⟨RX7, "walk", "(I)V"⟩
def RX8 : String := "RoadOfDoors"
def TX8 : u_T := fun k => match k with
  | 0 => ("RoadOfDoors", "doors", "I", true)
  | 1 => ("RoadOfDoors", "road", "LRoadOfDoors$Road;", true)
  | 2 => ("RoadOfDoors", "saved", "LRoadOfDoors$Road;", true)
  | 3 => ("RoadOfDoors", "texts", "[LRoadOfDoors$Text;", true)
  | 4 => ("RoadOfDoors", "tape", "LRoadOfDoors$Tape;", true)
  | 5 => ("RoadOfDoors", "reader", "LRoadOfDoors$Reader;", true)
  | 6 => ("RoadOfDoors", "rules", "LRoadOfDoors$Rules;", true)
  | 7 => ("RoadOfDoors", "ways", "LRoadOfDoors$Ways;", true)
  | _ => ("RoadOfDoors", "earnings", "LRoadOfDoors$Earnings;", true)
def tyX8 : Nat → FieldType := fun k => match k with
  | 0 => .int
  | 1 => .object "RoadOfDoors$Road"
  | 2 => .object "RoadOfDoors$Road"
  | 3 => .array (.object "RoadOfDoors$Text")
  | 4 => .object "RoadOfDoors$Tape"
  | 5 => .object "RoadOfDoors$Reader"
  | 6 => .object "RoadOfDoors$Rules"
  | 7 => .object "RoadOfDoors$Ways"
  | _ => .object "RoadOfDoors$Earnings"
theorem nmX8 : ∀ a, a < 9 → ∀ b, b < 9 → a ≠ b → (TX8 a).2.1 ≠ (TX8 b).2.1 := by decide +kernel
theorem tyX8_ok : ∀ k, k < 9 → parseFieldDescriptor (TX8 k).2.2.1 = some (tyX8 k) := by decide +kernel
abbrev cX8_init : ByteArray := prog_1_method_1_code
def yX8_init : MethodName := ⟨RX8, "<init>", "(I)V"⟩
abbrev cX8_rain : ByteArray := prog_1_method_2_code
def yX8_rain : MethodName := ⟨RX8, "rain", "(II)Z"⟩
abbrev cX8_mood : ByteArray := prog_1_method_3_code
def yX8_mood : MethodName := ⟨RX8, "mood", "(II)Z"⟩
abbrev cX8_moods : ByteArray := prog_1_method_4_code
def yX8_moods : MethodName := ⟨RX8, "moods", "(I)I"⟩
abbrev cX8_hinge : ByteArray := prog_1_method_5_code
def yX8_hinge : MethodName := ⟨RX8, "hinge", "(IZ)Z"⟩
abbrev cX8_feed : ByteArray := prog_1_method_6_code
def yX8_feed : MethodName := ⟨RX8, "feed", "(IIIII)I"⟩
abbrev cX8_end : ByteArray := prog_1_method_7_code
def yX8_end : MethodName := ⟨RX8, "end", "(I)I"⟩
abbrev cX8_text : ByteArray := prog_1_method_8_code
def yX8_text : MethodName := ⟨RX8, "text", "()I"⟩
abbrev cX8_fault : ByteArray := prog_1_method_9_code
def yX8_fault : MethodName := ⟨RX8, "fault", "(I)I"⟩
abbrev cX8_keep : ByteArray := prog_1_method_10_code
def yX8_keep : MethodName := ⟨RX8, "keep", "(II)Z"⟩
abbrev cX8_opens : ByteArray := prog_1_method_11_code
def yX8_opens : MethodName := ⟨RX8, "opens", "(IIIIII)Z"⟩
abbrev cX8_sets : ByteArray := prog_1_method_12_code
def yX8_sets : MethodName := ⟨RX8, "sets", "(IIII)Z"⟩
abbrev cX8_knock : ByteArray := prog_1_method_13_code
def yX8_knock : MethodName := ⟨RX8, "knock", "(II)I"⟩
abbrev cX8_later : ByteArray := prog_1_method_14_code
def yX8_later : MethodName := ⟨RX8, "later", "(I)I"⟩
abbrev cX8_played : ByteArray := prog_1_method_15_code
def yX8_played : MethodName := ⟨RX8, "played", "(I)I"⟩
abbrev cX8_undo : ByteArray := prog_1_method_16_code
def yX8_undo : MethodName := ⟨RX8, "undo", "()I"⟩
abbrev cX8_traveller : ByteArray := prog_1_method_17_code
def yX8_traveller : MethodName := ⟨RX8, "traveller", "(I)I"⟩
abbrev cX8_way : ByteArray := prog_1_method_18_code
def yX8_way : MethodName := ⟨RX8, "way", "(IIIIIZI)I"⟩
abbrev cX8_guest : ByteArray := prog_1_method_19_code
def yX8_guest : MethodName := ⟨RX8, "guest", "(IIII)I"⟩
abbrev cX8_clear : ByteArray := prog_1_method_20_code
def yX8_clear : MethodName := ⟨RX8, "clear", "()I"⟩
abbrev cX8_earns : ByteArray := prog_1_method_21_code
def yX8_earns : MethodName := ⟨RX8, "earns", "(I)I"⟩
abbrev cX8_even : ByteArray := prog_1_method_22_code
def yX8_even : MethodName := ⟨RX8, "even", "()I"⟩
abbrev cX8_rounds : ByteArray := prog_1_method_23_code
def yX8_rounds : MethodName := ⟨RX8, "rounds", "(I)I"⟩
abbrev cX8_seen : ByteArray := prog_1_method_24_code
def yX8_seen : MethodName := ⟨RX8, "seen", "(IIIIIZ)I"⟩
abbrev cX8_kept : ByteArray := prog_1_method_25_code
def yX8_kept : MethodName := ⟨RX8, "kept", "(II)I"⟩
abbrev cX8_image : ByteArray := prog_1_method_26_code
def yX8_image : MethodName := ⟨RX8, "image", "()I"⟩
abbrev cX8_back : ByteArray := prog_1_method_27_code
def yX8_back : MethodName := ⟨RX8, "back", "()I"⟩
abbrev cX8_about : ByteArray := prog_1_method_28_code
def yX8_about : MethodName := ⟨RX8, "about", "(I)I"⟩
abbrev cX8_aboutPart : ByteArray := prog_1_method_29_code
def yX8_aboutPart : MethodName := ⟨RX8, "aboutPart", "(I)I"⟩
abbrev cX8_within : ByteArray := prog_1_method_30_code
def yX8_within : MethodName := ⟨RX8, "within", "(III)Z"⟩
abbrev cX8_isDoor : ByteArray := prog_1_method_31_code
def yX8_isDoor : MethodName := ⟨RX8, "isDoor", "(I)Z"⟩
abbrev cX8_isHour : ByteArray := prog_1_method_32_code
def yX8_isHour : MethodName := ⟨RX8, "isHour", "(I)Z"⟩
abbrev cX8_isKnock : ByteArray := prog_1_method_33_code
def yX8_isKnock : MethodName := ⟨RX8, "isKnock", "(IIIII)Z"⟩
abbrev cX8_isTraveller : ByteArray := prog_1_method_34_code
def yX8_isTraveller : MethodName := ⟨RX8, "isTraveller", "(IIII)Z"⟩
abbrev cX8_outlookChanged : ByteArray := prog_1_method_35_code
def yX8_outlookChanged : MethodName := ⟨RX8, "outlookChanged", "()V"⟩
abbrev cX8_canKnock : ByteArray := prog_1_method_36_code
def yX8_canKnock : MethodName := ⟨RX8, "canKnock", "(II)Z"⟩
abbrev cX8_knocked : ByteArray := prog_1_method_37_code
def yX8_knocked : MethodName := ⟨RX8, "knocked", "(II)Z"⟩
abbrev cX8_canWait : ByteArray := prog_1_method_38_code
def yX8_canWait : MethodName := ⟨RX8, "canWait", "(I)Z"⟩
abbrev cX8_waited : ByteArray := prog_1_method_39_code
def yX8_waited : MethodName := ⟨RX8, "waited", "(I)V"⟩
abbrev cX8_clauseDone : ByteArray := prog_1_method_40_code
def yX8_clauseDone : MethodName := ⟨RX8, "clauseDone", "(II)Z"⟩
abbrev cX8_agrees : ByteArray := prog_1_method_41_code
def yX8_agrees : MethodName := ⟨RX8, "agrees", "(III)Z"⟩
abbrev cX8_hasKey : ByteArray := prog_1_method_42_code
def yX8_hasKey : MethodName := ⟨RX8, "hasKey", "(II)Z"⟩
def RX9 : String := "RoadOfDoorsModel"
def TX9 : u_T := fun k => match k with
  | 0 => ("RoadOfDoorsModel", "a", "[I", true)
  | 1 => ("RoadOfDoorsModel", "image", "[I", true)
  | 2 => ("RoadOfDoorsModel", "doors", "I", true)
  | 3 => ("RoadOfDoorsModel", "texts", "[I", true)
  | 4 => ("RoadOfDoorsModel", "tape", "[I", true)
  | 5 => ("RoadOfDoorsModel", "taped", "I", false)
  | 6 => ("RoadOfDoorsModel", "fault", "I", false)
  | 7 => ("RoadOfDoorsModel", "faultPlace", "I", false)
  | 8 => ("RoadOfDoorsModel", "at", "I", false)
  | 9 => ("RoadOfDoorsModel", "place", "I", false)
  | 10 => ("RoadOfDoorsModel", "token", "I", false)
  | 11 => ("RoadOfDoorsModel", "number", "I", false)
  | 12 => ("RoadOfDoorsModel", "word", "J", false)
  | 13 => ("RoadOfDoorsModel", "text0", "I", false)
  | 14 => ("RoadOfDoorsModel", "clauses", "I", false)
  | 15 => ("RoadOfDoorsModel", "written", "I", false)
  | 16 => ("RoadOfDoorsModel", "came", "I", false)
  | 17 => ("RoadOfDoorsModel", "pile", "[I", true)
  | 18 => ("RoadOfDoorsModel", "piled", "I", false)
  | 19 => ("RoadOfDoorsModel", "opens", "I", false)
  | 20 => ("RoadOfDoorsModel", "isWhole", "Z", false)
  | 21 => ("RoadOfDoorsModel", "once", "Z", false)
  | 22 => ("RoadOfDoorsModel", "named", "[I", true)
  | 23 => ("RoadOfDoorsModel", "values", "[J", true)
  | 24 => ("RoadOfDoorsModel", "truth", "[Z", true)
  | 25 => ("RoadOfDoorsModel", "goer", "[I", true)
  | 26 => ("RoadOfDoorsModel", "tried", "[I", true)
  | 27 => ("RoadOfDoorsModel", "leasts", "[I", true)
  | 28 => ("RoadOfDoorsModel", "left", "[I", true)
  | 29 => ("RoadOfDoorsModel", "done", "[I", true)
  | 30 => ("RoadOfDoorsModel", "doneAt", "[I", true)
  | _ => ("RoadOfDoorsModel", "doneMany", "I", false)
def tyX9 : Nat → FieldType := fun k => match k with
  | 0 => .array .int
  | 1 => .array .int
  | 2 => .int
  | 3 => .array .int
  | 4 => .array .int
  | 5 => .int
  | 6 => .int
  | 7 => .int
  | 8 => .int
  | 9 => .int
  | 10 => .int
  | 11 => .int
  | 12 => .long
  | 13 => .int
  | 14 => .int
  | 15 => .int
  | 16 => .int
  | 17 => .array .int
  | 18 => .int
  | 19 => .int
  | 20 => .boolean
  | 21 => .boolean
  | 22 => .array .int
  | 23 => .array .long
  | 24 => .array .boolean
  | 25 => .array .int
  | 26 => .array .int
  | 27 => .array .int
  | 28 => .array .int
  | 29 => .array .int
  | 30 => .array .int
  | _ => .int
theorem nmX9 : ∀ a, a < 32 → ∀ b, b < 32 → a ≠ b → (TX9 a).2.1 ≠ (TX9 b).2.1 := by decide +kernel
theorem tyX9_ok : ∀ k, k < 32 → parseFieldDescriptor (TX9 k).2.2.1 = some (tyX9 k) := by decide +kernel
abbrev cX9_init : ByteArray := prog_11_method_1_code
def yX9_init : MethodName := ⟨RX9, "<init>", "(I)V"⟩
abbrev cX9_copy : ByteArray := prog_11_method_2_code
def yX9_copy : MethodName := ⟨RX9, "copy", "([I[I)V"⟩
abbrev cX9_isIn : ByteArray := prog_11_method_3_code
def yX9_isIn : MethodName := ⟨RX9, "isIn", "(III)Z"⟩
abbrev cX9_has : ByteArray := prog_11_method_4_code
def yX9_has : MethodName := ⟨RX9, "has", "(II)Z"⟩
abbrev cX9_isDoor : ByteArray := prog_11_method_5_code
def yX9_isDoor : MethodName := ⟨RX9, "isDoor", "(I)Z"⟩
abbrev cX9_isHour : ByteArray := prog_11_method_6_code
def yX9_isHour : MethodName := ⟨RX9, "isHour", "(I)Z"⟩
abbrev cX9_rain : ByteArray := prog_11_method_7_code
def yX9_rain : MethodName := ⟨RX9, "rain", "(II)Z"⟩
abbrev cX9_mood : ByteArray := prog_11_method_8_code
def yX9_mood : MethodName := ⟨RX9, "mood", "(II)Z"⟩
abbrev cX9_moods : ByteArray := prog_11_method_9_code
def yX9_moods : MethodName := ⟨RX9, "moods", "(I)I"⟩
abbrev cX9_hinge : ByteArray := prog_11_method_10_code
def yX9_hinge : MethodName := ⟨RX9, "hinge", "(IZ)Z"⟩
abbrev cX9_four : ByteArray := prog_11_method_11_code
def yX9_four : MethodName := ⟨RX9, "four", "(I)V"⟩
abbrev cX9_feed : ByteArray := prog_11_method_12_code
def yX9_feed : MethodName := ⟨RX9, "feed", "(IIIII)I"⟩
abbrev cX9_end : ByteArray := prog_11_method_13_code
def yX9_end : MethodName := ⟨RX9, "end", "(I)I"⟩
abbrev cX9_byteAt : ByteArray := prog_11_method_14_code
def yX9_byteAt : MethodName := ⟨RX9, "byteAt", "(I)I"⟩
abbrev cX9_isLetter : ByteArray := prog_11_method_15_code
def yX9_isLetter : MethodName := ⟨RX9, "isLetter", "(I)Z"⟩
abbrev cX9_isDigit : ByteArray := prog_11_method_16_code
def yX9_isDigit : MethodName := ⟨RX9, "isDigit", "(I)Z"⟩
abbrev cX9_nextToken : ByteArray := prog_11_method_17_code
def yX9_nextToken : MethodName := ⟨RX9, "nextToken", "()V"⟩
abbrev cX9_w3 : ByteArray := prog_11_method_18_code
def yX9_w3 : MethodName := ⟨RX9, "w3", "(III)J"⟩
abbrev cX9_w5 : ByteArray := prog_11_method_19_code
def yX9_w5 : MethodName := ⟨RX9, "w5", "(IIIII)J"⟩
abbrev cX9_w4 : ByteArray := prog_11_method_20_code
def yX9_w4 : MethodName := ⟨RX9, "w4", "(IIII)J"⟩
abbrev cX9_w6 : ByteArray := prog_11_method_21_code
def yX9_w6 : MethodName := ⟨RX9, "w6", "(IIIIII)J"⟩
abbrev cX9_isWord : ByteArray := prog_11_method_22_code
def yX9_isWord : MethodName := ⟨RX9, "isWord", "(J)Z"⟩
abbrev cX9_emit : ByteArray := prog_11_method_23_code
def yX9_emit : MethodName := ⟨RX9, "emit", "(II)V"⟩
abbrev cX9_push : ByteArray := prog_11_method_24_code
def yX9_push : MethodName := ⟨RX9, "push", "(I)V"⟩
abbrev cX9_whole : ByteArray := prog_11_method_25_code
def yX9_whole : MethodName := ⟨RX9, "whole", "()V"⟩
abbrev cX9_settle : ByteArray := prog_11_method_26_code
def yX9_settle : MethodName := ⟨RX9, "settle", "(I)V"⟩
abbrev cX9_nameOf : ByteArray := prog_11_method_27_code
def yX9_nameOf : MethodName := ⟨RX9, "nameOf", "()I"⟩
abbrev cX9_beginOne : ByteArray := prog_11_method_28_code
def yX9_beginOne : MethodName := ⟨RX9, "beginOne", "()I"⟩
abbrev cX9_hasParen : ByteArray := prog_11_method_29_code
def yX9_hasParen : MethodName := ⟨RX9, "hasParen", "()Z"⟩
abbrev cX9_goesOn : ByteArray := prog_11_method_30_code
def yX9_goesOn : MethodName := ⟨RX9, "goesOn", "()Z"⟩
abbrev cX9_behindOne : ByteArray := prog_11_method_31_code
def yX9_behindOne : MethodName := ⟨RX9, "behindOne", "()I"⟩
abbrev cX9_summed : ByteArray := prog_11_method_32_code
def yX9_summed : MethodName := ⟨RX9, "summed", "()I"⟩
abbrev cX9_compareOf : ByteArray := prog_11_method_33_code
def yX9_compareOf : MethodName := ⟨RX9, "compareOf", "()I"⟩
abbrev cX9_asks : ByteArray := prog_11_method_34_code
def yX9_asks : MethodName := ⟨RX9, "asks", "()I"⟩
abbrev cX9_either : ByteArray := prog_11_method_35_code
def yX9_either : MethodName := ⟨RX9, "either", "()I"⟩
abbrev cX9_sortOf : ByteArray := prog_11_method_36_code
def yX9_sortOf : MethodName := ⟨RX9, "sortOf", "()I"⟩
abbrev cX9_figure : ByteArray := prog_11_method_37_code
def yX9_figure : MethodName := ⟨RX9, "figure", "(III)I"⟩
abbrev cX9_knocked : ByteArray := prog_11_method_38_code
def yX9_knocked : MethodName := ⟨RX9, "knocked", "(I)I"⟩
abbrev cX9_clause : ByteArray := prog_11_method_39_code
def yX9_clause : MethodName := ⟨RX9, "clause", "()I"⟩
abbrev cX9_readText : ByteArray := prog_11_method_40_code
def yX9_readText : MethodName := ⟨RX9, "readText", "()I"⟩
abbrev cX9_text : ByteArray := prog_11_method_41_code
def yX9_text : MethodName := ⟨RX9, "text", "()I"⟩
abbrev cX9_fault : ByteArray := prog_11_method_42_code
def yX9_fault : MethodName := ⟨RX9, "fault", "(I)I"⟩
abbrev cX9_isRule : ByteArray := prog_11_method_43_code
def yX9_isRule : MethodName := ⟨RX9, "isRule", "(I)Z"⟩
abbrev cX9_keep : ByteArray := prog_11_method_44_code
def yX9_keep : MethodName := ⟨RX9, "keep", "(II)Z"⟩
abbrev cX9_clip : ByteArray := prog_11_method_45_code
def yX9_clip : MethodName := ⟨RX9, "clip", "(J)J"⟩
abbrev cX9_two : ByteArray := prog_11_method_46_code
def yX9_two : MethodName := ⟨RX9, "two", "(IJJ)J"⟩
abbrev cX9_isAsked : ByteArray := prog_11_method_47_code
def yX9_isAsked : MethodName := ⟨RX9, "isAsked", "(IJJ)Z"⟩
abbrev cX9_work : ByteArray := prog_11_method_48_code
def yX9_work : MethodName := ⟨RX9, "work", "(II)V"⟩
abbrev cX9_isOpen : ByteArray := prog_11_method_49_code
def yX9_isOpen : MethodName := ⟨RX9, "isOpen", "(IIIIIII)Z"⟩
abbrev cX9_isKnock : ByteArray := prog_11_method_50_code
def yX9_isKnock : MethodName := ⟨RX9, "isKnock", "(II)Z"⟩
abbrev cX9_opens : ByteArray := prog_11_method_51_code
def yX9_opens : MethodName := ⟨RX9, "opens", "(IIIIII)Z"⟩
abbrev cX9_isTraveller : ByteArray := prog_11_method_52_code
def yX9_isTraveller : MethodName := ⟨RX9, "isTraveller", "(IIII)Z"⟩
abbrev cX9_sets : ByteArray := prog_11_method_53_code
def yX9_sets : MethodName := ⟨RX9, "sets", "(IIII)Z"⟩
abbrev cX9_keepStep : ByteArray := prog_11_method_54_code
def yX9_keepStep : MethodName := ⟨RX9, "keepStep", "()V"⟩
abbrev cX9_undo : ByteArray := prog_11_method_55_code
def yX9_undo : MethodName := ⟨RX9, "undo", "()I"⟩
abbrev cX9_hourBy : ByteArray := prog_11_method_56_code
def yX9_hourBy : MethodName := ⟨RX9, "hourBy", "(Z)V"⟩
abbrev cX9_knock : ByteArray := prog_11_method_57_code
def yX9_knock : MethodName := ⟨RX9, "knock", "(II)I"⟩
abbrev cX9_later : ByteArray := prog_11_method_58_code
def yX9_later : MethodName := ⟨RX9, "later", "(I)I"⟩
abbrev cX9_isPlayed : ByteArray := prog_11_method_59_code
def yX9_isPlayed : MethodName := ⟨RX9, "isPlayed", "(I)Z"⟩
abbrev cX9_played : ByteArray := prog_11_method_60_code
def yX9_played : MethodName := ⟨RX9, "played", "(I)I"⟩
abbrev cX9_traveller : ByteArray := prog_11_method_61_code
def yX9_traveller : MethodName := ⟨RX9, "traveller", "(I)I"⟩
abbrev cX9_forgetLeasts : ByteArray := prog_11_method_62_code
def yX9_forgetLeasts : MethodName := ⟨RX9, "forgetLeasts", "(II)V"⟩
abbrev cX9_leastGift : ByteArray := prog_11_method_63_code
def yX9_leastGift : MethodName := ⟨RX9, "leastGift", "(IIIII)I"⟩
abbrev cX9_leftAt : ByteArray := prog_11_method_64_code
def yX9_leftAt : MethodName := ⟨RX9, "leftAt", "(III)I"⟩
abbrev cX9_by : ByteArray := prog_11_method_65_code
def yX9_by : MethodName := ⟨RX9, "by", "(IIIII)I"⟩
abbrev cX9_reckon : ByteArray := prog_11_method_66_code
def yX9_reckon : MethodName := ⟨RX9, "reckon", "(IIZ)I"⟩
abbrev cX9_follow : ByteArray := prog_11_method_67_code
def yX9_follow : MethodName := ⟨RX9, "follow", "(I)V"⟩
abbrev cX9_cheapest : ByteArray := prog_11_method_68_code
def yX9_cheapest : MethodName := ⟨RX9, "cheapest", "(II)I"⟩
abbrev cX9_soonestOf : ByteArray := prog_11_method_69_code
def yX9_soonestOf : MethodName := ⟨RX9, "soonestOf", "(II)I"⟩
abbrev cX9_way : ByteArray := prog_11_method_70_code
def yX9_way : MethodName := ⟨RX9, "way", "(IIIIIZI)I"⟩
abbrev cX9_guest : ByteArray := prog_11_method_71_code
def yX9_guest : MethodName := ⟨RX9, "guest", "(IIII)I"⟩
abbrev cX9_clear : ByteArray := prog_11_method_72_code
def yX9_clear : MethodName := ⟨RX9, "clear", "()I"⟩
abbrev cX9_beginGuests : ByteArray := prog_11_method_73_code
def yX9_beginGuests : MethodName := ⟨RX9, "beginGuests", "()V"⟩
abbrev cX9_earned : ByteArray := prog_11_method_74_code
def yX9_earned : MethodName := ⟨RX9, "earned", "(I)I"⟩
abbrev cX9_earns : ByteArray := prog_11_method_75_code
def yX9_earns : MethodName := ⟨RX9, "earns", "(I)I"⟩
abbrev cX9_bestRule : ByteArray := prog_11_method_76_code
def yX9_bestRule : MethodName := ⟨RX9, "bestRule", "(I)I"⟩
abbrev cX9_even : ByteArray := prog_11_method_77_code
def yX9_even : MethodName := ⟨RX9, "even", "()I"⟩
abbrev cX9_rounds : ByteArray := prog_11_method_78_code
def yX9_rounds : MethodName := ⟨RX9, "rounds", "(I)I"⟩
abbrev cX9_seen : ByteArray := prog_11_method_79_code
def yX9_seen : MethodName := ⟨RX9, "seen", "(IIIIIZ)I"⟩
abbrev cX9_canKeep : ByteArray := prog_11_method_80_code
def yX9_canKeep : MethodName := ⟨RX9, "canKeep", "(III)Z"⟩
abbrev cX9_kept : ByteArray := prog_11_method_81_code
def yX9_kept : MethodName := ⟨RX9, "kept", "(II)I"⟩
abbrev cX9_image : ByteArray := prog_11_method_82_code
def yX9_image : MethodName := ⟨RX9, "image", "()I"⟩
abbrev cX9_back : ByteArray := prog_11_method_83_code
def yX9_back : MethodName := ⟨RX9, "back", "()I"⟩
abbrev cX9_about : ByteArray := prog_11_method_84_code
def yX9_about : MethodName := ⟨RX9, "about", "(I)I"⟩
def RJx145de : String := "java/io/Serializable"
def TJx145de : u_T := fun k => match k with
  | _ => ("", "", "", false)
def tyJx145de : Nat → FieldType := fun k => match k with
  | _ => .int
theorem nmJx145de : ∀ a, a < 0 → ∀ b, b < 0 → a ≠ b → (TJx145de a).2.1 ≠ (TJx145de b).2.1 := by decide +kernel
theorem tyJx145de_ok : ∀ k, k < 0 → parseFieldDescriptor (TJx145de k).2.2.1 = some (tyJx145de k) := by decide +kernel
def RJx9f9b0 : String := "java/lang/CharSequence"
def TJx9f9b0 : u_T := fun k => match k with
  | _ => ("", "", "", false)
def tyJx9f9b0 : Nat → FieldType := fun k => match k with
  | _ => .int
theorem nmJx9f9b0 : ∀ a, a < 0 → ∀ b, b < 0 → a ≠ b → (TJx9f9b0 a).2.1 ≠ (TJx9f9b0 b).2.1 := by decide +kernel
theorem tyJx9f9b0_ok : ∀ k, k < 0 → parseFieldDescriptor (TJx9f9b0 k).2.2.1 = some (tyJx9f9b0 k) := by decide +kernel
def RJxb160c : String := "java/lang/Comparable"
def TJxb160c : u_T := fun k => match k with
  | _ => ("", "", "", false)
def tyJxb160c : Nat → FieldType := fun k => match k with
  | _ => .int
theorem nmJxb160c : ∀ a, a < 0 → ∀ b, b < 0 → a ≠ b → (TJxb160c a).2.1 ≠ (TJxb160c b).2.1 := by decide +kernel
theorem tyJxb160c_ok : ∀ k, k < 0 → parseFieldDescriptor (TJxb160c k).2.2.1 = some (tyJxb160c k) := by decide +kernel
def RJ9 : String := "java/lang/Math"
def TJ9 : u_T := fun k => match k with
  | _ => ("", "", "", false)
def tyJ9 : Nat → FieldType := fun k => match k with
  | _ => .int
theorem nmJ9 : ∀ a, a < 0 → ∀ b, b < 0 → a ≠ b → (TJ9 a).2.1 ≠ (TJ9 b).2.1 := by decide +kernel
theorem tyJ9_ok : ∀ k, k < 0 → parseFieldDescriptor (TJ9 k).2.2.1 = some (tyJ9 k) := by decide +kernel
abbrev cJ9_max_7cf53 : ByteArray := prog_12_method_65_code
def yJ9_max_7cf53 : MethodName := ⟨RJ9, "max", "(II)I"⟩
abbrev cJ9_min_7cf53 : ByteArray := prog_12_method_69_code
def yJ9_min_7cf53 : MethodName := ⟨RJ9, "min", "(II)I"⟩
def RJ0 : String := "java/lang/String"
def TJ0 : u_T := fun k => match k with
  | _ => ("", "", "", false)
def tyJ0 : Nat → FieldType := fun k => match k with
  | _ => .int
theorem nmJ0 : ∀ a, a < 0 → ∀ b, b < 0 → a ≠ b → (TJ0 a).2.1 ≠ (TJ0 b).2.1 := by decide +kernel
theorem tyJ0_ok : ∀ k, k < 0 → parseFieldDescriptor (TJ0 k).2.2.1 = some (tyJ0 k) := by decide +kernel
abbrev cJ0_length_8abf5 : ByteArray := prog_13_method_54_code
def yJ0_length_8abf5 : MethodName := ⟨RJ0, "length", "()I"⟩
abbrev cJ0_charAt_5068e : ByteArray := prog_13_method_56_code
def yJ0_charAt_5068e : MethodName := ⟨RJ0, "charAt", "(I)C"⟩
abbrev cJ0_coder_7d493 : ByteArray := prog_13_method_152_code
def yJ0_coder_7d493 : MethodName := ⟨RJ0, "coder", "()B"⟩
abbrev cJ0_isLatin1_aae02 : ByteArray := prog_13_method_154_code
def yJ0_isLatin1_aae02 : MethodName := ⟨RJ0, "isLatin1", "()Z"⟩
abbrev cJ0_checkIndex_df160 : ByteArray := prog_13_method_155_code
def yJ0_checkIndex_df160 : MethodName := ⟨RJ0, "checkIndex", "(II)V"⟩
def RJ1 : String := "java/lang/StringLatin1"
def TJ1 : u_T := fun k => match k with
  | _ => ("", "", "", false)
def tyJ1 : Nat → FieldType := fun k => match k with
  | _ => .int
theorem nmJ1 : ∀ a, a < 0 → ∀ b, b < 0 → a ≠ b → (TJ1 a).2.1 ≠ (TJ1 b).2.1 := by decide +kernel
theorem tyJ1_ok : ∀ k, k < 0 → parseFieldDescriptor (TJ1 k).2.2.1 = some (tyJ1 k) := by decide +kernel
abbrev cJ1_charAt_3b067 : ByteArray := prog_14_method_2_code
def yJ1_charAt_3b067 : MethodName := ⟨RJ1, "charAt", "([BI)C"⟩
def RJ2 : String := "java/lang/StringUTF16"
def TJ2 : u_T := fun k => match k with
  | _ => ("", "", "", false)
def tyJ2 : Nat → FieldType := fun k => match k with
  | _ => .int
theorem nmJ2 : ∀ a, a < 0 → ∀ b, b < 0 → a ≠ b → (TJ2 a).2.1 ≠ (TJ2 b).2.1 := by decide +kernel
theorem tyJ2_ok : ∀ k, k < 0 → parseFieldDescriptor (TJ2 k).2.2.1 = some (tyJ2 k) := by decide +kernel
abbrev cJ2_getChar_3b067 : ByteArray := prog_15_method_5_code
def yJ2_getChar_3b067 : MethodName := ⟨RJ2, "getChar", "([BI)C"⟩
abbrev cJ2_length_9d52b : ByteArray := prog_15_method_6_code
def yJ2_length_9d52b : MethodName := ⟨RJ2, "length", "([B)I"⟩
abbrev cJ2_charAt_3b067 : ByteArray := prog_15_method_83_code
def yJ2_charAt_3b067 : MethodName := ⟨RJ2, "charAt", "([BI)C"⟩
abbrev cJ2_checkIndex_2214a : ByteArray := prog_15_method_91_code
def yJ2_checkIndex_2214a : MethodName := ⟨RJ2, "checkIndex", "(I[B)V"⟩
def RJ10 : String := "java/lang/System"
def TJ10 : u_T := fun k => match k with
  | _ => ("", "", "", false)
def tyJ10 : Nat → FieldType := fun k => match k with
  | _ => .int
theorem nmJ10 : ∀ a, a < 0 → ∀ b, b < 0 → a ≠ b → (TJ10 a).2.1 ≠ (TJ10 b).2.1 := by decide +kernel
theorem tyJ10_ok : ∀ k, k < 0 → parseFieldDescriptor (TJ10 k).2.2.1 = some (tyJ10 k) := by decide +kernel
def RJxfd54e : String := "java/lang/constant/Constable"
def TJxfd54e : u_T := fun k => match k with
  | _ => ("", "", "", false)
def tyJxfd54e : Nat → FieldType := fun k => match k with
  | _ => .int
theorem nmJxfd54e : ∀ a, a < 0 → ∀ b, b < 0 → a ≠ b → (TJxfd54e a).2.1 ≠ (TJxfd54e b).2.1 := by decide +kernel
theorem tyJxfd54e_ok : ∀ k, k < 0 → parseFieldDescriptor (TJxfd54e k).2.2.1 = some (tyJxfd54e k) := by decide +kernel
def RJx3cf43 : String := "java/lang/constant/ConstantDesc"
def TJx3cf43 : u_T := fun k => match k with
  | _ => ("", "", "", false)
def tyJx3cf43 : Nat → FieldType := fun k => match k with
  | _ => .int
theorem nmJx3cf43 : ∀ a, a < 0 → ∀ b, b < 0 → a ≠ b → (TJx3cf43 a).2.1 ≠ (TJx3cf43 b).2.1 := by decide +kernel
theorem tyJx3cf43_ok : ∀ k, k < 0 → parseFieldDescriptor (TJx3cf43 k).2.2.1 = some (tyJx3cf43 k) := by decide +kernel
def RJ7 : String := "java/util/Arrays"
def TJ7 : u_T := fun k => match k with
  | _ => ("", "", "", false)
def tyJ7 : Nat → FieldType := fun k => match k with
  | _ => .int
theorem nmJ7 : ∀ a, a < 0 → ∀ b, b < 0 → a ≠ b → (TJ7 a).2.1 ≠ (TJ7 b).2.1 := by decide +kernel
theorem tyJ7_ok : ∀ k, k < 0 → parseFieldDescriptor (TJ7 k).2.2.1 = some (tyJ7 k) := by decide +kernel
abbrev cJ7_rangeCheck_23922 : ByteArray := prog_17_method_30_code
def yJ7_rangeCheck_23922 : MethodName := ⟨RJ7, "rangeCheck", "(III)V"⟩
abbrev cJ7_fill_d0a16 : ByteArray := prog_17_method_101_code
def yJ7_fill_d0a16 : MethodName := ⟨RJ7, "fill", "([JJ)V"⟩
abbrev cJ7_fill_53178 : ByteArray := prog_17_method_103_code
def yJ7_fill_53178 : MethodName := ⟨RJ7, "fill", "([II)V"⟩
abbrev cJ7_fill_fda19 : ByteArray := prog_17_method_104_code
def yJ7_fill_fda19 : MethodName := ⟨RJ7, "fill", "([IIII)V"⟩
def RJ3 : String := "jdk/internal/util/Preconditions"
def TJ3 : u_T := fun k => match k with
  | _ => ("", "", "", false)
def tyJ3 : Nat → FieldType := fun k => match k with
  | _ => .int
theorem nmJ3 : ∀ a, a < 0 → ∀ b, b < 0 → a ≠ b → (TJ3 a).2.1 ≠ (TJ3 b).2.1 := by decide +kernel
theorem tyJ3_ok : ∀ k, k < 0 → parseFieldDescriptor (TJ3 k).2.2.1 = some (tyJ3 k) := by decide +kernel
abbrev cJ3_checkIndex_8e157 : ByteArray := prog_18_method_11_code
def yJ3_checkIndex_8e157 : MethodName := ⟨RJ3, "checkIndex", "(IILjava/util/function/BiFunction;)I"⟩
def RL : String := "RoadOfDoorsLaw"
abbrev cL_cell : ByteArray := method_2_code
def yL_cell : MethodName := ⟨RL, "cell", "([II)I"⟩
abbrev cL_law : ByteArray := code
def yL_law : MethodName := ⟨RL, "law", "([I)Z"⟩
end
section
/-! The judgement of this proof: a predicate K over (new cells, new slots, world, pc, locals, stack) of one method's run; the kit's rows as rules over it. -/
abbrev jS : Type := (Nat → Nat → Int32) × (Nat → Nat → Int64)
abbrev jC : Type := (Nat → Nat) → Nat → (Nat → Int32) → (Nat → Int64) → va_E
/-- a world of N cells at the addresses ad, each told by its own row of the state -/
def jw (N : Nat) (cell : jC) (ad : Nat → Nat) (s : jS) : va_W := (List.range N).map (fun k => (ad k, cell ad k (s.1 k) (s.2 k)))
def upR (s : jS) (k : Nat) (f : Nat → Int32) : jS := (va_up s.1 k f, s.2)
def upI (s : jS) (k j : Nat) (x : Int32) : jS := (va_up s.1 k (upd (s.1 k) j x), s.2)
def upL (s : jS) (k j : Nat) (x : Int64) : jS := (s.1, va_up s.2 k (vp_updL (s.2 k) j x))
theorem jw_at {N : Nat} {cell : jC} {ad : Nat → Nat} {s : jS} {k : Nat} (h : k < N) : (jw N cell ad s)[k]? = some (ad k, cell ad k (s.1 k) (s.2 k)) := by
  simp [jw, h]
theorem jw_set {N : Nat} {cell : jC} {ad : Nat → Nat} {s s' : jS} {k : Nat} (h : k < N) (h1 : ∀ i : Nat, i ≠ k → s'.1 i = s.1 i) (h2 : ∀ i : Nat, i ≠ k → s'.2 i = s.2 i) : (jw N cell ad s).set k (ad k, cell ad k (s'.1 k) (s'.2 k)) = jw N cell ad s' := by
  apply List.ext_getElem?
  intro i
  by_cases hik : i = k
  · subst hik
    rw [List.getElem?_set_self (by simpa [jw] using h), jw_at h]
  · rw [List.getElem?_set_ne (Ne.symm hik)]
    by_cases hi : i < N
    · rw [jw_at hi, jw_at hi, h1 i hik, h2 i hik]
    · rw [List.getElem?_eq_none (by simpa [jw] using hi), List.getElem?_eq_none (by simpa [jw] using hi)]
theorem va_up_at {α : Type} (f : Nat → α) (k : Nat) (v : α) : va_up f k v k = v := by simp [va_up]
theorem va_up_off {α : Type} (f : Nat → α) {k i : Nat} (v : α) (h : i ≠ k) : va_up f k v i = f i := by simp [va_up, h]
abbrev classes : List vw_C := [(RX0, TX0, 8), (RX1, TX1, 10), (RX2, TX2, 10), (RX3, TX3, 7), (RX4, TX4, 6), (RX5, TX5, 7), (RX6, TX6, 8), (RX7, TX7, 12), (RX8, TX8, 9), (RX9, TX9, 32)]
abbrev jtys (G : Nat → ClassId) : List (ClassId × FieldType) := [(G 0, .int), (G 1, .long), (G 2, .boolean), (G 3, .byte), (G 4, .object "RoadOfDoors$Text")]

def nestW : List Cond := [(Jvm.Cond.methodLinkNest "RoadOfDoors" (20 : Nat) ({ cls := "RoadOfDoors$Text", name := "<init>", desc := "()V" } : Jvm.MethodName) "RoadOfDoors"), (Jvm.Cond.methodLinkNest "RoadOfDoors$Road" (33 : Nat) ({ cls := "RoadOfDoors$Traveller", name := "<init>", desc := "()V" } : Jvm.MethodName) "RoadOfDoors"), (Jvm.Cond.methodLinkNest "RoadOfDoors" (26 : Nat) ({ cls := "RoadOfDoors$Tape", name := "<init>", desc := "()V" } : Jvm.MethodName) "RoadOfDoors"), (Jvm.Cond.methodLinkNest "RoadOfDoors$Tape" (61 : Nat) ({ cls := "RoadOfDoors", name := "within", desc := "(III)Z" } : Jvm.MethodName) "RoadOfDoors"), (Jvm.Cond.methodLinkNest "RoadOfDoors$Reader" (107 : Nat) ({ cls := "RoadOfDoors", name := "within", desc := "(III)Z" } : Jvm.MethodName) "RoadOfDoors"), (Jvm.Cond.methodLinkNest "RoadOfDoors$Text" (39 : Nat) ({ cls := "RoadOfDoors", name := "within", desc := "(III)Z" } : Jvm.MethodName) "RoadOfDoors"), (Jvm.Cond.methodLinkNest "RoadOfDoors$Traveller" (49 : Nat) ({ cls := "RoadOfDoors", name := "within", desc := "(III)Z" } : Jvm.MethodName) "RoadOfDoors"), (Jvm.Cond.methodLinkNest "RoadOfDoors$Ways" (68 : Nat) ({ cls := "RoadOfDoors", name := "hasKey", desc := "(II)Z" } : Jvm.MethodName) "RoadOfDoors"), (Jvm.Cond.methodLinkNest "RoadOfDoors$Road" (42 : Nat) ({ cls := "RoadOfDoors", name := "within", desc := "(III)Z" } : Jvm.MethodName) "RoadOfDoors"), (Jvm.Cond.methodLinkNest "RoadOfDoors$Earnings" (81 : Nat) ({ cls := "RoadOfDoors", name := "hasKey", desc := "(II)Z" } : Jvm.MethodName) "RoadOfDoors")]
def jidx : List Nat := [83, 89, 91, 93, 95, 97, 99, 101, 103, 105, 107, 109, 111, 113, 115]
def jtxt : List String := ["door", "hour", "rain", "mood", "gift", "knocks", "waited", "load", "opens", "knock", "with", "wait", "or", "and", "not"]
def jlen : List Nat := [4, 4, 4, 4, 4, 6, 6, 4, 5, 5, 4, 4, 2, 3, 3]
def jbyt : List (List Int32) := [[100, 111, 111, 114], [104, 111, 117, 114], [114, 97, 105, 110], [109, 111, 111, 100], [103, 105, 102, 116], [107, 110, 111, 99, 107, 115], [119, 97, 105, 116, 101, 100], [108, 111, 97, 100], [111, 112, 101, 110, 115], [107, 110, 111, 99, 107], [119, 105, 116, 104], [119, 97, 105, 116], [111, 114], [97, 110, 100], [110, 111, 116]]
/-- what lies around every method's world and stays: words of nest mates, String constants, a static of String -/
def jE (KV : (Nat → Nat) × (Nat → Nat)) (A : Nat → Prop) (U : State) : Prop :=
  (∀ w ∈ nestW, va_Nw w U) ∧ vk_S 15 jlen jbyt KV.1 KV.2 A U U.heap ∧ (∀ i : Nat, i < 15 → vk_R "RoadOfDoors$Tape" (jidx.getD i 0) (jtxt.getD i "") (KV.1 i) U) ∧ va_Z "java/lang/String" "COMPACT_STRINGS" "Z" (.int 1) A U U.heap ∧ va_Zq "jdk/internal/util/Preconditions" "SIOOBE_FORMATTER" "Ljava/util/function/BiFunction;" A U U.heap
theorem nest_warm {s U : State} (hW : s.WarmedH U.vm) (h : ∀ w ∈ nestW, va_Nw w s) : ∀ w ∈ nestW, va_Nw w U := by
  intro w hw
  have h1 := h w hw
  unfold nestW at hw
  simp only [List.mem_cons, List.not_mem_nil, or_false] at hw
  rcases hw with rfl | rfl | rfl | rfl | rfl | rfl | rfl | rfl | rfl | rfl <;> exact va_Nw.warmM hW h1
theorem jE.call {KV : (Nat → Nat) × (Nat → Nat)} {A B : Nat → Prop} {s U : State} {H : Heap} {locs : List Loc} (h : jE KV A s) (hS : va_S A s.heap H locs) (hU : U.heap = H) (hW : s.WarmedH U.vm) (hAB : ∀ q, B q → A q) : jE KV B U := by
  obtain ⟨h1, h2, h3, h4, h5⟩ := h
  refine ⟨nest_warm hW h1, ?_, fun i hi => vk_R.warm hW (h3 i hi), ?_, ?_⟩
  · rw [hU]; exact ((h2.kept hS.2.1).moved hW.alike).narrow hAB
  · rw [hU]; exact ((h4.kept hS.2.1).moved hW.alike).narrow hAB
  · rw [hU]; exact ((h5.kept hS.2.1).moved hW.alike).narrow hAB
theorem nest_same {U : State} {g : JFrame} {mk : MethodId} {a : Array Value} (h : ∀ w ∈ nestW, va_Nw w U) : ∀ w ∈ nestW, va_Nw w (U.calling g mk a) := by
  intro w hw
  have h1 := h w hw
  unfold nestW at hw
  simp only [List.mem_cons, List.not_mem_nil, or_false] at hw
  rcases hw with rfl | rfl | rfl | rfl | rfl | rfl | rfl | rfl | rfl | rfl <;> exact va_Nw.same (u := U) (U := U.calling g mk a) rfl rfl h1
theorem jE.calling {KV : (Nat → Nat) × (Nat → Nat)} {A : Nat → Prop} {U : State} {g : JFrame} {mk : MethodId} {a : Array Value} (h : jE KV A U) : jE KV A (U.calling g mk a) := by
  obtain ⟨h1, h2, h3, h4, h5⟩ := h
  exact ⟨nest_same h1, h2.moved (u := U) (U := U.calling g mk a) (Vm.Alike.refl U.vm), fun i hi => vk_R.same (u := U) (U := U.calling g mk a) rfl (h3 i hi), h4.moved (u := U) (U := U.calling g mk a) (Vm.Alike.refl U.vm), h5.moved (u := U) (U := U.calling g mk a) (Vm.Alike.refl U.vm)⟩
/-- K is the judgement of a run of a method -/
def jK (l : Launch) (D : va_G) (G : Nat → ClassId) (KV : (Nat → Nat) × (Nat → Nat)) (own : String) (cc : ByteArray) (nL : Nat) (ret : Option FieldType) (R : Room) (mc ms : Nat) (nm : String) (PP : Option Value → va_W → Prop) (K : Nat → Nat → va_W → Nat → List (Nat × Value) → List Value → Prop) : Prop :=
  ∃ (p : Program) (e : Env) (s : State) (m : MethodId) (args : Array Value) (below : List Frame) (meth : Method) (c : Code) (A : Nat → Prop) (Qc : Array Value → State → Outcome → State → Prop),
    p.tables.exec = Jvm.exec ∧ c.code = cc ∧ c.maxLocals = nL ∧ s.vm.findClass own = some m.cls ∧ (∀ w ∈ tW, w.before args s = true) ∧ meth.sig.returnType = ret ∧ meth.locks = false ∧ meth.name = nm ∧ va_K D classes (jtys G) s ∧ jE KV A s ∧ (∀ q, s.heap.size ≤ q → A q) ∧
    (∀ (v : Option Value) (ws : va_W) (H : Heap) (locs : List Loc) (t : State), va_P D classes ws H → va_D A ws → va_S A s.heap H locs → PP v ws → t.heap = H → s.WarmedH t.vm → Qc args s (.returned v) t) ∧
    K = (fun cells slots ws pc L st => ∀ (H : Heap) (locs : List Loc) (ls : Array Slot), va_P D classes ws H → va_D A ws → va_S A s.heap H locs → lv_has ls nL L → W p l e R s m args below meth c H locs cells slots (MQ below Qc args s mc ms A) (F0 m pc ls st))
def jws (y : MethodName) (b : ByteArray) (nL : Nat) (ret : Option FieldType) : List Cond := Cond.code y b nL ret :: tW
def jQ (D : va_G) (G : Nat → ClassId) (PP : Option Value → va_W → Prop) (A : Nat → Prop) : Array Value → State → Outcome → State → Prop := fun _ st oc t =>
  (∃ (v : Option Value) (u : va_W), oc = .returned v ∧ PP v u ∧ va_P D classes u t.heap ∧ va_K D classes (jtys G) t ∧ va_D A u) ∧ va_F A st t
/-- a method's contract: from the world ws with the arguments av it ends with an answer and a world of PP -/
def jM (l : Launch) (D : va_G) (G : Nat → ClassId) (KV : (Nat → Nat) × (Nat → Nat)) (y : MethodName) (b : ByteArray) (nL : Nat) (ret : Option FieldType) (rm : Room) (av : List Value) (ws : va_W) (mc ms : Nat) (PP : Option Value → va_W → Prop) : Prop :=
  ∀ sz : Nat, Met l y (jws y b nL ret) rm (va_Pc av (fun U => U.heap.size = sz ∧ va_P D classes ws U.heap ∧ va_K D classes (jtys G) U ∧ va_D (fun _ => True) ws ∧ jE KV (va_A ws sz) U)) (jQ D G PP (va_A ws sz)) mc ms (va_A ws sz)
theorem jM.of {l : Launch} {D : va_G} {G : Nat → ClassId} {KV : (Nat → Nat) × (Nat → Nat)} {y : MethodName} {b : ByteArray} {nL : Nat} {ret : Option FieldType} {rm : Room} {av : List Value} {ws : va_W} {mc ms : Nat} {PP : Option Value → va_W → Prop}
    (hy : plainName y.cls = true) (hent : (lg_sl av).length ≤ nL)
    (body : ∀ K, jK l D G KV y.cls b nL ret rm mc ms y.name PP K → K 0 0 ws 0 (lv_args 0 av) []) : jM l D G KV y b nL ret rm av ws mc ms PP := by
  intro sz
  refine Met.ofW (cc := b) (maxL := nL) (ret := ret) hy rfl ?_
  intro p e s m args below meth c s₁ B hml hv
  obtain ⟨rfl, hsz, hP, hK, hD0, hE⟩ := hv
  have hts0 := atoms_spec (ws := jws y b nL ret) B.pre
  have hts : ∀ w ∈ tW, w.before av.toArray s = true := fun w hw => hts0 w (List.mem_cons_of_mem _ hw)
  subst hsz
  have hD := hD0.self (sz := s.heap.size)
  have h := body _ ⟨p, e, s, m, av.toArray, below, meth, c, va_A ws s.heap.size, jQ D G PP (va_A ws s.heap.size), B.exec, B.bytes, hml, findClass_of_methodNamed B.named, hts, B.returns, B.notSynchronized, (name_of_methodNamed B.named B.method).1, hK, hE, fun q h => Or.inr h,
    fun v u H locs t hP hD hS hpp ht hW => ⟨⟨v, u, rfl, hpp, by rw [ht]; exact hP, va_K.moved hW.alike hK, hD⟩, hS.F ht⟩, rfl⟩
  rw [lg_entry_eq]
  exact h s.heap [] _ hP hD va_S.rf (lv_entry av hent)
theorem tW_goodIn {y : MethodName} {b : ByteArray} {nL : Nat} {ret : Option FieldType} (h : Cond.code y b nL ret ∈ tW) : GoodIn tW (jws y b nL ret) := by
  intro w hw
  have hw2 : w ∈ tW := by
    rcases List.mem_cons.mp hw with e | h2
    · rw [e]; exact h
    · exact h2
  exact ⟨hw2, tW_good hw2⟩
section JR
variable {l : Launch} {D : va_G} {G : Nat → ClassId} {KV : (Nat → Nat) × (Nat → Nat)} {own : String} {cc : ByteArray} {nL : Nat} {ret : Option FieldType} {R : Room} {mc ms : Nat} {nm : String} {PP : Option Value → va_W → Prop} {K : Nat → Nat → va_W → Nat → List (Nat × Value) → List Value → Prop}
variable {cs sl pc : Nat} {ws : va_W} {L : List (Nat × Value)} {rest : List Value}
theorem j_iconst (C : jK l D G KV own cc nL ret R mc ms nm PP K) {n : Int} {v : Int32} (hdg : decode cc pc = .ok (.iconst n, 1)) (hv : Int32.ofInt n = v) (k : K cs sl ws (pc + 1) L (.int v :: rest)) : K cs sl ws pc L (rest) := by
  obtain ⟨p, e, s, m, args, below, meth, c, A, Qc, hx, hb, hml, hown, hts, hr, hlk, hnm, hK, hE, hA, hend, rfl⟩ := C
  exact fun H locs ls hP hD hS hL => lv_iconst hx hb hdg hv (k H locs ls hP hD hS hL)
theorem j_bipush (C : jK l D G KV own cc nL ret R mc ms nm PP K) {n : Int} {v : Int32} (hdg : decode cc pc = .ok (.bipush n, 2)) (hv : (Int8.ofInt n).toInt32 = v) (k : K cs sl ws (pc + 2) L (.int v :: rest)) : K cs sl ws pc L (rest) := by
  obtain ⟨p, e, s, m, args, below, meth, c, A, Qc, hx, hb, hml, hown, hts, hr, hlk, hnm, hK, hE, hA, hend, rfl⟩ := C
  exact fun H locs ls hP hD hS hL => lv_bipush hx hb hdg hv (k H locs ls hP hD hS hL)
theorem j_sipush (C : jK l D G KV own cc nL ret R mc ms nm PP K) {n : Int} {v : Int32} (hdg : decode cc pc = .ok (.sipush n, 3)) (hv : (Int16.ofInt n).toInt32 = v) (k : K cs sl ws (pc + 3) L (.int v :: rest)) : K cs sl ws pc L (rest) := by
  obtain ⟨p, e, s, m, args, below, meth, c, A, Qc, hx, hb, hml, hown, hts, hr, hlk, hnm, hK, hE, hA, hend, rfl⟩ := C
  exact fun H locs ls hP hD hS hL => lv_sipush hx hb hdg hv (k H locs ls hP hD hS hL)
theorem j_lconst (C : jK l D G KV own cc nL ret R mc ms nm PP K) {n : Fin 2} {v : Int64} (hdg : decode cc pc = .ok (.lconst n, 1)) (hv : Int64.ofNat (n : Nat) = v) (k : K cs sl ws (pc + 1) L (.long v :: rest)) : K cs sl ws pc L (rest) := by
  obtain ⟨p, e, s, m, args, below, meth, c, A, Qc, hx, hb, hml, hown, hts, hr, hlk, hnm, hK, hE, hA, hend, rfl⟩ := C
  exact fun H locs ls hP hD hS hL => lv_lconst hx hb hdg hv (k H locs ls hP hD hS hL)
theorem j_iload_n (C : jK l D G KV own cc nL ret R mc ms nm PP K) {k0 : Fin 4} {x : Int32} (hdg : decode cc pc = .ok (.iload_n k0, 1)) (q : Nat) (hl : L[q]? = some ((k0 : Nat), .int x)) (k : K cs sl ws (pc + 1) L (.int x :: rest)) : K cs sl ws pc L (rest) := by
  obtain ⟨p, e, s, m, args, below, meth, c, A, Qc, hx, hb, hml, hown, hts, hr, hlk, hnm, hK, hE, hA, hend, rfl⟩ := C
  exact fun H locs ls hP hD hS hL => lv_iload_n hx hb hdg rfl (lv_at hL q hl) (k H locs ls hP hD hS hL)
theorem j_iload (C : jK l D G KV own cc nL ret R mc ms nm PP K) {i : Nat} {x : Int32} (hdg : decode cc pc = .ok (.iload i, 2)) (q : Nat) (hl : L[q]? = some (i, .int x)) (k : K cs sl ws (pc + 2) L (.int x :: rest)) : K cs sl ws pc L (rest) := by
  obtain ⟨p, e, s, m, args, below, meth, c, A, Qc, hx, hb, hml, hown, hts, hr, hlk, hnm, hK, hE, hA, hend, rfl⟩ := C
  exact fun H locs ls hP hD hS hL => lv_iload hx hb hdg (lv_at hL q hl) (k H locs ls hP hD hS hL)
theorem j_lload_n (C : jK l D G KV own cc nL ret R mc ms nm PP K) {k0 : Fin 4} {x : Int64} (hdg : decode cc pc = .ok (.lload_n k0, 1)) (q : Nat) (hl : L[q]? = some ((k0 : Nat), .long x)) (k : K cs sl ws (pc + 1) L (.long x :: rest)) : K cs sl ws pc L (rest) := by
  obtain ⟨p, e, s, m, args, below, meth, c, A, Qc, hx, hb, hml, hown, hts, hr, hlk, hnm, hK, hE, hA, hend, rfl⟩ := C
  exact fun H locs ls hP hD hS hL => lv_lload_n hx hb hdg rfl (lv_at hL q hl) (k H locs ls hP hD hS hL)
theorem j_lload (C : jK l D G KV own cc nL ret R mc ms nm PP K) {i : Nat} {x : Int64} (hdg : decode cc pc = .ok (.lload i, 2)) (q : Nat) (hl : L[q]? = some (i, .long x)) (k : K cs sl ws (pc + 2) L (.long x :: rest)) : K cs sl ws pc L (rest) := by
  obtain ⟨p, e, s, m, args, below, meth, c, A, Qc, hx, hb, hml, hown, hts, hr, hlk, hnm, hK, hE, hA, hend, rfl⟩ := C
  exact fun H locs ls hP hD hS hL => lv_lload hx hb hdg (lv_at hL q hl) (k H locs ls hP hD hS hL)
theorem j_aload_n (C : jK l D G KV own cc nL ret R mc ms nm PP K) {k0 : Fin 4} {x : Nat} (hdg : decode cc pc = .ok (.aload_n k0, 1)) (q : Nat) (hl : L[q]? = some ((k0 : Nat), .ref x)) (k : K cs sl ws (pc + 1) L (.ref x :: rest)) : K cs sl ws pc L (rest) := by
  obtain ⟨p, e, s, m, args, below, meth, c, A, Qc, hx, hb, hml, hown, hts, hr, hlk, hnm, hK, hE, hA, hend, rfl⟩ := C
  exact fun H locs ls hP hD hS hL => lv_aload_n hx hb hdg rfl (lv_at hL q hl) (k H locs ls hP hD hS hL)
theorem j_aload (C : jK l D G KV own cc nL ret R mc ms nm PP K) {i : Nat} {x : Nat} (hdg : decode cc pc = .ok (.aload i, 2)) (q : Nat) (hl : L[q]? = some (i, .ref x)) (k : K cs sl ws (pc + 2) L (.ref x :: rest)) : K cs sl ws pc L (rest) := by
  obtain ⟨p, e, s, m, args, below, meth, c, A, Qc, hx, hb, hml, hown, hts, hr, hlk, hnm, hK, hE, hA, hend, rfl⟩ := C
  exact fun H locs ls hP hD hS hL => lv_aload hx hb hdg (lv_at hL q hl) (k H locs ls hP hD hS hL)
theorem j_istore_n (C : jK l D G KV own cc nL ret R mc ms nm PP K) {k0 : Fin 4} {x : Int32} {L' : List (Nat × Value)} (hdg : decode cc pc = .ok (.istore_n k0, 1)) (hn : (k0 : Nat) < nL) (hl : ((k0 : Nat), Value.int x) :: L.filter (fun q => !(q.1 == (k0 : Nat)) && !(q.1 + 1 == (k0 : Nat) && q.2.category == 2)) = L') (k : K cs sl ws (pc + 1) L' rest) : K cs sl ws pc L (.int x :: rest) := by
  obtain ⟨p, e, s, m, args, below, meth, c, A, Qc, hx, hb, hml, hown, hts, hr, hlk, hnm, hK, hE, hA, hend, rfl⟩ := C
  exact fun H locs ls hP hD hS hL => lv_istore_n hx hb hdg rfl hL hn hl (fun ls' hl' => k H locs ls' hP hD hS hl')
theorem j_istore (C : jK l D G KV own cc nL ret R mc ms nm PP K) {i : Nat} {x : Int32} {L' : List (Nat × Value)} (hdg : decode cc pc = .ok (.istore i, 2)) (hn : i < nL) (hl : (i, Value.int x) :: L.filter (fun q => !(q.1 == i) && !(q.1 + 1 == i && q.2.category == 2)) = L') (k : K cs sl ws (pc + 2) L' rest) : K cs sl ws pc L (.int x :: rest) := by
  obtain ⟨p, e, s, m, args, below, meth, c, A, Qc, hx, hb, hml, hown, hts, hr, hlk, hnm, hK, hE, hA, hend, rfl⟩ := C
  exact fun H locs ls hP hD hS hL => lv_istore hx hb hdg hL hn hl (fun ls' hl' => k H locs ls' hP hD hS hl')
theorem j_lstore_n (C : jK l D G KV own cc nL ret R mc ms nm PP K) {k0 : Fin 4} {x : Int64} {L' : List (Nat × Value)} (hdg : decode cc pc = .ok (.lstore_n k0, 1)) (hn : (k0 : Nat) + 1 < nL) (hl : ((k0 : Nat), Value.long x) :: L.filter (fun q => !(q.1 == (k0 : Nat)) && (!(q.1 == (k0 : Nat) + 1) && !(q.1 + 1 == (k0 : Nat) && q.2.category == 2))) = L') (k : K cs sl ws (pc + 1) L' rest) : K cs sl ws pc L (.long x :: rest) := by
  obtain ⟨p, e, s, m, args, below, meth, c, A, Qc, hx, hb, hml, hown, hts, hr, hlk, hnm, hK, hE, hA, hend, rfl⟩ := C
  exact fun H locs ls hP hD hS hL => lv_lstore_n hx hb hdg rfl hL hn hl (fun ls' hl' => k H locs ls' hP hD hS hl')
theorem j_lstore (C : jK l D G KV own cc nL ret R mc ms nm PP K) {i : Nat} {x : Int64} {L' : List (Nat × Value)} (hdg : decode cc pc = .ok (.lstore i, 2)) (hn : i + 1 < nL) (hl : (i, Value.long x) :: L.filter (fun q => !(q.1 == i) && (!(q.1 == i + 1) && !(q.1 + 1 == i && q.2.category == 2))) = L') (k : K cs sl ws (pc + 2) L' rest) : K cs sl ws pc L (.long x :: rest) := by
  obtain ⟨p, e, s, m, args, below, meth, c, A, Qc, hx, hb, hml, hown, hts, hr, hlk, hnm, hK, hE, hA, hend, rfl⟩ := C
  exact fun H locs ls hP hD hS hL => lv_lstore hx hb hdg hL hn hl (fun ls' hl' => k H locs ls' hP hD hS hl')
theorem j_astore_n (C : jK l D G KV own cc nL ret R mc ms nm PP K) {k0 : Fin 4} {x : Nat} {L' : List (Nat × Value)} (hdg : decode cc pc = .ok (.astore_n k0, 1)) (hn : (k0 : Nat) < nL) (hl : ((k0 : Nat), Value.ref x) :: L.filter (fun q => !(q.1 == (k0 : Nat)) && !(q.1 + 1 == (k0 : Nat) && q.2.category == 2)) = L') (k : K cs sl ws (pc + 1) L' rest) : K cs sl ws pc L (.ref x :: rest) := by
  obtain ⟨p, e, s, m, args, below, meth, c, A, Qc, hx, hb, hml, hown, hts, hr, hlk, hnm, hK, hE, hA, hend, rfl⟩ := C
  exact fun H locs ls hP hD hS hL => lv_astore_n hx hb hdg rfl hL hn hl (fun ls' hl' => k H locs ls' hP hD hS hl')
theorem j_astore (C : jK l D G KV own cc nL ret R mc ms nm PP K) {i : Nat} {x : Nat} {L' : List (Nat × Value)} (hdg : decode cc pc = .ok (.astore i, 2)) (hn : i < nL) (hl : (i, Value.ref x) :: L.filter (fun q => !(q.1 == i) && !(q.1 + 1 == i && q.2.category == 2)) = L') (k : K cs sl ws (pc + 2) L' rest) : K cs sl ws pc L (.ref x :: rest) := by
  obtain ⟨p, e, s, m, args, below, meth, c, A, Qc, hx, hb, hml, hown, hts, hr, hlk, hnm, hK, hE, hA, hend, rfl⟩ := C
  exact fun H locs ls hP hD hS hL => lv_astore hx hb hdg hL hn hl (fun ls' hl' => k H locs ls' hP hD hS hl')
theorem j_iinc (C : jK l D G KV own cc nL ret R mc ms nm PP K) {i : Nat} {n : Int} {x v : Int32} {L' : List (Nat × Value)} (hdg : decode cc pc = .ok (.iinc i n, 3)) (q : Nat) (hk : L[q]? = some (i, .int x)) (hv : x + Int32.ofInt n = v) (hn : i < nL) (hl : (i, Value.int v) :: L.filter (fun q => !(q.1 == i) && !(q.1 + 1 == i && q.2.category == 2)) = L') (k : K cs sl ws (pc + 3) L' rest) : K cs sl ws pc L rest := by
  obtain ⟨p, e, s, m, args, below, meth, c, A, Qc, hx, hb, hml, hown, hts, hr, hlk, hnm, hK, hE, hA, hend, rfl⟩ := C
  exact fun H locs ls hP hD hS hL => lv_iinc hx hb hdg hL hk hv hn hl (fun ls' hl' => k H locs ls' hP hD hS hl')
theorem j_iadd (C : jK l D G KV own cc nL ret R mc ms nm PP K) {x y : Int32} (hdg : decode cc pc = .ok (.iadd, 1))  (k : K cs sl ws (pc + 1) L (.int (x + y) :: rest)) : K cs sl ws pc L (.int y :: .int x :: rest) := by
  obtain ⟨p, e, s, m, args, below, meth, c, A, Qc, hx, hb, hml, hown, hts, hr, hlk, hnm, hK, hE, hA, hend, rfl⟩ := C
  exact fun H locs ls hP hD hS hL => lv_iadd hx hb hdg (k H locs ls hP hD hS hL)
theorem j_isub (C : jK l D G KV own cc nL ret R mc ms nm PP K) {x y : Int32} (hdg : decode cc pc = .ok (.isub, 1))  (k : K cs sl ws (pc + 1) L (.int (x - y) :: rest)) : K cs sl ws pc L (.int y :: .int x :: rest) := by
  obtain ⟨p, e, s, m, args, below, meth, c, A, Qc, hx, hb, hml, hown, hts, hr, hlk, hnm, hK, hE, hA, hend, rfl⟩ := C
  exact fun H locs ls hP hD hS hL => lv_isub hx hb hdg (k H locs ls hP hD hS hL)
theorem j_imul (C : jK l D G KV own cc nL ret R mc ms nm PP K) {x y : Int32} (hdg : decode cc pc = .ok (.imul, 1))  (k : K cs sl ws (pc + 1) L (.int (x * y) :: rest)) : K cs sl ws pc L (.int y :: .int x :: rest) := by
  obtain ⟨p, e, s, m, args, below, meth, c, A, Qc, hx, hb, hml, hown, hts, hr, hlk, hnm, hK, hE, hA, hend, rfl⟩ := C
  exact fun H locs ls hP hD hS hL => lv_imul hx hb hdg (k H locs ls hP hD hS hL)
theorem j_iand (C : jK l D G KV own cc nL ret R mc ms nm PP K) {x y : Int32} (hdg : decode cc pc = .ok (.iand, 1))  (k : K cs sl ws (pc + 1) L (.int (x &&& y) :: rest)) : K cs sl ws pc L (.int y :: .int x :: rest) := by
  obtain ⟨p, e, s, m, args, below, meth, c, A, Qc, hx, hb, hml, hown, hts, hr, hlk, hnm, hK, hE, hA, hend, rfl⟩ := C
  exact fun H locs ls hP hD hS hL => lv_iand hx hb hdg (k H locs ls hP hD hS hL)
theorem j_ior (C : jK l D G KV own cc nL ret R mc ms nm PP K) {x y : Int32} (hdg : decode cc pc = .ok (.ior, 1))  (k : K cs sl ws (pc + 1) L (.int (x ||| y) :: rest)) : K cs sl ws pc L (.int y :: .int x :: rest) := by
  obtain ⟨p, e, s, m, args, below, meth, c, A, Qc, hx, hb, hml, hown, hts, hr, hlk, hnm, hK, hE, hA, hend, rfl⟩ := C
  exact fun H locs ls hP hD hS hL => lv_ior hx hb hdg (k H locs ls hP hD hS hL)
theorem j_ixor (C : jK l D G KV own cc nL ret R mc ms nm PP K) {x y : Int32} (hdg : decode cc pc = .ok (.ixor, 1))  (k : K cs sl ws (pc + 1) L (.int (x ^^^ y) :: rest)) : K cs sl ws pc L (.int y :: .int x :: rest) := by
  obtain ⟨p, e, s, m, args, below, meth, c, A, Qc, hx, hb, hml, hown, hts, hr, hlk, hnm, hK, hE, hA, hend, rfl⟩ := C
  exact fun H locs ls hP hD hS hL => lv_ixor hx hb hdg (k H locs ls hP hD hS hL)
theorem j_ishl (C : jK l D G KV own cc nL ret R mc ms nm PP K) {x y : Int32} (hdg : decode cc pc = .ok (.ishl, 1))  (k : K cs sl ws (pc + 1) L (.int (x <<< (y &&& 31)) :: rest)) : K cs sl ws pc L (.int y :: .int x :: rest) := by
  obtain ⟨p, e, s, m, args, below, meth, c, A, Qc, hx, hb, hml, hown, hts, hr, hlk, hnm, hK, hE, hA, hend, rfl⟩ := C
  exact fun H locs ls hP hD hS hL => lv_ishl hx hb hdg (k H locs ls hP hD hS hL)
theorem j_ishr (C : jK l D G KV own cc nL ret R mc ms nm PP K) {x y : Int32} (hdg : decode cc pc = .ok (.ishr, 1))  (k : K cs sl ws (pc + 1) L (.int (x >>> (y &&& 31)) :: rest)) : K cs sl ws pc L (.int y :: .int x :: rest) := by
  obtain ⟨p, e, s, m, args, below, meth, c, A, Qc, hx, hb, hml, hown, hts, hr, hlk, hnm, hK, hE, hA, hend, rfl⟩ := C
  exact fun H locs ls hP hD hS hL => lv_ishr hx hb hdg (k H locs ls hP hD hS hL)
theorem j_idiv (C : jK l D G KV own cc nL ret R mc ms nm PP K) {x y : Int32} (hdg : decode cc pc = .ok (.idiv, 1)) (hne : ¬ y = 0) (k : K cs sl ws (pc + 1) L (.int (x / y) :: rest)) : K cs sl ws pc L (.int y :: .int x :: rest) := by
  obtain ⟨p, e, s, m, args, below, meth, c, A, Qc, hx, hb, hml, hown, hts, hr, hlk, hnm, hK, hE, hA, hend, rfl⟩ := C
  exact fun H locs ls hP hD hS hL => lv_idiv hx hb hdg hne (k H locs ls hP hD hS hL)
theorem j_irem (C : jK l D G KV own cc nL ret R mc ms nm PP K) {x y : Int32} (hdg : decode cc pc = .ok (.irem, 1)) (hne : ¬ y = 0) (k : K cs sl ws (pc + 1) L (.int (x - x / y * y) :: rest)) : K cs sl ws pc L (.int y :: .int x :: rest) := by
  obtain ⟨p, e, s, m, args, below, meth, c, A, Qc, hx, hb, hml, hown, hts, hr, hlk, hnm, hK, hE, hA, hend, rfl⟩ := C
  exact fun H locs ls hP hD hS hL => lv_irem hx hb hdg hne (k H locs ls hP hD hS hL)
theorem j_ineg (C : jK l D G KV own cc nL ret R mc ms nm PP K) {x : Int32} (hdg : decode cc pc = .ok (.ineg, 1))  (k : K cs sl ws (pc + 1) L (.int (-x) :: rest)) : K cs sl ws pc L (.int x :: rest) := by
  obtain ⟨p, e, s, m, args, below, meth, c, A, Qc, hx, hb, hml, hown, hts, hr, hlk, hnm, hK, hE, hA, hend, rfl⟩ := C
  exact fun H locs ls hP hD hS hL => lv_ineg hx hb hdg (k H locs ls hP hD hS hL)
theorem j_iushr (C : jK l D G KV own cc nL ret R mc ms nm PP K) {x y : Int32} (hdg : decode cc pc = .ok (.iushr, 1))  (k : K cs sl ws (pc + 1) L (.int ((x.toUInt32 >>> (y.toUInt32 &&& Int32.toUInt32 31)).toInt32) :: rest)) : K cs sl ws pc L (.int y :: .int x :: rest) := by
  obtain ⟨p, e, s, m, args, below, meth, c, A, Qc, hx, hb, hml, hown, hts, hr, hlk, hnm, hK, hE, hA, hend, rfl⟩ := C
  exact fun H locs ls hP hD hS hL => lv_iushr hx hb hdg rfl (k H locs ls hP hD hS hL)
theorem j_ladd (C : jK l D G KV own cc nL ret R mc ms nm PP K) {x y : Int64} (hdg : decode cc pc = .ok (.ladd, 1))  (k : K cs sl ws (pc + 1) L (.long (x + y) :: rest)) : K cs sl ws pc L (.long y :: .long x :: rest) := by
  obtain ⟨p, e, s, m, args, below, meth, c, A, Qc, hx, hb, hml, hown, hts, hr, hlk, hnm, hK, hE, hA, hend, rfl⟩ := C
  exact fun H locs ls hP hD hS hL => lv_ladd hx hb hdg (k H locs ls hP hD hS hL)
theorem j_lsub (C : jK l D G KV own cc nL ret R mc ms nm PP K) {x y : Int64} (hdg : decode cc pc = .ok (.lsub, 1))  (k : K cs sl ws (pc + 1) L (.long (x - y) :: rest)) : K cs sl ws pc L (.long y :: .long x :: rest) := by
  obtain ⟨p, e, s, m, args, below, meth, c, A, Qc, hx, hb, hml, hown, hts, hr, hlk, hnm, hK, hE, hA, hend, rfl⟩ := C
  exact fun H locs ls hP hD hS hL => lv_lsub hx hb hdg (k H locs ls hP hD hS hL)
theorem j_lmul (C : jK l D G KV own cc nL ret R mc ms nm PP K) {x y : Int64} (hdg : decode cc pc = .ok (.lmul, 1))  (k : K cs sl ws (pc + 1) L (.long (x * y) :: rest)) : K cs sl ws pc L (.long y :: .long x :: rest) := by
  obtain ⟨p, e, s, m, args, below, meth, c, A, Qc, hx, hb, hml, hown, hts, hr, hlk, hnm, hK, hE, hA, hend, rfl⟩ := C
  exact fun H locs ls hP hD hS hL => lv_lmul hx hb hdg (k H locs ls hP hD hS hL)
theorem j_land (C : jK l D G KV own cc nL ret R mc ms nm PP K) {x y : Int64} (hdg : decode cc pc = .ok (.land, 1))  (k : K cs sl ws (pc + 1) L (.long (x &&& y) :: rest)) : K cs sl ws pc L (.long y :: .long x :: rest) := by
  obtain ⟨p, e, s, m, args, below, meth, c, A, Qc, hx, hb, hml, hown, hts, hr, hlk, hnm, hK, hE, hA, hend, rfl⟩ := C
  exact fun H locs ls hP hD hS hL => lv_land hx hb hdg (k H locs ls hP hD hS hL)
theorem j_lor (C : jK l D G KV own cc nL ret R mc ms nm PP K) {x y : Int64} (hdg : decode cc pc = .ok (.lor, 1))  (k : K cs sl ws (pc + 1) L (.long (x ||| y) :: rest)) : K cs sl ws pc L (.long y :: .long x :: rest) := by
  obtain ⟨p, e, s, m, args, below, meth, c, A, Qc, hx, hb, hml, hown, hts, hr, hlk, hnm, hK, hE, hA, hend, rfl⟩ := C
  exact fun H locs ls hP hD hS hL => lv_lor hx hb hdg (k H locs ls hP hD hS hL)
theorem j_ldiv (C : jK l D G KV own cc nL ret R mc ms nm PP K) {x y : Int64} (hdg : decode cc pc = .ok (.ldiv, 1)) (hne : ¬ y = 0) (k : K cs sl ws (pc + 1) L (.long (x / y) :: rest)) : K cs sl ws pc L (.long y :: .long x :: rest) := by
  obtain ⟨p, e, s, m, args, below, meth, c, A, Qc, hx, hb, hml, hown, hts, hr, hlk, hnm, hK, hE, hA, hend, rfl⟩ := C
  exact fun H locs ls hP hD hS hL => lv_ldiv hx hb hdg hne (k H locs ls hP hD hS hL)
theorem j_lneg (C : jK l D G KV own cc nL ret R mc ms nm PP K) {x : Int64} (hdg : decode cc pc = .ok (.lneg, 1))  (k : K cs sl ws (pc + 1) L (.long (-x) :: rest)) : K cs sl ws pc L (.long x :: rest) := by
  obtain ⟨p, e, s, m, args, below, meth, c, A, Qc, hx, hb, hml, hown, hts, hr, hlk, hnm, hK, hE, hA, hend, rfl⟩ := C
  exact fun H locs ls hP hD hS hL => lv_lneg hx hb hdg (k H locs ls hP hD hS hL)
theorem j_lcmp (C : jK l D G KV own cc nL ret R mc ms nm PP K) {x y : Int64} (hdg : decode cc pc = .ok (.lcmp, 1))  (k : K cs sl ws (pc + 1) L (.int (lg_cmp x y) :: rest)) : K cs sl ws pc L (.long y :: .long x :: rest) := by
  obtain ⟨p, e, s, m, args, below, meth, c, A, Qc, hx, hb, hml, hown, hts, hr, hlk, hnm, hK, hE, hA, hend, rfl⟩ := C
  exact fun H locs ls hP hD hS hL => W.lcmp hx hb hdg (k H locs ls hP hD hS hL)
theorem j_lshl (C : jK l D G KV own cc nL ret R mc ms nm PP K) {x : Int64} {y : Int32} (hdg : decode cc pc = .ok (.lshl, 1))  (k : K cs sl ws (pc + 1) L (.long (x <<< (y.toInt64 &&& 63)) :: rest)) : K cs sl ws pc L (.int y :: .long x :: rest) := by
  obtain ⟨p, e, s, m, args, below, meth, c, A, Qc, hx, hb, hml, hown, hts, hr, hlk, hnm, hK, hE, hA, hend, rfl⟩ := C
  exact fun H locs ls hP hD hS hL => lv_lshl hx hb hdg rfl (k H locs ls hP hD hS hL)
theorem j_lshr (C : jK l D G KV own cc nL ret R mc ms nm PP K) {x : Int64} {y : Int32} (hdg : decode cc pc = .ok (.lshr, 1))  (k : K cs sl ws (pc + 1) L (.long (x >>> (y.toInt64 &&& 63)) :: rest)) : K cs sl ws pc L (.int y :: .long x :: rest) := by
  obtain ⟨p, e, s, m, args, below, meth, c, A, Qc, hx, hb, hml, hown, hts, hr, hlk, hnm, hK, hE, hA, hend, rfl⟩ := C
  exact fun H locs ls hP hD hS hL => lv_lshr hx hb hdg rfl (k H locs ls hP hD hS hL)
theorem j_i2l (C : jK l D G KV own cc nL ret R mc ms nm PP K) {x : Int32} (hdg : decode cc pc = .ok (.i2l, 1))  (k : K cs sl ws (pc + 1) L (.long x.toInt64 :: rest)) : K cs sl ws pc L (.int x :: rest) := by
  obtain ⟨p, e, s, m, args, below, meth, c, A, Qc, hx, hb, hml, hown, hts, hr, hlk, hnm, hK, hE, hA, hend, rfl⟩ := C
  exact fun H locs ls hP hD hS hL => lv_i2l hx hb hdg rfl (k H locs ls hP hD hS hL)
theorem j_l2i (C : jK l D G KV own cc nL ret R mc ms nm PP K) {x : Int64} (hdg : decode cc pc = .ok (.l2i, 1))  (k : K cs sl ws (pc + 1) L (.int x.toInt32 :: rest)) : K cs sl ws pc L (.long x :: rest) := by
  obtain ⟨p, e, s, m, args, below, meth, c, A, Qc, hx, hb, hml, hown, hts, hr, hlk, hnm, hK, hE, hA, hend, rfl⟩ := C
  exact fun H locs ls hP hD hS hL => lv_l2i hx hb hdg rfl (k H locs ls hP hD hS hL)
theorem j_i2b (C : jK l D G KV own cc nL ret R mc ms nm PP K) {x : Int32} (hdg : decode cc pc = .ok (.i2b, 1))  (k : K cs sl ws (pc + 1) L (.int x.toInt8.toInt32 :: rest)) : K cs sl ws pc L (.int x :: rest) := by
  obtain ⟨p, e, s, m, args, below, meth, c, A, Qc, hx, hb, hml, hown, hts, hr, hlk, hnm, hK, hE, hA, hend, rfl⟩ := C
  exact fun H locs ls hP hD hS hL => lv_i2b hx hb hdg rfl (k H locs ls hP hD hS hL)
theorem j_i2c (C : jK l D G KV own cc nL ret R mc ms nm PP K) {x : Int32} (hdg : decode cc pc = .ok (.i2c, 1))  (k : K cs sl ws (pc + 1) L (.int (x.toUInt32 % 65536).toInt32 :: rest)) : K cs sl ws pc L (.int x :: rest) := by
  obtain ⟨p, e, s, m, args, below, meth, c, A, Qc, hx, hb, hml, hown, hts, hr, hlk, hnm, hK, hE, hA, hend, rfl⟩ := C
  exact fun H locs ls hP hD hS hL => lv_i2c hx hb hdg rfl (k H locs ls hP hD hS hL)
theorem j_dup (C : jK l D G KV own cc nL ret R mc ms nm PP K) {va : Value} (hdg : decode cc pc = .ok (.dup, 1)) (hva : va.category = 1) (k : K cs sl ws (pc + 1) L (va :: va :: rest)) : K cs sl ws pc L (va :: rest) := by
  obtain ⟨p, e, s, m, args, below, meth, c, A, Qc, hx, hb, hml, hown, hts, hr, hlk, hnm, hK, hE, hA, hend, rfl⟩ := C
  exact fun H locs ls hP hD hS hL => lv_dup hx hb hdg hva (k H locs ls hP hD hS hL)
theorem j_pop (C : jK l D G KV own cc nL ret R mc ms nm PP K) {va : Value} (hdg : decode cc pc = .ok (.pop, 1)) (hva : va.category = 1) (k : K cs sl ws (pc + 1) L (rest)) : K cs sl ws pc L (va :: rest) := by
  obtain ⟨p, e, s, m, args, below, meth, c, A, Qc, hx, hb, hml, hown, hts, hr, hlk, hnm, hK, hE, hA, hend, rfl⟩ := C
  exact fun H locs ls hP hD hS hL => lv_pop hx hb hdg hva (k H locs ls hP hD hS hL)
theorem j_dup2 (C : jK l D G KV own cc nL ret R mc ms nm PP K) {va vb : Value} (hdg : decode cc pc = .ok (.dup2, 1)) (hva : va.category = 1) (hvb : vb.category = 1) (k : K cs sl ws (pc + 1) L (va :: vb :: va :: vb :: rest)) : K cs sl ws pc L (va :: vb :: rest) := by
  obtain ⟨p, e, s, m, args, below, meth, c, A, Qc, hx, hb, hml, hown, hts, hr, hlk, hnm, hK, hE, hA, hend, rfl⟩ := C
  exact fun H locs ls hP hD hS hL => lv_dup2_11 hx hb hdg hva hvb (k H locs ls hP hD hS hL)
theorem j_ldc (C : jK l D G KV own cc nL ret R mc ms nm PP K) {idx : Nat} {v : Int32} (hdg : decode cc pc = .ok (.ldc idx, 2)) (hc : Cond.constant own idx v ∈ tW) (k : K cs sl ws (pc + 2) L (.int v :: rest)) : K cs sl ws pc L (rest) := by
  obtain ⟨p, e, s, m, args, below, meth, c, A, Qc, hx, hb, hml, hown, hts, hr, hlk, hnm, hK, hE, hA, hend, rfl⟩ := C
  exact fun H locs ls hP hD hS hL => lv_ldc hx hb hown (hts _ hc) hdg (k H locs ls hP hD hS hL)
theorem j_ldcw (C : jK l D G KV own cc nL ret R mc ms nm PP K) {idx : Nat} {v : Int32} (hdg : decode cc pc = .ok (.ldc_w idx, 3)) (hc : Cond.constant own idx v ∈ tW) (k : K cs sl ws (pc + 3) L (.int v :: rest)) : K cs sl ws pc L (rest) := by
  obtain ⟨p, e, s, m, args, below, meth, c, A, Qc, hx, hb, hml, hown, hts, hr, hlk, hnm, hK, hE, hA, hend, rfl⟩ := C
  exact fun H locs ls hP hD hS hL => lv_ldcw hx hb hown (hts _ hc) hdg (k H locs ls hP hD hS hL)
theorem j_ldc2 (C : jK l D G KV own cc nL ret R mc ms nm PP K) {idx : Nat} {v : Int64} (hdg : decode cc pc = .ok (.ldc2_w idx, 3)) (hc : Cond.constantLong own idx v ∈ tW) (k : K cs sl ws (pc + 3) L (.long v :: rest)) : K cs sl ws pc L (rest) := by
  obtain ⟨p, e, s, m, args, below, meth, c, A, Qc, hx, hb, hml, hown, hts, hr, hlk, hnm, hK, hE, hA, hend, rfl⟩ := C
  exact fun H locs ls hP hD hS hL => lv_ldc2 hx hb hown (hts _ hc) hdg (k H locs ls hP hD hS hL)
theorem j_goto (C : jK l D G KV own cc nL ret R mc ms nm PP K) {off : Int} {tgt : Nat} (hdg : decode cc pc = .ok (.goto off, 3)) (ht : (pc : Int) + off = (tgt : Int)) (k : K cs sl ws tgt L rest) : K cs sl ws pc L rest := by
  obtain ⟨p, e, s, m, args, below, meth, c, A, Qc, hx, hb, hml, hown, hts, hr, hlk, hnm, hK, hE, hA, hend, rfl⟩ := C
  exact fun H locs ls hP hD hS hL => lv_goto hx hb hdg ht (k H locs ls hP hD hS hL)
theorem j_if_eq (C : jK l D G KV own cc nL ret R mc ms nm PP K) {x : Int32} {off : Int} {tgt : Nat} (hdg : decode cc pc = .ok (.ifCond .eq off, 3)) (ht : (pc : Int) + off = (tgt : Int)) (kt : x = 0 → K cs sl ws tgt L rest) (kf : ¬ (x = 0) → K cs sl ws (pc + 3) L rest) : K cs sl ws pc L (.int x :: rest) := by
  obtain ⟨p, e, s, m, args, below, meth, c, A, Qc, hx, hb, hml, hown, hts, hr, hlk, hnm, hK, hE, hA, hend, rfl⟩ := C
  exact fun H locs ls hP hD hS hL => lv_if_eq hx hb hdg ht (fun h => kt h H locs ls hP hD hS hL) (fun h => kf h H locs ls hP hD hS hL)
theorem j_if_ne (C : jK l D G KV own cc nL ret R mc ms nm PP K) {x : Int32} {off : Int} {tgt : Nat} (hdg : decode cc pc = .ok (.ifCond .ne off, 3)) (ht : (pc : Int) + off = (tgt : Int)) (kt : ¬ x = 0 → K cs sl ws tgt L rest) (kf : x = 0 → K cs sl ws (pc + 3) L rest) : K cs sl ws pc L (.int x :: rest) := by
  obtain ⟨p, e, s, m, args, below, meth, c, A, Qc, hx, hb, hml, hown, hts, hr, hlk, hnm, hK, hE, hA, hend, rfl⟩ := C
  exact fun H locs ls hP hD hS hL => lv_if_ne hx hb hdg ht (fun h => kt h H locs ls hP hD hS hL) (fun h => kf h H locs ls hP hD hS hL)
theorem j_if_lt (C : jK l D G KV own cc nL ret R mc ms nm PP K) {x : Int32} {off : Int} {tgt : Nat} (hdg : decode cc pc = .ok (.ifCond .lt off, 3)) (ht : (pc : Int) + off = (tgt : Int)) (kt : x < 0 → K cs sl ws tgt L rest) (kf : ¬ (x < 0) → K cs sl ws (pc + 3) L rest) : K cs sl ws pc L (.int x :: rest) := by
  obtain ⟨p, e, s, m, args, below, meth, c, A, Qc, hx, hb, hml, hown, hts, hr, hlk, hnm, hK, hE, hA, hend, rfl⟩ := C
  exact fun H locs ls hP hD hS hL => lv_if_lt hx hb hdg ht (fun h => kt h H locs ls hP hD hS hL) (fun h => kf h H locs ls hP hD hS hL)
theorem j_if_ge (C : jK l D G KV own cc nL ret R mc ms nm PP K) {x : Int32} {off : Int} {tgt : Nat} (hdg : decode cc pc = .ok (.ifCond .ge off, 3)) (ht : (pc : Int) + off = (tgt : Int)) (kt : 0 ≤ x → K cs sl ws tgt L rest) (kf : ¬ (0 ≤ x) → K cs sl ws (pc + 3) L rest) : K cs sl ws pc L (.int x :: rest) := by
  obtain ⟨p, e, s, m, args, below, meth, c, A, Qc, hx, hb, hml, hown, hts, hr, hlk, hnm, hK, hE, hA, hend, rfl⟩ := C
  exact fun H locs ls hP hD hS hL => lv_if_ge hx hb hdg ht (fun h => kt h H locs ls hP hD hS hL) (fun h => kf h H locs ls hP hD hS hL)
theorem j_if_gt (C : jK l D G KV own cc nL ret R mc ms nm PP K) {x : Int32} {off : Int} {tgt : Nat} (hdg : decode cc pc = .ok (.ifCond .gt off, 3)) (ht : (pc : Int) + off = (tgt : Int)) (kt : 0 < x → K cs sl ws tgt L rest) (kf : ¬ (0 < x) → K cs sl ws (pc + 3) L rest) : K cs sl ws pc L (.int x :: rest) := by
  obtain ⟨p, e, s, m, args, below, meth, c, A, Qc, hx, hb, hml, hown, hts, hr, hlk, hnm, hK, hE, hA, hend, rfl⟩ := C
  exact fun H locs ls hP hD hS hL => lv_if_gt hx hb hdg ht (fun h => kt h H locs ls hP hD hS hL) (fun h => kf h H locs ls hP hD hS hL)
theorem j_if_le (C : jK l D G KV own cc nL ret R mc ms nm PP K) {x : Int32} {off : Int} {tgt : Nat} (hdg : decode cc pc = .ok (.ifCond .le off, 3)) (ht : (pc : Int) + off = (tgt : Int)) (kt : x ≤ 0 → K cs sl ws tgt L rest) (kf : ¬ (x ≤ 0) → K cs sl ws (pc + 3) L rest) : K cs sl ws pc L (.int x :: rest) := by
  obtain ⟨p, e, s, m, args, below, meth, c, A, Qc, hx, hb, hml, hown, hts, hr, hlk, hnm, hK, hE, hA, hend, rfl⟩ := C
  exact fun H locs ls hP hD hS hL => lv_if_le hx hb hdg ht (fun h => kt h H locs ls hP hD hS hL) (fun h => kf h H locs ls hP hD hS hL)
theorem j_icmp_eq (C : jK l D G KV own cc nL ret R mc ms nm PP K) {x y : Int32} {off : Int} {tgt : Nat} (hdg : decode cc pc = .ok (.if_icmp .eq off, 3)) (ht : (pc : Int) + off = (tgt : Int)) (kt : x = y → K cs sl ws tgt L rest) (kf : ¬ (x = y) → K cs sl ws (pc + 3) L rest) : K cs sl ws pc L (.int y :: .int x :: rest) := by
  obtain ⟨p, e, s, m, args, below, meth, c, A, Qc, hx, hb, hml, hown, hts, hr, hlk, hnm, hK, hE, hA, hend, rfl⟩ := C
  exact fun H locs ls hP hD hS hL => lv_icmp_eq hx hb hdg ht (fun h => kt h H locs ls hP hD hS hL) (fun h => kf h H locs ls hP hD hS hL)
theorem j_icmp_ne (C : jK l D G KV own cc nL ret R mc ms nm PP K) {x y : Int32} {off : Int} {tgt : Nat} (hdg : decode cc pc = .ok (.if_icmp .ne off, 3)) (ht : (pc : Int) + off = (tgt : Int)) (kt : ¬ x = y → K cs sl ws tgt L rest) (kf : x = y → K cs sl ws (pc + 3) L rest) : K cs sl ws pc L (.int y :: .int x :: rest) := by
  obtain ⟨p, e, s, m, args, below, meth, c, A, Qc, hx, hb, hml, hown, hts, hr, hlk, hnm, hK, hE, hA, hend, rfl⟩ := C
  exact fun H locs ls hP hD hS hL => lv_icmp_ne hx hb hdg ht (fun h => kt h H locs ls hP hD hS hL) (fun h => kf h H locs ls hP hD hS hL)
theorem j_icmp_lt (C : jK l D G KV own cc nL ret R mc ms nm PP K) {x y : Int32} {off : Int} {tgt : Nat} (hdg : decode cc pc = .ok (.if_icmp .lt off, 3)) (ht : (pc : Int) + off = (tgt : Int)) (kt : x < y → K cs sl ws tgt L rest) (kf : ¬ (x < y) → K cs sl ws (pc + 3) L rest) : K cs sl ws pc L (.int y :: .int x :: rest) := by
  obtain ⟨p, e, s, m, args, below, meth, c, A, Qc, hx, hb, hml, hown, hts, hr, hlk, hnm, hK, hE, hA, hend, rfl⟩ := C
  exact fun H locs ls hP hD hS hL => lv_icmp_lt hx hb hdg ht (fun h => kt h H locs ls hP hD hS hL) (fun h => kf h H locs ls hP hD hS hL)
theorem j_icmp_ge (C : jK l D G KV own cc nL ret R mc ms nm PP K) {x y : Int32} {off : Int} {tgt : Nat} (hdg : decode cc pc = .ok (.if_icmp .ge off, 3)) (ht : (pc : Int) + off = (tgt : Int)) (kt : y ≤ x → K cs sl ws tgt L rest) (kf : ¬ (y ≤ x) → K cs sl ws (pc + 3) L rest) : K cs sl ws pc L (.int y :: .int x :: rest) := by
  obtain ⟨p, e, s, m, args, below, meth, c, A, Qc, hx, hb, hml, hown, hts, hr, hlk, hnm, hK, hE, hA, hend, rfl⟩ := C
  exact fun H locs ls hP hD hS hL => lv_icmp_ge hx hb hdg ht (fun h => kt h H locs ls hP hD hS hL) (fun h => kf h H locs ls hP hD hS hL)
theorem j_icmp_gt (C : jK l D G KV own cc nL ret R mc ms nm PP K) {x y : Int32} {off : Int} {tgt : Nat} (hdg : decode cc pc = .ok (.if_icmp .gt off, 3)) (ht : (pc : Int) + off = (tgt : Int)) (kt : y < x → K cs sl ws tgt L rest) (kf : ¬ (y < x) → K cs sl ws (pc + 3) L rest) : K cs sl ws pc L (.int y :: .int x :: rest) := by
  obtain ⟨p, e, s, m, args, below, meth, c, A, Qc, hx, hb, hml, hown, hts, hr, hlk, hnm, hK, hE, hA, hend, rfl⟩ := C
  exact fun H locs ls hP hD hS hL => lv_icmp_gt hx hb hdg ht (fun h => kt h H locs ls hP hD hS hL) (fun h => kf h H locs ls hP hD hS hL)
theorem j_icmp_le (C : jK l D G KV own cc nL ret R mc ms nm PP K) {x y : Int32} {off : Int} {tgt : Nat} (hdg : decode cc pc = .ok (.if_icmp .le off, 3)) (ht : (pc : Int) + off = (tgt : Int)) (kt : x ≤ y → K cs sl ws tgt L rest) (kf : ¬ (x ≤ y) → K cs sl ws (pc + 3) L rest) : K cs sl ws pc L (.int y :: .int x :: rest) := by
  obtain ⟨p, e, s, m, args, below, meth, c, A, Qc, hx, hb, hml, hown, hts, hr, hlk, hnm, hK, hE, hA, hend, rfl⟩ := C
  exact fun H locs ls hP hD hS hL => lv_icmp_le hx hb hdg ht (fun h => kt h H locs ls hP hD hS hL) (fun h => kf h H locs ls hP hD hS hL)
theorem j_tin (C : jK l D G KV own cc nL ret R mc ms nm PP K) {dflt lo hi : Int} {offs : Array Int} {len : Nat} {x : Int32} {off : Int} {tgt : Nat} (hdg : decode cc pc = .ok (.tableswitch dflt lo hi offs, len)) (h1 : ¬ x.toInt < lo) (h2 : ¬ hi < x.toInt) (ho : offs[(x.toInt - lo).toNat]? = some off) (ht : (pc : Int) + off = (tgt : Int)) (k : K cs sl ws tgt L rest) : K cs sl ws pc L (.int x :: rest) := by
  obtain ⟨p, e, s, m, args, below, meth, c, A, Qc, hx, hb, hml, hown, hts, hr, hlk, hnm, hK, hE, hA, hend, rfl⟩ := C
  exact fun H locs ls hP hD hS hL => lv_tableIn hx hb hdg h1 h2 ho ht (k H locs ls hP hD hS hL)
theorem j_tout (C : jK l D G KV own cc nL ret R mc ms nm PP K) {dflt lo hi : Int} {offs : Array Int} {len : Nat} {x : Int32} {tgt : Nat} (hdg : decode cc pc = .ok (.tableswitch dflt lo hi offs, len)) (h : x.toInt < lo ∨ hi < x.toInt) (ht : (pc : Int) + dflt = (tgt : Int)) (k : K cs sl ws tgt L rest) : K cs sl ws pc L (.int x :: rest) := by
  obtain ⟨p, e, s, m, args, below, meth, c, A, Qc, hx, hb, hml, hown, hts, hr, hlk, hnm, hK, hE, hA, hend, rfl⟩ := C
  exact fun H locs ls hP hD hS hL => lv_tableOut hx hb hdg h ht (k H locs ls hP hD hS hL)
theorem j_loc (C : jK l D G KV own cc nL ret R mc ms nm PP K) {L' : List (Nat × Value)} (qs : List Nat) (hl : lv_pick L qs = L') (k : K cs sl ws pc L' rest) : K cs sl ws pc L rest := by
  obtain ⟨p, e, s, m, args, below, meth, c, A, Qc, hx, hb, hml, hown, hts, hr, hlk, hnm, hK, hE, hA, hend, rfl⟩ := C
  exact fun H locs ls hP hD hS hL => k H locs ls hP hD hS (lv_sub hL qs hl)
theorem j_get (C : jK l D G KV own cc nL ret R mc ms nm PP K) {ref Cn : String} {T : u_T} {N ci idx a : Nat} (hdg : decode cc pc = .ok (.getfield idx, 3)) (hin : ∀ w ∈ u_ws Cn T N, w ∈ tW) (hc : classes[ci]? = some (Cn, T, N)) (q0 : Nat) {fs : List Value} (he : ws[q0]? = some (a, .inr (ci, fs))) (j : Nat) (hj : j < N) (hlink : Cond.fieldLink own idx ref (T j).2.1 (T j).2.2.1 ∈ tW) (hsame : (T j).1 = ref) {v : Value} (hv : fs[j]? = some v) (k : K cs sl ws (pc + 3) L (v :: rest)) : K cs sl ws pc L (.ref a :: rest) := by
  obtain ⟨p, e, s, m, args, below, meth, c, A, Qc, hx, hb, hml, hown, hts, hr, hlk, hnm, hK, hE, hA, hend, rfl⟩ := C
  exact fun H locs ls hP hD hS hL => va_get (D := D) (ci := ci) (C := Cn) (T := T) (N := N) hx hb hts hin hown hK hP q0 he hc j hj (hts _ hlink) (fun _ h => by rw [← hsame]; exact h) hv hdg (k H locs ls hP hD hS hL)
theorem j_put (C : jK l D G KV own cc nL ret R mc ms nm PP K) {ref Cn : String} {T : u_T} {N ci idx a : Nat} (hdg : decode cc pc = .ok (.putfield idx, 3)) (hin : ∀ w ∈ u_ws Cn T N, w ∈ tW) (ty0 : Nat → FieldType) (hty : ∀ k, k < N → parseFieldDescriptor (T k).2.2.1 = some (ty0 k)) (hnm0 : ∀ a, a < N → ∀ b, b < N → a ≠ b → (T a).2.1 ≠ (T b).2.1) (hc : classes[ci]? = some (Cn, T, N)) (q0 : Nat) {fs : List Value} (he : ws[q0]? = some (a, .inr (ci, fs))) (j : Nat) (hj : j < N) (hlink : Cond.fieldLink own idx ref (T j).2.1 (T j).2.2.1 ∈ tW) (hsame : (T j).1 = ref) (hfin : (T j).2.2.2 = false) {v : Value} (hn : narrow (ty0 j) v = v) (hfit : fits (ty0 j) v = true) (hlen : j < fs.length) (k : K cs sl (ws.set q0 (a, .inr (ci, fs.set j v))) (pc + 3) L rest) : K cs sl ws pc L (v :: .ref a :: rest) := by
  obtain ⟨p, e, s, m, args, below, meth, c, A, Qc, hx, hb, hml, hown, hts, hr, hlk, hnm, hK, hE, hA, hend, rfl⟩ := C
  exact fun H locs ls hP hD hS hL => va_put (D := D) (ci := ci) (C := Cn) (T := T) (N := N) hx hb hts hin ty0 hty hnm0 hown hK hP hD hS q0 he hc j hj (hts _ hlink) (fun _ h => by rw [← hsame]; exact h) hfin (hty j hj) hn hfit hlen hdg (fun H1 locs1 hP hD hS => k H1 locs1 ls hP hD hS hL)
theorem j_putF (C : jK l D G KV own cc nL ret R mc ms nm PP K) {ref Cn : String} {T : u_T} {N ci idx a : Nat} (hdg : decode cc pc = .ok (.putfield idx, 3)) (hin : ∀ w ∈ u_ws Cn T N, w ∈ tW) (ty0 : Nat → FieldType) (hty : ∀ k, k < N → parseFieldDescriptor (T k).2.2.1 = some (ty0 k)) (hnm0 : ∀ a, a < N → ∀ b, b < N → a ≠ b → (T a).2.1 ≠ (T b).2.1) (hc : classes[ci]? = some (Cn, T, N)) (q0 : Nat) {fs : List Value} (he : ws[q0]? = some (a, .inr (ci, fs))) (j : Nat) (hj : j < N) (hlink : Cond.fieldLink own idx ref (T j).2.1 (T j).2.2.1 ∈ tW) (hsame : (T j).1 = ref) (hfin : (T j).2.2.2 = true) (hini : nm = "<init>") (hdecl : (T j).1 = own) {v : Value} (hn : narrow (ty0 j) v = v) (hfit : fits (ty0 j) v = true) (hlen : j < fs.length) (k : K cs sl (ws.set q0 (a, .inr (ci, fs.set j v))) (pc + 3) L rest) : K cs sl ws pc L (v :: .ref a :: rest) := by
  obtain ⟨p, e, s, m, args, below, meth, c, A, Qc, hx, hb, hml, hown, hts, hr, hlk, hnm, hK, hE, hA, hend, rfl⟩ := C
  exact fun H locs ls hP hD hS hL => va_putF (D := D) (ci := ci) (C := Cn) (T := T) (N := N) hx hb hts hin ty0 hty hnm0 hown hK hP hD hS q0 he hc j hj (hts _ hlink) (fun _ h => by rw [← hsame]; exact h) hfin (hnm.trans hini) hdecl (hty j hj) hn hfit hlen hdg (fun H1 locs1 hP hD hS => k H1 locs1 ls hP hD hS hL)
theorem j_putI (C : jK l D G KV own cc nL ret R mc ms nm PP K) {ref Cn : String} {T : u_T} {N ci idx : Nat} {Nw : Nat} {cell : jC} {ad : Nat → Nat} {s0 : jS} {q0 : Nat} (hdg : decode cc pc = .ok (.putfield idx, 3)) (hin : ∀ w ∈ u_ws Cn T N, w ∈ tW) (ty0 : Nat → FieldType) (hty : ∀ k, k < N → parseFieldDescriptor (T k).2.2.1 = some (ty0 k)) (hnm : ∀ a, a < N → ∀ b, b < N → a ≠ b → (T a).2.1 ≠ (T b).2.1) (hc : classes[ci]? = some (Cn, T, N)) (hq : q0 < Nw) {fs : List Value} (j : Nat) {x : Int32} (he : cell ad q0 (s0.1 q0) (s0.2 q0) = .inr (ci, fs)) (he2 : cell ad q0 (upd (s0.1 q0) j x) (s0.2 q0) = .inr (ci, fs.set j (.int x))) (hj : j < N) (hlink : Cond.fieldLink own idx ref (T j).2.1 (T j).2.2.1 ∈ tW) (hsame : (T j).1 = ref) (hfin : (T j).2.2.2 = false) (hn : narrow (ty0 j) (.int x) = .int x) (hfit : fits (ty0 j) (.int x) = true) (hlen : j < fs.length) (k : K cs sl (jw Nw cell ad (upI s0 q0 j x)) (pc + 3) L rest) : K cs sl (jw Nw cell ad s0) pc L (.int x :: .ref (ad q0) :: rest) := by
  refine j_put C hdg hin ty0 hty hnm hc q0 (by rw [jw_at hq, he]) j hj hlink hsame hfin hn hfit hlen ?_
  have h := jw_set (cell := cell) (ad := ad) (s := s0) (s' := upI s0 q0 j x) hq (fun i hi => va_up_off _ _ hi) (fun _ _ => rfl)
  rw [show (upI s0 q0 j x).1 q0 = upd (s0.1 q0) j x from va_up_at _ _ _, show (upI s0 q0 j x).2 q0 = s0.2 q0 from rfl, he2] at h
  rw [h]
  exact k
theorem j_putL (C : jK l D G KV own cc nL ret R mc ms nm PP K) {ref Cn : String} {T : u_T} {N ci idx : Nat} {Nw : Nat} {cell : jC} {ad : Nat → Nat} {s0 : jS} {q0 : Nat} (hdg : decode cc pc = .ok (.putfield idx, 3)) (hin : ∀ w ∈ u_ws Cn T N, w ∈ tW) (ty0 : Nat → FieldType) (hty : ∀ k, k < N → parseFieldDescriptor (T k).2.2.1 = some (ty0 k)) (hnm : ∀ a, a < N → ∀ b, b < N → a ≠ b → (T a).2.1 ≠ (T b).2.1) (hc : classes[ci]? = some (Cn, T, N)) (hq : q0 < Nw) {fs : List Value} (j : Nat) {x : Int64} (he : cell ad q0 (s0.1 q0) (s0.2 q0) = .inr (ci, fs)) (he2 : cell ad q0 (s0.1 q0) (vp_updL (s0.2 q0) j x) = .inr (ci, fs.set j (.long x))) (hj : j < N) (hlink : Cond.fieldLink own idx ref (T j).2.1 (T j).2.2.1 ∈ tW) (hsame : (T j).1 = ref) (hfin : (T j).2.2.2 = false) (hn : narrow (ty0 j) (.long x) = .long x) (hfit : fits (ty0 j) (.long x) = true) (hlen : j < fs.length) (k : K cs sl (jw Nw cell ad (upL s0 q0 j x)) (pc + 3) L rest) : K cs sl (jw Nw cell ad s0) pc L (.long x :: .ref (ad q0) :: rest) := by
  refine j_put C hdg hin ty0 hty hnm hc q0 (by rw [jw_at hq, he]) j hj hlink hsame hfin hn hfit hlen ?_
  have h := jw_set (cell := cell) (ad := ad) (s := s0) (s' := upL s0 q0 j x) hq (fun _ _ => rfl) (fun i hi => va_up_off _ _ hi)
  rw [show (upL s0 q0 j x).1 q0 = s0.1 q0 from rfl, show (upL s0 q0 j x).2 q0 = vp_updL (s0.2 q0) j x from va_up_at _ _ _, he2] at h
  rw [h]
  exact k
theorem j_iald (C : jK l D G KV own cc nL ret R mc ms nm PP K) {a n : Nat} {f : Nat → Int32} {i : Int32} (hdg : decode cc pc = .ok (.iaload, 1)) (q0 : Nat) (he : ws[q0]? = some (a, .inl (G 0, n, .inl f))) (hi : vp_in i n) (k : K cs sl ws (pc + 1) L (.int (f i.toNatClampNeg) :: rest)) : K cs sl ws pc L (.int i :: .ref a :: rest) := by
  obtain ⟨p, e, s, m, args, below, meth, c, A, Qc, hx, hb, hml, hown, hts, hr, hlk, hnm, hK, hE, hA, hend, rfl⟩ := C
  exact fun H locs ls hP hD hS hL => va_iald hx hb hK hP q0 0 he rfl hi hdg (k H locs ls hP hD hS hL)
theorem j_bald (C : jK l D G KV own cc nL ret R mc ms nm PP K) {a n : Nat} {f : Nat → Int32} {i : Int32} (hdg : decode cc pc = .ok (.baload, 1)) (q0 : Nat) (he : ws[q0]? = some (a, .inl (G 3, n, .inl f))) (hi : vp_in i n) (k : K cs sl ws (pc + 1) L (.int (f i.toNatClampNeg) :: rest)) : K cs sl ws pc L (.int i :: .ref a :: rest) := by
  obtain ⟨p, e, s, m, args, below, meth, c, A, Qc, hx, hb, hml, hown, hts, hr, hlk, hnm, hK, hE, hA, hend, rfl⟩ := C
  exact fun H locs ls hP hD hS hL => va_bald hx hb hK hP q0 3 he rfl hi hdg (k H locs ls hP hD hS hL)
theorem j_zald (C : jK l D G KV own cc nL ret R mc ms nm PP K) {a n : Nat} {f : Nat → Int32} {i : Int32} (hdg : decode cc pc = .ok (.baload, 1)) (q0 : Nat) (he : ws[q0]? = some (a, .inl (G 2, n, .inl f))) (hi : vp_in i n) (k : K cs sl ws (pc + 1) L (.int (f i.toNatClampNeg) :: rest)) : K cs sl ws pc L (.int i :: .ref a :: rest) := by
  obtain ⟨p, e, s, m, args, below, meth, c, A, Qc, hx, hb, hml, hown, hts, hr, hlk, hnm, hK, hE, hA, hend, rfl⟩ := C
  exact fun H locs ls hP hD hS hL => va_zald hx hb hK hP q0 2 he rfl hi hdg (k H locs ls hP hD hS hL)
theorem j_lald (C : jK l D G KV own cc nL ret R mc ms nm PP K) {a n : Nat} {f : Nat → Int64} {i : Int32} (hdg : decode cc pc = .ok (.laload, 1)) (q0 : Nat) (he : ws[q0]? = some (a, .inl (G 1, n, .inr (.inl f)))) (hi : vp_in i n) (k : K cs sl ws (pc + 1) L (.long (f i.toNatClampNeg) :: rest)) : K cs sl ws pc L (.int i :: .ref a :: rest) := by
  obtain ⟨p, e, s, m, args, below, meth, c, A, Qc, hx, hb, hml, hown, hts, hr, hlk, hnm, hK, hE, hA, hend, rfl⟩ := C
  exact fun H locs ls hP hD hS hL => va_lald hx hb hK hP q0 1 he rfl hi hdg (k H locs ls hP hD hS hL)
theorem j_aald (C : jK l D G KV own cc nL ret R mc ms nm PP K) {a n : Nat} {f : Nat → Option Nat} {i : Int32} (hdg : decode cc pc = .ok (.aaload, 1)) (q0 : Nat) (he : ws[q0]? = some (a, .inl (G 4, n, .inr (.inr (.inr (.inr f)))))) (hi : vp_in i n) (k : K cs sl ws (pc + 1) L (va_rf (f i.toNatClampNeg) :: rest)) : K cs sl ws pc L (.int i :: .ref a :: rest) := by
  obtain ⟨p, e, s, m, args, below, meth, c, A, Qc, hx, hb, hml, hown, hts, hr, hlk, hnm, hK, hE, hA, hend, rfl⟩ := C
  exact fun H locs ls hP hD hS hL => va_aldq hx hb hK hP q0 4 he rfl hi hdg (k H locs ls hP hD hS hL)
theorem j_iast (C : jK l D G KV own cc nL ret R mc ms nm PP K) {a n : Nat} {f : Nat → Int32} {i : Int32} {x : Int32} (hdg : decode cc pc = .ok (.iastore, 1)) (q0 : Nat) (he : ws[q0]? = some (a, .inl (G 0, n, .inl  f))) (hi : vp_in i n) (k : K cs sl (ws.set q0 (a, .inl (G 0, n, .inl  (upd f i.toNatClampNeg x)))) (pc + 1) L rest) : K cs sl ws pc L (.int x :: .int i :: .ref a :: rest) := by
  obtain ⟨p, e, s, m, args, below, meth, c, A, Qc, hx, hb, hml, hown, hts, hr, hlk, hnm, hK, hE, hA, hend, rfl⟩ := C
  exact fun H locs ls hP hD hS hL => va_iast hx hb hK hP hD hS q0 0 he rfl hi hdg (fun H1 locs1 hP hD hS => k H1 locs1 ls hP hD hS hL)
theorem j_iastW (C : jK l D G KV own cc nL ret R mc ms nm PP K) {n Nw : Nat} {cell : jC} {ad : Nat → Nat} {s0 : jS} {q0 : Nat} {i : Int32} {x : Int32} (hdg : decode cc pc = .ok (.iastore, 1)) (hq : q0 < Nw) (he : ∀ r : Nat → Int32, cell ad q0 r (s0.2 q0) = .inl (G 0, n, .inl r)) (hi : vp_in i n) (k : K cs sl (jw Nw cell ad (upI s0 q0 i.toNatClampNeg x)) (pc + 1) L rest) : K cs sl (jw Nw cell ad s0) pc L (.int x :: .int i :: .ref (ad q0) :: rest) := by
  refine j_iast C hdg q0 (by rw [jw_at hq, he]) hi ?_
  have h := jw_set (cell := cell) (ad := ad) (s := s0) (s' := upI s0 q0 i.toNatClampNeg x) hq (fun i hi => va_up_off _ _ hi) (fun _ _ => rfl)
  rw [show (upI s0 q0 i.toNatClampNeg x).1 q0 = upd (s0.1 q0) i.toNatClampNeg x from va_up_at _ _ _, show (upI s0 q0 i.toNatClampNeg x).2 q0 = s0.2 q0 from rfl, he] at h
  rw [h]
  exact k
theorem j_bast (C : jK l D G KV own cc nL ret R mc ms nm PP K) {a n : Nat} {f : Nat → Int32} {i : Int32} {x : Int32} (hdg : decode cc pc = .ok (.bastore, 1)) (q0 : Nat) (he : ws[q0]? = some (a, .inl (G 3, n, .inl  f))) (hi : vp_in i n) (k : K cs sl (ws.set q0 (a, .inl (G 3, n, .inl  (upd f i.toNatClampNeg (vp_nar .byte x))))) (pc + 1) L rest) : K cs sl ws pc L (.int x :: .int i :: .ref a :: rest) := by
  obtain ⟨p, e, s, m, args, below, meth, c, A, Qc, hx, hb, hml, hown, hts, hr, hlk, hnm, hK, hE, hA, hend, rfl⟩ := C
  exact fun H locs ls hP hD hS hL => va_bast hx hb hK hP hD hS q0 3 he rfl hi hdg (fun H1 locs1 hP hD hS => k H1 locs1 ls hP hD hS hL)
theorem j_bastW (C : jK l D G KV own cc nL ret R mc ms nm PP K) {n Nw : Nat} {cell : jC} {ad : Nat → Nat} {s0 : jS} {q0 : Nat} {i : Int32} {x : Int32} (hdg : decode cc pc = .ok (.bastore, 1)) (hq : q0 < Nw) (he : ∀ r : Nat → Int32, cell ad q0 r (s0.2 q0) = .inl (G 3, n, .inl r)) (hi : vp_in i n) (k : K cs sl (jw Nw cell ad (upI s0 q0 i.toNatClampNeg (vp_nar .byte x))) (pc + 1) L rest) : K cs sl (jw Nw cell ad s0) pc L (.int x :: .int i :: .ref (ad q0) :: rest) := by
  refine j_bast C hdg q0 (by rw [jw_at hq, he]) hi ?_
  have h := jw_set (cell := cell) (ad := ad) (s := s0) (s' := upI s0 q0 i.toNatClampNeg (vp_nar .byte x)) hq (fun i hi => va_up_off _ _ hi) (fun _ _ => rfl)
  rw [show (upI s0 q0 i.toNatClampNeg (vp_nar .byte x)).1 q0 = upd (s0.1 q0) i.toNatClampNeg (vp_nar .byte x) from va_up_at _ _ _, show (upI s0 q0 i.toNatClampNeg (vp_nar .byte x)).2 q0 = s0.2 q0 from rfl, he] at h
  rw [h]
  exact k
theorem j_zast (C : jK l D G KV own cc nL ret R mc ms nm PP K) {a n : Nat} {f : Nat → Int32} {i : Int32} {x : Int32} (hdg : decode cc pc = .ok (.bastore, 1)) (q0 : Nat) (he : ws[q0]? = some (a, .inl (G 2, n, .inl  f))) (hi : vp_in i n) (k : K cs sl (ws.set q0 (a, .inl (G 2, n, .inl  (upd f i.toNatClampNeg (vp_nar .boolean x))))) (pc + 1) L rest) : K cs sl ws pc L (.int x :: .int i :: .ref a :: rest) := by
  obtain ⟨p, e, s, m, args, below, meth, c, A, Qc, hx, hb, hml, hown, hts, hr, hlk, hnm, hK, hE, hA, hend, rfl⟩ := C
  exact fun H locs ls hP hD hS hL => va_zast hx hb hK hP hD hS q0 2 he rfl hi hdg (fun H1 locs1 hP hD hS => k H1 locs1 ls hP hD hS hL)
theorem j_zastW (C : jK l D G KV own cc nL ret R mc ms nm PP K) {n Nw : Nat} {cell : jC} {ad : Nat → Nat} {s0 : jS} {q0 : Nat} {i : Int32} {x : Int32} (hdg : decode cc pc = .ok (.bastore, 1)) (hq : q0 < Nw) (he : ∀ r : Nat → Int32, cell ad q0 r (s0.2 q0) = .inl (G 2, n, .inl r)) (hi : vp_in i n) (k : K cs sl (jw Nw cell ad (upI s0 q0 i.toNatClampNeg (vp_nar .boolean x))) (pc + 1) L rest) : K cs sl (jw Nw cell ad s0) pc L (.int x :: .int i :: .ref (ad q0) :: rest) := by
  refine j_zast C hdg q0 (by rw [jw_at hq, he]) hi ?_
  have h := jw_set (cell := cell) (ad := ad) (s := s0) (s' := upI s0 q0 i.toNatClampNeg (vp_nar .boolean x)) hq (fun i hi => va_up_off _ _ hi) (fun _ _ => rfl)
  rw [show (upI s0 q0 i.toNatClampNeg (vp_nar .boolean x)).1 q0 = upd (s0.1 q0) i.toNatClampNeg (vp_nar .boolean x) from va_up_at _ _ _, show (upI s0 q0 i.toNatClampNeg (vp_nar .boolean x)).2 q0 = s0.2 q0 from rfl, he] at h
  rw [h]
  exact k
theorem j_last (C : jK l D G KV own cc nL ret R mc ms nm PP K) {a n : Nat} {f : Nat → Int64} {i : Int32} {x : Int64} (hdg : decode cc pc = .ok (.lastore, 1)) (q0 : Nat) (he : ws[q0]? = some (a, .inl (G 1, n, .inr (.inl f)))) (hi : vp_in i n) (k : K cs sl (ws.set q0 (a, .inl (G 1, n, .inr (.inl (vp_updL f i.toNatClampNeg x))))) (pc + 1) L rest) : K cs sl ws pc L (.long x :: .int i :: .ref a :: rest) := by
  obtain ⟨p, e, s, m, args, below, meth, c, A, Qc, hx, hb, hml, hown, hts, hr, hlk, hnm, hK, hE, hA, hend, rfl⟩ := C
  exact fun H locs ls hP hD hS hL => va_last hx hb hK hP hD hS q0 1 he rfl hi hdg (fun H1 locs1 hP hD hS => k H1 locs1 ls hP hD hS hL)
theorem j_lastW (C : jK l D G KV own cc nL ret R mc ms nm PP K) {n Nw : Nat} {cell : jC} {ad : Nat → Nat} {s0 : jS} {q0 : Nat} {i : Int32} {x : Int64} (hdg : decode cc pc = .ok (.lastore, 1)) (hq : q0 < Nw) (he : ∀ r : Nat → Int64, cell ad q0 (s0.1 q0) r = .inl (G 1, n, .inr (.inl r))) (hi : vp_in i n) (k : K cs sl (jw Nw cell ad (upL s0 q0 i.toNatClampNeg x)) (pc + 1) L rest) : K cs sl (jw Nw cell ad s0) pc L (.long x :: .int i :: .ref (ad q0) :: rest) := by
  refine j_last C hdg q0 (by rw [jw_at hq, he]) hi ?_
  have h := jw_set (cell := cell) (ad := ad) (s := s0) (s' := upL s0 q0 i.toNatClampNeg x) hq (fun _ _ => rfl) (fun i hi => va_up_off _ _ hi)
  rw [show (upL s0 q0 i.toNatClampNeg x).1 q0 = s0.1 q0 from rfl, show (upL s0 q0 i.toNatClampNeg x).2 q0 = vp_updL (s0.2 q0) i.toNatClampNeg x from va_up_at _ _ _, he] at h
  rw [h]
  exact k
theorem j_alen (C : jK l D G KV own cc nL ret R mc ms nm PP K) {a t : Nat} {ar : vp_A} (hdg : decode cc pc = .ok (.arraylength, 1)) (q0 : Nat) (he : ws[q0]? = some (a, .inl (G t, ar))) (ht : t < 5) {v : Int32} (hv : Int32.ofNat ar.1 = v) (k : K cs sl ws (pc + 1) L (.int v :: rest)) : K cs sl ws pc L (.ref a :: rest) := by
  obtain ⟨p, e, s, m, args, below, meth, c, A, Qc, hx, hb, hml, hown, hts, hr, hlk, hnm, hK, hE, hA, hend, rfl⟩ := C
  intro H locs ls hP hD hS hL
  have h : ∃ ty, (jtys G)[t]? = some (G t, ty) := by
    match t, ht with
    | 0, _ => exact ⟨_, rfl⟩
    | 1, _ => exact ⟨_, rfl⟩
    | 2, _ => exact ⟨_, rfl⟩
    | 3, _ => exact ⟨_, rfl⟩
    | 4, _ => exact ⟨_, rfl⟩
  obtain ⟨ty, ht2⟩ := h
  exact va_alen hx hb hK hP q0 t he ht2 hv hdg (k H locs ls hP hD hS hL)
theorem j_iret (C : jK l D G KV own cc nL ret R mc ms nm PP K) {v : Int32} (hdg : decode cc pc = .ok (.ireturn, 1)) {ty : FieldType} (hret : ret = some ty) (hn : narrow ty (.int v) = .int v) (h1 : cs ≤ mc) (h2 : sl ≤ ms) (hp : PP (some (.int v)) ws) : K cs sl ws pc L [.int v] := by
  obtain ⟨p, e, s, m, args, below, meth, c, A, Qc, hx, hb, hml, hown, hts, hr, hlk, hnm, hK, hE, hA, hend, rfl⟩ := C
  exact fun H locs ls hP hD hS hL => W.widen h1 h2 (W.zret hx hb (hr.trans hret) hn (fun t ht hW => hend _ ws H locs t hP hD hS hp ht hW) hS.2.2 hdg hlk)
theorem j_lret (C : jK l D G KV own cc nL ret R mc ms nm PP K) {v : Int64} (hdg : decode cc pc = .ok (.lreturn, 1)) (hret : ret = some .long) (h1 : cs ≤ mc) (h2 : sl ≤ ms) (hp : PP (some (.long v)) ws) : K cs sl ws pc L [.long v] := by
  obtain ⟨p, e, s, m, args, below, meth, c, A, Qc, hx, hb, hml, hown, hts, hr, hlk, hnm, hK, hE, hA, hend, rfl⟩ := C
  exact fun H locs ls hP hD hS hL => W.widen h1 h2 (W.lret hx hb (hr.trans hret) (fun t ht hW => hend _ ws H locs t hP hD hS hp ht hW) hS.2.2 hdg hlk)
theorem j_vret (C : jK l D G KV own cc nL ret R mc ms nm PP K) (hdg : decode cc pc = .ok (.return_, 1)) (hret : ret = none) (h1 : cs ≤ mc) (h2 : sl ≤ ms) (hp : PP none ws) : K cs sl ws pc L [] := by
  obtain ⟨p, e, s, m, args, below, meth, c, A, Qc, hx, hb, hml, hown, hts, hr, hlk, hnm, hK, hE, hA, hend, rfl⟩ := C
  exact fun H locs ls hP hD hS hL => W.widen h1 h2 (W.vret hx hb (hr.trans hret) (fun t ht hW => hend _ ws H locs t hP hD hS hp ht hW) hS.2.2 hdg hlk)
theorem jr_call {p : Program} {e : Env} {s : State} {m : MethodId} {args : Array Value} {below : List Frame} {meth : Method} {c : Code} {A : Nat → Prop} {Q : State → Prop} {H : Heap} {locs : List Loc} {mc' ms' sz : Nat} {PP' : Option Value → va_W → Prop} {st0 : List Value} {ls : Array Slot} {av : Array Value}
    (hsz : sz = H.size) (hr : va_Run p l e R s m args below meth c H locs cs sl mc' ms' (F0 m pc ls st0) rest (jQ D G PP' (va_A ws sz) av) (va_A ws sz)) (hS : va_S A s.heap H locs) (hA : ∀ q, va_A ws sz q → A q)
    (kk : ∀ (v : Option Value) (u : va_W) (H1 : Heap) (locs1 : List Loc), PP' v u → va_P D classes u H1 → va_D A u → va_S A s.heap H1 locs1 → W p l e R s m args below meth c H1 locs1 (cs + mc') (sl + ms') Q (F0 m (pc + 3) ls (v.toList ++ rest))) : W p l e R s m args below meth c H locs cs sl Q (F0 m pc ls st0) := by
  intro T hT X
  obtain ⟨v, st₀, t, T', L, h0, X', hL, e1, e2, ⟨⟨v2, u, hv, hp, hb1, hb2, hb3⟩, hz, hk⟩, st⟩ := hr T hT X
  cases hv
  rw [h0] at hz hk
  obtain ⟨t2, a1, b1⟩ := kk v u T'.heap (locs ++ L) hp (by rw [e1]; exact hb1) (hb3.weaken (fun _ q _ h => hA q.1 h))
    ⟨Nat.le_trans hS.1 (by rw [e1]; exact hz), fun q h1 h2 => by rw [e1, hk q (Nat.lt_of_lt_of_le h1 hS.1) (fun z => h2 (hA q z))]; exact hS.2.1 q h1 h2, fun q hq => by
      rcases List.mem_append.mp hq with h | h
      · exact hS.2.2 q h
      · exact hA _ (hL q h)⟩ T' rfl X'
  exact ⟨t2, st t2 a1, b1⟩
theorem jr_A {A : Nat → Prop} {s : State} {H : Heap} {locs : List Loc} (hD : va_D A ws) (hS : va_S A s.heap H locs) (hA : ∀ q, s.heap.size ≤ q → A q) : ∀ q, va_A ws H.size q → A q := by
  intro q h
  rcases h with ⟨k, e, h⟩ | h
  · exact hD.2 k (q, e) h
  · exact hA q (Nat.le_trans hS.1 h)
theorem jr_blind {av : List Value} {sz : Nat} {A : Nat → Prop} : FrameBlind (va_Pc av (fun U => U.heap.size = sz ∧ va_P D classes ws U.heap ∧ va_K D classes (jtys G) U ∧ va_D (fun _ => True) ws ∧ jE KV A U)) := by
  intro a U g mk q
  obtain ⟨q0, q1, qP, qK, qD, qE⟩ := q
  exact ⟨q0, q1, qP, va_K.moved (u := U) (U := U.calling g mk a) (Vm.Alike.refl U.vm) qK, qD, qE.calling⟩
theorem jr_pre {av : List Value} {s U : State} {A : Nat → Prop} {H : Heap} {locs : List Loc} (hK : va_K D classes (jtys G) s) (hE : jE KV A s) (hA : ∀ q, s.heap.size ≤ q → A q) (hP : va_P D classes ws H) (hD : va_D A ws) (hS : va_S A s.heap H locs) (hU : U.heap = H) (hW : s.WarmedH U.vm) :
    va_Pc av (fun U => U.heap.size = H.size ∧ va_P D classes ws U.heap ∧ va_K D classes (jtys G) U ∧ va_D (fun _ => True) ws ∧ jE KV (va_A ws H.size) U) av.toArray U :=
  ⟨rfl, by rw [hU], by rw [hU]; exact hP, va_K.moved hW.alike hK, hD.weaken (fun _ _ _ _ => trivial), hE.call hS hU hW (jr_A hD hS hA)⟩
/-- what a call's word and room must be: the callee's frames, locals and new cells fit -/
def jfit (R rm : Room) (nL' mc' ms' cs sl : Nat) : Prop := (rm.frames + 1 ≤ R.frames ∧ 8 + (nL' + 11) + rm.locals ≤ R.locals) ∧ (rm.cells = mc' ∧ rm.slots = ms') ∧ (cs + mc' ≤ R.cells ∧ sl + ms' ≤ R.slots)
def jyes (y : MethodName) (n : Nat) : Prop := y.cls ≠ "java/lang/invoke/MethodHandle" ∧ y.cls ≠ "java/lang/invoke/VarHandle" ∧ (parseMethodDescriptor y.desc).map (fun d => d.parameters.length) = some n
theorem j_callS (C : jK l D G KV own cc nL ret R mc ms nm PP K) {y : MethodName} {b : ByteArray} {nL' : Nat} {ret' : Option FieldType} {rm : Room} {av st : List Value} {mc' ms' idx : Nat} {PP' : Option Value → va_W → Prop} (hdg : decode cc pc = .ok (.invokestatic idx, 3)) (hM : jM l D G KV y b nL' ret' rm av ws mc' ms' PP') (hcode : Cond.code y b nL' ret' ∈ tW) (hlink : Cond.methodLink own idx y ∈ tW) (hst : Cond.static y ∈ tW) (hini : Cond.initialized y.cls ∈ tW) (hy : jyes y av.length) (hf : jfit R rm nL' mc' ms' cs sl) (hw : (rest.map fun v => v.category).sum ≤ 8) (hs : st = av.reverse ++ rest)
    (k : ∀ (v : Option Value) (u : va_W), PP' v u → K (cs + mc') (sl + ms') u (pc + 3) L (v.toList ++ rest)) : K cs sl ws pc L st := by
  obtain ⟨p, e, s, m, args, below, meth, c, A, Qc, hx, hb, hml, hown, hts, hr, hlk, hnm, hK, hE, hA, hend, rfl⟩ := C
  intro H locs ls hP hD hS hL
  refine jr_call (sz := H.size) (ws := ws) (av := av.toArray) rfl (va_runS (As := av) (rest := rest) (n := av.length) ⟨hx, hb, hml, hown, hts⟩ (hM H.size) ⟨callB_of av.length hts (tW_goodIn hcode) rfl hf.2.1.1 hf.2.1.2 (hts _ hini) (hts _ hlink) hy hf.1, hts _ hst⟩ ⟨jr_blind, fun U hU hW => jr_pre hK hE hA hP hD hS hU hW⟩ rfl rfl hL.1 hs (lv_room hw) hdg hf.2.2) hS (jr_A hD hS hA) (fun v u H1 locs1 hp hP hD hS => k v u hp H1 locs1 ls hP hD hS hL)
theorem j_callSN (C : jK l D G KV own cc nL ret R mc ms nm PP K) {y : MethodName} {b : ByteArray} {nL' : Nat} {ret' : Option FieldType} {rm : Room} {av st : List Value} {mc' ms' idx : Nat} {PP' : Option Value → va_W → Prop} {host : String} (hdg : decode cc pc = .ok (.invokestatic idx, 3)) (hM : jM l D G KV y b nL' ret' rm av ws mc' ms' PP') (hcode : Cond.code y b nL' ret' ∈ tW) (hlink : Cond.methodLinkNest own idx y host ∈ nestW) (hst : Cond.static y ∈ tW) (hini : Cond.initialized y.cls ∈ tW) (hy : jyes y av.length) (hf : jfit R rm nL' mc' ms' cs sl) (hw : (rest.map fun v => v.category).sum ≤ 8) (hs : st = av.reverse ++ rest)
    (k : ∀ (v : Option Value) (u : va_W), PP' v u → K (cs + mc') (sl + ms') u (pc + 3) L (v.toList ++ rest)) : K cs sl ws pc L st := by
  obtain ⟨p, e, s, m, args, below, meth, c, A, Qc, hx, hb, hml, hown, hts, hr, hlk, hnm, hK, hE, hA, hend, rfl⟩ := C
  intro H locs ls hP hD hS hL
  refine jr_call (sz := H.size) (ws := ws) (av := av.toArray) rfl (va_runSN (As := av) (rest := rest) (n := av.length) (host := host) ⟨hx, hb, hml, hown, hts⟩ (hM H.size) ⟨va_cnB av.length hts (tW_goodIn hcode) rfl hf.2.1.1 hf.2.1.2 (hE.1 _ hlink) (hts _ hini) hy hf.1, hts _ hst, trivial⟩ ⟨jr_blind, fun U hU hW => jr_pre hK hE hA hP hD hS hU hW⟩ rfl rfl hL.1 hs (lv_room hw) hdg hf.2.2) hS (jr_A hD hS hA) (fun v u H1 locs1 hp hP hD hS => k v u hp H1 locs1 ls hP hD hS hL)
theorem j_callV (C : jK l D G KV own cc nL ret R mc ms nm PP K) {y : MethodName} {b : ByteArray} {nL' : Nat} {ret' : Option FieldType} {rm : Room} {av st : List Value} {mc' ms' idx a q0 ci : Nat} {fs : List Value} {r : vw_C} {PP' : Option Value → va_W → Prop} (hdg : decode cc pc = .ok (.invokevirtual idx, 3)) (hM : jM l D G KV y b nL' ret' rm (.ref a :: av) ws mc' ms' PP') (hcode : Cond.code y b nL' ret' ∈ tW) (hlink : Cond.methodLink own idx y ∈ tW) (hin : Cond.instanceMethod y ∈ tW) (hsel : Cond.selects y.cls y y ∈ tW) (hini : Cond.initialized y.cls ∈ tW) (hy : jyes y av.length) (hf : jfit R rm nL' mc' ms' cs sl) (hw : (rest.map fun v => v.category).sum ≤ 8) (he : ws[q0]? = some (a, .inr (ci, fs))) (hc : classes[ci]? = some r) (hrc : r.1 = y.cls) (hs : st = av.reverse ++ .ref a :: rest)
    (k : ∀ (v : Option Value) (u : va_W), PP' v u → K (cs + mc') (sl + ms') u (pc + 3) L (v.toList ++ rest)) : K cs sl ws pc L st := by
  obtain ⟨p, e, s, m, args, below, meth, c, A, Qc, hx, hb, hml, hown, hts, hr, hlk, hnm, hK, hE, hA, hend, rfl⟩ := C
  intro H locs ls hP hD hS hL
  have hrecv := va_recv hK hP hc he
  rw [hrc] at hrecv
  refine jr_call (sz := H.size) (ws := ws) (av := (Value.ref a :: av).toArray) rfl (va_runV (As := av) (b := a) (C := y.cls) (rest := rest) (n := av.length) ⟨hx, hb, hml, hown, hts⟩ (hM H.size) ⟨callB_of av.length hts (tW_goodIn hcode) rfl hf.2.1.1 hf.2.1.2 (hts _ hini) (hts _ hlink) hy hf.1, hts _ hin, hts _ hsel⟩ ⟨jr_blind, hrecv, fun U hU hW => jr_pre hK hE hA hP hD hS hU hW⟩ rfl rfl hL.1 hs (lv_room hw) hdg hf.2.2) hS (jr_A hD hS hA) (fun v u H1 locs1 hp hP hD hS => k v u hp H1 locs1 ls hP hD hS hL)
theorem j_callI (C : jK l D G KV own cc nL ret R mc ms nm PP K) {y : MethodName} {b : ByteArray} {nL' : Nat} {rm : Room} {av st : List Value} {mc' ms' idx a : Nat} {PP' : Option Value → va_W → Prop} (hdg : decode cc pc = .ok (.invokespecial idx, 3)) (hM : jM l D G KV y b nL' none rm (.ref a :: av) ws mc' ms' PP') (hcode : Cond.code y b nL' none ∈ tW) (hlink : Cond.methodLink own idx y ∈ tW) (hin : Cond.instanceMethod y ∈ tW) (hini : Cond.initialized y.cls ∈ tW) (hyn : y.name = "<init>") (hy : jyes y av.length) (hf : jfit R rm nL' mc' ms' cs sl) (hw : (rest.map fun v => v.category).sum ≤ 8) (hs : st = av.reverse ++ .ref a :: rest)
    (k : ∀ (v : Option Value) (u : va_W), PP' v u → K (cs + mc') (sl + ms') u (pc + 3) L (v.toList ++ rest)) : K cs sl ws pc L st := by
  obtain ⟨p, e, s, m, args, below, meth, c, A, Qc, hx, hb, hml, hown, hts, hr, hlk, hnm, hK, hE, hA, hend, rfl⟩ := C
  intro H locs ls hP hD hS hL
  refine jr_call (sz := H.size) (ws := ws) (av := (Value.ref a :: av).toArray) rfl (va_runI (As := av) (b := a) (rest := rest) (n := av.length) ⟨hx, hb, hml, hown, hts⟩ (hM H.size) ⟨callB_of av.length hts (tW_goodIn hcode) rfl hf.2.1.1 hf.2.1.2 (hts _ hini) (hts _ hlink) hy hf.1, hyn, hts _ hin⟩ ⟨jr_blind, fun U hU hW => jr_pre hK hE hA hP hD hS hU hW⟩ rfl rfl hL.1 hs (lv_room hw) hdg hf.2.2) hS (jr_A hD hS hA) (fun v u H1 locs1 hp hP hD hS => k v u hp H1 locs1 ls hP hD hS hL)
theorem j_callIN (C : jK l D G KV own cc nL ret R mc ms nm PP K) {y : MethodName} {b : ByteArray} {nL' : Nat} {rm : Room} {av st : List Value} {mc' ms' idx a : Nat} {PP' : Option Value → va_W → Prop} {host : String} (hdg : decode cc pc = .ok (.invokespecial idx, 3)) (hM : jM l D G KV y b nL' none rm (.ref a :: av) ws mc' ms' PP') (hcode : Cond.code y b nL' none ∈ tW) (hlink : Cond.methodLinkNest own idx y host ∈ nestW) (hin : Cond.instanceMethod y ∈ tW) (hini : Cond.initialized y.cls ∈ tW) (hyn : y.name = "<init>") (hy : jyes y av.length) (hf : jfit R rm nL' mc' ms' cs sl) (hw : (rest.map fun v => v.category).sum ≤ 8) (hs : st = av.reverse ++ .ref a :: rest)
    (k : ∀ (v : Option Value) (u : va_W), PP' v u → K (cs + mc') (sl + ms') u (pc + 3) L (v.toList ++ rest)) : K cs sl ws pc L st := by
  obtain ⟨p, e, s, m, args, below, meth, c, A, Qc, hx, hb, hml, hown, hts, hr, hlk, hnm, hK, hE, hA, hend, rfl⟩ := C
  intro H locs ls hP hD hS hL
  refine jr_call (sz := H.size) (ws := ws) (av := (Value.ref a :: av).toArray) rfl (va_runIN (As := av) (b := a) (rest := rest) (n := av.length) (host := host) ⟨hx, hb, hml, hown, hts⟩ (hM H.size) ⟨va_cnB av.length hts (tW_goodIn hcode) rfl hf.2.1.1 hf.2.1.2 (hE.1 _ hlink) (hts _ hini) hy hf.1, hyn, hts _ hin⟩ ⟨jr_blind, fun U hU hW => jr_pre hK hE hA hP hD hS hU hW⟩ rfl rfl hL.1 hs (lv_room hw) hdg hf.2.2) hS (jr_A hD hS hA) (fun v u H1 locs1 hp hP hD hS => k v u hp H1 locs1 ls hP hD hS hL)
theorem j_objInit (C : jK l D G KV own cc nL ret R mc ms nm PP K) {idx a : Nat} (hdg : decode cc pc = .ok (.invokespecial idx, 3)) (hlink : Cond.methodLink own idx objectInit ∈ tW) (hin : Cond.instanceMethod objectInit ∈ tW) (hcode : Cond.code objectInit ⟨#[0xb1]⟩ 1 none ∈ tW) (hR : 1 ≤ R.frames) (hlo : (rest.map fun v => v.category).sum + 12 ≤ R.locals) (k : K cs sl ws (pc + 3) L rest) : K cs sl ws pc L (.ref a :: rest) := by
  obtain ⟨p, e, s, m, args, below, meth, c, A, Qc, hx, hb, hml, hown, hts, hr, hlk, hnm, hK, hE, hA, hend, rfl⟩ := C
  intro H locs ls hP hD hS hL
  refine W.objInit hx hb hown (hts _ hlink) (hts _ hin) (hts _ hcode) rfl (by rw [hml]; exact hL.1) rfl hdg hR (by show 2 * 0 + _ + 12 ≤ _; omega) ?_
  exact k H locs ls hP hD hS hL
theorem j_mmax (C : jK l D G KV own cc nL ret R mc ms nm PP K) {idx : Nat} {x y : Int32} (hdg : decode cc pc = .ok (.invokestatic idx, 3)) (hlink : Cond.methodLink own idx Lib.Math.max.name ∈ tW) (hst : Cond.static Lib.Math.max.name ∈ tW) (hini : Cond.initialized "java/lang/Math" ∈ tW) (hcode : Cond.code Lib.Math.max.name Lib.Math.max.code 2 (some .int) ∈ tW) (hR : 1 ≤ R.frames) (hlo : (rest.map fun v => v.category).sum + 13 ≤ R.locals) (hc : cs ≤ R.cells) (hs : sl ≤ R.slots) (k : K cs sl ws (pc + 3) L (.int (if x < y then y else x) :: rest)) : K cs sl ws pc L (.int y :: .int x :: rest) := by
  obtain ⟨p, e, s, m, args, below, meth, c, A, Qc, hx, hb, hml, hown, hts, hr, hlk, hnm, hK, hE, hA, hend, rfl⟩ := C
  exact fun H locs ls hP hD hS hL => va_mmax hx hb (by rw [hml]; exact hL.1.symm) hown (hts _ hlink) (hts _ hst) (hts _ hini) (hts _ hcode) hR hlo hc hs hdg (k H locs ls hP hD hS hL)
theorem j_mmin (C : jK l D G KV own cc nL ret R mc ms nm PP K) {idx : Nat} {x y : Int32} (hdg : decode cc pc = .ok (.invokestatic idx, 3)) (hlink : Cond.methodLink own idx Lib.Math.min.name ∈ tW) (hst : Cond.static Lib.Math.min.name ∈ tW) (hini : Cond.initialized "java/lang/Math" ∈ tW) (hcode : Cond.code Lib.Math.min.name Lib.Math.min.code 2 (some .int) ∈ tW) (hR : 1 ≤ R.frames) (hlo : (rest.map fun v => v.category).sum + 13 ≤ R.locals) (hc : cs ≤ R.cells) (hs : sl ≤ R.slots) (k : K cs sl ws (pc + 3) L (.int (if y < x then y else x) :: rest)) : K cs sl ws pc L (.int y :: .int x :: rest) := by
  obtain ⟨p, e, s, m, args, below, meth, c, A, Qc, hx, hb, hml, hown, hts, hr, hlk, hnm, hK, hE, hA, hend, rfl⟩ := C
  exact fun H locs ls hP hD hS hL => va_mmin hx hb (by rw [hml]; exact hL.1.symm) hown (hts _ hlink) (hts _ hst) (hts _ hini) (hts _ hcode) hR hlo hc hs hdg (k H locs ls hP hD hS hL)
theorem j_copy (C : jK l D G KV own cc nL ret R mc ms nm PP K) {idx q0 q1 n0 n1 t : Nat} {Nw : Nat} {cell : jC} {ad : Nat → Nat} {s0 : jS} {ty : FieldType} (hdg : decode cc pc = .ok (.invokestatic idx, 3)) (hlink : Cond.methodLink own idx arraycopyName ∈ tW) (hnat : Cond.native arraycopyName ∈ tW) (hst : Cond.static arraycopyName ∈ tW) (hini : Cond.initialized "java/lang/System" ∈ tW) (hq0 : q0 < Nw) (hq1 : q1 < Nw) (he0 : cell ad q0 (s0.1 q0) (s0.2 q0) = .inl (G t, n0, .inl (s0.1 q0))) (he1 : ∀ r : Nat → Int32, cell ad q1 r (s0.2 q1) = .inl (G t, n1, .inl r)) (ht : (jtys G)[t]? = some (G t, ty)) (hprim : refKind ty = false) {sp dp n : Int32} (h1 : ¬ sp < 0) (h2 : ¬ dp < 0) (h3 : ¬ n < 0) (h4 : sp.toNatClampNeg + n.toNatClampNeg ≤ n0) (h5 : dp.toNatClampNeg + n.toNatClampNeg ≤ n1) (hfit : ∀ i, i < n.toNatClampNeg → fits ty (.int (s0.1 q0 (sp.toNatClampNeg + i))) = true) (hR : 1 ≤ R.frames) (hlo : (rest.map fun v => v.category).sum + 18 ≤ R.locals)
    (k : K cs sl (jw Nw cell ad (upR s0 q1 (va_cpy (s0.1 q0) (s0.1 q1) sp.toNatClampNeg dp.toNatClampNeg n.toNatClampNeg))) (pc + 3) L rest) : K cs sl (jw Nw cell ad s0) pc L (.int n :: .int dp :: .ref (ad q1) :: .int sp :: .ref (ad q0) :: rest) := by
  obtain ⟨p, e, s, m, args, below, meth, c, A, Qc, hx, hb, hml, hown, hts, hr, hlk, hnm, hK, hE, hA, hend, rfl⟩ := C
  intro H locs ls hP hD hS hL
  refine va_copyi hx hb (by rw [hml]; exact hL.1.symm) hown (hts _ hlink) (hts _ hnat) (hts _ hst) (hts _ hini) hK hP hD hS q0 q1 t t (by rw [jw_at hq0, he0]) (by rw [jw_at hq1, he1]) ht ht hprim h1 h2 h3 h4 h5 hfit hR hlo hdg (fun H1 locs1 hP hD hS => ?_)
  have h := jw_set (cell := cell) (ad := ad) (s := s0) (s' := upR s0 q1 (va_cpy (s0.1 q0) (s0.1 q1) sp.toNatClampNeg dp.toNatClampNeg n.toNatClampNeg)) hq1 (fun i hi => va_up_off _ _ hi) (fun _ _ => rfl)
  rw [show (upR s0 q1 (va_cpy (s0.1 q0) (s0.1 q1) sp.toNatClampNeg dp.toNatClampNeg n.toNatClampNeg)).1 q1 = _ from va_up_at _ _ _, show (upR s0 q1 (va_cpy (s0.1 q0) (s0.1 q1) sp.toNatClampNeg dp.toNatClampNeg n.toNatClampNeg)).2 q1 = s0.2 q1 from rfl, he1] at h
  rw [h] at hP hD
  exact k H1 locs1 ls hP hD hS hL
end JR
end
